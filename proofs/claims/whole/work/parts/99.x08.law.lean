/-! what the code asks, by program: L_law -/
theorem dL_law_0 : decode cL_law 0 = .ok (.new 8, 3) := by decide +kernel
theorem dL_law_3 : decode cL_law 3 = .ok (.dup, 1) := by decide +kernel
theorem dL_law_4 : decode cL_law 4 = .ok (.invokespecial 27, 3) := by decide +kernel
theorem dL_law_7 : decode cL_law 7 = .ok (.astore_n 1, 1) := by decide +kernel
theorem dL_law_8 : decode cL_law 8 = .ok (.new 28, 3) := by decide +kernel
theorem dL_law_11 : decode cL_law 11 = .ok (.dup, 1) := by decide +kernel
theorem dL_law_12 : decode cL_law 12 = .ok (.invokespecial 30, 3) := by decide +kernel
theorem dL_law_15 : decode cL_law 15 = .ok (.astore_n 2, 1) := by decide +kernel
theorem dL_law_16 : decode cL_law 16 = .ok (.iconst 1, 1) := by decide +kernel
theorem dL_law_17 : decode cL_law 17 = .ok (.newarray .long, 2) := by decide +kernel
theorem dL_law_19 : decode cL_law 19 = .ok (.astore_n 3, 1) := by decide +kernel
theorem dL_law_20 : decode cL_law 20 = .ok (.iconst 0, 1) := by decide +kernel
theorem dL_law_21 : decode cL_law 21 = .ok (.istore 4, 2) := by decide +kernel
theorem dL_law_23 : decode cL_law 23 = .ok (.iload 4, 2) := by decide +kernel
theorem dL_law_25 : decode cL_law 25 = .ok (.aload_n 0, 1) := by decide +kernel
theorem dL_law_26 : decode cL_law 26 = .ok (.arraylength, 1) := by decide +kernel
theorem dL_law_27 : decode cL_law 27 = .ok (.iconst 5, 1) := by decide +kernel
theorem dL_law_28 : decode cL_law 28 = .ok (.isub, 1) := by decide +kernel
theorem dL_law_29 : decode cL_law 29 = .ok (.if_icmp .gt 767, 3) := by decide +kernel
theorem dL_law_32 : decode cL_law 32 = .ok (.aload_n 0, 1) := by decide +kernel
theorem dL_law_33 : decode cL_law 33 = .ok (.iload 4, 2) := by decide +kernel
theorem dL_law_35 : decode cL_law 35 = .ok (.iaload, 1) := by decide +kernel
theorem dL_law_36 : decode cL_law 36 = .ok (.bipush 15, 2) := by decide +kernel
theorem dL_law_38 : decode cL_law 38 = .ok (.iand, 1) := by decide +kernel
theorem dL_law_39 : decode cL_law 39 = .ok (.tableswitch 751 0 15 #[77, 126, 187, 200, 225, 250, 342, 383, 420, 457, 506, 531, 568, 624, 663, 726], 77) := by decide +kernel
theorem dL_law_116 : decode cL_law 116 = .ok (.aload_n 1, 1) := by decide +kernel
theorem dL_law_117 : decode cL_law 117 = .ok (.aload_n 0, 1) := by decide +kernel
theorem dL_law_118 : decode cL_law 118 = .ok (.iload 4, 2) := by decide +kernel
theorem dL_law_120 : decode cL_law 120 = .ok (.iconst 1, 1) := by decide +kernel
theorem dL_law_121 : decode cL_law 121 = .ok (.iadd, 1) := by decide +kernel
theorem dL_law_122 : decode cL_law 122 = .ok (.iaload, 1) := by decide +kernel
theorem dL_law_123 : decode cL_law 123 = .ok (.aload_n 0, 1) := by decide +kernel
theorem dL_law_124 : decode cL_law 124 = .ok (.iload 4, 2) := by decide +kernel
theorem dL_law_126 : decode cL_law 126 = .ok (.iconst 2, 1) := by decide +kernel
theorem dL_law_127 : decode cL_law 127 = .ok (.iadd, 1) := by decide +kernel
theorem dL_law_128 : decode cL_law 128 = .ok (.iaload, 1) := by decide +kernel
theorem dL_law_129 : decode cL_law 129 = .ok (.aload_n 0, 1) := by decide +kernel
theorem dL_law_130 : decode cL_law 130 = .ok (.iload 4, 2) := by decide +kernel
theorem dL_law_132 : decode cL_law 132 = .ok (.iconst 3, 1) := by decide +kernel
theorem dL_law_133 : decode cL_law 133 = .ok (.iadd, 1) := by decide +kernel
theorem dL_law_134 : decode cL_law 134 = .ok (.iaload, 1) := by decide +kernel
theorem dL_law_135 : decode cL_law 135 = .ok (.invokevirtual 31, 3) := by decide +kernel
theorem dL_law_138 : decode cL_law 138 = .ok (.aload_n 2, 1) := by decide +kernel
theorem dL_law_139 : decode cL_law 139 = .ok (.aload_n 0, 1) := by decide +kernel
theorem dL_law_140 : decode cL_law 140 = .ok (.iload 4, 2) := by decide +kernel
theorem dL_law_142 : decode cL_law 142 = .ok (.iconst 1, 1) := by decide +kernel
theorem dL_law_143 : decode cL_law 143 = .ok (.iadd, 1) := by decide +kernel
theorem dL_law_144 : decode cL_law 144 = .ok (.iaload, 1) := by decide +kernel
theorem dL_law_145 : decode cL_law 145 = .ok (.aload_n 0, 1) := by decide +kernel
theorem dL_law_146 : decode cL_law 146 = .ok (.iload 4, 2) := by decide +kernel
theorem dL_law_148 : decode cL_law 148 = .ok (.iconst 2, 1) := by decide +kernel
theorem dL_law_149 : decode cL_law 149 = .ok (.iadd, 1) := by decide +kernel
theorem dL_law_150 : decode cL_law 150 = .ok (.iaload, 1) := by decide +kernel
theorem dL_law_151 : decode cL_law 151 = .ok (.aload_n 0, 1) := by decide +kernel
theorem dL_law_152 : decode cL_law 152 = .ok (.iload 4, 2) := by decide +kernel
theorem dL_law_154 : decode cL_law 154 = .ok (.iconst 3, 1) := by decide +kernel
theorem dL_law_155 : decode cL_law 155 = .ok (.iadd, 1) := by decide +kernel
theorem dL_law_156 : decode cL_law 156 = .ok (.iaload, 1) := by decide +kernel
theorem dL_law_157 : decode cL_law 157 = .ok (.invokevirtual 35, 3) := by decide +kernel
theorem dL_law_160 : decode cL_law 160 = .ok (.if_icmp .eq 630, 3) := by decide +kernel
theorem dL_law_163 : decode cL_law 163 = .ok (.iconst 0, 1) := by decide +kernel
theorem dL_law_164 : decode cL_law 164 = .ok (.ireturn, 1) := by decide +kernel
theorem dL_law_165 : decode cL_law 165 = .ok (.aload_n 1, 1) := by decide +kernel
theorem dL_law_166 : decode cL_law 166 = .ok (.aload_n 0, 1) := by decide +kernel
theorem dL_law_167 : decode cL_law 167 = .ok (.iload 4, 2) := by decide +kernel
theorem dL_law_169 : decode cL_law 169 = .ok (.iconst 1, 1) := by decide +kernel
theorem dL_law_170 : decode cL_law 170 = .ok (.iadd, 1) := by decide +kernel
theorem dL_law_171 : decode cL_law 171 = .ok (.iaload, 1) := by decide +kernel
theorem dL_law_172 : decode cL_law 172 = .ok (.aload_n 0, 1) := by decide +kernel
theorem dL_law_173 : decode cL_law 173 = .ok (.iload 4, 2) := by decide +kernel
theorem dL_law_175 : decode cL_law 175 = .ok (.iconst 2, 1) := by decide +kernel
theorem dL_law_176 : decode cL_law 176 = .ok (.iadd, 1) := by decide +kernel
theorem dL_law_177 : decode cL_law 177 = .ok (.iaload, 1) := by decide +kernel
theorem dL_law_178 : decode cL_law 178 = .ok (.aload_n 0, 1) := by decide +kernel
theorem dL_law_179 : decode cL_law 179 = .ok (.iload 4, 2) := by decide +kernel
theorem dL_law_181 : decode cL_law 181 = .ok (.iconst 3, 1) := by decide +kernel
theorem dL_law_182 : decode cL_law 182 = .ok (.iadd, 1) := by decide +kernel
theorem dL_law_183 : decode cL_law 183 = .ok (.iaload, 1) := by decide +kernel
theorem dL_law_184 : decode cL_law 184 = .ok (.aload_n 0, 1) := by decide +kernel
theorem dL_law_185 : decode cL_law 185 = .ok (.iload 4, 2) := by decide +kernel
theorem dL_law_187 : decode cL_law 187 = .ok (.iconst 4, 1) := by decide +kernel
theorem dL_law_188 : decode cL_law 188 = .ok (.iadd, 1) := by decide +kernel
theorem dL_law_189 : decode cL_law 189 = .ok (.iaload, 1) := by decide +kernel
theorem dL_law_190 : decode cL_law 190 = .ok (.invokevirtual 36, 3) := by decide +kernel
theorem dL_law_193 : decode cL_law 193 = .ok (.aload_n 2, 1) := by decide +kernel
theorem dL_law_194 : decode cL_law 194 = .ok (.aload_n 0, 1) := by decide +kernel
theorem dL_law_195 : decode cL_law 195 = .ok (.iload 4, 2) := by decide +kernel
theorem dL_law_197 : decode cL_law 197 = .ok (.iconst 1, 1) := by decide +kernel
theorem dL_law_198 : decode cL_law 198 = .ok (.iadd, 1) := by decide +kernel
theorem dL_law_199 : decode cL_law 199 = .ok (.iaload, 1) := by decide +kernel
theorem dL_law_200 : decode cL_law 200 = .ok (.aload_n 0, 1) := by decide +kernel
theorem dL_law_201 : decode cL_law 201 = .ok (.iload 4, 2) := by decide +kernel
theorem dL_law_203 : decode cL_law 203 = .ok (.iconst 2, 1) := by decide +kernel
theorem dL_law_204 : decode cL_law 204 = .ok (.iadd, 1) := by decide +kernel
theorem dL_law_205 : decode cL_law 205 = .ok (.iaload, 1) := by decide +kernel
theorem dL_law_206 : decode cL_law 206 = .ok (.aload_n 0, 1) := by decide +kernel
theorem dL_law_207 : decode cL_law 207 = .ok (.iload 4, 2) := by decide +kernel
theorem dL_law_209 : decode cL_law 209 = .ok (.iconst 3, 1) := by decide +kernel
theorem dL_law_210 : decode cL_law 210 = .ok (.iadd, 1) := by decide +kernel
theorem dL_law_211 : decode cL_law 211 = .ok (.iaload, 1) := by decide +kernel
theorem dL_law_212 : decode cL_law 212 = .ok (.aload_n 0, 1) := by decide +kernel
theorem dL_law_213 : decode cL_law 213 = .ok (.iload 4, 2) := by decide +kernel
theorem dL_law_215 : decode cL_law 215 = .ok (.iconst 4, 1) := by decide +kernel
theorem dL_law_216 : decode cL_law 216 = .ok (.iadd, 1) := by decide +kernel
theorem dL_law_217 : decode cL_law 217 = .ok (.iaload, 1) := by decide +kernel
theorem dL_law_218 : decode cL_law 218 = .ok (.invokevirtual 39, 3) := by decide +kernel
theorem dL_law_221 : decode cL_law 221 = .ok (.if_icmp .eq 569, 3) := by decide +kernel
theorem dL_law_224 : decode cL_law 224 = .ok (.iconst 0, 1) := by decide +kernel
theorem dL_law_225 : decode cL_law 225 = .ok (.ireturn, 1) := by decide +kernel
theorem dL_law_226 : decode cL_law 226 = .ok (.aload_n 1, 1) := by decide +kernel
theorem dL_law_227 : decode cL_law 227 = .ok (.invokevirtual 40, 3) := by decide +kernel
theorem dL_law_230 : decode cL_law 230 = .ok (.aload_n 2, 1) := by decide +kernel
theorem dL_law_231 : decode cL_law 231 = .ok (.invokevirtual 44, 3) := by decide +kernel
theorem dL_law_234 : decode cL_law 234 = .ok (.if_icmp .eq 556, 3) := by decide +kernel
theorem dL_law_237 : decode cL_law 237 = .ok (.iconst 0, 1) := by decide +kernel
theorem dL_law_238 : decode cL_law 238 = .ok (.ireturn, 1) := by decide +kernel
theorem dL_law_239 : decode cL_law 239 = .ok (.aload_n 1, 1) := by decide +kernel
theorem dL_law_240 : decode cL_law 240 = .ok (.aload_n 0, 1) := by decide +kernel
theorem dL_law_241 : decode cL_law 241 = .ok (.iload 4, 2) := by decide +kernel
theorem dL_law_243 : decode cL_law 243 = .ok (.iconst 1, 1) := by decide +kernel
theorem dL_law_244 : decode cL_law 244 = .ok (.iadd, 1) := by decide +kernel
theorem dL_law_245 : decode cL_law 245 = .ok (.iaload, 1) := by decide +kernel
theorem dL_law_246 : decode cL_law 246 = .ok (.invokevirtual 45, 3) := by decide +kernel
theorem dL_law_249 : decode cL_law 249 = .ok (.aload_n 2, 1) := by decide +kernel
theorem dL_law_250 : decode cL_law 250 = .ok (.aload_n 0, 1) := by decide +kernel
theorem dL_law_251 : decode cL_law 251 = .ok (.iload 4, 2) := by decide +kernel
theorem dL_law_253 : decode cL_law 253 = .ok (.iconst 1, 1) := by decide +kernel
theorem dL_law_254 : decode cL_law 254 = .ok (.iadd, 1) := by decide +kernel
theorem dL_law_255 : decode cL_law 255 = .ok (.iaload, 1) := by decide +kernel
theorem dL_law_256 : decode cL_law 256 = .ok (.invokevirtual 49, 3) := by decide +kernel
theorem dL_law_259 : decode cL_law 259 = .ok (.if_icmp .eq 531, 3) := by decide +kernel
theorem dL_law_262 : decode cL_law 262 = .ok (.iconst 0, 1) := by decide +kernel
theorem dL_law_263 : decode cL_law 263 = .ok (.ireturn, 1) := by decide +kernel
theorem dL_law_264 : decode cL_law 264 = .ok (.aload_n 1, 1) := by decide +kernel
theorem dL_law_265 : decode cL_law 265 = .ok (.aload_n 0, 1) := by decide +kernel
theorem dL_law_266 : decode cL_law 266 = .ok (.iload 4, 2) := by decide +kernel
theorem dL_law_268 : decode cL_law 268 = .ok (.iconst 1, 1) := by decide +kernel
theorem dL_law_269 : decode cL_law 269 = .ok (.iadd, 1) := by decide +kernel
theorem dL_law_270 : decode cL_law 270 = .ok (.iaload, 1) := by decide +kernel
theorem dL_law_271 : decode cL_law 271 = .ok (.invokevirtual 50, 3) := by decide +kernel
theorem dL_law_274 : decode cL_law 274 = .ok (.aload_n 2, 1) := by decide +kernel
theorem dL_law_275 : decode cL_law 275 = .ok (.aload_n 0, 1) := by decide +kernel
theorem dL_law_276 : decode cL_law 276 = .ok (.iload 4, 2) := by decide +kernel
theorem dL_law_278 : decode cL_law 278 = .ok (.iconst 1, 1) := by decide +kernel
theorem dL_law_279 : decode cL_law 279 = .ok (.iadd, 1) := by decide +kernel
theorem dL_law_280 : decode cL_law 280 = .ok (.iaload, 1) := by decide +kernel
theorem dL_law_281 : decode cL_law 281 = .ok (.invokevirtual 53, 3) := by decide +kernel
theorem dL_law_284 : decode cL_law 284 = .ok (.if_icmp .eq 506, 3) := by decide +kernel
theorem dL_law_287 : decode cL_law 287 = .ok (.iconst 0, 1) := by decide +kernel
theorem dL_law_288 : decode cL_law 288 = .ok (.ireturn, 1) := by decide +kernel
theorem dL_law_289 : decode cL_law 289 = .ok (.aload_n 1, 1) := by decide +kernel
theorem dL_law_290 : decode cL_law 290 = .ok (.aload_n 0, 1) := by decide +kernel
theorem dL_law_291 : decode cL_law 291 = .ok (.iload 4, 2) := by decide +kernel
theorem dL_law_293 : decode cL_law 293 = .ok (.iconst 1, 1) := by decide +kernel
theorem dL_law_294 : decode cL_law 294 = .ok (.iadd, 1) := by decide +kernel
theorem dL_law_295 : decode cL_law 295 = .ok (.iaload, 1) := by decide +kernel
theorem dL_law_296 : decode cL_law 296 = .ok (.aload_n 0, 1) := by decide +kernel
theorem dL_law_297 : decode cL_law 297 = .ok (.iload 4, 2) := by decide +kernel
theorem dL_law_299 : decode cL_law 299 = .ok (.iconst 2, 1) := by decide +kernel
theorem dL_law_300 : decode cL_law 300 = .ok (.iadd, 1) := by decide +kernel
theorem dL_law_301 : decode cL_law 301 = .ok (.iaload, 1) := by decide +kernel
theorem dL_law_302 : decode cL_law 302 = .ok (.aload_n 0, 1) := by decide +kernel
theorem dL_law_303 : decode cL_law 303 = .ok (.iload 4, 2) := by decide +kernel
theorem dL_law_305 : decode cL_law 305 = .ok (.iconst 3, 1) := by decide +kernel
theorem dL_law_306 : decode cL_law 306 = .ok (.iadd, 1) := by decide +kernel
theorem dL_law_307 : decode cL_law 307 = .ok (.iaload, 1) := by decide +kernel
theorem dL_law_308 : decode cL_law 308 = .ok (.aload_n 0, 1) := by decide +kernel
theorem dL_law_309 : decode cL_law 309 = .ok (.iload 4, 2) := by decide +kernel
theorem dL_law_311 : decode cL_law 311 = .ok (.iconst 4, 1) := by decide +kernel
theorem dL_law_312 : decode cL_law 312 = .ok (.iadd, 1) := by decide +kernel
theorem dL_law_313 : decode cL_law 313 = .ok (.iaload, 1) := by decide +kernel
theorem dL_law_314 : decode cL_law 314 = .ok (.aload_n 3, 1) := by decide +kernel
theorem dL_law_315 : decode cL_law 315 = .ok (.invokestatic 54, 3) := by decide +kernel
theorem dL_law_318 : decode cL_law 318 = .ok (.istore 5, 2) := by decide +kernel
theorem dL_law_320 : decode cL_law 320 = .ok (.aload_n 2, 1) := by decide +kernel
theorem dL_law_321 : decode cL_law 321 = .ok (.aload_n 0, 1) := by decide +kernel
theorem dL_law_322 : decode cL_law 322 = .ok (.iload 4, 2) := by decide +kernel
theorem dL_law_324 : decode cL_law 324 = .ok (.iconst 1, 1) := by decide +kernel
theorem dL_law_325 : decode cL_law 325 = .ok (.iadd, 1) := by decide +kernel
theorem dL_law_326 : decode cL_law 326 = .ok (.iaload, 1) := by decide +kernel
theorem dL_law_327 : decode cL_law 327 = .ok (.aload_n 0, 1) := by decide +kernel
theorem dL_law_328 : decode cL_law 328 = .ok (.iload 4, 2) := by decide +kernel
theorem dL_law_330 : decode cL_law 330 = .ok (.iconst 2, 1) := by decide +kernel
theorem dL_law_331 : decode cL_law 331 = .ok (.iadd, 1) := by decide +kernel
theorem dL_law_332 : decode cL_law 332 = .ok (.iaload, 1) := by decide +kernel
theorem dL_law_333 : decode cL_law 333 = .ok (.aload_n 0, 1) := by decide +kernel
theorem dL_law_334 : decode cL_law 334 = .ok (.iload 4, 2) := by decide +kernel
theorem dL_law_336 : decode cL_law 336 = .ok (.iconst 3, 1) := by decide +kernel
theorem dL_law_337 : decode cL_law 337 = .ok (.iadd, 1) := by decide +kernel
theorem dL_law_338 : decode cL_law 338 = .ok (.iaload, 1) := by decide +kernel
theorem dL_law_339 : decode cL_law 339 = .ok (.aload_n 0, 1) := by decide +kernel
theorem dL_law_340 : decode cL_law 340 = .ok (.iload 4, 2) := by decide +kernel
theorem dL_law_342 : decode cL_law 342 = .ok (.iconst 4, 1) := by decide +kernel
theorem dL_law_343 : decode cL_law 343 = .ok (.iadd, 1) := by decide +kernel
theorem dL_law_344 : decode cL_law 344 = .ok (.iaload, 1) := by decide +kernel
theorem dL_law_345 : decode cL_law 345 = .ok (.invokevirtual 59, 3) := by decide +kernel
theorem dL_law_348 : decode cL_law 348 = .ok (.istore 6, 2) := by decide +kernel
theorem dL_law_350 : decode cL_law 350 = .ok (.aload_n 2, 1) := by decide +kernel
theorem dL_law_351 : decode cL_law 351 = .ok (.invokevirtual 60, 3) := by decide +kernel
theorem dL_law_354 : decode cL_law 354 = .ok (.iload 5, 2) := by decide +kernel
theorem dL_law_356 : decode cL_law 356 = .ok (.if_icmp .eq 5, 3) := by decide +kernel
theorem dL_law_359 : decode cL_law 359 = .ok (.iconst 0, 1) := by decide +kernel
theorem dL_law_360 : decode cL_law 360 = .ok (.ireturn, 1) := by decide +kernel
theorem dL_law_361 : decode cL_law 361 = .ok (.iload 5, 2) := by decide +kernel
theorem dL_law_363 : decode cL_law 363 = .ok (.ifCond .ne 15, 3) := by decide +kernel
theorem dL_law_366 : decode cL_law 366 = .ok (.aload_n 3, 1) := by decide +kernel
theorem dL_law_367 : decode cL_law 367 = .ok (.iconst 0, 1) := by decide +kernel
theorem dL_law_368 : decode cL_law 368 = .ok (.laload, 1) := by decide +kernel
theorem dL_law_369 : decode cL_law 369 = .ok (.iload 6, 2) := by decide +kernel
theorem dL_law_371 : decode cL_law 371 = .ok (.i2l, 1) := by decide +kernel
theorem dL_law_372 : decode cL_law 372 = .ok (.lcmp, 1) := by decide +kernel
theorem dL_law_373 : decode cL_law 373 = .ok (.ifCond .eq 5, 3) := by decide +kernel
theorem dL_law_376 : decode cL_law 376 = .ok (.iconst 0, 1) := by decide +kernel
theorem dL_law_377 : decode cL_law 377 = .ok (.ireturn, 1) := by decide +kernel
theorem dL_law_378 : decode cL_law 378 = .ok (.goto 412, 3) := by decide +kernel
theorem dL_law_381 : decode cL_law 381 = .ok (.aload_n 1, 1) := by decide +kernel
theorem dL_law_382 : decode cL_law 382 = .ok (.aload_n 0, 1) := by decide +kernel
theorem dL_law_383 : decode cL_law 383 = .ok (.iload 4, 2) := by decide +kernel
theorem dL_law_385 : decode cL_law 385 = .ok (.iconst 1, 1) := by decide +kernel
theorem dL_law_386 : decode cL_law 386 = .ok (.iadd, 1) := by decide +kernel
theorem dL_law_387 : decode cL_law 387 = .ok (.iaload, 1) := by decide +kernel
theorem dL_law_388 : decode cL_law 388 = .ok (.ifCond .eq 7, 3) := by decide +kernel
theorem dL_law_391 : decode cL_law 391 = .ok (.iconst 1, 1) := by decide +kernel
theorem dL_law_392 : decode cL_law 392 = .ok (.goto 4, 3) := by decide +kernel
theorem dL_law_395 : decode cL_law 395 = .ok (.iconst 0, 1) := by decide +kernel
theorem dL_law_396 : decode cL_law 396 = .ok (.invokevirtual 63, 3) := by decide +kernel
theorem dL_law_399 : decode cL_law 399 = .ok (.aload_n 2, 1) := by decide +kernel
theorem dL_law_400 : decode cL_law 400 = .ok (.aload_n 0, 1) := by decide +kernel
theorem dL_law_401 : decode cL_law 401 = .ok (.iload 4, 2) := by decide +kernel
theorem dL_law_403 : decode cL_law 403 = .ok (.iconst 1, 1) := by decide +kernel
theorem dL_law_404 : decode cL_law 404 = .ok (.iadd, 1) := by decide +kernel
theorem dL_law_405 : decode cL_law 405 = .ok (.iaload, 1) := by decide +kernel
theorem dL_law_406 : decode cL_law 406 = .ok (.ifCond .eq 7, 3) := by decide +kernel
theorem dL_law_409 : decode cL_law 409 = .ok (.iconst 1, 1) := by decide +kernel
theorem dL_law_410 : decode cL_law 410 = .ok (.goto 4, 3) := by decide +kernel
theorem dL_law_413 : decode cL_law 413 = .ok (.iconst 0, 1) := by decide +kernel
theorem dL_law_414 : decode cL_law 414 = .ok (.invokevirtual 67, 3) := by decide +kernel
theorem dL_law_417 : decode cL_law 417 = .ok (.if_icmp .eq 373, 3) := by decide +kernel
theorem dL_law_420 : decode cL_law 420 = .ok (.iconst 0, 1) := by decide +kernel
theorem dL_law_421 : decode cL_law 421 = .ok (.ireturn, 1) := by decide +kernel
theorem dL_law_422 : decode cL_law 422 = .ok (.aload_n 1, 1) := by decide +kernel
theorem dL_law_423 : decode cL_law 423 = .ok (.aload_n 0, 1) := by decide +kernel
theorem dL_law_424 : decode cL_law 424 = .ok (.iload 4, 2) := by decide +kernel
theorem dL_law_426 : decode cL_law 426 = .ok (.iconst 1, 1) := by decide +kernel
theorem dL_law_427 : decode cL_law 427 = .ok (.iadd, 1) := by decide +kernel
theorem dL_law_428 : decode cL_law 428 = .ok (.iaload, 1) := by decide +kernel
theorem dL_law_429 : decode cL_law 429 = .ok (.aload_n 0, 1) := by decide +kernel
theorem dL_law_430 : decode cL_law 430 = .ok (.iload 4, 2) := by decide +kernel
theorem dL_law_432 : decode cL_law 432 = .ok (.iconst 2, 1) := by decide +kernel
theorem dL_law_433 : decode cL_law 433 = .ok (.iadd, 1) := by decide +kernel
theorem dL_law_434 : decode cL_law 434 = .ok (.iaload, 1) := by decide +kernel
theorem dL_law_435 : decode cL_law 435 = .ok (.invokevirtual 68, 3) := by decide +kernel
theorem dL_law_438 : decode cL_law 438 = .ok (.aload_n 2, 1) := by decide +kernel
theorem dL_law_439 : decode cL_law 439 = .ok (.aload_n 0, 1) := by decide +kernel
theorem dL_law_440 : decode cL_law 440 = .ok (.iload 4, 2) := by decide +kernel
theorem dL_law_442 : decode cL_law 442 = .ok (.iconst 1, 1) := by decide +kernel
theorem dL_law_443 : decode cL_law 443 = .ok (.iadd, 1) := by decide +kernel
theorem dL_law_444 : decode cL_law 444 = .ok (.iaload, 1) := by decide +kernel
theorem dL_law_445 : decode cL_law 445 = .ok (.aload_n 0, 1) := by decide +kernel
theorem dL_law_446 : decode cL_law 446 = .ok (.iload 4, 2) := by decide +kernel
theorem dL_law_448 : decode cL_law 448 = .ok (.iconst 2, 1) := by decide +kernel
theorem dL_law_449 : decode cL_law 449 = .ok (.iadd, 1) := by decide +kernel
theorem dL_law_450 : decode cL_law 450 = .ok (.iaload, 1) := by decide +kernel
theorem dL_law_451 : decode cL_law 451 = .ok (.invokevirtual 72, 3) := by decide +kernel
theorem dL_law_454 : decode cL_law 454 = .ok (.if_icmp .eq 336, 3) := by decide +kernel
theorem dL_law_457 : decode cL_law 457 = .ok (.iconst 0, 1) := by decide +kernel
theorem dL_law_458 : decode cL_law 458 = .ok (.ireturn, 1) := by decide +kernel
theorem dL_law_459 : decode cL_law 459 = .ok (.aload_n 1, 1) := by decide +kernel
theorem dL_law_460 : decode cL_law 460 = .ok (.aload_n 0, 1) := by decide +kernel
theorem dL_law_461 : decode cL_law 461 = .ok (.iload 4, 2) := by decide +kernel
theorem dL_law_463 : decode cL_law 463 = .ok (.iconst 1, 1) := by decide +kernel
theorem dL_law_464 : decode cL_law 464 = .ok (.iadd, 1) := by decide +kernel
theorem dL_law_465 : decode cL_law 465 = .ok (.iaload, 1) := by decide +kernel
theorem dL_law_466 : decode cL_law 466 = .ok (.aload_n 0, 1) := by decide +kernel
theorem dL_law_467 : decode cL_law 467 = .ok (.iload 4, 2) := by decide +kernel
theorem dL_law_469 : decode cL_law 469 = .ok (.iconst 2, 1) := by decide +kernel
theorem dL_law_470 : decode cL_law 470 = .ok (.iadd, 1) := by decide +kernel
theorem dL_law_471 : decode cL_law 471 = .ok (.iaload, 1) := by decide +kernel
theorem dL_law_472 : decode cL_law 472 = .ok (.invokevirtual 73, 3) := by decide +kernel
theorem dL_law_475 : decode cL_law 475 = .ok (.aload_n 2, 1) := by decide +kernel
theorem dL_law_476 : decode cL_law 476 = .ok (.aload_n 0, 1) := by decide +kernel
theorem dL_law_477 : decode cL_law 477 = .ok (.iload 4, 2) := by decide +kernel
theorem dL_law_479 : decode cL_law 479 = .ok (.iconst 1, 1) := by decide +kernel
theorem dL_law_480 : decode cL_law 480 = .ok (.iadd, 1) := by decide +kernel
theorem dL_law_481 : decode cL_law 481 = .ok (.iaload, 1) := by decide +kernel
theorem dL_law_482 : decode cL_law 482 = .ok (.aload_n 0, 1) := by decide +kernel
theorem dL_law_483 : decode cL_law 483 = .ok (.iload 4, 2) := by decide +kernel
theorem dL_law_485 : decode cL_law 485 = .ok (.iconst 2, 1) := by decide +kernel
theorem dL_law_486 : decode cL_law 486 = .ok (.iadd, 1) := by decide +kernel
theorem dL_law_487 : decode cL_law 487 = .ok (.iaload, 1) := by decide +kernel
theorem dL_law_488 : decode cL_law 488 = .ok (.invokevirtual 76, 3) := by decide +kernel
theorem dL_law_491 : decode cL_law 491 = .ok (.if_icmp .eq 299, 3) := by decide +kernel
theorem dL_law_494 : decode cL_law 494 = .ok (.iconst 0, 1) := by decide +kernel
theorem dL_law_495 : decode cL_law 495 = .ok (.ireturn, 1) := by decide +kernel
theorem dL_law_496 : decode cL_law 496 = .ok (.aload_n 1, 1) := by decide +kernel
theorem dL_law_497 : decode cL_law 497 = .ok (.aload_n 0, 1) := by decide +kernel
theorem dL_law_498 : decode cL_law 498 = .ok (.iload 4, 2) := by decide +kernel
theorem dL_law_500 : decode cL_law 500 = .ok (.iconst 1, 1) := by decide +kernel
theorem dL_law_501 : decode cL_law 501 = .ok (.iadd, 1) := by decide +kernel
theorem dL_law_502 : decode cL_law 502 = .ok (.iaload, 1) := by decide +kernel
theorem dL_law_503 : decode cL_law 503 = .ok (.aload_n 0, 1) := by decide +kernel
theorem dL_law_504 : decode cL_law 504 = .ok (.iload 4, 2) := by decide +kernel
theorem dL_law_506 : decode cL_law 506 = .ok (.iconst 2, 1) := by decide +kernel
theorem dL_law_507 : decode cL_law 507 = .ok (.iadd, 1) := by decide +kernel
theorem dL_law_508 : decode cL_law 508 = .ok (.iaload, 1) := by decide +kernel
theorem dL_law_509 : decode cL_law 509 = .ok (.aload_n 0, 1) := by decide +kernel
theorem dL_law_510 : decode cL_law 510 = .ok (.iload 4, 2) := by decide +kernel
theorem dL_law_512 : decode cL_law 512 = .ok (.iconst 3, 1) := by decide +kernel
theorem dL_law_513 : decode cL_law 513 = .ok (.iadd, 1) := by decide +kernel
theorem dL_law_514 : decode cL_law 514 = .ok (.iaload, 1) := by decide +kernel
theorem dL_law_515 : decode cL_law 515 = .ok (.invokevirtual 77, 3) := by decide +kernel
theorem dL_law_518 : decode cL_law 518 = .ok (.aload_n 2, 1) := by decide +kernel
theorem dL_law_519 : decode cL_law 519 = .ok (.aload_n 0, 1) := by decide +kernel
theorem dL_law_520 : decode cL_law 520 = .ok (.iload 4, 2) := by decide +kernel
theorem dL_law_522 : decode cL_law 522 = .ok (.iconst 1, 1) := by decide +kernel
theorem dL_law_523 : decode cL_law 523 = .ok (.iadd, 1) := by decide +kernel
theorem dL_law_524 : decode cL_law 524 = .ok (.iaload, 1) := by decide +kernel
theorem dL_law_525 : decode cL_law 525 = .ok (.aload_n 0, 1) := by decide +kernel
theorem dL_law_526 : decode cL_law 526 = .ok (.iload 4, 2) := by decide +kernel
theorem dL_law_528 : decode cL_law 528 = .ok (.iconst 2, 1) := by decide +kernel
theorem dL_law_529 : decode cL_law 529 = .ok (.iadd, 1) := by decide +kernel
theorem dL_law_530 : decode cL_law 530 = .ok (.iaload, 1) := by decide +kernel
theorem dL_law_531 : decode cL_law 531 = .ok (.aload_n 0, 1) := by decide +kernel
theorem dL_law_532 : decode cL_law 532 = .ok (.iload 4, 2) := by decide +kernel
theorem dL_law_534 : decode cL_law 534 = .ok (.iconst 3, 1) := by decide +kernel
theorem dL_law_535 : decode cL_law 535 = .ok (.iadd, 1) := by decide +kernel
theorem dL_law_536 : decode cL_law 536 = .ok (.iaload, 1) := by decide +kernel
theorem dL_law_537 : decode cL_law 537 = .ok (.invokevirtual 80, 3) := by decide +kernel
theorem dL_law_540 : decode cL_law 540 = .ok (.if_icmp .eq 250, 3) := by decide +kernel
theorem dL_law_543 : decode cL_law 543 = .ok (.iconst 0, 1) := by decide +kernel
theorem dL_law_544 : decode cL_law 544 = .ok (.ireturn, 1) := by decide +kernel
theorem dL_law_545 : decode cL_law 545 = .ok (.aload_n 1, 1) := by decide +kernel
theorem dL_law_546 : decode cL_law 546 = .ok (.aload_n 0, 1) := by decide +kernel
theorem dL_law_547 : decode cL_law 547 = .ok (.iload 4, 2) := by decide +kernel
theorem dL_law_549 : decode cL_law 549 = .ok (.iconst 1, 1) := by decide +kernel
theorem dL_law_550 : decode cL_law 550 = .ok (.iadd, 1) := by decide +kernel
theorem dL_law_551 : decode cL_law 551 = .ok (.iaload, 1) := by decide +kernel
theorem dL_law_552 : decode cL_law 552 = .ok (.invokevirtual 81, 3) := by decide +kernel
theorem dL_law_555 : decode cL_law 555 = .ok (.aload_n 2, 1) := by decide +kernel
theorem dL_law_556 : decode cL_law 556 = .ok (.aload_n 0, 1) := by decide +kernel
theorem dL_law_557 : decode cL_law 557 = .ok (.iload 4, 2) := by decide +kernel
theorem dL_law_559 : decode cL_law 559 = .ok (.iconst 1, 1) := by decide +kernel
theorem dL_law_560 : decode cL_law 560 = .ok (.iadd, 1) := by decide +kernel
theorem dL_law_561 : decode cL_law 561 = .ok (.iaload, 1) := by decide +kernel
theorem dL_law_562 : decode cL_law 562 = .ok (.invokevirtual 84, 3) := by decide +kernel
theorem dL_law_565 : decode cL_law 565 = .ok (.if_icmp .eq 225, 3) := by decide +kernel
theorem dL_law_568 : decode cL_law 568 = .ok (.iconst 0, 1) := by decide +kernel
theorem dL_law_569 : decode cL_law 569 = .ok (.ireturn, 1) := by decide +kernel
theorem dL_law_570 : decode cL_law 570 = .ok (.aload_n 1, 1) := by decide +kernel
theorem dL_law_571 : decode cL_law 571 = .ok (.aload_n 0, 1) := by decide +kernel
theorem dL_law_572 : decode cL_law 572 = .ok (.iload 4, 2) := by decide +kernel
theorem dL_law_574 : decode cL_law 574 = .ok (.iconst 1, 1) := by decide +kernel
theorem dL_law_575 : decode cL_law 575 = .ok (.iadd, 1) := by decide +kernel
theorem dL_law_576 : decode cL_law 576 = .ok (.iaload, 1) := by decide +kernel
theorem dL_law_577 : decode cL_law 577 = .ok (.aload_n 0, 1) := by decide +kernel
theorem dL_law_578 : decode cL_law 578 = .ok (.iload 4, 2) := by decide +kernel
theorem dL_law_580 : decode cL_law 580 = .ok (.iconst 2, 1) := by decide +kernel
theorem dL_law_581 : decode cL_law 581 = .ok (.iadd, 1) := by decide +kernel
theorem dL_law_582 : decode cL_law 582 = .ok (.iaload, 1) := by decide +kernel
theorem dL_law_583 : decode cL_law 583 = .ok (.invokevirtual 85, 3) := by decide +kernel
theorem dL_law_586 : decode cL_law 586 = .ok (.aload_n 2, 1) := by decide +kernel
theorem dL_law_587 : decode cL_law 587 = .ok (.aload_n 0, 1) := by decide +kernel
theorem dL_law_588 : decode cL_law 588 = .ok (.iload 4, 2) := by decide +kernel
theorem dL_law_590 : decode cL_law 590 = .ok (.iconst 1, 1) := by decide +kernel
theorem dL_law_591 : decode cL_law 591 = .ok (.iadd, 1) := by decide +kernel
theorem dL_law_592 : decode cL_law 592 = .ok (.iaload, 1) := by decide +kernel
theorem dL_law_593 : decode cL_law 593 = .ok (.aload_n 0, 1) := by decide +kernel
theorem dL_law_594 : decode cL_law 594 = .ok (.iload 4, 2) := by decide +kernel
theorem dL_law_596 : decode cL_law 596 = .ok (.iconst 2, 1) := by decide +kernel
theorem dL_law_597 : decode cL_law 597 = .ok (.iadd, 1) := by decide +kernel
theorem dL_law_598 : decode cL_law 598 = .ok (.iaload, 1) := by decide +kernel
theorem dL_law_599 : decode cL_law 599 = .ok (.invokevirtual 88, 3) := by decide +kernel
theorem dL_law_602 : decode cL_law 602 = .ok (.if_icmp .eq 188, 3) := by decide +kernel
theorem dL_law_605 : decode cL_law 605 = .ok (.iconst 0, 1) := by decide +kernel
theorem dL_law_606 : decode cL_law 606 = .ok (.ireturn, 1) := by decide +kernel
theorem dL_law_607 : decode cL_law 607 = .ok (.aload_n 1, 1) := by decide +kernel
theorem dL_law_608 : decode cL_law 608 = .ok (.aload_n 0, 1) := by decide +kernel
theorem dL_law_609 : decode cL_law 609 = .ok (.iload 4, 2) := by decide +kernel
theorem dL_law_611 : decode cL_law 611 = .ok (.iconst 1, 1) := by decide +kernel
theorem dL_law_612 : decode cL_law 612 = .ok (.iadd, 1) := by decide +kernel
theorem dL_law_613 : decode cL_law 613 = .ok (.iaload, 1) := by decide +kernel
theorem dL_law_614 : decode cL_law 614 = .ok (.aload_n 3, 1) := by decide +kernel
theorem dL_law_615 : decode cL_law 615 = .ok (.invokestatic 89, 3) := by decide +kernel
theorem dL_law_618 : decode cL_law 618 = .ok (.istore 5, 2) := by decide +kernel
theorem dL_law_620 : decode cL_law 620 = .ok (.aload_n 2, 1) := by decide +kernel
theorem dL_law_621 : decode cL_law 621 = .ok (.aload_n 0, 1) := by decide +kernel
theorem dL_law_622 : decode cL_law 622 = .ok (.iload 4, 2) := by decide +kernel
theorem dL_law_624 : decode cL_law 624 = .ok (.iconst 1, 1) := by decide +kernel
theorem dL_law_625 : decode cL_law 625 = .ok (.iadd, 1) := by decide +kernel
theorem dL_law_626 : decode cL_law 626 = .ok (.iaload, 1) := by decide +kernel
theorem dL_law_627 : decode cL_law 627 = .ok (.invokevirtual 92, 3) := by decide +kernel
theorem dL_law_630 : decode cL_law 630 = .ok (.istore 6, 2) := by decide +kernel
theorem dL_law_632 : decode cL_law 632 = .ok (.aload_n 2, 1) := by decide +kernel
theorem dL_law_633 : decode cL_law 633 = .ok (.invokevirtual 60, 3) := by decide +kernel
theorem dL_law_636 : decode cL_law 636 = .ok (.iload 5, 2) := by decide +kernel
theorem dL_law_638 : decode cL_law 638 = .ok (.if_icmp .eq 5, 3) := by decide +kernel
theorem dL_law_641 : decode cL_law 641 = .ok (.iconst 0, 1) := by decide +kernel
theorem dL_law_642 : decode cL_law 642 = .ok (.ireturn, 1) := by decide +kernel
theorem dL_law_643 : decode cL_law 643 = .ok (.iload 5, 2) := by decide +kernel
theorem dL_law_645 : decode cL_law 645 = .ok (.ifCond .ne 15, 3) := by decide +kernel
theorem dL_law_648 : decode cL_law 648 = .ok (.aload_n 3, 1) := by decide +kernel
theorem dL_law_649 : decode cL_law 649 = .ok (.iconst 0, 1) := by decide +kernel
theorem dL_law_650 : decode cL_law 650 = .ok (.laload, 1) := by decide +kernel
theorem dL_law_651 : decode cL_law 651 = .ok (.iload 6, 2) := by decide +kernel
theorem dL_law_653 : decode cL_law 653 = .ok (.i2l, 1) := by decide +kernel
theorem dL_law_654 : decode cL_law 654 = .ok (.lcmp, 1) := by decide +kernel
theorem dL_law_655 : decode cL_law 655 = .ok (.ifCond .eq 5, 3) := by decide +kernel
theorem dL_law_658 : decode cL_law 658 = .ok (.iconst 0, 1) := by decide +kernel
theorem dL_law_659 : decode cL_law 659 = .ok (.ireturn, 1) := by decide +kernel
theorem dL_law_660 : decode cL_law 660 = .ok (.goto 130, 3) := by decide +kernel
theorem dL_law_663 : decode cL_law 663 = .ok (.aload_n 1, 1) := by decide +kernel
theorem dL_law_664 : decode cL_law 664 = .ok (.aload_n 0, 1) := by decide +kernel
theorem dL_law_665 : decode cL_law 665 = .ok (.iload 4, 2) := by decide +kernel
theorem dL_law_667 : decode cL_law 667 = .ok (.iconst 1, 1) := by decide +kernel
theorem dL_law_668 : decode cL_law 668 = .ok (.iadd, 1) := by decide +kernel
theorem dL_law_669 : decode cL_law 669 = .ok (.iaload, 1) := by decide +kernel
theorem dL_law_670 : decode cL_law 670 = .ok (.aload_n 0, 1) := by decide +kernel
theorem dL_law_671 : decode cL_law 671 = .ok (.iload 4, 2) := by decide +kernel
theorem dL_law_673 : decode cL_law 673 = .ok (.iconst 2, 1) := by decide +kernel
theorem dL_law_674 : decode cL_law 674 = .ok (.iadd, 1) := by decide +kernel
theorem dL_law_675 : decode cL_law 675 = .ok (.iaload, 1) := by decide +kernel
theorem dL_law_676 : decode cL_law 676 = .ok (.i2b, 1) := by decide +kernel
theorem dL_law_677 : decode cL_law 677 = .ok (.invokevirtual 93, 3) := by decide +kernel
theorem dL_law_680 : decode cL_law 680 = .ok (.aload_n 2, 1) := by decide +kernel
theorem dL_law_681 : decode cL_law 681 = .ok (.aload_n 0, 1) := by decide +kernel
theorem dL_law_682 : decode cL_law 682 = .ok (.iload 4, 2) := by decide +kernel
theorem dL_law_684 : decode cL_law 684 = .ok (.iconst 1, 1) := by decide +kernel
theorem dL_law_685 : decode cL_law 685 = .ok (.iadd, 1) := by decide +kernel
theorem dL_law_686 : decode cL_law 686 = .ok (.iaload, 1) := by decide +kernel
theorem dL_law_687 : decode cL_law 687 = .ok (.aload_n 0, 1) := by decide +kernel
theorem dL_law_688 : decode cL_law 688 = .ok (.iload 4, 2) := by decide +kernel
theorem dL_law_690 : decode cL_law 690 = .ok (.iconst 2, 1) := by decide +kernel
theorem dL_law_691 : decode cL_law 691 = .ok (.iadd, 1) := by decide +kernel
theorem dL_law_692 : decode cL_law 692 = .ok (.iaload, 1) := by decide +kernel
theorem dL_law_693 : decode cL_law 693 = .ok (.i2b, 1) := by decide +kernel
theorem dL_law_694 : decode cL_law 694 = .ok (.invokevirtual 97, 3) := by decide +kernel
theorem dL_law_697 : decode cL_law 697 = .ok (.if_icmp .eq 93, 3) := by decide +kernel
theorem dL_law_700 : decode cL_law 700 = .ok (.iconst 0, 1) := by decide +kernel
theorem dL_law_701 : decode cL_law 701 = .ok (.ireturn, 1) := by decide +kernel
theorem dL_law_702 : decode cL_law 702 = .ok (.aload_n 1, 1) := by decide +kernel
theorem dL_law_703 : decode cL_law 703 = .ok (.aload_n 0, 1) := by decide +kernel
theorem dL_law_704 : decode cL_law 704 = .ok (.iload 4, 2) := by decide +kernel
theorem dL_law_706 : decode cL_law 706 = .ok (.iconst 1, 1) := by decide +kernel
theorem dL_law_707 : decode cL_law 707 = .ok (.iadd, 1) := by decide +kernel
theorem dL_law_708 : decode cL_law 708 = .ok (.iaload, 1) := by decide +kernel
theorem dL_law_709 : decode cL_law 709 = .ok (.aload_n 3, 1) := by decide +kernel
theorem dL_law_710 : decode cL_law 710 = .ok (.invokestatic 98, 3) := by decide +kernel
theorem dL_law_713 : decode cL_law 713 = .ok (.istore 5, 2) := by decide +kernel
theorem dL_law_715 : decode cL_law 715 = .ok (.aload_n 2, 1) := by decide +kernel
theorem dL_law_716 : decode cL_law 716 = .ok (.aload_n 0, 1) := by decide +kernel
theorem dL_law_717 : decode cL_law 717 = .ok (.iload 4, 2) := by decide +kernel
theorem dL_law_719 : decode cL_law 719 = .ok (.iconst 1, 1) := by decide +kernel
theorem dL_law_720 : decode cL_law 720 = .ok (.iadd, 1) := by decide +kernel
theorem dL_law_721 : decode cL_law 721 = .ok (.iaload, 1) := by decide +kernel
theorem dL_law_722 : decode cL_law 722 = .ok (.invokevirtual 100, 3) := by decide +kernel
theorem dL_law_725 : decode cL_law 725 = .ok (.istore 6, 2) := by decide +kernel
theorem dL_law_727 : decode cL_law 727 = .ok (.aload_n 2, 1) := by decide +kernel
theorem dL_law_728 : decode cL_law 728 = .ok (.invokevirtual 60, 3) := by decide +kernel
theorem dL_law_731 : decode cL_law 731 = .ok (.iload 5, 2) := by decide +kernel
theorem dL_law_733 : decode cL_law 733 = .ok (.if_icmp .eq 5, 3) := by decide +kernel
theorem dL_law_736 : decode cL_law 736 = .ok (.iconst 0, 1) := by decide +kernel
theorem dL_law_737 : decode cL_law 737 = .ok (.ireturn, 1) := by decide +kernel
theorem dL_law_738 : decode cL_law 738 = .ok (.iload 5, 2) := by decide +kernel
theorem dL_law_740 : decode cL_law 740 = .ok (.ifCond .ne 22, 3) := by decide +kernel
theorem dL_law_743 : decode cL_law 743 = .ok (.aload_n 3, 1) := by decide +kernel
theorem dL_law_744 : decode cL_law 744 = .ok (.iconst 0, 1) := by decide +kernel
theorem dL_law_745 : decode cL_law 745 = .ok (.laload, 1) := by decide +kernel
theorem dL_law_746 : decode cL_law 746 = .ok (.iload 6, 2) := by decide +kernel
theorem dL_law_748 : decode cL_law 748 = .ok (.ifCond .eq 7, 3) := by decide +kernel
theorem dL_law_751 : decode cL_law 751 = .ok (.lconst 1, 1) := by decide +kernel
theorem dL_law_752 : decode cL_law 752 = .ok (.goto 4, 3) := by decide +kernel
theorem dL_law_755 : decode cL_law 755 = .ok (.lconst 0, 1) := by decide +kernel
theorem dL_law_756 : decode cL_law 756 = .ok (.lcmp, 1) := by decide +kernel
theorem dL_law_757 : decode cL_law 757 = .ok (.ifCond .eq 5, 3) := by decide +kernel
theorem dL_law_760 : decode cL_law 760 = .ok (.iconst 0, 1) := by decide +kernel
theorem dL_law_761 : decode cL_law 761 = .ok (.ireturn, 1) := by decide +kernel
theorem dL_law_762 : decode cL_law 762 = .ok (.goto 28, 3) := by decide +kernel
theorem dL_law_765 : decode cL_law 765 = .ok (.aload_n 1, 1) := by decide +kernel
theorem dL_law_766 : decode cL_law 766 = .ok (.aload_n 0, 1) := by decide +kernel
theorem dL_law_767 : decode cL_law 767 = .ok (.iload 4, 2) := by decide +kernel
theorem dL_law_769 : decode cL_law 769 = .ok (.iconst 1, 1) := by decide +kernel
theorem dL_law_770 : decode cL_law 770 = .ok (.iadd, 1) := by decide +kernel
theorem dL_law_771 : decode cL_law 771 = .ok (.iaload, 1) := by decide +kernel
theorem dL_law_772 : decode cL_law 772 = .ok (.invokevirtual 101, 3) := by decide +kernel
theorem dL_law_775 : decode cL_law 775 = .ok (.aload_n 2, 1) := by decide +kernel
theorem dL_law_776 : decode cL_law 776 = .ok (.aload_n 0, 1) := by decide +kernel
theorem dL_law_777 : decode cL_law 777 = .ok (.iload 4, 2) := by decide +kernel
theorem dL_law_779 : decode cL_law 779 = .ok (.iconst 1, 1) := by decide +kernel
theorem dL_law_780 : decode cL_law 780 = .ok (.iadd, 1) := by decide +kernel
theorem dL_law_781 : decode cL_law 781 = .ok (.iaload, 1) := by decide +kernel
theorem dL_law_782 : decode cL_law 782 = .ok (.invokevirtual 104, 3) := by decide +kernel
theorem dL_law_785 : decode cL_law 785 = .ok (.if_icmp .eq 5, 3) := by decide +kernel
theorem dL_law_788 : decode cL_law 788 = .ok (.iconst 0, 1) := by decide +kernel
theorem dL_law_789 : decode cL_law 789 = .ok (.ireturn, 1) := by decide +kernel
theorem dL_law_790 : decode cL_law 790 = .ok (.iinc 4 5, 3) := by decide +kernel
theorem dL_law_793 : decode cL_law 793 = .ok (.goto (-770), 3) := by decide +kernel
theorem dL_law_796 : decode cL_law 796 = .ok (.iconst 1, 1) := by decide +kernel
theorem dL_law_797 : decode cL_law 797 = .ok (.ireturn, 1) := by decide +kernel
def VL_law_396 (g : jg) (o1 : Option Nat) (o2 : Option Nat) (o3 : Option Nat) (x4 : Int32) (so0 : Option Nat) (s1 : Int32) (h : jh) (k n : Nat) (Q : jq) : Prop := (¬ (so0) = none) ∧ (jt h (jd (so0)) = 8) ∧ jM g mX9_checks [.inr (.inr (some (jd (so0)))), .inl (s1)] h 0 0 (jki (fun (r3 : Int32) (h4 : jh) => (vp_in ((x4) + (1)) (jgL g)) ∧ (((jgx g ((x4) + (1) : Int32).toNatClampNeg) = 0 → (¬ (o2) = none) ∧ (jt h4 (jd (o2)) = 9) ∧ jM g mX10_checks [.inr (.inr (some (jd (o2)))), .inl (0)] h4 0 0 (jki (fun (r9 : Int32) (h10 : jh) => (((r3) = (r9) → jG g mL_law 23 [(0, .inr (.inr (some (jgs g)))), (1, .inr (.inr (o1))), (2, .inr (.inr (o2))), (3, .inr (.inr (o3))), (4, .inl ((x4) + 5))] [] h10 k n Q) ∧ (¬ (r3) = (r9) → Q (.inl (some (.inl (0)))) h10))) (fun e h9 => Q (.inr e) h9))) ∧ (¬ (jgx g ((x4) + (1) : Int32).toNatClampNeg) = 0 → (¬ (o2) = none) ∧ (jt h4 (jd (o2)) = 9) ∧ jM g mX10_checks [.inr (.inr (some (jd (o2)))), .inl (1)] h4 0 0 (jki (fun (r14 : Int32) (h15 : jh) => (((r3) = (r14) → jG g mL_law 23 [(0, .inr (.inr (some (jgs g)))), (1, .inr (.inr (o1))), (2, .inr (.inr (o2))), (3, .inr (.inr (o3))), (4, .inl ((x4) + 5))] [] h15 k n Q) ∧ (¬ (r3) = (r14) → Q (.inl (some (.inl (0)))) h15))) (fun e h9 => Q (.inr e) h9))))) (fun e h9 => Q (.inr e) h9))
set_option maxRecDepth 20000 in
theorem vL_law_396 {g : jg} {o1 : Option Nat} {o2 : Option Nat} {o3 : Option Nat} {x4 : Int32} {so0 : Option Nat} {s1 : Int32} {h : jh} {k n : Nat} {Q : jq} (hv : VL_law_396 g o1 o2 o3 x4 so0 s1 h k n Q) : jG g mL_law 396 [(0, .inr (.inr (some (jgs g)))), (1, .inr (.inr (o1))), (2, .inr (.inr (o2))), (3, .inr (.inr (o3))), (4, .inl (x4))] [.inl (s1), .inr (.inr (so0))] h k n Q := by
  unfold VL_law_396 at hv
  obtain ⟨f1, hv⟩ := hv
  obtain ⟨f2, hv⟩ := hv
  refine jp_callV mX9_checks [.inl (s1)] [] dL_law_396 rfl cl_RL_63 ⟨⟨by decide, by decide⟩, by decide⟩ f1 f2 (Nat.zero_le _) (Nat.zero_le _) (jM.mono (jki_k (fun r3 h4 hv => ?_)) hv)
  refine jg_aload_n dL_law_399 rfl (List.Mem.tail _ (List.Mem.tail _ (List.Mem.head _))) ?_
  refine jg_aload_n dL_law_400 rfl (List.Mem.head _) ?_
  refine jg_iload dL_law_401 (List.Mem.tail _ (List.Mem.tail _ (List.Mem.tail _ (List.Mem.tail _ (List.Mem.head _))))) ?_
  refine jg_iconst (v := 1) dL_law_403 (by decide) ?_
  refine jg_iadd dL_law_404 ?_
  obtain ⟨f5, hv⟩ := hv
  refine jg_sld dL_law_405 f5 ?_
  refine jg_if_eq (tgt := 413) dL_law_406 (by decide) (fun c6 => ?_) (fun c6 => ?_)
  · replace hv := hv.1 c6
    refine jg_iconst (v := 0) dL_law_413 (by decide) ?_
    obtain ⟨f7, hv⟩ := hv
    obtain ⟨f8, hv⟩ := hv
    refine jp_callV mX10_checks [.inl (0)] [.inl (r3)] dL_law_414 rfl cl_RL_67 ⟨⟨by decide, by decide⟩, jcat_le _ (Nat.le_of_ble_eq_true rfl)⟩ f7 f8 (Nat.zero_le _) (Nat.zero_le _) (jM.mono (jki_k (fun r9 h10 hv => ?_)) hv)
    refine jg_icmp_eq (tgt := 790) dL_law_417 (by decide) (fun c11 => ?_) (fun c11 => ?_)
    · replace hv := hv.1 c11
      refine jg_iinc (v := (x4) + 5) (lv' := [(4, .inl ((x4) + 5)), (0, .inr (.inr (some (jgs g)))), (1, .inr (.inr (o1))), (2, .inr (.inr (o2))), (3, .inr (.inr (o3)))]) dL_law_790 (List.Mem.tail _ (List.Mem.tail _ (List.Mem.tail _ (List.Mem.tail _ (List.Mem.head _))))) rfl (by decide) rfl ?_
      refine jg_goto (tgt := 23) dL_law_793 (by decide) ?_
      refine jG.sub (lv' := [(0, .inr (.inr (some (jgs g)))), (1, .inr (.inr (o1))), (2, .inr (.inr (o2))), (3, .inr (.inr (o3))), (4, .inl ((x4) + 5))]) (by simp) ?_
      exact hv
    · replace hv := hv.2 c11
      refine jg_iconst (v := 0) dL_law_420 (by decide) ?_
      exact jg_bret dL_law_421 rfl (by decide) hv
  · replace hv := hv.2 c6
    refine jg_iconst (v := 1) dL_law_409 (by decide) ?_
    refine jg_goto (tgt := 414) dL_law_410 (by decide) ?_
    obtain ⟨f12, hv⟩ := hv
    obtain ⟨f13, hv⟩ := hv
    refine jp_callV mX10_checks [.inl (1)] [.inl (r3)] dL_law_414 rfl cl_RL_67 ⟨⟨by decide, by decide⟩, jcat_le _ (Nat.le_of_ble_eq_true rfl)⟩ f12 f13 (Nat.zero_le _) (Nat.zero_le _) (jM.mono (jki_k (fun r14 h15 hv => ?_)) hv)
    refine jg_icmp_eq (tgt := 790) dL_law_417 (by decide) (fun c16 => ?_) (fun c16 => ?_)
    · replace hv := hv.1 c16
      refine jg_iinc (v := (x4) + 5) (lv' := [(4, .inl ((x4) + 5)), (0, .inr (.inr (some (jgs g)))), (1, .inr (.inr (o1))), (2, .inr (.inr (o2))), (3, .inr (.inr (o3)))]) dL_law_790 (List.Mem.tail _ (List.Mem.tail _ (List.Mem.tail _ (List.Mem.tail _ (List.Mem.head _))))) rfl (by decide) rfl ?_
      refine jg_goto (tgt := 23) dL_law_793 (by decide) ?_
      refine jG.sub (lv' := [(0, .inr (.inr (some (jgs g)))), (1, .inr (.inr (o1))), (2, .inr (.inr (o2))), (3, .inr (.inr (o3))), (4, .inl ((x4) + 5))]) (by simp) ?_
      exact hv
    · replace hv := hv.2 c16
      refine jg_iconst (v := 0) dL_law_420 (by decide) ?_
      exact jg_bret dL_law_421 rfl (by decide) hv
def VL_law_23 (g : jg) (o1 : Option Nat) (o2 : Option Nat) (o3 : Option Nat) (x4 : Int32) (h : jh) (k n : Nat) (Q : jq) : Prop := ((((nI (jgL g)) - (5)) < (x4) → Q (.inl (some (.inl (1)))) h) ∧ (¬ ((nI (jgL g)) - (5)) < (x4) → (vp_in (x4) (jgL g)) ∧ ((((jgx g (x4 : Int32).toNatClampNeg) &&& (15)) = 0 → (vp_in ((x4) + (1)) (jgL g)) ∧ (vp_in ((x4) + (2)) (jgL g)) ∧ (vp_in ((x4) + (3)) (jgL g)) ∧ (¬ (o1) = none) ∧ (jt h (jd (o1)) = 8) ∧ ∃ mc27 ms28 : Nat, mc27 ≤ k ∧ ms28 ≤ n ∧ jM g mX9_item [.inr (.inr (some (jd (o1)))), .inl (jgx g ((x4) + (1) : Int32).toNatClampNeg), .inl (jgx g ((x4) + (2) : Int32).toNatClampNeg), .inl (jgx g ((x4) + (3) : Int32).toNatClampNeg)] h mc27 ms28 (jki (fun (r25 : Int32) (h26 : jh) => (¬ (o2) = none) ∧ (jt h26 (jd (o2)) = 9) ∧ jM g mX10_item [.inr (.inr (some (jd (o2)))), .inl (jgx g ((x4) + (1) : Int32).toNatClampNeg), .inl (jgx g ((x4) + (2) : Int32).toNatClampNeg), .inl (jgx g ((x4) + (3) : Int32).toNatClampNeg)] h26 0 0 (jki (fun (r33 : Int32) (h34 : jh) => (((r25) = (r33) → jG g mL_law 23 [(0, .inr (.inr (some (jgs g)))), (1, .inr (.inr (o1))), (2, .inr (.inr (o2))), (3, .inr (.inr (o3))), (4, .inl ((x4) + 5))] [] h34 (k - mc27) (n - ms28) Q) ∧ (¬ (r25) = (r33) → Q (.inl (some (.inl (0)))) h34))) (fun e h9 => Q (.inr e) h9))) (fun e h9 => Q (.inr e) h9))) ∧ (((jgx g (x4 : Int32).toNatClampNeg) &&& (15)) = 1 → (vp_in ((x4) + (1)) (jgL g)) ∧ (vp_in ((x4) + (2)) (jgL g)) ∧ (vp_in ((x4) + (3)) (jgL g)) ∧ (vp_in ((x4) + (4)) (jgL g)) ∧ (¬ (o1) = none) ∧ (jt h (jd (o1)) = 8) ∧ ∃ mc45 ms46 : Nat, mc45 ≤ k ∧ ms46 ≤ n ∧ jM g mX9_clause [.inr (.inr (some (jd (o1)))), .inl (jgx g ((x4) + (1) : Int32).toNatClampNeg), .inl (jgx g ((x4) + (2) : Int32).toNatClampNeg), .inl (jgx g ((x4) + (3) : Int32).toNatClampNeg), .inl (jgx g ((x4) + (4) : Int32).toNatClampNeg)] h mc45 ms46 (jki (fun (r43 : Int32) (h44 : jh) => (¬ (o2) = none) ∧ (jt h44 (jd (o2)) = 9) ∧ jM g mX10_clause [.inr (.inr (some (jd (o2)))), .inl (jgx g ((x4) + (1) : Int32).toNatClampNeg), .inl (jgx g ((x4) + (2) : Int32).toNatClampNeg), .inl (jgx g ((x4) + (3) : Int32).toNatClampNeg), .inl (jgx g ((x4) + (4) : Int32).toNatClampNeg)] h44 0 0 (jki (fun (r51 : Int32) (h52 : jh) => (((r43) = (r51) → jG g mL_law 23 [(0, .inr (.inr (some (jgs g)))), (1, .inr (.inr (o1))), (2, .inr (.inr (o2))), (3, .inr (.inr (o3))), (4, .inl ((x4) + 5))] [] h52 (k - mc45) (n - ms46) Q) ∧ (¬ (r43) = (r51) → Q (.inl (some (.inl (0)))) h52))) (fun e h9 => Q (.inr e) h9))) (fun e h9 => Q (.inr e) h9))) ∧ (((jgx g (x4 : Int32).toNatClampNeg) &&& (15)) = 2 → (¬ (o1) = none) ∧ (jt h (jd (o1)) = 8) ∧ ∃ mc59 ms60 : Nat, mc59 ≤ k ∧ ms60 ≤ n ∧ jM g mX9_lay [.inr (.inr (some (jd (o1))))] h mc59 ms60 (jki (fun (r57 : Int32) (h58 : jh) => (¬ (o2) = none) ∧ (jt h58 (jd (o2)) = 9) ∧ jM g mX10_lay [.inr (.inr (some (jd (o2))))] h58 0 0 (jki (fun (r65 : Int32) (h66 : jh) => (((r57) = (r65) → jG g mL_law 23 [(0, .inr (.inr (some (jgs g)))), (1, .inr (.inr (o1))), (2, .inr (.inr (o2))), (3, .inr (.inr (o3))), (4, .inl ((x4) + 5))] [] h66 (k - mc59) (n - ms60) Q) ∧ (¬ (r57) = (r65) → Q (.inl (some (.inl (0)))) h66))) (fun e h9 => Q (.inr e) h9))) (fun e h9 => Q (.inr e) h9))) ∧ (((jgx g (x4 : Int32).toNatClampNeg) &&& (15)) = 3 → (vp_in ((x4) + (1)) (jgL g)) ∧ (¬ (o1) = none) ∧ (jt h (jd (o1)) = 8) ∧ jM g mX9_place [.inr (.inr (some (jd (o1)))), .inl (jgx g ((x4) + (1) : Int32).toNatClampNeg)] h 0 0 (jki (fun (r72 : Int32) (h73 : jh) => (¬ (o2) = none) ∧ (jt h73 (jd (o2)) = 9) ∧ jM g mX10_place [.inr (.inr (some (jd (o2)))), .inl (jgx g ((x4) + (1) : Int32).toNatClampNeg)] h73 0 0 (jki (fun (r76 : Int32) (h77 : jh) => (((r72) = (r76) → jG g mL_law 23 [(0, .inr (.inr (some (jgs g)))), (1, .inr (.inr (o1))), (2, .inr (.inr (o2))), (3, .inr (.inr (o3))), (4, .inl ((x4) + 5))] [] h77 k n Q) ∧ (¬ (r72) = (r76) → Q (.inl (some (.inl (0)))) h77))) (fun e h9 => Q (.inr e) h9))) (fun e h9 => Q (.inr e) h9))) ∧ (((jgx g (x4 : Int32).toNatClampNeg) &&& (15)) = 4 → (vp_in ((x4) + (1)) (jgL g)) ∧ (¬ (o1) = none) ∧ (jt h (jd (o1)) = 8) ∧ jM g mX9_size [.inr (.inr (some (jd (o1)))), .inl (jgx g ((x4) + (1) : Int32).toNatClampNeg)] h 0 0 (jki (fun (r83 : Int32) (h84 : jh) => (¬ (o2) = none) ∧ (jt h84 (jd (o2)) = 9) ∧ jM g mX10_size [.inr (.inr (some (jd (o2)))), .inl (jgx g ((x4) + (1) : Int32).toNatClampNeg)] h84 0 0 (jki (fun (r87 : Int32) (h88 : jh) => (((r83) = (r87) → jG g mL_law 23 [(0, .inr (.inr (some (jgs g)))), (1, .inr (.inr (o1))), (2, .inr (.inr (o2))), (3, .inr (.inr (o3))), (4, .inl ((x4) + 5))] [] h88 k n Q) ∧ (¬ (r83) = (r87) → Q (.inl (some (.inl (0)))) h88))) (fun e h9 => Q (.inr e) h9))) (fun e h9 => Q (.inr e) h9))) ∧ (((jgx g (x4 : Int32).toNatClampNeg) &&& (15)) = 5 → (vp_in ((x4) + (1)) (jgL g)) ∧ (vp_in ((x4) + (2)) (jgL g)) ∧ (vp_in ((x4) + (3)) (jgL g)) ∧ (vp_in ((x4) + (4)) (jgL g)) ∧ ∃ mc97 ms98 : Nat, mc97 ≤ k ∧ ms98 ≤ n ∧ jMW g mL_subscript hhL_subscript [.inr (.inr (o1)), .inl (jgx g ((x4) + (1) : Int32).toNatClampNeg), .inl (jgx g ((x4) + (2) : Int32).toNatClampNeg), .inl (jgx g ((x4) + (3) : Int32).toNatClampNeg), .inl (jgx g ((x4) + (4) : Int32).toNatClampNeg), .inr (.inr (o3))] h mc97 ms98 (jki (fun (r95 : Int32) (h96 : jh) => (¬ (o2) = none) ∧ (jt h96 (jd (o2)) = 9) ∧ jM g mX10_subscript [.inr (.inr (some (jd (o2)))), .inl (jgx g ((x4) + (1) : Int32).toNatClampNeg), .inl (jgx g ((x4) + (2) : Int32).toNatClampNeg), .inl (jgx g ((x4) + (3) : Int32).toNatClampNeg), .inl (jgx g ((x4) + (4) : Int32).toNatClampNeg)] h96 0 0 (jki (fun (r103 : Int32) (h104 : jh) => (jt h104 (jd (o2)) = 9) ∧ jM g mX10_thrown [.inr (.inr (some (jd (o2))))] h104 0 0 (jki (fun (r106 : Int32) (h107 : jh) => (((r106) = (r95) → ((¬ (r95) = 0 → jG g mL_law 23 [(0, .inr (.inr (some (jgs g)))), (1, .inr (.inr (o1))), (2, .inr (.inr (o2))), (3, .inr (.inr (o3))), (4, .inl ((x4) + 5))] [] h107 (k - mc97) (n - ms98) Q) ∧ ((r95) = 0 → (¬ (o3) = none) ∧ (jt h107 (jd (o3)) = 22) ∧ (vp_in (0) (jn h107 (jd (o3)))) ∧ (((jL h107 (jd (o3)) (0 : Int32).toNatClampNeg) = ((r103 : Int32).toInt64) → jG g mL_law 23 [(0, .inr (.inr (some (jgs g)))), (1, .inr (.inr (o1))), (2, .inr (.inr (o2))), (3, .inr (.inr (o3))), (4, .inl ((x4) + 5))] [] h107 (k - mc97) (n - ms98) Q) ∧ (¬ (jL h107 (jd (o3)) (0 : Int32).toNatClampNeg) = ((r103 : Int32).toInt64) → Q (.inl (some (.inl (0)))) h107))))) ∧ (¬ (r106) = (r95) → Q (.inl (some (.inl (0)))) h107))) (fun e h9 => Q (.inr e) h9))) (fun e h9 => Q (.inr e) h9))) (fun e h9 => Q (.inr e) h9))) ∧ (((jgx g (x4 : Int32).toNatClampNeg) &&& (15)) = 6 → (vp_in ((x4) + (1)) (jgL g)) ∧ (((jgx g ((x4) + (1) : Int32).toNatClampNeg) = 0 → VL_law_396 g (o1) (o2) (o3) (x4) (o1) (0) h k n Q) ∧ (¬ (jgx g ((x4) + (1) : Int32).toNatClampNeg) = 0 → VL_law_396 g (o1) (o2) (o3) (x4) (o1) (1) h k n Q))) ∧ (((jgx g (x4 : Int32).toNatClampNeg) &&& (15)) = 7 → (vp_in ((x4) + (1)) (jgL g)) ∧ (vp_in ((x4) + (2)) (jgL g)) ∧ (¬ (o1) = none) ∧ (jt h (jd (o1)) = 8) ∧ jM g mX9_depending [.inr (.inr (some (jd (o1)))), .inl (jgx g ((x4) + (1) : Int32).toNatClampNeg), .inl (jgx g ((x4) + (2) : Int32).toNatClampNeg)] h 0 0 (jki (fun (r122 : Int32) (h123 : jh) => (¬ (o2) = none) ∧ (jt h123 (jd (o2)) = 9) ∧ jM g mX10_depending [.inr (.inr (some (jd (o2)))), .inl (jgx g ((x4) + (1) : Int32).toNatClampNeg), .inl (jgx g ((x4) + (2) : Int32).toNatClampNeg)] h123 0 0 (jki (fun (r126 : Int32) (h127 : jh) => (((r122) = (r126) → jG g mL_law 23 [(0, .inr (.inr (some (jgs g)))), (1, .inr (.inr (o1))), (2, .inr (.inr (o2))), (3, .inr (.inr (o3))), (4, .inl ((x4) + 5))] [] h127 k n Q) ∧ (¬ (r122) = (r126) → Q (.inl (some (.inl (0)))) h127))) (fun e h9 => Q (.inr e) h9))) (fun e h9 => Q (.inr e) h9))) ∧ (((jgx g (x4 : Int32).toNatClampNeg) &&& (15)) = 8 → (vp_in ((x4) + (1)) (jgL g)) ∧ (vp_in ((x4) + (2)) (jgL g)) ∧ (¬ (o1) = none) ∧ (jt h (jd (o1)) = 8) ∧ jM g mX9_redefines [.inr (.inr (some (jd (o1)))), .inl (jgx g ((x4) + (1) : Int32).toNatClampNeg), .inl (jgx g ((x4) + (2) : Int32).toNatClampNeg)] h 0 0 (jki (fun (r134 : Int32) (h135 : jh) => (¬ (o2) = none) ∧ (jt h135 (jd (o2)) = 9) ∧ jM g mX10_redefines [.inr (.inr (some (jd (o2)))), .inl (jgx g ((x4) + (1) : Int32).toNatClampNeg), .inl (jgx g ((x4) + (2) : Int32).toNatClampNeg)] h135 0 0 (jki (fun (r138 : Int32) (h139 : jh) => (((r134) = (r138) → jG g mL_law 23 [(0, .inr (.inr (some (jgs g)))), (1, .inr (.inr (o1))), (2, .inr (.inr (o2))), (3, .inr (.inr (o3))), (4, .inl ((x4) + 5))] [] h139 k n Q) ∧ (¬ (r134) = (r138) → Q (.inl (some (.inl (0)))) h139))) (fun e h9 => Q (.inr e) h9))) (fun e h9 => Q (.inr e) h9))) ∧ (((jgx g (x4 : Int32).toNatClampNeg) &&& (15)) = 9 → (vp_in ((x4) + (1)) (jgL g)) ∧ (vp_in ((x4) + (2)) (jgL g)) ∧ (vp_in ((x4) + (3)) (jgL g)) ∧ (¬ (o1) = none) ∧ (jt h (jd (o1)) = 8) ∧ jM g mX9_refer [.inr (.inr (some (jd (o1)))), .inl (jgx g ((x4) + (1) : Int32).toNatClampNeg), .inl (jgx g ((x4) + (2) : Int32).toNatClampNeg), .inl (jgx g ((x4) + (3) : Int32).toNatClampNeg)] h 0 0 (jki (fun (r147 : Int32) (h148 : jh) => (¬ (o2) = none) ∧ (jt h148 (jd (o2)) = 9) ∧ jM g mX10_refer [.inr (.inr (some (jd (o2)))), .inl (jgx g ((x4) + (1) : Int32).toNatClampNeg), .inl (jgx g ((x4) + (2) : Int32).toNatClampNeg), .inl (jgx g ((x4) + (3) : Int32).toNatClampNeg)] h148 0 0 (jki (fun (r151 : Int32) (h152 : jh) => (((r147) = (r151) → jG g mL_law 23 [(0, .inr (.inr (some (jgs g)))), (1, .inr (.inr (o1))), (2, .inr (.inr (o2))), (3, .inr (.inr (o3))), (4, .inl ((x4) + 5))] [] h152 k n Q) ∧ (¬ (r147) = (r151) → Q (.inl (some (.inl (0)))) h152))) (fun e h9 => Q (.inr e) h9))) (fun e h9 => Q (.inr e) h9))) ∧ (((jgx g (x4 : Int32).toNatClampNeg) &&& (15)) = 10 → (vp_in ((x4) + (1)) (jgL g)) ∧ (¬ (o1) = none) ∧ (jt h (jd (o1)) = 8) ∧ jM g mX9_slack [.inr (.inr (some (jd (o1)))), .inl (jgx g ((x4) + (1) : Int32).toNatClampNeg)] h 0 0 (jki (fun (r158 : Int32) (h159 : jh) => (¬ (o2) = none) ∧ (jt h159 (jd (o2)) = 9) ∧ jM g mX10_slack [.inr (.inr (some (jd (o2)))), .inl (jgx g ((x4) + (1) : Int32).toNatClampNeg)] h159 0 0 (jki (fun (r162 : Int32) (h163 : jh) => (((r158) = (r162) → jG g mL_law 23 [(0, .inr (.inr (some (jgs g)))), (1, .inr (.inr (o1))), (2, .inr (.inr (o2))), (3, .inr (.inr (o3))), (4, .inl ((x4) + 5))] [] h163 k n Q) ∧ (¬ (r158) = (r162) → Q (.inl (some (.inl (0)))) h163))) (fun e h9 => Q (.inr e) h9))) (fun e h9 => Q (.inr e) h9))) ∧ (((jgx g (x4 : Int32).toNatClampNeg) &&& (15)) = 11 → (vp_in ((x4) + (1)) (jgL g)) ∧ (vp_in ((x4) + (2)) (jgL g)) ∧ (¬ (o1) = none) ∧ (jt h (jd (o1)) = 8) ∧ jM g mX9_external [.inr (.inr (some (jd (o1)))), .inl (jgx g ((x4) + (1) : Int32).toNatClampNeg), .inl (jgx g ((x4) + (2) : Int32).toNatClampNeg)] h 0 0 (jki (fun (r170 : Int32) (h171 : jh) => (¬ (o2) = none) ∧ (jt h171 (jd (o2)) = 9) ∧ jM g mX10_external [.inr (.inr (some (jd (o2)))), .inl (jgx g ((x4) + (1) : Int32).toNatClampNeg), .inl (jgx g ((x4) + (2) : Int32).toNatClampNeg)] h171 0 0 (jki (fun (r174 : Int32) (h175 : jh) => (((r170) = (r174) → jG g mL_law 23 [(0, .inr (.inr (some (jgs g)))), (1, .inr (.inr (o1))), (2, .inr (.inr (o2))), (3, .inr (.inr (o3))), (4, .inl ((x4) + 5))] [] h175 k n Q) ∧ (¬ (r170) = (r174) → Q (.inl (some (.inl (0)))) h175))) (fun e h9 => Q (.inr e) h9))) (fun e h9 => Q (.inr e) h9))) ∧ (((jgx g (x4 : Int32).toNatClampNeg) &&& (15)) = 12 → (vp_in ((x4) + (1)) (jgL g)) ∧ ∃ mc181 ms182 : Nat, mc181 ≤ k ∧ ms182 ≤ n ∧ jMW g mL_at hhL_at [.inr (.inr (o1)), .inl (jgx g ((x4) + (1) : Int32).toNatClampNeg), .inr (.inr (o3))] h mc181 ms182 (jki (fun (r179 : Int32) (h180 : jh) => (¬ (o2) = none) ∧ (jt h180 (jd (o2)) = 9) ∧ jM g mX10_at [.inr (.inr (some (jd (o2)))), .inl (jgx g ((x4) + (1) : Int32).toNatClampNeg)] h180 0 0 (jki (fun (r187 : Int32) (h188 : jh) => (jt h188 (jd (o2)) = 9) ∧ jM g mX10_thrown [.inr (.inr (some (jd (o2))))] h188 0 0 (jki (fun (r190 : Int32) (h191 : jh) => (((r190) = (r179) → ((¬ (r179) = 0 → jG g mL_law 23 [(0, .inr (.inr (some (jgs g)))), (1, .inr (.inr (o1))), (2, .inr (.inr (o2))), (3, .inr (.inr (o3))), (4, .inl ((x4) + 5))] [] h191 (k - mc181) (n - ms182) Q) ∧ ((r179) = 0 → (¬ (o3) = none) ∧ (jt h191 (jd (o3)) = 22) ∧ (vp_in (0) (jn h191 (jd (o3)))) ∧ (((jL h191 (jd (o3)) (0 : Int32).toNatClampNeg) = ((r187 : Int32).toInt64) → jG g mL_law 23 [(0, .inr (.inr (some (jgs g)))), (1, .inr (.inr (o1))), (2, .inr (.inr (o2))), (3, .inr (.inr (o3))), (4, .inl ((x4) + 5))] [] h191 (k - mc181) (n - ms182) Q) ∧ (¬ (jL h191 (jd (o3)) (0 : Int32).toNatClampNeg) = ((r187 : Int32).toInt64) → Q (.inl (some (.inl (0)))) h191))))) ∧ (¬ (r190) = (r179) → Q (.inl (some (.inl (0)))) h191))) (fun e h9 => Q (.inr e) h9))) (fun e h9 => Q (.inr e) h9))) (fun e h9 => Q (.inr e) h9))) ∧ (((jgx g (x4 : Int32).toNatClampNeg) &&& (15)) = 13 → (vp_in ((x4) + (1)) (jgL g)) ∧ (vp_in ((x4) + (2)) (jgL g)) ∧ (¬ (o1) = none) ∧ (jt h (jd (o1)) = 8) ∧ jM g mX9_octet [.inr (.inr (some (jd (o1)))), .inl (jgx g ((x4) + (1) : Int32).toNatClampNeg), .inl ((jgx g ((x4) + (2) : Int32).toNatClampNeg : Int32).toInt8.toInt32)] h 0 0 (jki (fun (r203 : Int32) (h204 : jh) => (¬ (o2) = none) ∧ (jt h204 (jd (o2)) = 9) ∧ jM g mX10_octet [.inr (.inr (some (jd (o2)))), .inl (jgx g ((x4) + (1) : Int32).toNatClampNeg), .inl ((jgx g ((x4) + (2) : Int32).toNatClampNeg : Int32).toInt8.toInt32)] h204 0 0 (jki (fun (r207 : Int32) (h208 : jh) => (((r203) = (r207) → jG g mL_law 23 [(0, .inr (.inr (some (jgs g)))), (1, .inr (.inr (o1))), (2, .inr (.inr (o2))), (3, .inr (.inr (o3))), (4, .inl ((x4) + 5))] [] h208 k n Q) ∧ (¬ (r203) = (r207) → Q (.inl (some (.inl (0)))) h208))) (fun e h9 => Q (.inr e) h9))) (fun e h9 => Q (.inr e) h9))) ∧ (((jgx g (x4 : Int32).toNatClampNeg) &&& (15)) = 14 → (vp_in ((x4) + (1)) (jgL g)) ∧ ∃ mc214 ms215 : Nat, mc214 ≤ k ∧ ms215 ≤ n ∧ jMW g mL_holds hhL_holds [.inr (.inr (o1)), .inl (jgx g ((x4) + (1) : Int32).toNatClampNeg), .inr (.inr (o3))] h mc214 ms215 (jki (fun (r212 : Int32) (h213 : jh) => (¬ (o2) = none) ∧ (jt h213 (jd (o2)) = 9) ∧ jM g mX10_holds [.inr (.inr (some (jd (o2)))), .inl (jgx g ((x4) + (1) : Int32).toNatClampNeg)] h213 0 0 (jki (fun (r220 : Int32) (h221 : jh) => (jt h221 (jd (o2)) = 9) ∧ jM g mX10_thrown [.inr (.inr (some (jd (o2))))] h221 0 0 (jki (fun (r223 : Int32) (h224 : jh) => (((r223) = (r212) → ((¬ (r212) = 0 → jG g mL_law 23 [(0, .inr (.inr (some (jgs g)))), (1, .inr (.inr (o1))), (2, .inr (.inr (o2))), (3, .inr (.inr (o3))), (4, .inl ((x4) + 5))] [] h224 (k - mc214) (n - ms215) Q) ∧ ((r212) = 0 → (¬ (o3) = none) ∧ (jt h224 (jd (o3)) = 22) ∧ (vp_in (0) (jn h224 (jd (o3)))) ∧ (((r220) = 0 → (((jL h224 (jd (o3)) (0 : Int32).toNatClampNeg) = (0) → jG g mL_law 23 [(0, .inr (.inr (some (jgs g)))), (1, .inr (.inr (o1))), (2, .inr (.inr (o2))), (3, .inr (.inr (o3))), (4, .inl ((x4) + 5))] [] h224 (k - mc214) (n - ms215) Q) ∧ (¬ (jL h224 (jd (o3)) (0 : Int32).toNatClampNeg) = (0) → Q (.inl (some (.inl (0)))) h224))) ∧ (¬ (r220) = 0 → (((jL h224 (jd (o3)) (0 : Int32).toNatClampNeg) = (1) → jG g mL_law 23 [(0, .inr (.inr (some (jgs g)))), (1, .inr (.inr (o1))), (2, .inr (.inr (o2))), (3, .inr (.inr (o3))), (4, .inl ((x4) + 5))] [] h224 (k - mc214) (n - ms215) Q) ∧ (¬ (jL h224 (jd (o3)) (0 : Int32).toNatClampNeg) = (1) → Q (.inl (some (.inl (0)))) h224))))))) ∧ (¬ (r223) = (r212) → Q (.inl (some (.inl (0)))) h224))) (fun e h9 => Q (.inr e) h9))) (fun e h9 => Q (.inr e) h9))) (fun e h9 => Q (.inr e) h9))) ∧ (((jgx g (x4 : Int32).toNatClampNeg) &&& (15)) = 15 → (vp_in ((x4) + (1)) (jgL g)) ∧ (¬ (o1) = none) ∧ (jt h (jd (o1)) = 8) ∧ jM g mX9_count [.inr (.inr (some (jd (o1)))), .inl (jgx g ((x4) + (1) : Int32).toNatClampNeg)] h 0 0 (jki (fun (r237 : Int32) (h238 : jh) => (¬ (o2) = none) ∧ (jt h238 (jd (o2)) = 9) ∧ jM g mX10_count [.inr (.inr (some (jd (o2)))), .inl (jgx g ((x4) + (1) : Int32).toNatClampNeg)] h238 0 0 (jki (fun (r241 : Int32) (h242 : jh) => (((r237) = (r241) → jG g mL_law 23 [(0, .inr (.inr (some (jgs g)))), (1, .inr (.inr (o1))), (2, .inr (.inr (o2))), (3, .inr (.inr (o3))), (4, .inl ((x4) + 5))] [] h242 k n Q) ∧ (¬ (r237) = (r241) → Q (.inl (some (.inl (0)))) h242))) (fun e h9 => Q (.inr e) h9))) (fun e h9 => Q (.inr e) h9))) ∧ (((jgx g (x4 : Int32).toNatClampNeg) &&& (15) : Int32).toInt < 0 ∨ 15 < ((jgx g (x4 : Int32).toNatClampNeg) &&& (15) : Int32).toInt → jG g mL_law 23 [(0, .inr (.inr (some (jgs g)))), (1, .inr (.inr (o1))), (2, .inr (.inr (o2))), (3, .inr (.inr (o3))), (4, .inl ((x4) + 5))] [] h k n Q))))
set_option maxRecDepth 20000 in
theorem vL_law_23 {g : jg} {o1 : Option Nat} {o2 : Option Nat} {o3 : Option Nat} {x4 : Int32} {h : jh} {k n : Nat} {Q : jq} (hv : VL_law_23 g o1 o2 o3 x4 h k n Q) : jG g mL_law 23 [(0, .inr (.inr (some (jgs g)))), (1, .inr (.inr (o1))), (2, .inr (.inr (o2))), (3, .inr (.inr (o3))), (4, .inl (x4))] [] h k n Q := by
  unfold VL_law_23 at hv
  refine jg_iload dL_law_23 (List.Mem.tail _ (List.Mem.tail _ (List.Mem.tail _ (List.Mem.tail _ (List.Mem.head _))))) ?_
  refine jg_aload_n dL_law_25 rfl (List.Mem.head _) ?_
  refine jg_slen dL_law_26 ?_
  refine jg_iconst (v := 5) dL_law_27 (by decide) ?_
  refine jg_isub dL_law_28 ?_
  refine jg_icmp_gt (tgt := 796) dL_law_29 (by decide) (fun c17 => ?_) (fun c17 => ?_)
  · replace hv := hv.1 c17
    refine jg_iconst (v := 1) dL_law_796 (by decide) ?_
    exact jg_bret dL_law_797 rfl (by decide) hv
  · replace hv := hv.2 c17
    refine jg_aload_n dL_law_32 rfl (List.Mem.head _) ?_
    refine jg_iload dL_law_33 (List.Mem.tail _ (List.Mem.tail _ (List.Mem.tail _ (List.Mem.tail _ (List.Mem.head _))))) ?_
    obtain ⟨f18, hv⟩ := hv
    refine jg_sld dL_law_35 f18 ?_
    refine jg_bipush (v := 15) dL_law_36 (by decide) ?_
    refine jg_iand dL_law_38 ?_
    by_cases c19 : ((jgx g (x4 : Int32).toNatClampNeg) &&& (15)) = 0
    · replace hv := hv.1 c19
      refine jg_tsIn 0 0 (tgt := 116) dL_law_39 c19 (by decide) (by decide) rfl (by decide) ?_
      refine jg_aload_n dL_law_116 rfl (List.Mem.tail _ (List.Mem.head _)) ?_
      refine jg_aload_n dL_law_117 rfl (List.Mem.head _) ?_
      refine jg_iload dL_law_118 (List.Mem.tail _ (List.Mem.tail _ (List.Mem.tail _ (List.Mem.tail _ (List.Mem.head _))))) ?_
      refine jg_iconst (v := 1) dL_law_120 (by decide) ?_
      refine jg_iadd dL_law_121 ?_
      obtain ⟨f20, hv⟩ := hv
      refine jg_sld dL_law_122 f20 ?_
      refine jg_aload_n dL_law_123 rfl (List.Mem.head _) ?_
      refine jg_iload dL_law_124 (List.Mem.tail _ (List.Mem.tail _ (List.Mem.tail _ (List.Mem.tail _ (List.Mem.head _))))) ?_
      refine jg_iconst (v := 2) dL_law_126 (by decide) ?_
      refine jg_iadd dL_law_127 ?_
      obtain ⟨f21, hv⟩ := hv
      refine jg_sld dL_law_128 f21 ?_
      refine jg_aload_n dL_law_129 rfl (List.Mem.head _) ?_
      refine jg_iload dL_law_130 (List.Mem.tail _ (List.Mem.tail _ (List.Mem.tail _ (List.Mem.tail _ (List.Mem.head _))))) ?_
      refine jg_iconst (v := 3) dL_law_132 (by decide) ?_
      refine jg_iadd dL_law_133 ?_
      obtain ⟨f22, hv⟩ := hv
      refine jg_sld dL_law_134 f22 ?_
      obtain ⟨f23, hv⟩ := hv
      obtain ⟨f24, hv⟩ := hv
      obtain ⟨mc27, ms28, f29, f30, hv⟩ := hv
      refine jp_callV mX9_item [.inl (jgx g ((x4) + (1) : Int32).toNatClampNeg), .inl (jgx g ((x4) + (2) : Int32).toNatClampNeg), .inl (jgx g ((x4) + (3) : Int32).toNatClampNeg)] [] dL_law_135 rfl cl_RL_31 ⟨⟨by decide, by decide⟩, by decide⟩ f23 f24 f29 f30 (jM.mono (jki_k (fun r25 h26 hv => ?_)) hv)
      refine jg_aload_n dL_law_138 rfl (List.Mem.tail _ (List.Mem.tail _ (List.Mem.head _))) ?_
      refine jg_aload_n dL_law_139 rfl (List.Mem.head _) ?_
      refine jg_iload dL_law_140 (List.Mem.tail _ (List.Mem.tail _ (List.Mem.tail _ (List.Mem.tail _ (List.Mem.head _))))) ?_
      refine jg_iconst (v := 1) dL_law_142 (by decide) ?_
      refine jg_iadd dL_law_143 ?_
      refine jg_sld dL_law_144 f20 ?_
      refine jg_aload_n dL_law_145 rfl (List.Mem.head _) ?_
      refine jg_iload dL_law_146 (List.Mem.tail _ (List.Mem.tail _ (List.Mem.tail _ (List.Mem.tail _ (List.Mem.head _))))) ?_
      refine jg_iconst (v := 2) dL_law_148 (by decide) ?_
      refine jg_iadd dL_law_149 ?_
      refine jg_sld dL_law_150 f21 ?_
      refine jg_aload_n dL_law_151 rfl (List.Mem.head _) ?_
      refine jg_iload dL_law_152 (List.Mem.tail _ (List.Mem.tail _ (List.Mem.tail _ (List.Mem.tail _ (List.Mem.head _))))) ?_
      refine jg_iconst (v := 3) dL_law_154 (by decide) ?_
      refine jg_iadd dL_law_155 ?_
      refine jg_sld dL_law_156 f22 ?_
      obtain ⟨f31, hv⟩ := hv
      obtain ⟨f32, hv⟩ := hv
      refine jp_callV mX10_item [.inl (jgx g ((x4) + (1) : Int32).toNatClampNeg), .inl (jgx g ((x4) + (2) : Int32).toNatClampNeg), .inl (jgx g ((x4) + (3) : Int32).toNatClampNeg)] [.inl (r25)] dL_law_157 rfl cl_RL_35 ⟨⟨by decide, by decide⟩, jcat_le _ (Nat.le_of_ble_eq_true rfl)⟩ f31 f32 (Nat.zero_le _) (Nat.zero_le _) (jM.mono (jki_k (fun r33 h34 hv => ?_)) hv)
      refine jg_icmp_eq (tgt := 790) dL_law_160 (by decide) (fun c35 => ?_) (fun c35 => ?_)
      · replace hv := hv.1 c35
        refine jg_iinc (v := (x4) + 5) (lv' := [(4, .inl ((x4) + 5)), (0, .inr (.inr (some (jgs g)))), (1, .inr (.inr (o1))), (2, .inr (.inr (o2))), (3, .inr (.inr (o3)))]) dL_law_790 (List.Mem.tail _ (List.Mem.tail _ (List.Mem.tail _ (List.Mem.tail _ (List.Mem.head _))))) rfl (by decide) rfl ?_
        refine jg_goto (tgt := 23) dL_law_793 (by decide) ?_
        refine jG.sub (lv' := [(0, .inr (.inr (some (jgs g)))), (1, .inr (.inr (o1))), (2, .inr (.inr (o2))), (3, .inr (.inr (o3))), (4, .inl ((x4) + 5))]) (by simp) ?_
        exact hv
      · replace hv := hv.2 c35
        refine jg_iconst (v := 0) dL_law_163 (by decide) ?_
        exact jg_bret dL_law_164 rfl (by decide) hv
    by_cases c36 : ((jgx g (x4 : Int32).toNatClampNeg) &&& (15)) = 1
    · replace hv := hv.2.1 c36
      refine jg_tsIn 1 1 (tgt := 165) dL_law_39 c36 (by decide) (by decide) rfl (by decide) ?_
      refine jg_aload_n dL_law_165 rfl (List.Mem.tail _ (List.Mem.head _)) ?_
      refine jg_aload_n dL_law_166 rfl (List.Mem.head _) ?_
      refine jg_iload dL_law_167 (List.Mem.tail _ (List.Mem.tail _ (List.Mem.tail _ (List.Mem.tail _ (List.Mem.head _))))) ?_
      refine jg_iconst (v := 1) dL_law_169 (by decide) ?_
      refine jg_iadd dL_law_170 ?_
      obtain ⟨f37, hv⟩ := hv
      refine jg_sld dL_law_171 f37 ?_
      refine jg_aload_n dL_law_172 rfl (List.Mem.head _) ?_
      refine jg_iload dL_law_173 (List.Mem.tail _ (List.Mem.tail _ (List.Mem.tail _ (List.Mem.tail _ (List.Mem.head _))))) ?_
      refine jg_iconst (v := 2) dL_law_175 (by decide) ?_
      refine jg_iadd dL_law_176 ?_
      obtain ⟨f38, hv⟩ := hv
      refine jg_sld dL_law_177 f38 ?_
      refine jg_aload_n dL_law_178 rfl (List.Mem.head _) ?_
      refine jg_iload dL_law_179 (List.Mem.tail _ (List.Mem.tail _ (List.Mem.tail _ (List.Mem.tail _ (List.Mem.head _))))) ?_
      refine jg_iconst (v := 3) dL_law_181 (by decide) ?_
      refine jg_iadd dL_law_182 ?_
      obtain ⟨f39, hv⟩ := hv
      refine jg_sld dL_law_183 f39 ?_
      refine jg_aload_n dL_law_184 rfl (List.Mem.head _) ?_
      refine jg_iload dL_law_185 (List.Mem.tail _ (List.Mem.tail _ (List.Mem.tail _ (List.Mem.tail _ (List.Mem.head _))))) ?_
      refine jg_iconst (v := 4) dL_law_187 (by decide) ?_
      refine jg_iadd dL_law_188 ?_
      obtain ⟨f40, hv⟩ := hv
      refine jg_sld dL_law_189 f40 ?_
      obtain ⟨f41, hv⟩ := hv
      obtain ⟨f42, hv⟩ := hv
      obtain ⟨mc45, ms46, f47, f48, hv⟩ := hv
      refine jp_callV mX9_clause [.inl (jgx g ((x4) + (1) : Int32).toNatClampNeg), .inl (jgx g ((x4) + (2) : Int32).toNatClampNeg), .inl (jgx g ((x4) + (3) : Int32).toNatClampNeg), .inl (jgx g ((x4) + (4) : Int32).toNatClampNeg)] [] dL_law_190 rfl cl_RL_36 ⟨⟨by decide, by decide⟩, by decide⟩ f41 f42 f47 f48 (jM.mono (jki_k (fun r43 h44 hv => ?_)) hv)
      refine jg_aload_n dL_law_193 rfl (List.Mem.tail _ (List.Mem.tail _ (List.Mem.head _))) ?_
      refine jg_aload_n dL_law_194 rfl (List.Mem.head _) ?_
      refine jg_iload dL_law_195 (List.Mem.tail _ (List.Mem.tail _ (List.Mem.tail _ (List.Mem.tail _ (List.Mem.head _))))) ?_
      refine jg_iconst (v := 1) dL_law_197 (by decide) ?_
      refine jg_iadd dL_law_198 ?_
      refine jg_sld dL_law_199 f37 ?_
      refine jg_aload_n dL_law_200 rfl (List.Mem.head _) ?_
      refine jg_iload dL_law_201 (List.Mem.tail _ (List.Mem.tail _ (List.Mem.tail _ (List.Mem.tail _ (List.Mem.head _))))) ?_
      refine jg_iconst (v := 2) dL_law_203 (by decide) ?_
      refine jg_iadd dL_law_204 ?_
      refine jg_sld dL_law_205 f38 ?_
      refine jg_aload_n dL_law_206 rfl (List.Mem.head _) ?_
      refine jg_iload dL_law_207 (List.Mem.tail _ (List.Mem.tail _ (List.Mem.tail _ (List.Mem.tail _ (List.Mem.head _))))) ?_
      refine jg_iconst (v := 3) dL_law_209 (by decide) ?_
      refine jg_iadd dL_law_210 ?_
      refine jg_sld dL_law_211 f39 ?_
      refine jg_aload_n dL_law_212 rfl (List.Mem.head _) ?_
      refine jg_iload dL_law_213 (List.Mem.tail _ (List.Mem.tail _ (List.Mem.tail _ (List.Mem.tail _ (List.Mem.head _))))) ?_
      refine jg_iconst (v := 4) dL_law_215 (by decide) ?_
      refine jg_iadd dL_law_216 ?_
      refine jg_sld dL_law_217 f40 ?_
      obtain ⟨f49, hv⟩ := hv
      obtain ⟨f50, hv⟩ := hv
      refine jp_callV mX10_clause [.inl (jgx g ((x4) + (1) : Int32).toNatClampNeg), .inl (jgx g ((x4) + (2) : Int32).toNatClampNeg), .inl (jgx g ((x4) + (3) : Int32).toNatClampNeg), .inl (jgx g ((x4) + (4) : Int32).toNatClampNeg)] [.inl (r43)] dL_law_218 rfl cl_RL_39 ⟨⟨by decide, by decide⟩, jcat_le _ (Nat.le_of_ble_eq_true rfl)⟩ f49 f50 (Nat.zero_le _) (Nat.zero_le _) (jM.mono (jki_k (fun r51 h52 hv => ?_)) hv)
      refine jg_icmp_eq (tgt := 790) dL_law_221 (by decide) (fun c53 => ?_) (fun c53 => ?_)
      · replace hv := hv.1 c53
        refine jg_iinc (v := (x4) + 5) (lv' := [(4, .inl ((x4) + 5)), (0, .inr (.inr (some (jgs g)))), (1, .inr (.inr (o1))), (2, .inr (.inr (o2))), (3, .inr (.inr (o3)))]) dL_law_790 (List.Mem.tail _ (List.Mem.tail _ (List.Mem.tail _ (List.Mem.tail _ (List.Mem.head _))))) rfl (by decide) rfl ?_
        refine jg_goto (tgt := 23) dL_law_793 (by decide) ?_
        refine jG.sub (lv' := [(0, .inr (.inr (some (jgs g)))), (1, .inr (.inr (o1))), (2, .inr (.inr (o2))), (3, .inr (.inr (o3))), (4, .inl ((x4) + 5))]) (by simp) ?_
        exact hv
      · replace hv := hv.2 c53
        refine jg_iconst (v := 0) dL_law_224 (by decide) ?_
        exact jg_bret dL_law_225 rfl (by decide) hv
    by_cases c54 : ((jgx g (x4 : Int32).toNatClampNeg) &&& (15)) = 2
    · replace hv := hv.2.2.1 c54
      refine jg_tsIn 2 2 (tgt := 226) dL_law_39 c54 (by decide) (by decide) rfl (by decide) ?_
      refine jg_aload_n dL_law_226 rfl (List.Mem.tail _ (List.Mem.head _)) ?_
      obtain ⟨f55, hv⟩ := hv
      obtain ⟨f56, hv⟩ := hv
      obtain ⟨mc59, ms60, f61, f62, hv⟩ := hv
      refine jp_callV mX9_lay [] [] dL_law_227 rfl cl_RL_40 ⟨⟨by decide, by decide⟩, by decide⟩ f55 f56 f61 f62 (jM.mono (jki_k (fun r57 h58 hv => ?_)) hv)
      refine jg_aload_n dL_law_230 rfl (List.Mem.tail _ (List.Mem.tail _ (List.Mem.head _))) ?_
      obtain ⟨f63, hv⟩ := hv
      obtain ⟨f64, hv⟩ := hv
      refine jp_callV mX10_lay [] [.inl (r57)] dL_law_231 rfl cl_RL_44 ⟨⟨by decide, by decide⟩, jcat_le _ (Nat.le_of_ble_eq_true rfl)⟩ f63 f64 (Nat.zero_le _) (Nat.zero_le _) (jM.mono (jki_k (fun r65 h66 hv => ?_)) hv)
      refine jg_icmp_eq (tgt := 790) dL_law_234 (by decide) (fun c67 => ?_) (fun c67 => ?_)
      · replace hv := hv.1 c67
        refine jg_iinc (v := (x4) + 5) (lv' := [(4, .inl ((x4) + 5)), (0, .inr (.inr (some (jgs g)))), (1, .inr (.inr (o1))), (2, .inr (.inr (o2))), (3, .inr (.inr (o3)))]) dL_law_790 (List.Mem.tail _ (List.Mem.tail _ (List.Mem.tail _ (List.Mem.tail _ (List.Mem.head _))))) rfl (by decide) rfl ?_
        refine jg_goto (tgt := 23) dL_law_793 (by decide) ?_
        refine jG.sub (lv' := [(0, .inr (.inr (some (jgs g)))), (1, .inr (.inr (o1))), (2, .inr (.inr (o2))), (3, .inr (.inr (o3))), (4, .inl ((x4) + 5))]) (by simp) ?_
        exact hv
      · replace hv := hv.2 c67
        refine jg_iconst (v := 0) dL_law_237 (by decide) ?_
        exact jg_bret dL_law_238 rfl (by decide) hv
    by_cases c68 : ((jgx g (x4 : Int32).toNatClampNeg) &&& (15)) = 3
    · replace hv := hv.2.2.2.1 c68
      refine jg_tsIn 3 3 (tgt := 239) dL_law_39 c68 (by decide) (by decide) rfl (by decide) ?_
      refine jg_aload_n dL_law_239 rfl (List.Mem.tail _ (List.Mem.head _)) ?_
      refine jg_aload_n dL_law_240 rfl (List.Mem.head _) ?_
      refine jg_iload dL_law_241 (List.Mem.tail _ (List.Mem.tail _ (List.Mem.tail _ (List.Mem.tail _ (List.Mem.head _))))) ?_
      refine jg_iconst (v := 1) dL_law_243 (by decide) ?_
      refine jg_iadd dL_law_244 ?_
      obtain ⟨f69, hv⟩ := hv
      refine jg_sld dL_law_245 f69 ?_
      obtain ⟨f70, hv⟩ := hv
      obtain ⟨f71, hv⟩ := hv
      refine jp_callV mX9_place [.inl (jgx g ((x4) + (1) : Int32).toNatClampNeg)] [] dL_law_246 rfl cl_RL_45 ⟨⟨by decide, by decide⟩, by decide⟩ f70 f71 (Nat.zero_le _) (Nat.zero_le _) (jM.mono (jki_k (fun r72 h73 hv => ?_)) hv)
      refine jg_aload_n dL_law_249 rfl (List.Mem.tail _ (List.Mem.tail _ (List.Mem.head _))) ?_
      refine jg_aload_n dL_law_250 rfl (List.Mem.head _) ?_
      refine jg_iload dL_law_251 (List.Mem.tail _ (List.Mem.tail _ (List.Mem.tail _ (List.Mem.tail _ (List.Mem.head _))))) ?_
      refine jg_iconst (v := 1) dL_law_253 (by decide) ?_
      refine jg_iadd dL_law_254 ?_
      refine jg_sld dL_law_255 f69 ?_
      obtain ⟨f74, hv⟩ := hv
      obtain ⟨f75, hv⟩ := hv
      refine jp_callV mX10_place [.inl (jgx g ((x4) + (1) : Int32).toNatClampNeg)] [.inl (r72)] dL_law_256 rfl cl_RL_49 ⟨⟨by decide, by decide⟩, jcat_le _ (Nat.le_of_ble_eq_true rfl)⟩ f74 f75 (Nat.zero_le _) (Nat.zero_le _) (jM.mono (jki_k (fun r76 h77 hv => ?_)) hv)
      refine jg_icmp_eq (tgt := 790) dL_law_259 (by decide) (fun c78 => ?_) (fun c78 => ?_)
      · replace hv := hv.1 c78
        refine jg_iinc (v := (x4) + 5) (lv' := [(4, .inl ((x4) + 5)), (0, .inr (.inr (some (jgs g)))), (1, .inr (.inr (o1))), (2, .inr (.inr (o2))), (3, .inr (.inr (o3)))]) dL_law_790 (List.Mem.tail _ (List.Mem.tail _ (List.Mem.tail _ (List.Mem.tail _ (List.Mem.head _))))) rfl (by decide) rfl ?_
        refine jg_goto (tgt := 23) dL_law_793 (by decide) ?_
        refine jG.sub (lv' := [(0, .inr (.inr (some (jgs g)))), (1, .inr (.inr (o1))), (2, .inr (.inr (o2))), (3, .inr (.inr (o3))), (4, .inl ((x4) + 5))]) (by simp) ?_
        exact hv
      · replace hv := hv.2 c78
        refine jg_iconst (v := 0) dL_law_262 (by decide) ?_
        exact jg_bret dL_law_263 rfl (by decide) hv
    by_cases c79 : ((jgx g (x4 : Int32).toNatClampNeg) &&& (15)) = 4
    · replace hv := hv.2.2.2.2.1 c79
      refine jg_tsIn 4 4 (tgt := 264) dL_law_39 c79 (by decide) (by decide) rfl (by decide) ?_
      refine jg_aload_n dL_law_264 rfl (List.Mem.tail _ (List.Mem.head _)) ?_
      refine jg_aload_n dL_law_265 rfl (List.Mem.head _) ?_
      refine jg_iload dL_law_266 (List.Mem.tail _ (List.Mem.tail _ (List.Mem.tail _ (List.Mem.tail _ (List.Mem.head _))))) ?_
      refine jg_iconst (v := 1) dL_law_268 (by decide) ?_
      refine jg_iadd dL_law_269 ?_
      obtain ⟨f80, hv⟩ := hv
      refine jg_sld dL_law_270 f80 ?_
      obtain ⟨f81, hv⟩ := hv
      obtain ⟨f82, hv⟩ := hv
      refine jp_callV mX9_size [.inl (jgx g ((x4) + (1) : Int32).toNatClampNeg)] [] dL_law_271 rfl cl_RL_50 ⟨⟨by decide, by decide⟩, by decide⟩ f81 f82 (Nat.zero_le _) (Nat.zero_le _) (jM.mono (jki_k (fun r83 h84 hv => ?_)) hv)
      refine jg_aload_n dL_law_274 rfl (List.Mem.tail _ (List.Mem.tail _ (List.Mem.head _))) ?_
      refine jg_aload_n dL_law_275 rfl (List.Mem.head _) ?_
      refine jg_iload dL_law_276 (List.Mem.tail _ (List.Mem.tail _ (List.Mem.tail _ (List.Mem.tail _ (List.Mem.head _))))) ?_
      refine jg_iconst (v := 1) dL_law_278 (by decide) ?_
      refine jg_iadd dL_law_279 ?_
      refine jg_sld dL_law_280 f80 ?_
      obtain ⟨f85, hv⟩ := hv
      obtain ⟨f86, hv⟩ := hv
      refine jp_callV mX10_size [.inl (jgx g ((x4) + (1) : Int32).toNatClampNeg)] [.inl (r83)] dL_law_281 rfl cl_RL_53 ⟨⟨by decide, by decide⟩, jcat_le _ (Nat.le_of_ble_eq_true rfl)⟩ f85 f86 (Nat.zero_le _) (Nat.zero_le _) (jM.mono (jki_k (fun r87 h88 hv => ?_)) hv)
      refine jg_icmp_eq (tgt := 790) dL_law_284 (by decide) (fun c89 => ?_) (fun c89 => ?_)
      · replace hv := hv.1 c89
        refine jg_iinc (v := (x4) + 5) (lv' := [(4, .inl ((x4) + 5)), (0, .inr (.inr (some (jgs g)))), (1, .inr (.inr (o1))), (2, .inr (.inr (o2))), (3, .inr (.inr (o3)))]) dL_law_790 (List.Mem.tail _ (List.Mem.tail _ (List.Mem.tail _ (List.Mem.tail _ (List.Mem.head _))))) rfl (by decide) rfl ?_
        refine jg_goto (tgt := 23) dL_law_793 (by decide) ?_
        refine jG.sub (lv' := [(0, .inr (.inr (some (jgs g)))), (1, .inr (.inr (o1))), (2, .inr (.inr (o2))), (3, .inr (.inr (o3))), (4, .inl ((x4) + 5))]) (by simp) ?_
        exact hv
      · replace hv := hv.2 c89
        refine jg_iconst (v := 0) dL_law_287 (by decide) ?_
        exact jg_bret dL_law_288 rfl (by decide) hv
    by_cases c90 : ((jgx g (x4 : Int32).toNatClampNeg) &&& (15)) = 5
    · replace hv := hv.2.2.2.2.2.1 c90
      refine jg_tsIn 5 5 (tgt := 289) dL_law_39 c90 (by decide) (by decide) rfl (by decide) ?_
      refine jg_aload_n dL_law_289 rfl (List.Mem.tail _ (List.Mem.head _)) ?_
      refine jg_aload_n dL_law_290 rfl (List.Mem.head _) ?_
      refine jg_iload dL_law_291 (List.Mem.tail _ (List.Mem.tail _ (List.Mem.tail _ (List.Mem.tail _ (List.Mem.head _))))) ?_
      refine jg_iconst (v := 1) dL_law_293 (by decide) ?_
      refine jg_iadd dL_law_294 ?_
      obtain ⟨f91, hv⟩ := hv
      refine jg_sld dL_law_295 f91 ?_
      refine jg_aload_n dL_law_296 rfl (List.Mem.head _) ?_
      refine jg_iload dL_law_297 (List.Mem.tail _ (List.Mem.tail _ (List.Mem.tail _ (List.Mem.tail _ (List.Mem.head _))))) ?_
      refine jg_iconst (v := 2) dL_law_299 (by decide) ?_
      refine jg_iadd dL_law_300 ?_
      obtain ⟨f92, hv⟩ := hv
      refine jg_sld dL_law_301 f92 ?_
      refine jg_aload_n dL_law_302 rfl (List.Mem.head _) ?_
      refine jg_iload dL_law_303 (List.Mem.tail _ (List.Mem.tail _ (List.Mem.tail _ (List.Mem.tail _ (List.Mem.head _))))) ?_
      refine jg_iconst (v := 3) dL_law_305 (by decide) ?_
      refine jg_iadd dL_law_306 ?_
      obtain ⟨f93, hv⟩ := hv
      refine jg_sld dL_law_307 f93 ?_
      refine jg_aload_n dL_law_308 rfl (List.Mem.head _) ?_
      refine jg_iload dL_law_309 (List.Mem.tail _ (List.Mem.tail _ (List.Mem.tail _ (List.Mem.tail _ (List.Mem.head _))))) ?_
      refine jg_iconst (v := 4) dL_law_311 (by decide) ?_
      refine jg_iadd dL_law_312 ?_
      obtain ⟨f94, hv⟩ := hv
      refine jg_sld dL_law_313 f94 ?_
      refine jg_aload_n dL_law_314 rfl (List.Mem.tail _ (List.Mem.tail _ (List.Mem.tail _ (List.Mem.head _)))) ?_
      obtain ⟨mc97, ms98, f99, f100, hv⟩ := hv
      refine jg_callSW mL_subscript hhL_subscript [.inr (.inr (o1)), .inl (jgx g ((x4) + (1) : Int32).toNatClampNeg), .inl (jgx g ((x4) + (2) : Int32).toNatClampNeg), .inl (jgx g ((x4) + (3) : Int32).toNatClampNeg), .inl (jgx g ((x4) + (4) : Int32).toNatClampNeg), .inr (.inr (o3))] [] dL_law_315 rfl cw_RL_54 ⟨⟨by decide, by decide⟩, by decide⟩ f99 f100 (jMW.mono (jki_k (fun r95 h96 hv => ?_)) hv)
      refine jg_istore (lv' := [(5, .inl (r95)), (0, .inr (.inr (some (jgs g)))), (1, .inr (.inr (o1))), (2, .inr (.inr (o2))), (3, .inr (.inr (o3))), (4, .inl (x4))]) dL_law_318 (by decide) rfl ?_
      refine jg_aload_n dL_law_320 rfl (List.Mem.tail _ (List.Mem.tail _ (List.Mem.tail _ (List.Mem.head _)))) ?_
      refine jg_aload_n dL_law_321 rfl (List.Mem.tail _ (List.Mem.head _)) ?_
      refine jg_iload dL_law_322 (List.Mem.tail _ (List.Mem.tail _ (List.Mem.tail _ (List.Mem.tail _ (List.Mem.tail _ (List.Mem.head _)))))) ?_
      refine jg_iconst (v := 1) dL_law_324 (by decide) ?_
      refine jg_iadd dL_law_325 ?_
      refine jg_sld dL_law_326 f91 ?_
      refine jg_aload_n dL_law_327 rfl (List.Mem.tail _ (List.Mem.head _)) ?_
      refine jg_iload dL_law_328 (List.Mem.tail _ (List.Mem.tail _ (List.Mem.tail _ (List.Mem.tail _ (List.Mem.tail _ (List.Mem.head _)))))) ?_
      refine jg_iconst (v := 2) dL_law_330 (by decide) ?_
      refine jg_iadd dL_law_331 ?_
      refine jg_sld dL_law_332 f92 ?_
      refine jg_aload_n dL_law_333 rfl (List.Mem.tail _ (List.Mem.head _)) ?_
      refine jg_iload dL_law_334 (List.Mem.tail _ (List.Mem.tail _ (List.Mem.tail _ (List.Mem.tail _ (List.Mem.tail _ (List.Mem.head _)))))) ?_
      refine jg_iconst (v := 3) dL_law_336 (by decide) ?_
      refine jg_iadd dL_law_337 ?_
      refine jg_sld dL_law_338 f93 ?_
      refine jg_aload_n dL_law_339 rfl (List.Mem.tail _ (List.Mem.head _)) ?_
      refine jg_iload dL_law_340 (List.Mem.tail _ (List.Mem.tail _ (List.Mem.tail _ (List.Mem.tail _ (List.Mem.tail _ (List.Mem.head _)))))) ?_
      refine jg_iconst (v := 4) dL_law_342 (by decide) ?_
      refine jg_iadd dL_law_343 ?_
      refine jg_sld dL_law_344 f94 ?_
      obtain ⟨f101, hv⟩ := hv
      obtain ⟨f102, hv⟩ := hv
      refine jp_callV mX10_subscript [.inl (jgx g ((x4) + (1) : Int32).toNatClampNeg), .inl (jgx g ((x4) + (2) : Int32).toNatClampNeg), .inl (jgx g ((x4) + (3) : Int32).toNatClampNeg), .inl (jgx g ((x4) + (4) : Int32).toNatClampNeg)] [] dL_law_345 rfl cl_RL_59 ⟨⟨by decide, by decide⟩, by decide⟩ f101 f102 (Nat.zero_le _) (Nat.zero_le _) (jM.mono (jki_k (fun r103 h104 hv => ?_)) hv)
      refine jg_istore (lv' := [(6, .inl (r103)), (5, .inl (r95)), (0, .inr (.inr (some (jgs g)))), (1, .inr (.inr (o1))), (2, .inr (.inr (o2))), (3, .inr (.inr (o3))), (4, .inl (x4))]) dL_law_348 (by decide) rfl ?_
      refine jg_aload_n dL_law_350 rfl (List.Mem.tail _ (List.Mem.tail _ (List.Mem.tail _ (List.Mem.tail _ (List.Mem.head _))))) ?_
      obtain ⟨f105, hv⟩ := hv
      refine jp_callV mX10_thrown [] [] dL_law_351 rfl cl_RL_60 ⟨⟨by decide, by decide⟩, by decide⟩ f101 f105 (Nat.zero_le _) (Nat.zero_le _) (jM.mono (jki_k (fun r106 h107 hv => ?_)) hv)
      refine jg_iload dL_law_354 (List.Mem.tail _ (List.Mem.head _)) ?_
      refine jg_icmp_eq (tgt := 361) dL_law_356 (by decide) (fun c108 => ?_) (fun c108 => ?_)
      · replace hv := hv.1 c108
        refine jg_iload dL_law_361 (List.Mem.tail _ (List.Mem.head _)) ?_
        refine jg_if_ne (tgt := 378) dL_law_363 (by decide) (fun c109 => ?_) (fun c109 => ?_)
        · replace hv := hv.1 c109
          refine jg_goto (tgt := 790) dL_law_378 (by decide) ?_
          refine jg_iinc (v := (x4) + 5) (lv' := [(4, .inl ((x4) + 5)), (6, .inl (r103)), (5, .inl (r95)), (0, .inr (.inr (some (jgs g)))), (1, .inr (.inr (o1))), (2, .inr (.inr (o2))), (3, .inr (.inr (o3)))]) dL_law_790 (List.Mem.tail _ (List.Mem.tail _ (List.Mem.tail _ (List.Mem.tail _ (List.Mem.tail _ (List.Mem.tail _ (List.Mem.head _))))))) rfl (by decide) rfl ?_
          refine jg_goto (tgt := 23) dL_law_793 (by decide) ?_
          refine jG.sub (lv' := [(0, .inr (.inr (some (jgs g)))), (1, .inr (.inr (o1))), (2, .inr (.inr (o2))), (3, .inr (.inr (o3))), (4, .inl ((x4) + 5))]) (by simp) ?_
          exact hv
        · replace hv := hv.2 c109
          refine jg_aload_n dL_law_366 rfl (List.Mem.tail _ (List.Mem.tail _ (List.Mem.tail _ (List.Mem.tail _ (List.Mem.tail _ (List.Mem.head _)))))) ?_
          refine jg_iconst (v := 0) dL_law_367 (by decide) ?_
          obtain ⟨f110, hv⟩ := hv
          obtain ⟨f111, hv⟩ := hv
          obtain ⟨f112, hv⟩ := hv
          refine jg_lald dL_law_368 f110 f111 f112 ?_
          refine jg_iload dL_law_369 (List.Mem.head _) ?_
          refine jg_i2l dL_law_371 ?_
          refine jg_lcmp_eq (tgt := 378) dL_law_372 dL_law_373 (by decide) (fun c113 => ?_) (fun c113 => ?_)
          · replace hv := hv.1 c113
            refine jg_goto (tgt := 790) dL_law_378 (by decide) ?_
            refine jg_iinc (v := (x4) + 5) (lv' := [(4, .inl ((x4) + 5)), (6, .inl (r103)), (5, .inl (r95)), (0, .inr (.inr (some (jgs g)))), (1, .inr (.inr (o1))), (2, .inr (.inr (o2))), (3, .inr (.inr (o3)))]) dL_law_790 (List.Mem.tail _ (List.Mem.tail _ (List.Mem.tail _ (List.Mem.tail _ (List.Mem.tail _ (List.Mem.tail _ (List.Mem.head _))))))) rfl (by decide) rfl ?_
            refine jg_goto (tgt := 23) dL_law_793 (by decide) ?_
            refine jG.sub (lv' := [(0, .inr (.inr (some (jgs g)))), (1, .inr (.inr (o1))), (2, .inr (.inr (o2))), (3, .inr (.inr (o3))), (4, .inl ((x4) + 5))]) (by simp) ?_
            exact hv
          · replace hv := hv.2 c113
            refine jg_iconst (v := 0) dL_law_376 (by decide) ?_
            exact jg_bret dL_law_377 rfl (by decide) hv
      · replace hv := hv.2 c108
        refine jg_iconst (v := 0) dL_law_359 (by decide) ?_
        exact jg_bret dL_law_360 rfl (by decide) hv
    by_cases c114 : ((jgx g (x4 : Int32).toNatClampNeg) &&& (15)) = 6
    · replace hv := hv.2.2.2.2.2.2.1 c114
      refine jg_tsIn 6 6 (tgt := 381) dL_law_39 c114 (by decide) (by decide) rfl (by decide) ?_
      refine jg_aload_n dL_law_381 rfl (List.Mem.tail _ (List.Mem.head _)) ?_
      refine jg_aload_n dL_law_382 rfl (List.Mem.head _) ?_
      refine jg_iload dL_law_383 (List.Mem.tail _ (List.Mem.tail _ (List.Mem.tail _ (List.Mem.tail _ (List.Mem.head _))))) ?_
      refine jg_iconst (v := 1) dL_law_385 (by decide) ?_
      refine jg_iadd dL_law_386 ?_
      obtain ⟨f115, hv⟩ := hv
      refine jg_sld dL_law_387 f115 ?_
      refine jg_if_eq (tgt := 395) dL_law_388 (by decide) (fun c116 => ?_) (fun c116 => ?_)
      · replace hv := hv.1 c116
        refine jg_iconst (v := 0) dL_law_395 (by decide) ?_
        exact vL_law_396 hv
      · replace hv := hv.2 c116
        refine jg_iconst (v := 1) dL_law_391 (by decide) ?_
        refine jg_goto (tgt := 396) dL_law_392 (by decide) ?_
        exact vL_law_396 hv
    by_cases c117 : ((jgx g (x4 : Int32).toNatClampNeg) &&& (15)) = 7
    · replace hv := hv.2.2.2.2.2.2.2.1 c117
      refine jg_tsIn 7 7 (tgt := 422) dL_law_39 c117 (by decide) (by decide) rfl (by decide) ?_
      refine jg_aload_n dL_law_422 rfl (List.Mem.tail _ (List.Mem.head _)) ?_
      refine jg_aload_n dL_law_423 rfl (List.Mem.head _) ?_
      refine jg_iload dL_law_424 (List.Mem.tail _ (List.Mem.tail _ (List.Mem.tail _ (List.Mem.tail _ (List.Mem.head _))))) ?_
      refine jg_iconst (v := 1) dL_law_426 (by decide) ?_
      refine jg_iadd dL_law_427 ?_
      obtain ⟨f118, hv⟩ := hv
      refine jg_sld dL_law_428 f118 ?_
      refine jg_aload_n dL_law_429 rfl (List.Mem.head _) ?_
      refine jg_iload dL_law_430 (List.Mem.tail _ (List.Mem.tail _ (List.Mem.tail _ (List.Mem.tail _ (List.Mem.head _))))) ?_
      refine jg_iconst (v := 2) dL_law_432 (by decide) ?_
      refine jg_iadd dL_law_433 ?_
      obtain ⟨f119, hv⟩ := hv
      refine jg_sld dL_law_434 f119 ?_
      obtain ⟨f120, hv⟩ := hv
      obtain ⟨f121, hv⟩ := hv
      refine jp_callV mX9_depending [.inl (jgx g ((x4) + (1) : Int32).toNatClampNeg), .inl (jgx g ((x4) + (2) : Int32).toNatClampNeg)] [] dL_law_435 rfl cl_RL_68 ⟨⟨by decide, by decide⟩, by decide⟩ f120 f121 (Nat.zero_le _) (Nat.zero_le _) (jM.mono (jki_k (fun r122 h123 hv => ?_)) hv)
      refine jg_aload_n dL_law_438 rfl (List.Mem.tail _ (List.Mem.tail _ (List.Mem.head _))) ?_
      refine jg_aload_n dL_law_439 rfl (List.Mem.head _) ?_
      refine jg_iload dL_law_440 (List.Mem.tail _ (List.Mem.tail _ (List.Mem.tail _ (List.Mem.tail _ (List.Mem.head _))))) ?_
      refine jg_iconst (v := 1) dL_law_442 (by decide) ?_
      refine jg_iadd dL_law_443 ?_
      refine jg_sld dL_law_444 f118 ?_
      refine jg_aload_n dL_law_445 rfl (List.Mem.head _) ?_
      refine jg_iload dL_law_446 (List.Mem.tail _ (List.Mem.tail _ (List.Mem.tail _ (List.Mem.tail _ (List.Mem.head _))))) ?_
      refine jg_iconst (v := 2) dL_law_448 (by decide) ?_
      refine jg_iadd dL_law_449 ?_
      refine jg_sld dL_law_450 f119 ?_
      obtain ⟨f124, hv⟩ := hv
      obtain ⟨f125, hv⟩ := hv
      refine jp_callV mX10_depending [.inl (jgx g ((x4) + (1) : Int32).toNatClampNeg), .inl (jgx g ((x4) + (2) : Int32).toNatClampNeg)] [.inl (r122)] dL_law_451 rfl cl_RL_72 ⟨⟨by decide, by decide⟩, jcat_le _ (Nat.le_of_ble_eq_true rfl)⟩ f124 f125 (Nat.zero_le _) (Nat.zero_le _) (jM.mono (jki_k (fun r126 h127 hv => ?_)) hv)
      refine jg_icmp_eq (tgt := 790) dL_law_454 (by decide) (fun c128 => ?_) (fun c128 => ?_)
      · replace hv := hv.1 c128
        refine jg_iinc (v := (x4) + 5) (lv' := [(4, .inl ((x4) + 5)), (0, .inr (.inr (some (jgs g)))), (1, .inr (.inr (o1))), (2, .inr (.inr (o2))), (3, .inr (.inr (o3)))]) dL_law_790 (List.Mem.tail _ (List.Mem.tail _ (List.Mem.tail _ (List.Mem.tail _ (List.Mem.head _))))) rfl (by decide) rfl ?_
        refine jg_goto (tgt := 23) dL_law_793 (by decide) ?_
        refine jG.sub (lv' := [(0, .inr (.inr (some (jgs g)))), (1, .inr (.inr (o1))), (2, .inr (.inr (o2))), (3, .inr (.inr (o3))), (4, .inl ((x4) + 5))]) (by simp) ?_
        exact hv
      · replace hv := hv.2 c128
        refine jg_iconst (v := 0) dL_law_457 (by decide) ?_
        exact jg_bret dL_law_458 rfl (by decide) hv
    by_cases c129 : ((jgx g (x4 : Int32).toNatClampNeg) &&& (15)) = 8
    · replace hv := hv.2.2.2.2.2.2.2.2.1 c129
      refine jg_tsIn 8 8 (tgt := 459) dL_law_39 c129 (by decide) (by decide) rfl (by decide) ?_
      refine jg_aload_n dL_law_459 rfl (List.Mem.tail _ (List.Mem.head _)) ?_
      refine jg_aload_n dL_law_460 rfl (List.Mem.head _) ?_
      refine jg_iload dL_law_461 (List.Mem.tail _ (List.Mem.tail _ (List.Mem.tail _ (List.Mem.tail _ (List.Mem.head _))))) ?_
      refine jg_iconst (v := 1) dL_law_463 (by decide) ?_
      refine jg_iadd dL_law_464 ?_
      obtain ⟨f130, hv⟩ := hv
      refine jg_sld dL_law_465 f130 ?_
      refine jg_aload_n dL_law_466 rfl (List.Mem.head _) ?_
      refine jg_iload dL_law_467 (List.Mem.tail _ (List.Mem.tail _ (List.Mem.tail _ (List.Mem.tail _ (List.Mem.head _))))) ?_
      refine jg_iconst (v := 2) dL_law_469 (by decide) ?_
      refine jg_iadd dL_law_470 ?_
      obtain ⟨f131, hv⟩ := hv
      refine jg_sld dL_law_471 f131 ?_
      obtain ⟨f132, hv⟩ := hv
      obtain ⟨f133, hv⟩ := hv
      refine jp_callV mX9_redefines [.inl (jgx g ((x4) + (1) : Int32).toNatClampNeg), .inl (jgx g ((x4) + (2) : Int32).toNatClampNeg)] [] dL_law_472 rfl cl_RL_73 ⟨⟨by decide, by decide⟩, by decide⟩ f132 f133 (Nat.zero_le _) (Nat.zero_le _) (jM.mono (jki_k (fun r134 h135 hv => ?_)) hv)
      refine jg_aload_n dL_law_475 rfl (List.Mem.tail _ (List.Mem.tail _ (List.Mem.head _))) ?_
      refine jg_aload_n dL_law_476 rfl (List.Mem.head _) ?_
      refine jg_iload dL_law_477 (List.Mem.tail _ (List.Mem.tail _ (List.Mem.tail _ (List.Mem.tail _ (List.Mem.head _))))) ?_
      refine jg_iconst (v := 1) dL_law_479 (by decide) ?_
      refine jg_iadd dL_law_480 ?_
      refine jg_sld dL_law_481 f130 ?_
      refine jg_aload_n dL_law_482 rfl (List.Mem.head _) ?_
      refine jg_iload dL_law_483 (List.Mem.tail _ (List.Mem.tail _ (List.Mem.tail _ (List.Mem.tail _ (List.Mem.head _))))) ?_
      refine jg_iconst (v := 2) dL_law_485 (by decide) ?_
      refine jg_iadd dL_law_486 ?_
      refine jg_sld dL_law_487 f131 ?_
      obtain ⟨f136, hv⟩ := hv
      obtain ⟨f137, hv⟩ := hv
      refine jp_callV mX10_redefines [.inl (jgx g ((x4) + (1) : Int32).toNatClampNeg), .inl (jgx g ((x4) + (2) : Int32).toNatClampNeg)] [.inl (r134)] dL_law_488 rfl cl_RL_76 ⟨⟨by decide, by decide⟩, jcat_le _ (Nat.le_of_ble_eq_true rfl)⟩ f136 f137 (Nat.zero_le _) (Nat.zero_le _) (jM.mono (jki_k (fun r138 h139 hv => ?_)) hv)
      refine jg_icmp_eq (tgt := 790) dL_law_491 (by decide) (fun c140 => ?_) (fun c140 => ?_)
      · replace hv := hv.1 c140
        refine jg_iinc (v := (x4) + 5) (lv' := [(4, .inl ((x4) + 5)), (0, .inr (.inr (some (jgs g)))), (1, .inr (.inr (o1))), (2, .inr (.inr (o2))), (3, .inr (.inr (o3)))]) dL_law_790 (List.Mem.tail _ (List.Mem.tail _ (List.Mem.tail _ (List.Mem.tail _ (List.Mem.head _))))) rfl (by decide) rfl ?_
        refine jg_goto (tgt := 23) dL_law_793 (by decide) ?_
        refine jG.sub (lv' := [(0, .inr (.inr (some (jgs g)))), (1, .inr (.inr (o1))), (2, .inr (.inr (o2))), (3, .inr (.inr (o3))), (4, .inl ((x4) + 5))]) (by simp) ?_
        exact hv
      · replace hv := hv.2 c140
        refine jg_iconst (v := 0) dL_law_494 (by decide) ?_
        exact jg_bret dL_law_495 rfl (by decide) hv
    by_cases c141 : ((jgx g (x4 : Int32).toNatClampNeg) &&& (15)) = 9
    · replace hv := hv.2.2.2.2.2.2.2.2.2.1 c141
      refine jg_tsIn 9 9 (tgt := 496) dL_law_39 c141 (by decide) (by decide) rfl (by decide) ?_
      refine jg_aload_n dL_law_496 rfl (List.Mem.tail _ (List.Mem.head _)) ?_
      refine jg_aload_n dL_law_497 rfl (List.Mem.head _) ?_
      refine jg_iload dL_law_498 (List.Mem.tail _ (List.Mem.tail _ (List.Mem.tail _ (List.Mem.tail _ (List.Mem.head _))))) ?_
      refine jg_iconst (v := 1) dL_law_500 (by decide) ?_
      refine jg_iadd dL_law_501 ?_
      obtain ⟨f142, hv⟩ := hv
      refine jg_sld dL_law_502 f142 ?_
      refine jg_aload_n dL_law_503 rfl (List.Mem.head _) ?_
      refine jg_iload dL_law_504 (List.Mem.tail _ (List.Mem.tail _ (List.Mem.tail _ (List.Mem.tail _ (List.Mem.head _))))) ?_
      refine jg_iconst (v := 2) dL_law_506 (by decide) ?_
      refine jg_iadd dL_law_507 ?_
      obtain ⟨f143, hv⟩ := hv
      refine jg_sld dL_law_508 f143 ?_
      refine jg_aload_n dL_law_509 rfl (List.Mem.head _) ?_
      refine jg_iload dL_law_510 (List.Mem.tail _ (List.Mem.tail _ (List.Mem.tail _ (List.Mem.tail _ (List.Mem.head _))))) ?_
      refine jg_iconst (v := 3) dL_law_512 (by decide) ?_
      refine jg_iadd dL_law_513 ?_
      obtain ⟨f144, hv⟩ := hv
      refine jg_sld dL_law_514 f144 ?_
      obtain ⟨f145, hv⟩ := hv
      obtain ⟨f146, hv⟩ := hv
      refine jp_callV mX9_refer [.inl (jgx g ((x4) + (1) : Int32).toNatClampNeg), .inl (jgx g ((x4) + (2) : Int32).toNatClampNeg), .inl (jgx g ((x4) + (3) : Int32).toNatClampNeg)] [] dL_law_515 rfl cl_RL_77 ⟨⟨by decide, by decide⟩, by decide⟩ f145 f146 (Nat.zero_le _) (Nat.zero_le _) (jM.mono (jki_k (fun r147 h148 hv => ?_)) hv)
      refine jg_aload_n dL_law_518 rfl (List.Mem.tail _ (List.Mem.tail _ (List.Mem.head _))) ?_
      refine jg_aload_n dL_law_519 rfl (List.Mem.head _) ?_
      refine jg_iload dL_law_520 (List.Mem.tail _ (List.Mem.tail _ (List.Mem.tail _ (List.Mem.tail _ (List.Mem.head _))))) ?_
      refine jg_iconst (v := 1) dL_law_522 (by decide) ?_
      refine jg_iadd dL_law_523 ?_
      refine jg_sld dL_law_524 f142 ?_
      refine jg_aload_n dL_law_525 rfl (List.Mem.head _) ?_
      refine jg_iload dL_law_526 (List.Mem.tail _ (List.Mem.tail _ (List.Mem.tail _ (List.Mem.tail _ (List.Mem.head _))))) ?_
      refine jg_iconst (v := 2) dL_law_528 (by decide) ?_
      refine jg_iadd dL_law_529 ?_
      refine jg_sld dL_law_530 f143 ?_
      refine jg_aload_n dL_law_531 rfl (List.Mem.head _) ?_
      refine jg_iload dL_law_532 (List.Mem.tail _ (List.Mem.tail _ (List.Mem.tail _ (List.Mem.tail _ (List.Mem.head _))))) ?_
      refine jg_iconst (v := 3) dL_law_534 (by decide) ?_
      refine jg_iadd dL_law_535 ?_
      refine jg_sld dL_law_536 f144 ?_
      obtain ⟨f149, hv⟩ := hv
      obtain ⟨f150, hv⟩ := hv
      refine jp_callV mX10_refer [.inl (jgx g ((x4) + (1) : Int32).toNatClampNeg), .inl (jgx g ((x4) + (2) : Int32).toNatClampNeg), .inl (jgx g ((x4) + (3) : Int32).toNatClampNeg)] [.inl (r147)] dL_law_537 rfl cl_RL_80 ⟨⟨by decide, by decide⟩, jcat_le _ (Nat.le_of_ble_eq_true rfl)⟩ f149 f150 (Nat.zero_le _) (Nat.zero_le _) (jM.mono (jki_k (fun r151 h152 hv => ?_)) hv)
      refine jg_icmp_eq (tgt := 790) dL_law_540 (by decide) (fun c153 => ?_) (fun c153 => ?_)
      · replace hv := hv.1 c153
        refine jg_iinc (v := (x4) + 5) (lv' := [(4, .inl ((x4) + 5)), (0, .inr (.inr (some (jgs g)))), (1, .inr (.inr (o1))), (2, .inr (.inr (o2))), (3, .inr (.inr (o3)))]) dL_law_790 (List.Mem.tail _ (List.Mem.tail _ (List.Mem.tail _ (List.Mem.tail _ (List.Mem.head _))))) rfl (by decide) rfl ?_
        refine jg_goto (tgt := 23) dL_law_793 (by decide) ?_
        refine jG.sub (lv' := [(0, .inr (.inr (some (jgs g)))), (1, .inr (.inr (o1))), (2, .inr (.inr (o2))), (3, .inr (.inr (o3))), (4, .inl ((x4) + 5))]) (by simp) ?_
        exact hv
      · replace hv := hv.2 c153
        refine jg_iconst (v := 0) dL_law_543 (by decide) ?_
        exact jg_bret dL_law_544 rfl (by decide) hv
    by_cases c154 : ((jgx g (x4 : Int32).toNatClampNeg) &&& (15)) = 10
    · replace hv := hv.2.2.2.2.2.2.2.2.2.2.1 c154
      refine jg_tsIn 10 10 (tgt := 545) dL_law_39 c154 (by decide) (by decide) rfl (by decide) ?_
      refine jg_aload_n dL_law_545 rfl (List.Mem.tail _ (List.Mem.head _)) ?_
      refine jg_aload_n dL_law_546 rfl (List.Mem.head _) ?_
      refine jg_iload dL_law_547 (List.Mem.tail _ (List.Mem.tail _ (List.Mem.tail _ (List.Mem.tail _ (List.Mem.head _))))) ?_
      refine jg_iconst (v := 1) dL_law_549 (by decide) ?_
      refine jg_iadd dL_law_550 ?_
      obtain ⟨f155, hv⟩ := hv
      refine jg_sld dL_law_551 f155 ?_
      obtain ⟨f156, hv⟩ := hv
      obtain ⟨f157, hv⟩ := hv
      refine jp_callV mX9_slack [.inl (jgx g ((x4) + (1) : Int32).toNatClampNeg)] [] dL_law_552 rfl cl_RL_81 ⟨⟨by decide, by decide⟩, by decide⟩ f156 f157 (Nat.zero_le _) (Nat.zero_le _) (jM.mono (jki_k (fun r158 h159 hv => ?_)) hv)
      refine jg_aload_n dL_law_555 rfl (List.Mem.tail _ (List.Mem.tail _ (List.Mem.head _))) ?_
      refine jg_aload_n dL_law_556 rfl (List.Mem.head _) ?_
      refine jg_iload dL_law_557 (List.Mem.tail _ (List.Mem.tail _ (List.Mem.tail _ (List.Mem.tail _ (List.Mem.head _))))) ?_
      refine jg_iconst (v := 1) dL_law_559 (by decide) ?_
      refine jg_iadd dL_law_560 ?_
      refine jg_sld dL_law_561 f155 ?_
      obtain ⟨f160, hv⟩ := hv
      obtain ⟨f161, hv⟩ := hv
      refine jp_callV mX10_slack [.inl (jgx g ((x4) + (1) : Int32).toNatClampNeg)] [.inl (r158)] dL_law_562 rfl cl_RL_84 ⟨⟨by decide, by decide⟩, jcat_le _ (Nat.le_of_ble_eq_true rfl)⟩ f160 f161 (Nat.zero_le _) (Nat.zero_le _) (jM.mono (jki_k (fun r162 h163 hv => ?_)) hv)
      refine jg_icmp_eq (tgt := 790) dL_law_565 (by decide) (fun c164 => ?_) (fun c164 => ?_)
      · replace hv := hv.1 c164
        refine jg_iinc (v := (x4) + 5) (lv' := [(4, .inl ((x4) + 5)), (0, .inr (.inr (some (jgs g)))), (1, .inr (.inr (o1))), (2, .inr (.inr (o2))), (3, .inr (.inr (o3)))]) dL_law_790 (List.Mem.tail _ (List.Mem.tail _ (List.Mem.tail _ (List.Mem.tail _ (List.Mem.head _))))) rfl (by decide) rfl ?_
        refine jg_goto (tgt := 23) dL_law_793 (by decide) ?_
        refine jG.sub (lv' := [(0, .inr (.inr (some (jgs g)))), (1, .inr (.inr (o1))), (2, .inr (.inr (o2))), (3, .inr (.inr (o3))), (4, .inl ((x4) + 5))]) (by simp) ?_
        exact hv
      · replace hv := hv.2 c164
        refine jg_iconst (v := 0) dL_law_568 (by decide) ?_
        exact jg_bret dL_law_569 rfl (by decide) hv
    by_cases c165 : ((jgx g (x4 : Int32).toNatClampNeg) &&& (15)) = 11
    · replace hv := hv.2.2.2.2.2.2.2.2.2.2.2.1 c165
      refine jg_tsIn 11 11 (tgt := 570) dL_law_39 c165 (by decide) (by decide) rfl (by decide) ?_
      refine jg_aload_n dL_law_570 rfl (List.Mem.tail _ (List.Mem.head _)) ?_
      refine jg_aload_n dL_law_571 rfl (List.Mem.head _) ?_
      refine jg_iload dL_law_572 (List.Mem.tail _ (List.Mem.tail _ (List.Mem.tail _ (List.Mem.tail _ (List.Mem.head _))))) ?_
      refine jg_iconst (v := 1) dL_law_574 (by decide) ?_
      refine jg_iadd dL_law_575 ?_
      obtain ⟨f166, hv⟩ := hv
      refine jg_sld dL_law_576 f166 ?_
      refine jg_aload_n dL_law_577 rfl (List.Mem.head _) ?_
      refine jg_iload dL_law_578 (List.Mem.tail _ (List.Mem.tail _ (List.Mem.tail _ (List.Mem.tail _ (List.Mem.head _))))) ?_
      refine jg_iconst (v := 2) dL_law_580 (by decide) ?_
      refine jg_iadd dL_law_581 ?_
      obtain ⟨f167, hv⟩ := hv
      refine jg_sld dL_law_582 f167 ?_
      obtain ⟨f168, hv⟩ := hv
      obtain ⟨f169, hv⟩ := hv
      refine jp_callV mX9_external [.inl (jgx g ((x4) + (1) : Int32).toNatClampNeg), .inl (jgx g ((x4) + (2) : Int32).toNatClampNeg)] [] dL_law_583 rfl cl_RL_85 ⟨⟨by decide, by decide⟩, by decide⟩ f168 f169 (Nat.zero_le _) (Nat.zero_le _) (jM.mono (jki_k (fun r170 h171 hv => ?_)) hv)
      refine jg_aload_n dL_law_586 rfl (List.Mem.tail _ (List.Mem.tail _ (List.Mem.head _))) ?_
      refine jg_aload_n dL_law_587 rfl (List.Mem.head _) ?_
      refine jg_iload dL_law_588 (List.Mem.tail _ (List.Mem.tail _ (List.Mem.tail _ (List.Mem.tail _ (List.Mem.head _))))) ?_
      refine jg_iconst (v := 1) dL_law_590 (by decide) ?_
      refine jg_iadd dL_law_591 ?_
      refine jg_sld dL_law_592 f166 ?_
      refine jg_aload_n dL_law_593 rfl (List.Mem.head _) ?_
      refine jg_iload dL_law_594 (List.Mem.tail _ (List.Mem.tail _ (List.Mem.tail _ (List.Mem.tail _ (List.Mem.head _))))) ?_
      refine jg_iconst (v := 2) dL_law_596 (by decide) ?_
      refine jg_iadd dL_law_597 ?_
      refine jg_sld dL_law_598 f167 ?_
      obtain ⟨f172, hv⟩ := hv
      obtain ⟨f173, hv⟩ := hv
      refine jp_callV mX10_external [.inl (jgx g ((x4) + (1) : Int32).toNatClampNeg), .inl (jgx g ((x4) + (2) : Int32).toNatClampNeg)] [.inl (r170)] dL_law_599 rfl cl_RL_88 ⟨⟨by decide, by decide⟩, jcat_le _ (Nat.le_of_ble_eq_true rfl)⟩ f172 f173 (Nat.zero_le _) (Nat.zero_le _) (jM.mono (jki_k (fun r174 h175 hv => ?_)) hv)
      refine jg_icmp_eq (tgt := 790) dL_law_602 (by decide) (fun c176 => ?_) (fun c176 => ?_)
      · replace hv := hv.1 c176
        refine jg_iinc (v := (x4) + 5) (lv' := [(4, .inl ((x4) + 5)), (0, .inr (.inr (some (jgs g)))), (1, .inr (.inr (o1))), (2, .inr (.inr (o2))), (3, .inr (.inr (o3)))]) dL_law_790 (List.Mem.tail _ (List.Mem.tail _ (List.Mem.tail _ (List.Mem.tail _ (List.Mem.head _))))) rfl (by decide) rfl ?_
        refine jg_goto (tgt := 23) dL_law_793 (by decide) ?_
        refine jG.sub (lv' := [(0, .inr (.inr (some (jgs g)))), (1, .inr (.inr (o1))), (2, .inr (.inr (o2))), (3, .inr (.inr (o3))), (4, .inl ((x4) + 5))]) (by simp) ?_
        exact hv
      · replace hv := hv.2 c176
        refine jg_iconst (v := 0) dL_law_605 (by decide) ?_
        exact jg_bret dL_law_606 rfl (by decide) hv
    by_cases c177 : ((jgx g (x4 : Int32).toNatClampNeg) &&& (15)) = 12
    · replace hv := hv.2.2.2.2.2.2.2.2.2.2.2.2.1 c177
      refine jg_tsIn 12 12 (tgt := 607) dL_law_39 c177 (by decide) (by decide) rfl (by decide) ?_
      refine jg_aload_n dL_law_607 rfl (List.Mem.tail _ (List.Mem.head _)) ?_
      refine jg_aload_n dL_law_608 rfl (List.Mem.head _) ?_
      refine jg_iload dL_law_609 (List.Mem.tail _ (List.Mem.tail _ (List.Mem.tail _ (List.Mem.tail _ (List.Mem.head _))))) ?_
      refine jg_iconst (v := 1) dL_law_611 (by decide) ?_
      refine jg_iadd dL_law_612 ?_
      obtain ⟨f178, hv⟩ := hv
      refine jg_sld dL_law_613 f178 ?_
      refine jg_aload_n dL_law_614 rfl (List.Mem.tail _ (List.Mem.tail _ (List.Mem.tail _ (List.Mem.head _)))) ?_
      obtain ⟨mc181, ms182, f183, f184, hv⟩ := hv
      refine jg_callSW mL_at hhL_at [.inr (.inr (o1)), .inl (jgx g ((x4) + (1) : Int32).toNatClampNeg), .inr (.inr (o3))] [] dL_law_615 rfl cw_RL_89 ⟨⟨by decide, by decide⟩, by decide⟩ f183 f184 (jMW.mono (jki_k (fun r179 h180 hv => ?_)) hv)
      refine jg_istore (lv' := [(5, .inl (r179)), (0, .inr (.inr (some (jgs g)))), (1, .inr (.inr (o1))), (2, .inr (.inr (o2))), (3, .inr (.inr (o3))), (4, .inl (x4))]) dL_law_618 (by decide) rfl ?_
      refine jg_aload_n dL_law_620 rfl (List.Mem.tail _ (List.Mem.tail _ (List.Mem.tail _ (List.Mem.head _)))) ?_
      refine jg_aload_n dL_law_621 rfl (List.Mem.tail _ (List.Mem.head _)) ?_
      refine jg_iload dL_law_622 (List.Mem.tail _ (List.Mem.tail _ (List.Mem.tail _ (List.Mem.tail _ (List.Mem.tail _ (List.Mem.head _)))))) ?_
      refine jg_iconst (v := 1) dL_law_624 (by decide) ?_
      refine jg_iadd dL_law_625 ?_
      refine jg_sld dL_law_626 f178 ?_
      obtain ⟨f185, hv⟩ := hv
      obtain ⟨f186, hv⟩ := hv
      refine jp_callV mX10_at [.inl (jgx g ((x4) + (1) : Int32).toNatClampNeg)] [] dL_law_627 rfl cl_RL_92 ⟨⟨by decide, by decide⟩, by decide⟩ f185 f186 (Nat.zero_le _) (Nat.zero_le _) (jM.mono (jki_k (fun r187 h188 hv => ?_)) hv)
      refine jg_istore (lv' := [(6, .inl (r187)), (5, .inl (r179)), (0, .inr (.inr (some (jgs g)))), (1, .inr (.inr (o1))), (2, .inr (.inr (o2))), (3, .inr (.inr (o3))), (4, .inl (x4))]) dL_law_630 (by decide) rfl ?_
      refine jg_aload_n dL_law_632 rfl (List.Mem.tail _ (List.Mem.tail _ (List.Mem.tail _ (List.Mem.tail _ (List.Mem.head _))))) ?_
      obtain ⟨f189, hv⟩ := hv
      refine jp_callV mX10_thrown [] [] dL_law_633 rfl cl_RL_60 ⟨⟨by decide, by decide⟩, by decide⟩ f185 f189 (Nat.zero_le _) (Nat.zero_le _) (jM.mono (jki_k (fun r190 h191 hv => ?_)) hv)
      refine jg_iload dL_law_636 (List.Mem.tail _ (List.Mem.head _)) ?_
      refine jg_icmp_eq (tgt := 643) dL_law_638 (by decide) (fun c192 => ?_) (fun c192 => ?_)
      · replace hv := hv.1 c192
        refine jg_iload dL_law_643 (List.Mem.tail _ (List.Mem.head _)) ?_
        refine jg_if_ne (tgt := 660) dL_law_645 (by decide) (fun c193 => ?_) (fun c193 => ?_)
        · replace hv := hv.1 c193
          refine jg_goto (tgt := 790) dL_law_660 (by decide) ?_
          refine jg_iinc (v := (x4) + 5) (lv' := [(4, .inl ((x4) + 5)), (6, .inl (r187)), (5, .inl (r179)), (0, .inr (.inr (some (jgs g)))), (1, .inr (.inr (o1))), (2, .inr (.inr (o2))), (3, .inr (.inr (o3)))]) dL_law_790 (List.Mem.tail _ (List.Mem.tail _ (List.Mem.tail _ (List.Mem.tail _ (List.Mem.tail _ (List.Mem.tail _ (List.Mem.head _))))))) rfl (by decide) rfl ?_
          refine jg_goto (tgt := 23) dL_law_793 (by decide) ?_
          refine jG.sub (lv' := [(0, .inr (.inr (some (jgs g)))), (1, .inr (.inr (o1))), (2, .inr (.inr (o2))), (3, .inr (.inr (o3))), (4, .inl ((x4) + 5))]) (by simp) ?_
          exact hv
        · replace hv := hv.2 c193
          refine jg_aload_n dL_law_648 rfl (List.Mem.tail _ (List.Mem.tail _ (List.Mem.tail _ (List.Mem.tail _ (List.Mem.tail _ (List.Mem.head _)))))) ?_
          refine jg_iconst (v := 0) dL_law_649 (by decide) ?_
          obtain ⟨f194, hv⟩ := hv
          obtain ⟨f195, hv⟩ := hv
          obtain ⟨f196, hv⟩ := hv
          refine jg_lald dL_law_650 f194 f195 f196 ?_
          refine jg_iload dL_law_651 (List.Mem.head _) ?_
          refine jg_i2l dL_law_653 ?_
          refine jg_lcmp_eq (tgt := 660) dL_law_654 dL_law_655 (by decide) (fun c197 => ?_) (fun c197 => ?_)
          · replace hv := hv.1 c197
            refine jg_goto (tgt := 790) dL_law_660 (by decide) ?_
            refine jg_iinc (v := (x4) + 5) (lv' := [(4, .inl ((x4) + 5)), (6, .inl (r187)), (5, .inl (r179)), (0, .inr (.inr (some (jgs g)))), (1, .inr (.inr (o1))), (2, .inr (.inr (o2))), (3, .inr (.inr (o3)))]) dL_law_790 (List.Mem.tail _ (List.Mem.tail _ (List.Mem.tail _ (List.Mem.tail _ (List.Mem.tail _ (List.Mem.tail _ (List.Mem.head _))))))) rfl (by decide) rfl ?_
            refine jg_goto (tgt := 23) dL_law_793 (by decide) ?_
            refine jG.sub (lv' := [(0, .inr (.inr (some (jgs g)))), (1, .inr (.inr (o1))), (2, .inr (.inr (o2))), (3, .inr (.inr (o3))), (4, .inl ((x4) + 5))]) (by simp) ?_
            exact hv
          · replace hv := hv.2 c197
            refine jg_iconst (v := 0) dL_law_658 (by decide) ?_
            exact jg_bret dL_law_659 rfl (by decide) hv
      · replace hv := hv.2 c192
        refine jg_iconst (v := 0) dL_law_641 (by decide) ?_
        exact jg_bret dL_law_642 rfl (by decide) hv
    by_cases c198 : ((jgx g (x4 : Int32).toNatClampNeg) &&& (15)) = 13
    · replace hv := hv.2.2.2.2.2.2.2.2.2.2.2.2.2.1 c198
      refine jg_tsIn 13 13 (tgt := 663) dL_law_39 c198 (by decide) (by decide) rfl (by decide) ?_
      refine jg_aload_n dL_law_663 rfl (List.Mem.tail _ (List.Mem.head _)) ?_
      refine jg_aload_n dL_law_664 rfl (List.Mem.head _) ?_
      refine jg_iload dL_law_665 (List.Mem.tail _ (List.Mem.tail _ (List.Mem.tail _ (List.Mem.tail _ (List.Mem.head _))))) ?_
      refine jg_iconst (v := 1) dL_law_667 (by decide) ?_
      refine jg_iadd dL_law_668 ?_
      obtain ⟨f199, hv⟩ := hv
      refine jg_sld dL_law_669 f199 ?_
      refine jg_aload_n dL_law_670 rfl (List.Mem.head _) ?_
      refine jg_iload dL_law_671 (List.Mem.tail _ (List.Mem.tail _ (List.Mem.tail _ (List.Mem.tail _ (List.Mem.head _))))) ?_
      refine jg_iconst (v := 2) dL_law_673 (by decide) ?_
      refine jg_iadd dL_law_674 ?_
      obtain ⟨f200, hv⟩ := hv
      refine jg_sld dL_law_675 f200 ?_
      refine jg_i2b dL_law_676 ?_
      obtain ⟨f201, hv⟩ := hv
      obtain ⟨f202, hv⟩ := hv
      refine jp_callV mX9_octet [.inl (jgx g ((x4) + (1) : Int32).toNatClampNeg), .inl ((jgx g ((x4) + (2) : Int32).toNatClampNeg : Int32).toInt8.toInt32)] [] dL_law_677 rfl cl_RL_93 ⟨⟨by decide, by decide⟩, by decide⟩ f201 f202 (Nat.zero_le _) (Nat.zero_le _) (jM.mono (jki_k (fun r203 h204 hv => ?_)) hv)
      refine jg_aload_n dL_law_680 rfl (List.Mem.tail _ (List.Mem.tail _ (List.Mem.head _))) ?_
      refine jg_aload_n dL_law_681 rfl (List.Mem.head _) ?_
      refine jg_iload dL_law_682 (List.Mem.tail _ (List.Mem.tail _ (List.Mem.tail _ (List.Mem.tail _ (List.Mem.head _))))) ?_
      refine jg_iconst (v := 1) dL_law_684 (by decide) ?_
      refine jg_iadd dL_law_685 ?_
      refine jg_sld dL_law_686 f199 ?_
      refine jg_aload_n dL_law_687 rfl (List.Mem.head _) ?_
      refine jg_iload dL_law_688 (List.Mem.tail _ (List.Mem.tail _ (List.Mem.tail _ (List.Mem.tail _ (List.Mem.head _))))) ?_
      refine jg_iconst (v := 2) dL_law_690 (by decide) ?_
      refine jg_iadd dL_law_691 ?_
      refine jg_sld dL_law_692 f200 ?_
      refine jg_i2b dL_law_693 ?_
      obtain ⟨f205, hv⟩ := hv
      obtain ⟨f206, hv⟩ := hv
      refine jp_callV mX10_octet [.inl (jgx g ((x4) + (1) : Int32).toNatClampNeg), .inl ((jgx g ((x4) + (2) : Int32).toNatClampNeg : Int32).toInt8.toInt32)] [.inl (r203)] dL_law_694 rfl cl_RL_97 ⟨⟨by decide, by decide⟩, jcat_le _ (Nat.le_of_ble_eq_true rfl)⟩ f205 f206 (Nat.zero_le _) (Nat.zero_le _) (jM.mono (jki_k (fun r207 h208 hv => ?_)) hv)
      refine jg_icmp_eq (tgt := 790) dL_law_697 (by decide) (fun c209 => ?_) (fun c209 => ?_)
      · replace hv := hv.1 c209
        refine jg_iinc (v := (x4) + 5) (lv' := [(4, .inl ((x4) + 5)), (0, .inr (.inr (some (jgs g)))), (1, .inr (.inr (o1))), (2, .inr (.inr (o2))), (3, .inr (.inr (o3)))]) dL_law_790 (List.Mem.tail _ (List.Mem.tail _ (List.Mem.tail _ (List.Mem.tail _ (List.Mem.head _))))) rfl (by decide) rfl ?_
        refine jg_goto (tgt := 23) dL_law_793 (by decide) ?_
        refine jG.sub (lv' := [(0, .inr (.inr (some (jgs g)))), (1, .inr (.inr (o1))), (2, .inr (.inr (o2))), (3, .inr (.inr (o3))), (4, .inl ((x4) + 5))]) (by simp) ?_
        exact hv
      · replace hv := hv.2 c209
        refine jg_iconst (v := 0) dL_law_700 (by decide) ?_
        exact jg_bret dL_law_701 rfl (by decide) hv
    by_cases c210 : ((jgx g (x4 : Int32).toNatClampNeg) &&& (15)) = 14
    · replace hv := hv.2.2.2.2.2.2.2.2.2.2.2.2.2.2.1 c210
      refine jg_tsIn 14 14 (tgt := 702) dL_law_39 c210 (by decide) (by decide) rfl (by decide) ?_
      refine jg_aload_n dL_law_702 rfl (List.Mem.tail _ (List.Mem.head _)) ?_
      refine jg_aload_n dL_law_703 rfl (List.Mem.head _) ?_
      refine jg_iload dL_law_704 (List.Mem.tail _ (List.Mem.tail _ (List.Mem.tail _ (List.Mem.tail _ (List.Mem.head _))))) ?_
      refine jg_iconst (v := 1) dL_law_706 (by decide) ?_
      refine jg_iadd dL_law_707 ?_
      obtain ⟨f211, hv⟩ := hv
      refine jg_sld dL_law_708 f211 ?_
      refine jg_aload_n dL_law_709 rfl (List.Mem.tail _ (List.Mem.tail _ (List.Mem.tail _ (List.Mem.head _)))) ?_
      obtain ⟨mc214, ms215, f216, f217, hv⟩ := hv
      refine jg_callSW mL_holds hhL_holds [.inr (.inr (o1)), .inl (jgx g ((x4) + (1) : Int32).toNatClampNeg), .inr (.inr (o3))] [] dL_law_710 rfl cw_RL_98 ⟨⟨by decide, by decide⟩, by decide⟩ f216 f217 (jMW.mono (jki_k (fun r212 h213 hv => ?_)) hv)
      refine jg_istore (lv' := [(5, .inl (r212)), (0, .inr (.inr (some (jgs g)))), (1, .inr (.inr (o1))), (2, .inr (.inr (o2))), (3, .inr (.inr (o3))), (4, .inl (x4))]) dL_law_713 (by decide) rfl ?_
      refine jg_aload_n dL_law_715 rfl (List.Mem.tail _ (List.Mem.tail _ (List.Mem.tail _ (List.Mem.head _)))) ?_
      refine jg_aload_n dL_law_716 rfl (List.Mem.tail _ (List.Mem.head _)) ?_
      refine jg_iload dL_law_717 (List.Mem.tail _ (List.Mem.tail _ (List.Mem.tail _ (List.Mem.tail _ (List.Mem.tail _ (List.Mem.head _)))))) ?_
      refine jg_iconst (v := 1) dL_law_719 (by decide) ?_
      refine jg_iadd dL_law_720 ?_
      refine jg_sld dL_law_721 f211 ?_
      obtain ⟨f218, hv⟩ := hv
      obtain ⟨f219, hv⟩ := hv
      refine jp_callV mX10_holds [.inl (jgx g ((x4) + (1) : Int32).toNatClampNeg)] [] dL_law_722 rfl cl_RL_100 ⟨⟨by decide, by decide⟩, by decide⟩ f218 f219 (Nat.zero_le _) (Nat.zero_le _) (jM.mono (jki_k (fun r220 h221 hv => ?_)) hv)
      refine jg_istore (lv' := [(6, .inl (r220)), (5, .inl (r212)), (0, .inr (.inr (some (jgs g)))), (1, .inr (.inr (o1))), (2, .inr (.inr (o2))), (3, .inr (.inr (o3))), (4, .inl (x4))]) dL_law_725 (by decide) rfl ?_
      refine jg_aload_n dL_law_727 rfl (List.Mem.tail _ (List.Mem.tail _ (List.Mem.tail _ (List.Mem.tail _ (List.Mem.head _))))) ?_
      obtain ⟨f222, hv⟩ := hv
      refine jp_callV mX10_thrown [] [] dL_law_728 rfl cl_RL_60 ⟨⟨by decide, by decide⟩, by decide⟩ f218 f222 (Nat.zero_le _) (Nat.zero_le _) (jM.mono (jki_k (fun r223 h224 hv => ?_)) hv)
      refine jg_iload dL_law_731 (List.Mem.tail _ (List.Mem.head _)) ?_
      refine jg_icmp_eq (tgt := 738) dL_law_733 (by decide) (fun c225 => ?_) (fun c225 => ?_)
      · replace hv := hv.1 c225
        refine jg_iload dL_law_738 (List.Mem.tail _ (List.Mem.head _)) ?_
        refine jg_if_ne (tgt := 762) dL_law_740 (by decide) (fun c226 => ?_) (fun c226 => ?_)
        · replace hv := hv.1 c226
          refine jg_goto (tgt := 790) dL_law_762 (by decide) ?_
          refine jg_iinc (v := (x4) + 5) (lv' := [(4, .inl ((x4) + 5)), (6, .inl (r220)), (5, .inl (r212)), (0, .inr (.inr (some (jgs g)))), (1, .inr (.inr (o1))), (2, .inr (.inr (o2))), (3, .inr (.inr (o3)))]) dL_law_790 (List.Mem.tail _ (List.Mem.tail _ (List.Mem.tail _ (List.Mem.tail _ (List.Mem.tail _ (List.Mem.tail _ (List.Mem.head _))))))) rfl (by decide) rfl ?_
          refine jg_goto (tgt := 23) dL_law_793 (by decide) ?_
          refine jG.sub (lv' := [(0, .inr (.inr (some (jgs g)))), (1, .inr (.inr (o1))), (2, .inr (.inr (o2))), (3, .inr (.inr (o3))), (4, .inl ((x4) + 5))]) (by simp) ?_
          exact hv
        · replace hv := hv.2 c226
          refine jg_aload_n dL_law_743 rfl (List.Mem.tail _ (List.Mem.tail _ (List.Mem.tail _ (List.Mem.tail _ (List.Mem.tail _ (List.Mem.head _)))))) ?_
          refine jg_iconst (v := 0) dL_law_744 (by decide) ?_
          obtain ⟨f227, hv⟩ := hv
          obtain ⟨f228, hv⟩ := hv
          obtain ⟨f229, hv⟩ := hv
          refine jg_lald dL_law_745 f227 f228 f229 ?_
          refine jg_iload dL_law_746 (List.Mem.head _) ?_
          refine jg_if_eq (tgt := 755) dL_law_748 (by decide) (fun c230 => ?_) (fun c230 => ?_)
          · replace hv := hv.1 c230
            refine jg_lconst (v := 0) dL_law_755 (by decide) ?_
            refine jg_lcmp_eq (tgt := 762) dL_law_756 dL_law_757 (by decide) (fun c231 => ?_) (fun c231 => ?_)
            · replace hv := hv.1 c231
              refine jg_goto (tgt := 790) dL_law_762 (by decide) ?_
              refine jg_iinc (v := (x4) + 5) (lv' := [(4, .inl ((x4) + 5)), (6, .inl (r220)), (5, .inl (r212)), (0, .inr (.inr (some (jgs g)))), (1, .inr (.inr (o1))), (2, .inr (.inr (o2))), (3, .inr (.inr (o3)))]) dL_law_790 (List.Mem.tail _ (List.Mem.tail _ (List.Mem.tail _ (List.Mem.tail _ (List.Mem.tail _ (List.Mem.tail _ (List.Mem.head _))))))) rfl (by decide) rfl ?_
              refine jg_goto (tgt := 23) dL_law_793 (by decide) ?_
              refine jG.sub (lv' := [(0, .inr (.inr (some (jgs g)))), (1, .inr (.inr (o1))), (2, .inr (.inr (o2))), (3, .inr (.inr (o3))), (4, .inl ((x4) + 5))]) (by simp) ?_
              exact hv
            · replace hv := hv.2 c231
              refine jg_iconst (v := 0) dL_law_760 (by decide) ?_
              exact jg_bret dL_law_761 rfl (by decide) hv
          · replace hv := hv.2 c230
            refine jg_lconst (v := 1) dL_law_751 (by decide) ?_
            refine jg_goto (tgt := 756) dL_law_752 (by decide) ?_
            refine jg_lcmp_eq (tgt := 762) dL_law_756 dL_law_757 (by decide) (fun c232 => ?_) (fun c232 => ?_)
            · replace hv := hv.1 c232
              refine jg_goto (tgt := 790) dL_law_762 (by decide) ?_
              refine jg_iinc (v := (x4) + 5) (lv' := [(4, .inl ((x4) + 5)), (6, .inl (r220)), (5, .inl (r212)), (0, .inr (.inr (some (jgs g)))), (1, .inr (.inr (o1))), (2, .inr (.inr (o2))), (3, .inr (.inr (o3)))]) dL_law_790 (List.Mem.tail _ (List.Mem.tail _ (List.Mem.tail _ (List.Mem.tail _ (List.Mem.tail _ (List.Mem.tail _ (List.Mem.head _))))))) rfl (by decide) rfl ?_
              refine jg_goto (tgt := 23) dL_law_793 (by decide) ?_
              refine jG.sub (lv' := [(0, .inr (.inr (some (jgs g)))), (1, .inr (.inr (o1))), (2, .inr (.inr (o2))), (3, .inr (.inr (o3))), (4, .inl ((x4) + 5))]) (by simp) ?_
              exact hv
            · replace hv := hv.2 c232
              refine jg_iconst (v := 0) dL_law_760 (by decide) ?_
              exact jg_bret dL_law_761 rfl (by decide) hv
      · replace hv := hv.2 c225
        refine jg_iconst (v := 0) dL_law_736 (by decide) ?_
        exact jg_bret dL_law_737 rfl (by decide) hv
    by_cases c233 : ((jgx g (x4 : Int32).toNatClampNeg) &&& (15)) = 15
    · replace hv := hv.2.2.2.2.2.2.2.2.2.2.2.2.2.2.2.1 c233
      refine jg_tsIn 15 15 (tgt := 765) dL_law_39 c233 (by decide) (by decide) rfl (by decide) ?_
      refine jg_aload_n dL_law_765 rfl (List.Mem.tail _ (List.Mem.head _)) ?_
      refine jg_aload_n dL_law_766 rfl (List.Mem.head _) ?_
      refine jg_iload dL_law_767 (List.Mem.tail _ (List.Mem.tail _ (List.Mem.tail _ (List.Mem.tail _ (List.Mem.head _))))) ?_
      refine jg_iconst (v := 1) dL_law_769 (by decide) ?_
      refine jg_iadd dL_law_770 ?_
      obtain ⟨f234, hv⟩ := hv
      refine jg_sld dL_law_771 f234 ?_
      obtain ⟨f235, hv⟩ := hv
      obtain ⟨f236, hv⟩ := hv
      refine jp_callV mX9_count [.inl (jgx g ((x4) + (1) : Int32).toNatClampNeg)] [] dL_law_772 rfl cl_RL_101 ⟨⟨by decide, by decide⟩, by decide⟩ f235 f236 (Nat.zero_le _) (Nat.zero_le _) (jM.mono (jki_k (fun r237 h238 hv => ?_)) hv)
      refine jg_aload_n dL_law_775 rfl (List.Mem.tail _ (List.Mem.tail _ (List.Mem.head _))) ?_
      refine jg_aload_n dL_law_776 rfl (List.Mem.head _) ?_
      refine jg_iload dL_law_777 (List.Mem.tail _ (List.Mem.tail _ (List.Mem.tail _ (List.Mem.tail _ (List.Mem.head _))))) ?_
      refine jg_iconst (v := 1) dL_law_779 (by decide) ?_
      refine jg_iadd dL_law_780 ?_
      refine jg_sld dL_law_781 f234 ?_
      obtain ⟨f239, hv⟩ := hv
      obtain ⟨f240, hv⟩ := hv
      refine jp_callV mX10_count [.inl (jgx g ((x4) + (1) : Int32).toNatClampNeg)] [.inl (r237)] dL_law_782 rfl cl_RL_104 ⟨⟨by decide, by decide⟩, jcat_le _ (Nat.le_of_ble_eq_true rfl)⟩ f239 f240 (Nat.zero_le _) (Nat.zero_le _) (jM.mono (jki_k (fun r241 h242 hv => ?_)) hv)
      refine jg_icmp_eq (tgt := 790) dL_law_785 (by decide) (fun c243 => ?_) (fun c243 => ?_)
      · replace hv := hv.1 c243
        refine jg_iinc (v := (x4) + 5) (lv' := [(4, .inl ((x4) + 5)), (0, .inr (.inr (some (jgs g)))), (1, .inr (.inr (o1))), (2, .inr (.inr (o2))), (3, .inr (.inr (o3)))]) dL_law_790 (List.Mem.tail _ (List.Mem.tail _ (List.Mem.tail _ (List.Mem.tail _ (List.Mem.head _))))) rfl (by decide) rfl ?_
        refine jg_goto (tgt := 23) dL_law_793 (by decide) ?_
        refine jG.sub (lv' := [(0, .inr (.inr (some (jgs g)))), (1, .inr (.inr (o1))), (2, .inr (.inr (o2))), (3, .inr (.inr (o3))), (4, .inl ((x4) + 5))]) (by simp) ?_
        exact hv
      · replace hv := hv.2 c243
        refine jg_iconst (v := 0) dL_law_788 (by decide) ?_
        exact jg_bret dL_law_789 rfl (by decide) hv
    have c244 : ((jgx g (x4 : Int32).toNatClampNeg) &&& (15) : Int32).toInt < 0 ∨ 15 < ((jgx g (x4 : Int32).toNatClampNeg) &&& (15) : Int32).toInt := by
      have c19n : ¬ ((jgx g (x4 : Int32).toNatClampNeg) &&& (15) : Int32).toInt = 0 := fun q => c19 (Int32.toInt_inj.mp (q.trans (by decide)))
      have c36n : ¬ ((jgx g (x4 : Int32).toNatClampNeg) &&& (15) : Int32).toInt = 1 := fun q => c36 (Int32.toInt_inj.mp (q.trans (by decide)))
      have c54n : ¬ ((jgx g (x4 : Int32).toNatClampNeg) &&& (15) : Int32).toInt = 2 := fun q => c54 (Int32.toInt_inj.mp (q.trans (by decide)))
      have c68n : ¬ ((jgx g (x4 : Int32).toNatClampNeg) &&& (15) : Int32).toInt = 3 := fun q => c68 (Int32.toInt_inj.mp (q.trans (by decide)))
      have c79n : ¬ ((jgx g (x4 : Int32).toNatClampNeg) &&& (15) : Int32).toInt = 4 := fun q => c79 (Int32.toInt_inj.mp (q.trans (by decide)))
      have c90n : ¬ ((jgx g (x4 : Int32).toNatClampNeg) &&& (15) : Int32).toInt = 5 := fun q => c90 (Int32.toInt_inj.mp (q.trans (by decide)))
      have c114n : ¬ ((jgx g (x4 : Int32).toNatClampNeg) &&& (15) : Int32).toInt = 6 := fun q => c114 (Int32.toInt_inj.mp (q.trans (by decide)))
      have c117n : ¬ ((jgx g (x4 : Int32).toNatClampNeg) &&& (15) : Int32).toInt = 7 := fun q => c117 (Int32.toInt_inj.mp (q.trans (by decide)))
      have c129n : ¬ ((jgx g (x4 : Int32).toNatClampNeg) &&& (15) : Int32).toInt = 8 := fun q => c129 (Int32.toInt_inj.mp (q.trans (by decide)))
      have c141n : ¬ ((jgx g (x4 : Int32).toNatClampNeg) &&& (15) : Int32).toInt = 9 := fun q => c141 (Int32.toInt_inj.mp (q.trans (by decide)))
      have c154n : ¬ ((jgx g (x4 : Int32).toNatClampNeg) &&& (15) : Int32).toInt = 10 := fun q => c154 (Int32.toInt_inj.mp (q.trans (by decide)))
      have c165n : ¬ ((jgx g (x4 : Int32).toNatClampNeg) &&& (15) : Int32).toInt = 11 := fun q => c165 (Int32.toInt_inj.mp (q.trans (by decide)))
      have c177n : ¬ ((jgx g (x4 : Int32).toNatClampNeg) &&& (15) : Int32).toInt = 12 := fun q => c177 (Int32.toInt_inj.mp (q.trans (by decide)))
      have c198n : ¬ ((jgx g (x4 : Int32).toNatClampNeg) &&& (15) : Int32).toInt = 13 := fun q => c198 (Int32.toInt_inj.mp (q.trans (by decide)))
      have c210n : ¬ ((jgx g (x4 : Int32).toNatClampNeg) &&& (15) : Int32).toInt = 14 := fun q => c210 (Int32.toInt_inj.mp (q.trans (by decide)))
      have c233n : ¬ ((jgx g (x4 : Int32).toNatClampNeg) &&& (15) : Int32).toInt = 15 := fun q => c233 (Int32.toInt_inj.mp (q.trans (by decide)))
      omega
    replace hv := hv.2.2.2.2.2.2.2.2.2.2.2.2.2.2.2.2 c244
    refine jg_tsOut (tgt := 790) dL_law_39 c244 (by decide) ?_
    refine jg_iinc (v := (x4) + 5) (lv' := [(4, .inl ((x4) + 5)), (0, .inr (.inr (some (jgs g)))), (1, .inr (.inr (o1))), (2, .inr (.inr (o2))), (3, .inr (.inr (o3)))]) dL_law_790 (List.Mem.tail _ (List.Mem.tail _ (List.Mem.tail _ (List.Mem.tail _ (List.Mem.head _))))) rfl (by decide) rfl ?_
    refine jg_goto (tgt := 23) dL_law_793 (by decide) ?_
    refine jG.sub (lv' := [(0, .inr (.inr (some (jgs g)))), (1, .inr (.inr (o1))), (2, .inr (.inr (o2))), (3, .inr (.inr (o3))), (4, .inl ((x4) + 5))]) (by simp) ?_
    exact hv
def VL_law_0 (g : jg)  (h : jh) (k n : Nat) (Q : jq) : Prop := (1 ≤ k) ∧ (6 ≤ n) ∧ ∀ h247 : jh, h247 = jmk h 8 0 → ∃ mc251 ms252 : Nat, mc251 ≤ (k - 1) ∧ ms252 ≤ (n - 6) ∧ jM g mX9_init [.inr (.inr (some (jz h)))] h247 mc251 ms252 (jkv (fun (h250 : jh) => (1 ≤ ((k - 1) - mc251)) ∧ (36 ≤ ((n - 6) - ms252)) ∧ ∀ h257 : jh, h257 = jmk h250 9 0 → ∃ mc261 ms262 : Nat, mc261 ≤ (((k - 1) - mc251) - 1) ∧ ms262 ≤ (((n - 6) - ms252) - 36) ∧ jM g mX10_init [.inr (.inr (some (jz h250)))] h257 mc261 ms262 (jkv (fun (h260 : jh) => (1 ≤ ((((k - 1) - mc251) - 1) - mc261)) ∧ (1 ≤ ((((n - 6) - ms252) - 36) - ms262)) ∧ ∀ h267 : jh, h267 = jmk h260 22 1 → jG g mL_law 23 [(0, .inr (.inr (some (jgs g)))), (1, .inr (.inr (some (jz h)))), (2, .inr (.inr (some (jz h250)))), (3, .inr (.inr (some (jz h260)))), (4, .inl (0))] [] h267 (((((k - 1) - mc251) - 1) - mc261) - 1) (((((n - 6) - ms252) - 36) - ms262) - 1) Q) (fun _ _ => False))) (fun _ _ => False))
set_option maxRecDepth 20000 in
theorem vL_law_0 {g : jg}  {h : jh} {k n : Nat} {Q : jq} (hv : VL_law_0 g  h k n Q) : jG g mL_law 0 [(0, .inr (.inr (some (jgs g))))] [] h k n Q := by
  unfold VL_law_0 at hv
  obtain ⟨f245, hv⟩ := hv
  obtain ⟨f246, hv⟩ := hv
  obtain ⟨h247, e248⟩ : ∃ z : jh, z = jmk h 8 0 := ⟨_, rfl⟩
  replace hv := hv h247 e248
  refine jp_new dL_law_0 nl_RL_8 f245 f246 e248 ?_
  refine jg_dup dL_law_3 rfl ?_
  obtain ⟨mc251, ms252, f253, f254, hv⟩ := hv
  refine jg_callI mX9_init [] [.inr (.inr (some (jz h)))] dL_law_4 rfl cl_RL_27 ⟨⟨by decide, by decide⟩, jcat_le _ (Nat.le_of_ble_eq_true rfl)⟩ f253 f254 (jM.mono (jkv_k (fun h250 hv => ?_)) hv)
  refine jg_astore_n (lv' := [(1, .inr (.inr (some (jz h)))), (0, .inr (.inr (some (jgs g))))]) dL_law_7 rfl (by decide) rfl ?_
  obtain ⟨f255, hv⟩ := hv
  obtain ⟨f256, hv⟩ := hv
  obtain ⟨h257, e258⟩ : ∃ z : jh, z = jmk h250 9 0 := ⟨_, rfl⟩
  replace hv := hv h257 e258
  refine jp_new dL_law_8 nl_RL_28 f255 f256 e258 ?_
  refine jg_dup dL_law_11 rfl ?_
  obtain ⟨mc261, ms262, f263, f264, hv⟩ := hv
  refine jg_callI mX10_init [] [.inr (.inr (some (jz h250)))] dL_law_12 rfl cl_RL_30 ⟨⟨by decide, by decide⟩, jcat_le _ (Nat.le_of_ble_eq_true rfl)⟩ f263 f264 (jM.mono (jkv_k (fun h260 hv => ?_)) hv)
  refine jg_astore_n (lv' := [(2, .inr (.inr (some (jz h250)))), (1, .inr (.inr (some (jz h)))), (0, .inr (.inr (some (jgs g))))]) dL_law_15 rfl (by decide) rfl ?_
  refine jg_iconst (v := 1) dL_law_16 (by decide) ?_
  obtain ⟨f265, hv⟩ := hv
  obtain ⟨f266, hv⟩ := hv
  obtain ⟨h267, e268⟩ : ∃ z : jh, z = jmk h260 22 1 := ⟨_, rfl⟩
  replace hv := hv h267 e268
  refine jp_newJ dL_law_17 ja_long (by decide) (by decide) f265 f266 e268 ?_
  refine jg_astore_n (lv' := [(3, .inr (.inr (some (jz h260)))), (2, .inr (.inr (some (jz h250)))), (1, .inr (.inr (some (jz h)))), (0, .inr (.inr (some (jgs g))))]) dL_law_19 rfl (by decide) rfl ?_
  refine jg_iconst (v := 0) dL_law_20 (by decide) ?_
  refine jg_istore (lv' := [(4, .inl (0)), (3, .inr (.inr (some (jz h260)))), (2, .inr (.inr (some (jz h250)))), (1, .inr (.inr (some (jz h)))), (0, .inr (.inr (some (jgs g))))]) dL_law_21 (by decide) rfl ?_
  refine jG.sub (lv' := [(0, .inr (.inr (some (jgs g)))), (1, .inr (.inr (some (jz h)))), (2, .inr (.inr (some (jz h250)))), (3, .inr (.inr (some (jz h260)))), (4, .inl (0))]) (by simp) ?_
  exact hv
theorem eL_law {g : jg}  {h : jh} {mc ms : Nat} {Q : jq} (hv : VL_law_0 g  h mc ms Q) : jM g mL_law [.inr (.inr (some (jgs g)))] h mc ms Q := jM.of (by decide) (Nat.le_of_ble_eq_true rfl) (lv := [(0, .inr (.inr (some (jgs g))))]) rfl (vL_law_0 hv)
