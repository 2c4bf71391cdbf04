abbrev cXL_law : ByteArray := code
abbrev yXL_law : MethodName := ⟨RXL, "law", "([I)Z"⟩
theorem dXL_law_0 : decode cXL_law 0 = .ok (.new 8, 3) := by decide +kernel
theorem dXL_law_3 : decode cXL_law 3 = .ok (.dup, 1) := by decide +kernel
theorem dXL_law_4 : decode cXL_law 4 = .ok (.invokespecial 66, 3) := by decide +kernel
theorem dXL_law_7 : decode cXL_law 7 = .ok (.astore_n 1, 1) := by decide +kernel
theorem dXL_law_8 : decode cXL_law 8 = .ok (.new 67, 3) := by decide +kernel
theorem dXL_law_11 : decode cXL_law 11 = .ok (.dup, 1) := by decide +kernel
theorem dXL_law_12 : decode cXL_law 12 = .ok (.invokespecial 69, 3) := by decide +kernel
theorem dXL_law_15 : decode cXL_law 15 = .ok (.astore_n 2, 1) := by decide +kernel
theorem dXL_law_16 : decode cXL_law 16 = .ok (.iconst 1, 1) := by decide +kernel
theorem dXL_law_17 : decode cXL_law 17 = .ok (.newarray .long, 2) := by decide +kernel
theorem dXL_law_19 : decode cXL_law 19 = .ok (.astore_n 3, 1) := by decide +kernel
theorem dXL_law_20 : decode cXL_law 20 = .ok (.iconst 0, 1) := by decide +kernel
theorem dXL_law_21 : decode cXL_law 21 = .ok (.istore 4, 2) := by decide +kernel
theorem dXL_law_23 : decode cXL_law 23 = .ok (.iload 4, 2) := by decide +kernel
theorem dXL_law_25 : decode cXL_law 25 = .ok (.aload_n 0, 1) := by decide +kernel
theorem dXL_law_26 : decode cXL_law 26 = .ok (.arraylength, 1) := by decide +kernel
theorem dXL_law_27 : decode cXL_law 27 = .ok (.iconst 4, 1) := by decide +kernel
theorem dXL_law_28 : decode cXL_law 28 = .ok (.isub, 1) := by decide +kernel
theorem dXL_law_29 : decode cXL_law 29 = .ok (.if_icmp .gt 964, 3) := by decide +kernel
theorem dXL_law_32 : decode cXL_law 32 = .ok (.aload_n 0, 1) := by decide +kernel
theorem dXL_law_33 : decode cXL_law 33 = .ok (.iload 4, 2) := by decide +kernel
theorem dXL_law_35 : decode cXL_law 35 = .ok (.iaload, 1) := by decide +kernel
theorem dXL_law_36 : decode cXL_law 36 = .ok (.bipush 31, 2) := by decide +kernel
theorem dXL_law_38 : decode cXL_law 38 = .ok (.iand, 1) := by decide +kernel
theorem dXL_law_39 : decode cXL_law 39 = .ok (.tableswitch 948 0 18 #[89, 145, 189, 245, 313, 381, 437, 505, 585, 629, 680, 736, 792, 816, 860, 896, 909, 922, 935], 89) := by decide +kernel
theorem dXL_law_128 : decode cXL_law 128 = .ok (.aload_n 1, 1) := by decide +kernel
theorem dXL_law_129 : decode cXL_law 129 = .ok (.aload_n 0, 1) := by decide +kernel
theorem dXL_law_130 : decode cXL_law 130 = .ok (.iload 4, 2) := by decide +kernel
theorem dXL_law_132 : decode cXL_law 132 = .ok (.iconst 1, 1) := by decide +kernel
theorem dXL_law_133 : decode cXL_law 133 = .ok (.iadd, 1) := by decide +kernel
theorem dXL_law_134 : decode cXL_law 134 = .ok (.iaload, 1) := by decide +kernel
theorem dXL_law_135 : decode cXL_law 135 = .ok (.aload_n 3, 1) := by decide +kernel
theorem dXL_law_136 : decode cXL_law 136 = .ok (.invokestatic 70, 3) := by decide +kernel
theorem dXL_law_139 : decode cXL_law 139 = .ok (.istore 5, 2) := by decide +kernel
theorem dXL_law_141 : decode cXL_law 141 = .ok (.aload_n 2, 1) := by decide +kernel
theorem dXL_law_142 : decode cXL_law 142 = .ok (.aload_n 0, 1) := by decide +kernel
theorem dXL_law_143 : decode cXL_law 143 = .ok (.iload 4, 2) := by decide +kernel
theorem dXL_law_145 : decode cXL_law 145 = .ok (.iconst 1, 1) := by decide +kernel
theorem dXL_law_146 : decode cXL_law 146 = .ok (.iadd, 1) := by decide +kernel
theorem dXL_law_147 : decode cXL_law 147 = .ok (.iaload, 1) := by decide +kernel
theorem dXL_law_148 : decode cXL_law 148 = .ok (.invokevirtual 75, 3) := by decide +kernel
theorem dXL_law_151 : decode cXL_law 151 = .ok (.istore 6, 2) := by decide +kernel
theorem dXL_law_153 : decode cXL_law 153 = .ok (.aload_n 2, 1) := by decide +kernel
theorem dXL_law_154 : decode cXL_law 154 = .ok (.invokevirtual 76, 3) := by decide +kernel
theorem dXL_law_157 : decode cXL_law 157 = .ok (.iload 5, 2) := by decide +kernel
theorem dXL_law_159 : decode cXL_law 159 = .ok (.if_icmp .eq 5, 3) := by decide +kernel
theorem dXL_law_162 : decode cXL_law 162 = .ok (.iconst 0, 1) := by decide +kernel
theorem dXL_law_163 : decode cXL_law 163 = .ok (.ireturn, 1) := by decide +kernel
theorem dXL_law_164 : decode cXL_law 164 = .ok (.iload 5, 2) := by decide +kernel
theorem dXL_law_166 : decode cXL_law 166 = .ok (.ifCond .ne 15, 3) := by decide +kernel
theorem dXL_law_169 : decode cXL_law 169 = .ok (.aload_n 3, 1) := by decide +kernel
theorem dXL_law_170 : decode cXL_law 170 = .ok (.iconst 0, 1) := by decide +kernel
theorem dXL_law_171 : decode cXL_law 171 = .ok (.laload, 1) := by decide +kernel
theorem dXL_law_172 : decode cXL_law 172 = .ok (.iload 6, 2) := by decide +kernel
theorem dXL_law_174 : decode cXL_law 174 = .ok (.i2l, 1) := by decide +kernel
theorem dXL_law_175 : decode cXL_law 175 = .ok (.lcmp, 1) := by decide +kernel
theorem dXL_law_176 : decode cXL_law 176 = .ok (.ifCond .eq 5, 3) := by decide +kernel
theorem dXL_law_179 : decode cXL_law 179 = .ok (.iconst 0, 1) := by decide +kernel
theorem dXL_law_180 : decode cXL_law 180 = .ok (.ireturn, 1) := by decide +kernel
theorem dXL_law_181 : decode cXL_law 181 = .ok (.goto 806, 3) := by decide +kernel
theorem dXL_law_184 : decode cXL_law 184 = .ok (.aload_n 1, 1) := by decide +kernel
theorem dXL_law_185 : decode cXL_law 185 = .ok (.aload_n 3, 1) := by decide +kernel
theorem dXL_law_186 : decode cXL_law 186 = .ok (.invokestatic 79, 3) := by decide +kernel
theorem dXL_law_189 : decode cXL_law 189 = .ok (.istore 5, 2) := by decide +kernel
theorem dXL_law_191 : decode cXL_law 191 = .ok (.aload_n 2, 1) := by decide +kernel
theorem dXL_law_192 : decode cXL_law 192 = .ok (.invokevirtual 82, 3) := by decide +kernel
theorem dXL_law_195 : decode cXL_law 195 = .ok (.istore 6, 2) := by decide +kernel
theorem dXL_law_197 : decode cXL_law 197 = .ok (.aload_n 2, 1) := by decide +kernel
theorem dXL_law_198 : decode cXL_law 198 = .ok (.invokevirtual 76, 3) := by decide +kernel
theorem dXL_law_201 : decode cXL_law 201 = .ok (.iload 5, 2) := by decide +kernel
theorem dXL_law_203 : decode cXL_law 203 = .ok (.if_icmp .eq 5, 3) := by decide +kernel
theorem dXL_law_206 : decode cXL_law 206 = .ok (.iconst 0, 1) := by decide +kernel
theorem dXL_law_207 : decode cXL_law 207 = .ok (.ireturn, 1) := by decide +kernel
theorem dXL_law_208 : decode cXL_law 208 = .ok (.iload 5, 2) := by decide +kernel
theorem dXL_law_210 : decode cXL_law 210 = .ok (.ifCond .ne 15, 3) := by decide +kernel
theorem dXL_law_213 : decode cXL_law 213 = .ok (.aload_n 3, 1) := by decide +kernel
theorem dXL_law_214 : decode cXL_law 214 = .ok (.iconst 0, 1) := by decide +kernel
theorem dXL_law_215 : decode cXL_law 215 = .ok (.laload, 1) := by decide +kernel
theorem dXL_law_216 : decode cXL_law 216 = .ok (.iload 6, 2) := by decide +kernel
theorem dXL_law_218 : decode cXL_law 218 = .ok (.i2l, 1) := by decide +kernel
theorem dXL_law_219 : decode cXL_law 219 = .ok (.lcmp, 1) := by decide +kernel
theorem dXL_law_220 : decode cXL_law 220 = .ok (.ifCond .eq 5, 3) := by decide +kernel
theorem dXL_law_223 : decode cXL_law 223 = .ok (.iconst 0, 1) := by decide +kernel
theorem dXL_law_224 : decode cXL_law 224 = .ok (.ireturn, 1) := by decide +kernel
theorem dXL_law_225 : decode cXL_law 225 = .ok (.goto 762, 3) := by decide +kernel
theorem dXL_law_228 : decode cXL_law 228 = .ok (.aload_n 1, 1) := by decide +kernel
theorem dXL_law_229 : decode cXL_law 229 = .ok (.aload_n 0, 1) := by decide +kernel
theorem dXL_law_230 : decode cXL_law 230 = .ok (.iload 4, 2) := by decide +kernel
theorem dXL_law_232 : decode cXL_law 232 = .ok (.iconst 1, 1) := by decide +kernel
theorem dXL_law_233 : decode cXL_law 233 = .ok (.iadd, 1) := by decide +kernel
theorem dXL_law_234 : decode cXL_law 234 = .ok (.iaload, 1) := by decide +kernel
theorem dXL_law_235 : decode cXL_law 235 = .ok (.aload_n 3, 1) := by decide +kernel
theorem dXL_law_236 : decode cXL_law 236 = .ok (.invokestatic 83, 3) := by decide +kernel
theorem dXL_law_239 : decode cXL_law 239 = .ok (.istore 5, 2) := by decide +kernel
theorem dXL_law_241 : decode cXL_law 241 = .ok (.aload_n 2, 1) := by decide +kernel
theorem dXL_law_242 : decode cXL_law 242 = .ok (.aload_n 0, 1) := by decide +kernel
theorem dXL_law_243 : decode cXL_law 243 = .ok (.iload 4, 2) := by decide +kernel
theorem dXL_law_245 : decode cXL_law 245 = .ok (.iconst 1, 1) := by decide +kernel
theorem dXL_law_246 : decode cXL_law 246 = .ok (.iadd, 1) := by decide +kernel
theorem dXL_law_247 : decode cXL_law 247 = .ok (.iaload, 1) := by decide +kernel
theorem dXL_law_248 : decode cXL_law 248 = .ok (.invokevirtual 85, 3) := by decide +kernel
theorem dXL_law_251 : decode cXL_law 251 = .ok (.istore 6, 2) := by decide +kernel
theorem dXL_law_253 : decode cXL_law 253 = .ok (.aload_n 2, 1) := by decide +kernel
theorem dXL_law_254 : decode cXL_law 254 = .ok (.invokevirtual 76, 3) := by decide +kernel
theorem dXL_law_257 : decode cXL_law 257 = .ok (.iload 5, 2) := by decide +kernel
theorem dXL_law_259 : decode cXL_law 259 = .ok (.if_icmp .eq 5, 3) := by decide +kernel
theorem dXL_law_262 : decode cXL_law 262 = .ok (.iconst 0, 1) := by decide +kernel
theorem dXL_law_263 : decode cXL_law 263 = .ok (.ireturn, 1) := by decide +kernel
theorem dXL_law_264 : decode cXL_law 264 = .ok (.iload 5, 2) := by decide +kernel
theorem dXL_law_266 : decode cXL_law 266 = .ok (.ifCond .ne 15, 3) := by decide +kernel
theorem dXL_law_269 : decode cXL_law 269 = .ok (.aload_n 3, 1) := by decide +kernel
theorem dXL_law_270 : decode cXL_law 270 = .ok (.iconst 0, 1) := by decide +kernel
theorem dXL_law_271 : decode cXL_law 271 = .ok (.laload, 1) := by decide +kernel
theorem dXL_law_272 : decode cXL_law 272 = .ok (.iload 6, 2) := by decide +kernel
theorem dXL_law_274 : decode cXL_law 274 = .ok (.i2l, 1) := by decide +kernel
theorem dXL_law_275 : decode cXL_law 275 = .ok (.lcmp, 1) := by decide +kernel
theorem dXL_law_276 : decode cXL_law 276 = .ok (.ifCond .eq 5, 3) := by decide +kernel
theorem dXL_law_279 : decode cXL_law 279 = .ok (.iconst 0, 1) := by decide +kernel
theorem dXL_law_280 : decode cXL_law 280 = .ok (.ireturn, 1) := by decide +kernel
theorem dXL_law_281 : decode cXL_law 281 = .ok (.goto 706, 3) := by decide +kernel
theorem dXL_law_284 : decode cXL_law 284 = .ok (.aload_n 1, 1) := by decide +kernel
theorem dXL_law_285 : decode cXL_law 285 = .ok (.aload_n 0, 1) := by decide +kernel
theorem dXL_law_286 : decode cXL_law 286 = .ok (.iload 4, 2) := by decide +kernel
theorem dXL_law_288 : decode cXL_law 288 = .ok (.iconst 1, 1) := by decide +kernel
theorem dXL_law_289 : decode cXL_law 289 = .ok (.iadd, 1) := by decide +kernel
theorem dXL_law_290 : decode cXL_law 290 = .ok (.iaload, 1) := by decide +kernel
theorem dXL_law_291 : decode cXL_law 291 = .ok (.aload_n 0, 1) := by decide +kernel
theorem dXL_law_292 : decode cXL_law 292 = .ok (.iload 4, 2) := by decide +kernel
theorem dXL_law_294 : decode cXL_law 294 = .ok (.iconst 2, 1) := by decide +kernel
theorem dXL_law_295 : decode cXL_law 295 = .ok (.iadd, 1) := by decide +kernel
theorem dXL_law_296 : decode cXL_law 296 = .ok (.iaload, 1) := by decide +kernel
theorem dXL_law_297 : decode cXL_law 297 = .ok (.aload_n 3, 1) := by decide +kernel
theorem dXL_law_298 : decode cXL_law 298 = .ok (.invokestatic 86, 3) := by decide +kernel
theorem dXL_law_301 : decode cXL_law 301 = .ok (.istore 5, 2) := by decide +kernel
theorem dXL_law_303 : decode cXL_law 303 = .ok (.aload_n 2, 1) := by decide +kernel
theorem dXL_law_304 : decode cXL_law 304 = .ok (.aload_n 0, 1) := by decide +kernel
theorem dXL_law_305 : decode cXL_law 305 = .ok (.iload 4, 2) := by decide +kernel
theorem dXL_law_307 : decode cXL_law 307 = .ok (.iconst 1, 1) := by decide +kernel
theorem dXL_law_308 : decode cXL_law 308 = .ok (.iadd, 1) := by decide +kernel
theorem dXL_law_309 : decode cXL_law 309 = .ok (.iaload, 1) := by decide +kernel
theorem dXL_law_310 : decode cXL_law 310 = .ok (.aload_n 0, 1) := by decide +kernel
theorem dXL_law_311 : decode cXL_law 311 = .ok (.iload 4, 2) := by decide +kernel
theorem dXL_law_313 : decode cXL_law 313 = .ok (.iconst 2, 1) := by decide +kernel
theorem dXL_law_314 : decode cXL_law 314 = .ok (.iadd, 1) := by decide +kernel
theorem dXL_law_315 : decode cXL_law 315 = .ok (.iaload, 1) := by decide +kernel
theorem dXL_law_316 : decode cXL_law 316 = .ok (.invokevirtual 89, 3) := by decide +kernel
theorem dXL_law_319 : decode cXL_law 319 = .ok (.istore 6, 2) := by decide +kernel
theorem dXL_law_321 : decode cXL_law 321 = .ok (.aload_n 2, 1) := by decide +kernel
theorem dXL_law_322 : decode cXL_law 322 = .ok (.invokevirtual 76, 3) := by decide +kernel
theorem dXL_law_325 : decode cXL_law 325 = .ok (.iload 5, 2) := by decide +kernel
theorem dXL_law_327 : decode cXL_law 327 = .ok (.if_icmp .eq 5, 3) := by decide +kernel
theorem dXL_law_330 : decode cXL_law 330 = .ok (.iconst 0, 1) := by decide +kernel
theorem dXL_law_331 : decode cXL_law 331 = .ok (.ireturn, 1) := by decide +kernel
theorem dXL_law_332 : decode cXL_law 332 = .ok (.iload 5, 2) := by decide +kernel
theorem dXL_law_334 : decode cXL_law 334 = .ok (.ifCond .ne 15, 3) := by decide +kernel
theorem dXL_law_337 : decode cXL_law 337 = .ok (.aload_n 3, 1) := by decide +kernel
theorem dXL_law_338 : decode cXL_law 338 = .ok (.iconst 0, 1) := by decide +kernel
theorem dXL_law_339 : decode cXL_law 339 = .ok (.laload, 1) := by decide +kernel
theorem dXL_law_340 : decode cXL_law 340 = .ok (.iload 6, 2) := by decide +kernel
theorem dXL_law_342 : decode cXL_law 342 = .ok (.i2l, 1) := by decide +kernel
theorem dXL_law_343 : decode cXL_law 343 = .ok (.lcmp, 1) := by decide +kernel
theorem dXL_law_344 : decode cXL_law 344 = .ok (.ifCond .eq 5, 3) := by decide +kernel
theorem dXL_law_347 : decode cXL_law 347 = .ok (.iconst 0, 1) := by decide +kernel
theorem dXL_law_348 : decode cXL_law 348 = .ok (.ireturn, 1) := by decide +kernel
theorem dXL_law_349 : decode cXL_law 349 = .ok (.goto 638, 3) := by decide +kernel
theorem dXL_law_352 : decode cXL_law 352 = .ok (.aload_n 1, 1) := by decide +kernel
theorem dXL_law_353 : decode cXL_law 353 = .ok (.aload_n 0, 1) := by decide +kernel
theorem dXL_law_354 : decode cXL_law 354 = .ok (.iload 4, 2) := by decide +kernel
theorem dXL_law_356 : decode cXL_law 356 = .ok (.iconst 1, 1) := by decide +kernel
theorem dXL_law_357 : decode cXL_law 357 = .ok (.iadd, 1) := by decide +kernel
theorem dXL_law_358 : decode cXL_law 358 = .ok (.iaload, 1) := by decide +kernel
theorem dXL_law_359 : decode cXL_law 359 = .ok (.aload_n 0, 1) := by decide +kernel
theorem dXL_law_360 : decode cXL_law 360 = .ok (.iload 4, 2) := by decide +kernel
theorem dXL_law_362 : decode cXL_law 362 = .ok (.iconst 2, 1) := by decide +kernel
theorem dXL_law_363 : decode cXL_law 363 = .ok (.iadd, 1) := by decide +kernel
theorem dXL_law_364 : decode cXL_law 364 = .ok (.iaload, 1) := by decide +kernel
theorem dXL_law_365 : decode cXL_law 365 = .ok (.aload_n 3, 1) := by decide +kernel
theorem dXL_law_366 : decode cXL_law 366 = .ok (.invokestatic 90, 3) := by decide +kernel
theorem dXL_law_369 : decode cXL_law 369 = .ok (.istore 5, 2) := by decide +kernel
theorem dXL_law_371 : decode cXL_law 371 = .ok (.aload_n 2, 1) := by decide +kernel
theorem dXL_law_372 : decode cXL_law 372 = .ok (.aload_n 0, 1) := by decide +kernel
theorem dXL_law_373 : decode cXL_law 373 = .ok (.iload 4, 2) := by decide +kernel
theorem dXL_law_375 : decode cXL_law 375 = .ok (.iconst 1, 1) := by decide +kernel
theorem dXL_law_376 : decode cXL_law 376 = .ok (.iadd, 1) := by decide +kernel
theorem dXL_law_377 : decode cXL_law 377 = .ok (.iaload, 1) := by decide +kernel
theorem dXL_law_378 : decode cXL_law 378 = .ok (.aload_n 0, 1) := by decide +kernel
theorem dXL_law_379 : decode cXL_law 379 = .ok (.iload 4, 2) := by decide +kernel
theorem dXL_law_381 : decode cXL_law 381 = .ok (.iconst 2, 1) := by decide +kernel
theorem dXL_law_382 : decode cXL_law 382 = .ok (.iadd, 1) := by decide +kernel
theorem dXL_law_383 : decode cXL_law 383 = .ok (.iaload, 1) := by decide +kernel
theorem dXL_law_384 : decode cXL_law 384 = .ok (.invokevirtual 92, 3) := by decide +kernel
theorem dXL_law_387 : decode cXL_law 387 = .ok (.istore 6, 2) := by decide +kernel
theorem dXL_law_389 : decode cXL_law 389 = .ok (.aload_n 2, 1) := by decide +kernel
theorem dXL_law_390 : decode cXL_law 390 = .ok (.invokevirtual 76, 3) := by decide +kernel
theorem dXL_law_393 : decode cXL_law 393 = .ok (.iload 5, 2) := by decide +kernel
theorem dXL_law_395 : decode cXL_law 395 = .ok (.if_icmp .eq 5, 3) := by decide +kernel
theorem dXL_law_398 : decode cXL_law 398 = .ok (.iconst 0, 1) := by decide +kernel
theorem dXL_law_399 : decode cXL_law 399 = .ok (.ireturn, 1) := by decide +kernel
theorem dXL_law_400 : decode cXL_law 400 = .ok (.iload 5, 2) := by decide +kernel
theorem dXL_law_402 : decode cXL_law 402 = .ok (.ifCond .ne 15, 3) := by decide +kernel
theorem dXL_law_405 : decode cXL_law 405 = .ok (.aload_n 3, 1) := by decide +kernel
theorem dXL_law_406 : decode cXL_law 406 = .ok (.iconst 0, 1) := by decide +kernel
theorem dXL_law_407 : decode cXL_law 407 = .ok (.laload, 1) := by decide +kernel
theorem dXL_law_408 : decode cXL_law 408 = .ok (.iload 6, 2) := by decide +kernel
theorem dXL_law_410 : decode cXL_law 410 = .ok (.i2l, 1) := by decide +kernel
theorem dXL_law_411 : decode cXL_law 411 = .ok (.lcmp, 1) := by decide +kernel
theorem dXL_law_412 : decode cXL_law 412 = .ok (.ifCond .eq 5, 3) := by decide +kernel
theorem dXL_law_415 : decode cXL_law 415 = .ok (.iconst 0, 1) := by decide +kernel
theorem dXL_law_416 : decode cXL_law 416 = .ok (.ireturn, 1) := by decide +kernel
theorem dXL_law_417 : decode cXL_law 417 = .ok (.goto 570, 3) := by decide +kernel
theorem dXL_law_420 : decode cXL_law 420 = .ok (.aload_n 1, 1) := by decide +kernel
theorem dXL_law_421 : decode cXL_law 421 = .ok (.aload_n 0, 1) := by decide +kernel
theorem dXL_law_422 : decode cXL_law 422 = .ok (.iload 4, 2) := by decide +kernel
theorem dXL_law_424 : decode cXL_law 424 = .ok (.iconst 1, 1) := by decide +kernel
theorem dXL_law_425 : decode cXL_law 425 = .ok (.iadd, 1) := by decide +kernel
theorem dXL_law_426 : decode cXL_law 426 = .ok (.iaload, 1) := by decide +kernel
theorem dXL_law_427 : decode cXL_law 427 = .ok (.aload_n 3, 1) := by decide +kernel
theorem dXL_law_428 : decode cXL_law 428 = .ok (.invokestatic 93, 3) := by decide +kernel
theorem dXL_law_431 : decode cXL_law 431 = .ok (.istore 5, 2) := by decide +kernel
theorem dXL_law_433 : decode cXL_law 433 = .ok (.aload_n 2, 1) := by decide +kernel
theorem dXL_law_434 : decode cXL_law 434 = .ok (.aload_n 0, 1) := by decide +kernel
theorem dXL_law_435 : decode cXL_law 435 = .ok (.iload 4, 2) := by decide +kernel
theorem dXL_law_437 : decode cXL_law 437 = .ok (.iconst 1, 1) := by decide +kernel
theorem dXL_law_438 : decode cXL_law 438 = .ok (.iadd, 1) := by decide +kernel
theorem dXL_law_439 : decode cXL_law 439 = .ok (.iaload, 1) := by decide +kernel
theorem dXL_law_440 : decode cXL_law 440 = .ok (.invokevirtual 95, 3) := by decide +kernel
theorem dXL_law_443 : decode cXL_law 443 = .ok (.istore 6, 2) := by decide +kernel
theorem dXL_law_445 : decode cXL_law 445 = .ok (.aload_n 2, 1) := by decide +kernel
theorem dXL_law_446 : decode cXL_law 446 = .ok (.invokevirtual 76, 3) := by decide +kernel
theorem dXL_law_449 : decode cXL_law 449 = .ok (.iload 5, 2) := by decide +kernel
theorem dXL_law_451 : decode cXL_law 451 = .ok (.if_icmp .eq 5, 3) := by decide +kernel
theorem dXL_law_454 : decode cXL_law 454 = .ok (.iconst 0, 1) := by decide +kernel
theorem dXL_law_455 : decode cXL_law 455 = .ok (.ireturn, 1) := by decide +kernel
theorem dXL_law_456 : decode cXL_law 456 = .ok (.iload 5, 2) := by decide +kernel
theorem dXL_law_458 : decode cXL_law 458 = .ok (.ifCond .ne 15, 3) := by decide +kernel
theorem dXL_law_461 : decode cXL_law 461 = .ok (.aload_n 3, 1) := by decide +kernel
theorem dXL_law_462 : decode cXL_law 462 = .ok (.iconst 0, 1) := by decide +kernel
theorem dXL_law_463 : decode cXL_law 463 = .ok (.laload, 1) := by decide +kernel
theorem dXL_law_464 : decode cXL_law 464 = .ok (.iload 6, 2) := by decide +kernel
theorem dXL_law_466 : decode cXL_law 466 = .ok (.i2l, 1) := by decide +kernel
theorem dXL_law_467 : decode cXL_law 467 = .ok (.lcmp, 1) := by decide +kernel
theorem dXL_law_468 : decode cXL_law 468 = .ok (.ifCond .eq 5, 3) := by decide +kernel
theorem dXL_law_471 : decode cXL_law 471 = .ok (.iconst 0, 1) := by decide +kernel
theorem dXL_law_472 : decode cXL_law 472 = .ok (.ireturn, 1) := by decide +kernel
theorem dXL_law_473 : decode cXL_law 473 = .ok (.goto 514, 3) := by decide +kernel
theorem dXL_law_476 : decode cXL_law 476 = .ok (.aload_n 1, 1) := by decide +kernel
theorem dXL_law_477 : decode cXL_law 477 = .ok (.aload_n 0, 1) := by decide +kernel
theorem dXL_law_478 : decode cXL_law 478 = .ok (.iload 4, 2) := by decide +kernel
theorem dXL_law_480 : decode cXL_law 480 = .ok (.iconst 1, 1) := by decide +kernel
theorem dXL_law_481 : decode cXL_law 481 = .ok (.iadd, 1) := by decide +kernel
theorem dXL_law_482 : decode cXL_law 482 = .ok (.iaload, 1) := by decide +kernel
theorem dXL_law_483 : decode cXL_law 483 = .ok (.aload_n 0, 1) := by decide +kernel
theorem dXL_law_484 : decode cXL_law 484 = .ok (.iload 4, 2) := by decide +kernel
theorem dXL_law_486 : decode cXL_law 486 = .ok (.iconst 2, 1) := by decide +kernel
theorem dXL_law_487 : decode cXL_law 487 = .ok (.iadd, 1) := by decide +kernel
theorem dXL_law_488 : decode cXL_law 488 = .ok (.iaload, 1) := by decide +kernel
theorem dXL_law_489 : decode cXL_law 489 = .ok (.aload_n 3, 1) := by decide +kernel
theorem dXL_law_490 : decode cXL_law 490 = .ok (.invokestatic 96, 3) := by decide +kernel
theorem dXL_law_493 : decode cXL_law 493 = .ok (.istore 5, 2) := by decide +kernel
theorem dXL_law_495 : decode cXL_law 495 = .ok (.aload_n 2, 1) := by decide +kernel
theorem dXL_law_496 : decode cXL_law 496 = .ok (.aload_n 0, 1) := by decide +kernel
theorem dXL_law_497 : decode cXL_law 497 = .ok (.iload 4, 2) := by decide +kernel
theorem dXL_law_499 : decode cXL_law 499 = .ok (.iconst 1, 1) := by decide +kernel
theorem dXL_law_500 : decode cXL_law 500 = .ok (.iadd, 1) := by decide +kernel
theorem dXL_law_501 : decode cXL_law 501 = .ok (.iaload, 1) := by decide +kernel
theorem dXL_law_502 : decode cXL_law 502 = .ok (.aload_n 0, 1) := by decide +kernel
theorem dXL_law_503 : decode cXL_law 503 = .ok (.iload 4, 2) := by decide +kernel
theorem dXL_law_505 : decode cXL_law 505 = .ok (.iconst 2, 1) := by decide +kernel
theorem dXL_law_506 : decode cXL_law 506 = .ok (.iadd, 1) := by decide +kernel
theorem dXL_law_507 : decode cXL_law 507 = .ok (.iaload, 1) := by decide +kernel
theorem dXL_law_508 : decode cXL_law 508 = .ok (.invokevirtual 98, 3) := by decide +kernel
theorem dXL_law_511 : decode cXL_law 511 = .ok (.istore 6, 2) := by decide +kernel
theorem dXL_law_513 : decode cXL_law 513 = .ok (.aload_n 2, 1) := by decide +kernel
theorem dXL_law_514 : decode cXL_law 514 = .ok (.invokevirtual 76, 3) := by decide +kernel
theorem dXL_law_517 : decode cXL_law 517 = .ok (.iload 5, 2) := by decide +kernel
theorem dXL_law_519 : decode cXL_law 519 = .ok (.if_icmp .eq 5, 3) := by decide +kernel
theorem dXL_law_522 : decode cXL_law 522 = .ok (.iconst 0, 1) := by decide +kernel
theorem dXL_law_523 : decode cXL_law 523 = .ok (.ireturn, 1) := by decide +kernel
theorem dXL_law_524 : decode cXL_law 524 = .ok (.iload 5, 2) := by decide +kernel
theorem dXL_law_526 : decode cXL_law 526 = .ok (.ifCond .ne 15, 3) := by decide +kernel
theorem dXL_law_529 : decode cXL_law 529 = .ok (.aload_n 3, 1) := by decide +kernel
theorem dXL_law_530 : decode cXL_law 530 = .ok (.iconst 0, 1) := by decide +kernel
theorem dXL_law_531 : decode cXL_law 531 = .ok (.laload, 1) := by decide +kernel
theorem dXL_law_532 : decode cXL_law 532 = .ok (.iload 6, 2) := by decide +kernel
theorem dXL_law_534 : decode cXL_law 534 = .ok (.i2l, 1) := by decide +kernel
theorem dXL_law_535 : decode cXL_law 535 = .ok (.lcmp, 1) := by decide +kernel
theorem dXL_law_536 : decode cXL_law 536 = .ok (.ifCond .eq 5, 3) := by decide +kernel
theorem dXL_law_539 : decode cXL_law 539 = .ok (.iconst 0, 1) := by decide +kernel
theorem dXL_law_540 : decode cXL_law 540 = .ok (.ireturn, 1) := by decide +kernel
theorem dXL_law_541 : decode cXL_law 541 = .ok (.goto 446, 3) := by decide +kernel
theorem dXL_law_544 : decode cXL_law 544 = .ok (.aload_n 1, 1) := by decide +kernel
theorem dXL_law_545 : decode cXL_law 545 = .ok (.aload_n 0, 1) := by decide +kernel
theorem dXL_law_546 : decode cXL_law 546 = .ok (.iload 4, 2) := by decide +kernel
theorem dXL_law_548 : decode cXL_law 548 = .ok (.iconst 1, 1) := by decide +kernel
theorem dXL_law_549 : decode cXL_law 549 = .ok (.iadd, 1) := by decide +kernel
theorem dXL_law_550 : decode cXL_law 550 = .ok (.iaload, 1) := by decide +kernel
theorem dXL_law_551 : decode cXL_law 551 = .ok (.aload_n 0, 1) := by decide +kernel
theorem dXL_law_552 : decode cXL_law 552 = .ok (.iload 4, 2) := by decide +kernel
theorem dXL_law_554 : decode cXL_law 554 = .ok (.iconst 2, 1) := by decide +kernel
theorem dXL_law_555 : decode cXL_law 555 = .ok (.iadd, 1) := by decide +kernel
theorem dXL_law_556 : decode cXL_law 556 = .ok (.iaload, 1) := by decide +kernel
theorem dXL_law_557 : decode cXL_law 557 = .ok (.aload_n 0, 1) := by decide +kernel
theorem dXL_law_558 : decode cXL_law 558 = .ok (.iload 4, 2) := by decide +kernel
theorem dXL_law_560 : decode cXL_law 560 = .ok (.iconst 3, 1) := by decide +kernel
theorem dXL_law_561 : decode cXL_law 561 = .ok (.iadd, 1) := by decide +kernel
theorem dXL_law_562 : decode cXL_law 562 = .ok (.iaload, 1) := by decide +kernel
theorem dXL_law_563 : decode cXL_law 563 = .ok (.aload_n 3, 1) := by decide +kernel
theorem dXL_law_564 : decode cXL_law 564 = .ok (.invokestatic 99, 3) := by decide +kernel
theorem dXL_law_567 : decode cXL_law 567 = .ok (.istore 5, 2) := by decide +kernel
theorem dXL_law_569 : decode cXL_law 569 = .ok (.aload_n 2, 1) := by decide +kernel
theorem dXL_law_570 : decode cXL_law 570 = .ok (.aload_n 0, 1) := by decide +kernel
theorem dXL_law_571 : decode cXL_law 571 = .ok (.iload 4, 2) := by decide +kernel
theorem dXL_law_573 : decode cXL_law 573 = .ok (.iconst 1, 1) := by decide +kernel
theorem dXL_law_574 : decode cXL_law 574 = .ok (.iadd, 1) := by decide +kernel
theorem dXL_law_575 : decode cXL_law 575 = .ok (.iaload, 1) := by decide +kernel
theorem dXL_law_576 : decode cXL_law 576 = .ok (.aload_n 0, 1) := by decide +kernel
theorem dXL_law_577 : decode cXL_law 577 = .ok (.iload 4, 2) := by decide +kernel
theorem dXL_law_579 : decode cXL_law 579 = .ok (.iconst 2, 1) := by decide +kernel
theorem dXL_law_580 : decode cXL_law 580 = .ok (.iadd, 1) := by decide +kernel
theorem dXL_law_581 : decode cXL_law 581 = .ok (.iaload, 1) := by decide +kernel
theorem dXL_law_582 : decode cXL_law 582 = .ok (.aload_n 0, 1) := by decide +kernel
theorem dXL_law_583 : decode cXL_law 583 = .ok (.iload 4, 2) := by decide +kernel
theorem dXL_law_585 : decode cXL_law 585 = .ok (.iconst 3, 1) := by decide +kernel
theorem dXL_law_586 : decode cXL_law 586 = .ok (.iadd, 1) := by decide +kernel
theorem dXL_law_587 : decode cXL_law 587 = .ok (.iaload, 1) := by decide +kernel
theorem dXL_law_588 : decode cXL_law 588 = .ok (.invokevirtual 102, 3) := by decide +kernel
theorem dXL_law_591 : decode cXL_law 591 = .ok (.istore 6, 2) := by decide +kernel
theorem dXL_law_593 : decode cXL_law 593 = .ok (.aload_n 2, 1) := by decide +kernel
theorem dXL_law_594 : decode cXL_law 594 = .ok (.invokevirtual 76, 3) := by decide +kernel
theorem dXL_law_597 : decode cXL_law 597 = .ok (.iload 5, 2) := by decide +kernel
theorem dXL_law_599 : decode cXL_law 599 = .ok (.if_icmp .eq 5, 3) := by decide +kernel
theorem dXL_law_602 : decode cXL_law 602 = .ok (.iconst 0, 1) := by decide +kernel
theorem dXL_law_603 : decode cXL_law 603 = .ok (.ireturn, 1) := by decide +kernel
theorem dXL_law_604 : decode cXL_law 604 = .ok (.iload 5, 2) := by decide +kernel
theorem dXL_law_606 : decode cXL_law 606 = .ok (.ifCond .ne 15, 3) := by decide +kernel
theorem dXL_law_609 : decode cXL_law 609 = .ok (.aload_n 3, 1) := by decide +kernel
theorem dXL_law_610 : decode cXL_law 610 = .ok (.iconst 0, 1) := by decide +kernel
theorem dXL_law_611 : decode cXL_law 611 = .ok (.laload, 1) := by decide +kernel
theorem dXL_law_612 : decode cXL_law 612 = .ok (.iload 6, 2) := by decide +kernel
theorem dXL_law_614 : decode cXL_law 614 = .ok (.i2l, 1) := by decide +kernel
theorem dXL_law_615 : decode cXL_law 615 = .ok (.lcmp, 1) := by decide +kernel
theorem dXL_law_616 : decode cXL_law 616 = .ok (.ifCond .eq 5, 3) := by decide +kernel
theorem dXL_law_619 : decode cXL_law 619 = .ok (.iconst 0, 1) := by decide +kernel
theorem dXL_law_620 : decode cXL_law 620 = .ok (.ireturn, 1) := by decide +kernel
theorem dXL_law_621 : decode cXL_law 621 = .ok (.goto 366, 3) := by decide +kernel
theorem dXL_law_624 : decode cXL_law 624 = .ok (.aload_n 1, 1) := by decide +kernel
theorem dXL_law_625 : decode cXL_law 625 = .ok (.aload_n 3, 1) := by decide +kernel
theorem dXL_law_626 : decode cXL_law 626 = .ok (.invokestatic 103, 3) := by decide +kernel
theorem dXL_law_629 : decode cXL_law 629 = .ok (.istore 5, 2) := by decide +kernel
theorem dXL_law_631 : decode cXL_law 631 = .ok (.aload_n 2, 1) := by decide +kernel
theorem dXL_law_632 : decode cXL_law 632 = .ok (.invokevirtual 105, 3) := by decide +kernel
theorem dXL_law_635 : decode cXL_law 635 = .ok (.istore 6, 2) := by decide +kernel
theorem dXL_law_637 : decode cXL_law 637 = .ok (.aload_n 2, 1) := by decide +kernel
theorem dXL_law_638 : decode cXL_law 638 = .ok (.invokevirtual 76, 3) := by decide +kernel
theorem dXL_law_641 : decode cXL_law 641 = .ok (.iload 5, 2) := by decide +kernel
theorem dXL_law_643 : decode cXL_law 643 = .ok (.if_icmp .eq 5, 3) := by decide +kernel
theorem dXL_law_646 : decode cXL_law 646 = .ok (.iconst 0, 1) := by decide +kernel
theorem dXL_law_647 : decode cXL_law 647 = .ok (.ireturn, 1) := by decide +kernel
theorem dXL_law_648 : decode cXL_law 648 = .ok (.iload 5, 2) := by decide +kernel
theorem dXL_law_650 : decode cXL_law 650 = .ok (.ifCond .ne 15, 3) := by decide +kernel
theorem dXL_law_653 : decode cXL_law 653 = .ok (.aload_n 3, 1) := by decide +kernel
theorem dXL_law_654 : decode cXL_law 654 = .ok (.iconst 0, 1) := by decide +kernel
theorem dXL_law_655 : decode cXL_law 655 = .ok (.laload, 1) := by decide +kernel
theorem dXL_law_656 : decode cXL_law 656 = .ok (.iload 6, 2) := by decide +kernel
theorem dXL_law_658 : decode cXL_law 658 = .ok (.i2l, 1) := by decide +kernel
theorem dXL_law_659 : decode cXL_law 659 = .ok (.lcmp, 1) := by decide +kernel
theorem dXL_law_660 : decode cXL_law 660 = .ok (.ifCond .eq 5, 3) := by decide +kernel
theorem dXL_law_663 : decode cXL_law 663 = .ok (.iconst 0, 1) := by decide +kernel
theorem dXL_law_664 : decode cXL_law 664 = .ok (.ireturn, 1) := by decide +kernel
theorem dXL_law_665 : decode cXL_law 665 = .ok (.goto 322, 3) := by decide +kernel
theorem dXL_law_668 : decode cXL_law 668 = .ok (.aload_n 1, 1) := by decide +kernel
theorem dXL_law_669 : decode cXL_law 669 = .ok (.aload_n 3, 1) := by decide +kernel
theorem dXL_law_670 : decode cXL_law 670 = .ok (.invokestatic 106, 3) := by decide +kernel
theorem dXL_law_673 : decode cXL_law 673 = .ok (.istore 5, 2) := by decide +kernel
theorem dXL_law_675 : decode cXL_law 675 = .ok (.aload_n 2, 1) := by decide +kernel
theorem dXL_law_676 : decode cXL_law 676 = .ok (.invokevirtual 108, 3) := by decide +kernel
theorem dXL_law_679 : decode cXL_law 679 = .ok (.istore 6, 2) := by decide +kernel
theorem dXL_law_681 : decode cXL_law 681 = .ok (.aload_n 2, 1) := by decide +kernel
theorem dXL_law_682 : decode cXL_law 682 = .ok (.invokevirtual 76, 3) := by decide +kernel
theorem dXL_law_685 : decode cXL_law 685 = .ok (.iload 5, 2) := by decide +kernel
theorem dXL_law_687 : decode cXL_law 687 = .ok (.if_icmp .eq 5, 3) := by decide +kernel
theorem dXL_law_690 : decode cXL_law 690 = .ok (.iconst 0, 1) := by decide +kernel
theorem dXL_law_691 : decode cXL_law 691 = .ok (.ireturn, 1) := by decide +kernel
theorem dXL_law_692 : decode cXL_law 692 = .ok (.iload 5, 2) := by decide +kernel
theorem dXL_law_694 : decode cXL_law 694 = .ok (.ifCond .ne 22, 3) := by decide +kernel
theorem dXL_law_697 : decode cXL_law 697 = .ok (.aload_n 3, 1) := by decide +kernel
theorem dXL_law_698 : decode cXL_law 698 = .ok (.iconst 0, 1) := by decide +kernel
theorem dXL_law_699 : decode cXL_law 699 = .ok (.laload, 1) := by decide +kernel
theorem dXL_law_700 : decode cXL_law 700 = .ok (.iload 6, 2) := by decide +kernel
theorem dXL_law_702 : decode cXL_law 702 = .ok (.ifCond .eq 7, 3) := by decide +kernel
theorem dXL_law_705 : decode cXL_law 705 = .ok (.lconst 1, 1) := by decide +kernel
theorem dXL_law_706 : decode cXL_law 706 = .ok (.goto 4, 3) := by decide +kernel
theorem dXL_law_709 : decode cXL_law 709 = .ok (.lconst 0, 1) := by decide +kernel
theorem dXL_law_710 : decode cXL_law 710 = .ok (.lcmp, 1) := by decide +kernel
theorem dXL_law_711 : decode cXL_law 711 = .ok (.ifCond .eq 5, 3) := by decide +kernel
theorem dXL_law_714 : decode cXL_law 714 = .ok (.iconst 0, 1) := by decide +kernel
theorem dXL_law_715 : decode cXL_law 715 = .ok (.ireturn, 1) := by decide +kernel
theorem dXL_law_716 : decode cXL_law 716 = .ok (.goto 271, 3) := by decide +kernel
theorem dXL_law_719 : decode cXL_law 719 = .ok (.aload_n 1, 1) := by decide +kernel
theorem dXL_law_720 : decode cXL_law 720 = .ok (.aload_n 0, 1) := by decide +kernel
theorem dXL_law_721 : decode cXL_law 721 = .ok (.iload 4, 2) := by decide +kernel
theorem dXL_law_723 : decode cXL_law 723 = .ok (.iconst 1, 1) := by decide +kernel
theorem dXL_law_724 : decode cXL_law 724 = .ok (.iadd, 1) := by decide +kernel
theorem dXL_law_725 : decode cXL_law 725 = .ok (.iaload, 1) := by decide +kernel
theorem dXL_law_726 : decode cXL_law 726 = .ok (.aload_n 3, 1) := by decide +kernel
theorem dXL_law_727 : decode cXL_law 727 = .ok (.invokestatic 109, 3) := by decide +kernel
theorem dXL_law_730 : decode cXL_law 730 = .ok (.istore 5, 2) := by decide +kernel
theorem dXL_law_732 : decode cXL_law 732 = .ok (.aload_n 2, 1) := by decide +kernel
theorem dXL_law_733 : decode cXL_law 733 = .ok (.aload_n 0, 1) := by decide +kernel
theorem dXL_law_734 : decode cXL_law 734 = .ok (.iload 4, 2) := by decide +kernel
theorem dXL_law_736 : decode cXL_law 736 = .ok (.iconst 1, 1) := by decide +kernel
theorem dXL_law_737 : decode cXL_law 737 = .ok (.iadd, 1) := by decide +kernel
theorem dXL_law_738 : decode cXL_law 738 = .ok (.iaload, 1) := by decide +kernel
theorem dXL_law_739 : decode cXL_law 739 = .ok (.invokevirtual 111, 3) := by decide +kernel
theorem dXL_law_742 : decode cXL_law 742 = .ok (.istore 6, 2) := by decide +kernel
theorem dXL_law_744 : decode cXL_law 744 = .ok (.aload_n 2, 1) := by decide +kernel
theorem dXL_law_745 : decode cXL_law 745 = .ok (.invokevirtual 76, 3) := by decide +kernel
theorem dXL_law_748 : decode cXL_law 748 = .ok (.iload 5, 2) := by decide +kernel
theorem dXL_law_750 : decode cXL_law 750 = .ok (.if_icmp .eq 5, 3) := by decide +kernel
theorem dXL_law_753 : decode cXL_law 753 = .ok (.iconst 0, 1) := by decide +kernel
theorem dXL_law_754 : decode cXL_law 754 = .ok (.ireturn, 1) := by decide +kernel
theorem dXL_law_755 : decode cXL_law 755 = .ok (.iload 5, 2) := by decide +kernel
theorem dXL_law_757 : decode cXL_law 757 = .ok (.ifCond .ne 15, 3) := by decide +kernel
theorem dXL_law_760 : decode cXL_law 760 = .ok (.aload_n 3, 1) := by decide +kernel
theorem dXL_law_761 : decode cXL_law 761 = .ok (.iconst 0, 1) := by decide +kernel
theorem dXL_law_762 : decode cXL_law 762 = .ok (.laload, 1) := by decide +kernel
theorem dXL_law_763 : decode cXL_law 763 = .ok (.iload 6, 2) := by decide +kernel
theorem dXL_law_765 : decode cXL_law 765 = .ok (.i2l, 1) := by decide +kernel
theorem dXL_law_766 : decode cXL_law 766 = .ok (.lcmp, 1) := by decide +kernel
theorem dXL_law_767 : decode cXL_law 767 = .ok (.ifCond .eq 5, 3) := by decide +kernel
theorem dXL_law_770 : decode cXL_law 770 = .ok (.iconst 0, 1) := by decide +kernel
theorem dXL_law_771 : decode cXL_law 771 = .ok (.ireturn, 1) := by decide +kernel
theorem dXL_law_772 : decode cXL_law 772 = .ok (.goto 215, 3) := by decide +kernel
theorem dXL_law_775 : decode cXL_law 775 = .ok (.aload_n 1, 1) := by decide +kernel
theorem dXL_law_776 : decode cXL_law 776 = .ok (.aload_n 0, 1) := by decide +kernel
theorem dXL_law_777 : decode cXL_law 777 = .ok (.iload 4, 2) := by decide +kernel
theorem dXL_law_779 : decode cXL_law 779 = .ok (.iconst 1, 1) := by decide +kernel
theorem dXL_law_780 : decode cXL_law 780 = .ok (.iadd, 1) := by decide +kernel
theorem dXL_law_781 : decode cXL_law 781 = .ok (.iaload, 1) := by decide +kernel
theorem dXL_law_782 : decode cXL_law 782 = .ok (.aload_n 3, 1) := by decide +kernel
theorem dXL_law_783 : decode cXL_law 783 = .ok (.invokestatic 112, 3) := by decide +kernel
theorem dXL_law_786 : decode cXL_law 786 = .ok (.istore 5, 2) := by decide +kernel
theorem dXL_law_788 : decode cXL_law 788 = .ok (.aload_n 2, 1) := by decide +kernel
theorem dXL_law_789 : decode cXL_law 789 = .ok (.aload_n 0, 1) := by decide +kernel
theorem dXL_law_790 : decode cXL_law 790 = .ok (.iload 4, 2) := by decide +kernel
theorem dXL_law_792 : decode cXL_law 792 = .ok (.iconst 1, 1) := by decide +kernel
theorem dXL_law_793 : decode cXL_law 793 = .ok (.iadd, 1) := by decide +kernel
theorem dXL_law_794 : decode cXL_law 794 = .ok (.iaload, 1) := by decide +kernel
theorem dXL_law_795 : decode cXL_law 795 = .ok (.invokevirtual 114, 3) := by decide +kernel
theorem dXL_law_798 : decode cXL_law 798 = .ok (.istore 6, 2) := by decide +kernel
theorem dXL_law_800 : decode cXL_law 800 = .ok (.aload_n 2, 1) := by decide +kernel
theorem dXL_law_801 : decode cXL_law 801 = .ok (.invokevirtual 76, 3) := by decide +kernel
theorem dXL_law_804 : decode cXL_law 804 = .ok (.iload 5, 2) := by decide +kernel
theorem dXL_law_806 : decode cXL_law 806 = .ok (.if_icmp .eq 5, 3) := by decide +kernel
theorem dXL_law_809 : decode cXL_law 809 = .ok (.iconst 0, 1) := by decide +kernel
theorem dXL_law_810 : decode cXL_law 810 = .ok (.ireturn, 1) := by decide +kernel
theorem dXL_law_811 : decode cXL_law 811 = .ok (.iload 5, 2) := by decide +kernel
theorem dXL_law_813 : decode cXL_law 813 = .ok (.ifCond .ne 15, 3) := by decide +kernel
theorem dXL_law_816 : decode cXL_law 816 = .ok (.aload_n 3, 1) := by decide +kernel
theorem dXL_law_817 : decode cXL_law 817 = .ok (.iconst 0, 1) := by decide +kernel
theorem dXL_law_818 : decode cXL_law 818 = .ok (.laload, 1) := by decide +kernel
theorem dXL_law_819 : decode cXL_law 819 = .ok (.iload 6, 2) := by decide +kernel
theorem dXL_law_821 : decode cXL_law 821 = .ok (.i2l, 1) := by decide +kernel
theorem dXL_law_822 : decode cXL_law 822 = .ok (.lcmp, 1) := by decide +kernel
theorem dXL_law_823 : decode cXL_law 823 = .ok (.ifCond .eq 5, 3) := by decide +kernel
theorem dXL_law_826 : decode cXL_law 826 = .ok (.iconst 0, 1) := by decide +kernel
theorem dXL_law_827 : decode cXL_law 827 = .ok (.ireturn, 1) := by decide +kernel
theorem dXL_law_828 : decode cXL_law 828 = .ok (.goto 159, 3) := by decide +kernel
theorem dXL_law_831 : decode cXL_law 831 = .ok (.aload_n 1, 1) := by decide +kernel
theorem dXL_law_832 : decode cXL_law 832 = .ok (.invokestatic 115, 3) := by decide +kernel
theorem dXL_law_835 : decode cXL_law 835 = .ok (.istore 5, 2) := by decide +kernel
theorem dXL_law_837 : decode cXL_law 837 = .ok (.aload_n 2, 1) := by decide +kernel
theorem dXL_law_838 : decode cXL_law 838 = .ok (.invokevirtual 118, 3) := by decide +kernel
theorem dXL_law_841 : decode cXL_law 841 = .ok (.aload_n 2, 1) := by decide +kernel
theorem dXL_law_842 : decode cXL_law 842 = .ok (.invokevirtual 76, 3) := by decide +kernel
theorem dXL_law_845 : decode cXL_law 845 = .ok (.iload 5, 2) := by decide +kernel
theorem dXL_law_847 : decode cXL_law 847 = .ok (.if_icmp .eq 5, 3) := by decide +kernel
theorem dXL_law_850 : decode cXL_law 850 = .ok (.iconst 0, 1) := by decide +kernel
theorem dXL_law_851 : decode cXL_law 851 = .ok (.ireturn, 1) := by decide +kernel
theorem dXL_law_852 : decode cXL_law 852 = .ok (.goto 135, 3) := by decide +kernel
theorem dXL_law_855 : decode cXL_law 855 = .ok (.aload_n 1, 1) := by decide +kernel
theorem dXL_law_856 : decode cXL_law 856 = .ok (.aload_n 3, 1) := by decide +kernel
theorem dXL_law_857 : decode cXL_law 857 = .ok (.invokestatic 119, 3) := by decide +kernel
theorem dXL_law_860 : decode cXL_law 860 = .ok (.istore 5, 2) := by decide +kernel
theorem dXL_law_862 : decode cXL_law 862 = .ok (.aload_n 2, 1) := by decide +kernel
theorem dXL_law_863 : decode cXL_law 863 = .ok (.invokevirtual 121, 3) := by decide +kernel
theorem dXL_law_866 : decode cXL_law 866 = .ok (.istore 6, 2) := by decide +kernel
theorem dXL_law_868 : decode cXL_law 868 = .ok (.aload_n 2, 1) := by decide +kernel
theorem dXL_law_869 : decode cXL_law 869 = .ok (.invokevirtual 76, 3) := by decide +kernel
theorem dXL_law_872 : decode cXL_law 872 = .ok (.iload 5, 2) := by decide +kernel
theorem dXL_law_874 : decode cXL_law 874 = .ok (.if_icmp .eq 5, 3) := by decide +kernel
theorem dXL_law_877 : decode cXL_law 877 = .ok (.iconst 0, 1) := by decide +kernel
theorem dXL_law_878 : decode cXL_law 878 = .ok (.ireturn, 1) := by decide +kernel
theorem dXL_law_879 : decode cXL_law 879 = .ok (.iload 5, 2) := by decide +kernel
theorem dXL_law_881 : decode cXL_law 881 = .ok (.ifCond .ne 15, 3) := by decide +kernel
theorem dXL_law_884 : decode cXL_law 884 = .ok (.aload_n 3, 1) := by decide +kernel
theorem dXL_law_885 : decode cXL_law 885 = .ok (.iconst 0, 1) := by decide +kernel
theorem dXL_law_886 : decode cXL_law 886 = .ok (.laload, 1) := by decide +kernel
theorem dXL_law_887 : decode cXL_law 887 = .ok (.iload 6, 2) := by decide +kernel
theorem dXL_law_889 : decode cXL_law 889 = .ok (.i2l, 1) := by decide +kernel
theorem dXL_law_890 : decode cXL_law 890 = .ok (.lcmp, 1) := by decide +kernel
theorem dXL_law_891 : decode cXL_law 891 = .ok (.ifCond .eq 5, 3) := by decide +kernel
theorem dXL_law_894 : decode cXL_law 894 = .ok (.iconst 0, 1) := by decide +kernel
theorem dXL_law_895 : decode cXL_law 895 = .ok (.ireturn, 1) := by decide +kernel
theorem dXL_law_896 : decode cXL_law 896 = .ok (.goto 91, 3) := by decide +kernel
theorem dXL_law_899 : decode cXL_law 899 = .ok (.aload_n 1, 1) := by decide +kernel
theorem dXL_law_900 : decode cXL_law 900 = .ok (.aload_n 0, 1) := by decide +kernel
theorem dXL_law_901 : decode cXL_law 901 = .ok (.iload 4, 2) := by decide +kernel
theorem dXL_law_903 : decode cXL_law 903 = .ok (.iconst 1, 1) := by decide +kernel
theorem dXL_law_904 : decode cXL_law 904 = .ok (.iadd, 1) := by decide +kernel
theorem dXL_law_905 : decode cXL_law 905 = .ok (.iaload, 1) := by decide +kernel
theorem dXL_law_906 : decode cXL_law 906 = .ok (.invokestatic 122, 3) := by decide +kernel
theorem dXL_law_909 : decode cXL_law 909 = .ok (.istore 5, 2) := by decide +kernel
theorem dXL_law_911 : decode cXL_law 911 = .ok (.aload_n 2, 1) := by decide +kernel
theorem dXL_law_912 : decode cXL_law 912 = .ok (.aload_n 0, 1) := by decide +kernel
theorem dXL_law_913 : decode cXL_law 913 = .ok (.iload 4, 2) := by decide +kernel
theorem dXL_law_915 : decode cXL_law 915 = .ok (.iconst 1, 1) := by decide +kernel
theorem dXL_law_916 : decode cXL_law 916 = .ok (.iadd, 1) := by decide +kernel
theorem dXL_law_917 : decode cXL_law 917 = .ok (.iaload, 1) := by decide +kernel
theorem dXL_law_918 : decode cXL_law 918 = .ok (.invokevirtual 125, 3) := by decide +kernel
theorem dXL_law_921 : decode cXL_law 921 = .ok (.aload_n 2, 1) := by decide +kernel
theorem dXL_law_922 : decode cXL_law 922 = .ok (.invokevirtual 76, 3) := by decide +kernel
theorem dXL_law_925 : decode cXL_law 925 = .ok (.iload 5, 2) := by decide +kernel
theorem dXL_law_927 : decode cXL_law 927 = .ok (.if_icmp .eq 5, 3) := by decide +kernel
theorem dXL_law_930 : decode cXL_law 930 = .ok (.iconst 0, 1) := by decide +kernel
theorem dXL_law_931 : decode cXL_law 931 = .ok (.ireturn, 1) := by decide +kernel
theorem dXL_law_932 : decode cXL_law 932 = .ok (.goto 55, 3) := by decide +kernel
theorem dXL_law_935 : decode cXL_law 935 = .ok (.aload_n 1, 1) := by decide +kernel
theorem dXL_law_936 : decode cXL_law 936 = .ok (.invokevirtual 126, 3) := by decide +kernel
theorem dXL_law_939 : decode cXL_law 939 = .ok (.aload_n 2, 1) := by decide +kernel
theorem dXL_law_940 : decode cXL_law 940 = .ok (.invokevirtual 129, 3) := by decide +kernel
theorem dXL_law_943 : decode cXL_law 943 = .ok (.if_icmp .eq 44, 3) := by decide +kernel
theorem dXL_law_946 : decode cXL_law 946 = .ok (.iconst 0, 1) := by decide +kernel
theorem dXL_law_947 : decode cXL_law 947 = .ok (.ireturn, 1) := by decide +kernel
theorem dXL_law_948 : decode cXL_law 948 = .ok (.aload_n 1, 1) := by decide +kernel
theorem dXL_law_949 : decode cXL_law 949 = .ok (.invokevirtual 130, 3) := by decide +kernel
theorem dXL_law_952 : decode cXL_law 952 = .ok (.aload_n 2, 1) := by decide +kernel
theorem dXL_law_953 : decode cXL_law 953 = .ok (.invokevirtual 133, 3) := by decide +kernel
theorem dXL_law_956 : decode cXL_law 956 = .ok (.if_icmp .eq 31, 3) := by decide +kernel
theorem dXL_law_959 : decode cXL_law 959 = .ok (.iconst 0, 1) := by decide +kernel
theorem dXL_law_960 : decode cXL_law 960 = .ok (.ireturn, 1) := by decide +kernel
theorem dXL_law_961 : decode cXL_law 961 = .ok (.aload_n 1, 1) := by decide +kernel
theorem dXL_law_962 : decode cXL_law 962 = .ok (.invokevirtual 134, 3) := by decide +kernel
theorem dXL_law_965 : decode cXL_law 965 = .ok (.aload_n 2, 1) := by decide +kernel
theorem dXL_law_966 : decode cXL_law 966 = .ok (.invokevirtual 137, 3) := by decide +kernel
theorem dXL_law_969 : decode cXL_law 969 = .ok (.if_icmp .eq 18, 3) := by decide +kernel
theorem dXL_law_972 : decode cXL_law 972 = .ok (.iconst 0, 1) := by decide +kernel
theorem dXL_law_973 : decode cXL_law 973 = .ok (.ireturn, 1) := by decide +kernel
theorem dXL_law_974 : decode cXL_law 974 = .ok (.aload_n 1, 1) := by decide +kernel
theorem dXL_law_975 : decode cXL_law 975 = .ok (.invokevirtual 138, 3) := by decide +kernel
theorem dXL_law_978 : decode cXL_law 978 = .ok (.aload_n 2, 1) := by decide +kernel
theorem dXL_law_979 : decode cXL_law 979 = .ok (.invokevirtual 141, 3) := by decide +kernel
theorem dXL_law_982 : decode cXL_law 982 = .ok (.if_icmp .eq 5, 3) := by decide +kernel
theorem dXL_law_985 : decode cXL_law 985 = .ok (.iconst 0, 1) := by decide +kernel
theorem dXL_law_986 : decode cXL_law 986 = .ok (.ireturn, 1) := by decide +kernel
theorem dXL_law_987 : decode cXL_law 987 = .ok (.iinc 4 4, 3) := by decide +kernel
theorem dXL_law_990 : decode cXL_law 990 = .ok (.goto (-967), 3) := by decide +kernel
theorem dXL_law_993 : decode cXL_law 993 = .ok (.iconst 1, 1) := by decide +kernel
theorem dXL_law_994 : decode cXL_law 994 = .ok (.ireturn, 1) := by decide +kernel
theorem wd_235 : Cond.codeWith yXL_feed cXL_feed 4 (some .int) [(0, 9, 12, 13)] ∈ sbT := sb_in 235 (by decide +kernel) rfl
theorem wd_233 : Cond.methodLink RXL 70 yXL_feed ∈ sbT := sb_in 233 (by decide +kernel) rfl
theorem wd_234 : Cond.static yXL_feed ∈ sbT := sb_in 234 (by decide +kernel) rfl
theorem wd_0 : Cond.initialized RXL ∈ sbT := sb_in 0 (by decide +kernel) rfl
theorem wd_603 : Cond.methodLink RXL 75 yXM_feed ∈ sbT := sb_in 603 (by decide +kernel) rfl
theorem wd_604 : Cond.instanceMethod yXM_feed ∈ sbT := sb_in 604 (by decide +kernel) rfl
theorem wd_605 : Cond.selects RXM yXM_feed yXM_feed ∈ sbT := sb_in 605 (by decide +kernel) rfl
theorem wd_606 : Cond.code yXM_feed cXM_feed 2 (some .int) ∈ sbT := sb_in 606 (by decide +kernel) rfl
theorem wd_599 : Cond.methodLink RXL 76 yXM_thrown ∈ sbT := sb_in 599 (by decide +kernel) rfl
theorem wd_600 : Cond.instanceMethod yXM_thrown ∈ sbT := sb_in 600 (by decide +kernel) rfl
theorem wd_601 : Cond.selects RXM yXM_thrown yXM_thrown ∈ sbT := sb_in 601 (by decide +kernel) rfl
theorem wd_602 : Cond.code yXM_thrown cXM_thrown 1 (some .int) ∈ sbT := sb_in 602 (by decide +kernel) rfl
theorem wd_316 : Cond.codeWith yXL_drop cXL_drop 3 (some .int) [(0, 8, 11, 13)] ∈ sbT := sb_in 316 (by decide +kernel) rfl
theorem wd_314 : Cond.methodLink RXL 79 yXL_drop ∈ sbT := sb_in 314 (by decide +kernel) rfl
theorem wd_315 : Cond.static yXL_drop ∈ sbT := sb_in 315 (by decide +kernel) rfl
theorem wd_611 : Cond.methodLink RXL 82 yXM_drop ∈ sbT := sb_in 611 (by decide +kernel) rfl
theorem wd_612 : Cond.instanceMethod yXM_drop ∈ sbT := sb_in 612 (by decide +kernel) rfl
theorem wd_613 : Cond.selects RXM yXM_drop yXM_drop ∈ sbT := sb_in 613 (by decide +kernel) rfl
theorem wd_614 : Cond.code yXM_drop cXM_drop 2 (some .int) ∈ sbT := sb_in 614 (by decide +kernel) rfl
theorem wd_323 : Cond.codeWith yXL_append cXL_append 4 (some .int) [(0, 9, 12, 13), (0, 9, 15, 22)] ∈ sbT := sb_in 323 (by decide +kernel) rfl
theorem wd_321 : Cond.methodLink RXL 83 yXL_append ∈ sbT := sb_in 321 (by decide +kernel) rfl
theorem wd_322 : Cond.static yXL_append ∈ sbT := sb_in 322 (by decide +kernel) rfl
theorem wd_615 : Cond.methodLink RXL 85 yXM_append ∈ sbT := sb_in 615 (by decide +kernel) rfl
theorem wd_616 : Cond.instanceMethod yXM_append ∈ sbT := sb_in 616 (by decide +kernel) rfl
theorem wd_617 : Cond.selects RXM yXM_append yXM_append ∈ sbT := sb_in 617 (by decide +kernel) rfl
theorem wd_618 : Cond.code yXM_append cXM_append 4 (some .int) ∈ sbT := sb_in 618 (by decide +kernel) rfl
theorem wd_391 : Cond.codeWith yXL_cut cXL_cut 5 (some .int) [(0, 10, 13, 13), (0, 10, 17, 22)] ∈ sbT := sb_in 391 (by decide +kernel) rfl
theorem wd_389 : Cond.methodLink RXL 86 yXL_cut ∈ sbT := sb_in 389 (by decide +kernel) rfl
theorem wd_390 : Cond.static yXL_cut ∈ sbT := sb_in 390 (by decide +kernel) rfl
theorem wd_670 : Cond.methodLink RXL 89 yXM_cut ∈ sbT := sb_in 670 (by decide +kernel) rfl
theorem wd_671 : Cond.instanceMethod yXM_cut ∈ sbT := sb_in 671 (by decide +kernel) rfl
theorem wd_672 : Cond.selects RXM yXM_cut yXM_cut ∈ sbT := sb_in 672 (by decide +kernel) rfl
theorem wd_673 : Cond.code yXM_cut cXM_cut 4 (some .int) ∈ sbT := sb_in 673 (by decide +kernel) rfl
theorem wd_412 : Cond.codeWith yXL_copy cXL_copy 5 (some .int) [(0, 10, 13, 13), (0, 10, 17, 22)] ∈ sbT := sb_in 412 (by decide +kernel) rfl
theorem wd_410 : Cond.methodLink RXL 90 yXL_copy ∈ sbT := sb_in 410 (by decide +kernel) rfl
theorem wd_411 : Cond.static yXL_copy ∈ sbT := sb_in 411 (by decide +kernel) rfl
theorem wd_686 : Cond.methodLink RXL 92 yXM_copy ∈ sbT := sb_in 686 (by decide +kernel) rfl
theorem wd_687 : Cond.instanceMethod yXM_copy ∈ sbT := sb_in 687 (by decide +kernel) rfl
theorem wd_688 : Cond.selects RXM yXM_copy yXM_copy ∈ sbT := sb_in 688 (by decide +kernel) rfl
theorem wd_689 : Cond.code yXM_copy cXM_copy 4 (some .int) ∈ sbT := sb_in 689 (by decide +kernel) rfl
theorem wd_419 : Cond.codeWith yXL_blocks cXL_blocks 4 (some .int) [(0, 9, 12, 13), (0, 9, 15, 22)] ∈ sbT := sb_in 419 (by decide +kernel) rfl
theorem wd_417 : Cond.methodLink RXL 93 yXL_blocks ∈ sbT := sb_in 417 (by decide +kernel) rfl
theorem wd_418 : Cond.static yXL_blocks ∈ sbT := sb_in 418 (by decide +kernel) rfl
theorem wd_690 : Cond.methodLink RXL 95 yXM_blocks ∈ sbT := sb_in 690 (by decide +kernel) rfl
theorem wd_691 : Cond.instanceMethod yXM_blocks ∈ sbT := sb_in 691 (by decide +kernel) rfl
theorem wd_692 : Cond.selects RXM yXM_blocks yXM_blocks ∈ sbT := sb_in 692 (by decide +kernel) rfl
theorem wd_693 : Cond.code yXM_blocks cXM_blocks 2 (some .int) ∈ sbT := sb_in 693 (by decide +kernel) rfl
theorem wd_426 : Cond.codeWith yXL_block cXL_block 5 (some .int) [(0, 10, 13, 13), (0, 10, 17, 22)] ∈ sbT := sb_in 426 (by decide +kernel) rfl
theorem wd_424 : Cond.methodLink RXL 96 yXL_block ∈ sbT := sb_in 424 (by decide +kernel) rfl
theorem wd_425 : Cond.static yXL_block ∈ sbT := sb_in 425 (by decide +kernel) rfl
theorem wd_694 : Cond.methodLink RXL 98 yXM_block ∈ sbT := sb_in 694 (by decide +kernel) rfl
theorem wd_695 : Cond.instanceMethod yXM_block ∈ sbT := sb_in 695 (by decide +kernel) rfl
theorem wd_696 : Cond.selects RXM yXM_block yXM_block ∈ sbT := sb_in 696 (by decide +kernel) rfl
theorem wd_697 : Cond.code yXM_block cXM_block 3 (some .int) ∈ sbT := sb_in 697 (by decide +kernel) rfl
theorem wd_439 : Cond.codeWith yXL_word cXL_word 6 (some .int) [(0, 12, 15, 13), (0, 12, 19, 22)] ∈ sbT := sb_in 439 (by decide +kernel) rfl
theorem wd_437 : Cond.methodLink RXL 99 yXL_word ∈ sbT := sb_in 437 (by decide +kernel) rfl
theorem wd_438 : Cond.static yXL_word ∈ sbT := sb_in 438 (by decide +kernel) rfl
theorem wd_702 : Cond.methodLink RXL 102 yXM_word ∈ sbT := sb_in 702 (by decide +kernel) rfl
theorem wd_703 : Cond.instanceMethod yXM_word ∈ sbT := sb_in 703 (by decide +kernel) rfl
theorem wd_704 : Cond.selects RXM yXM_word yXM_word ∈ sbT := sb_in 704 (by decide +kernel) rfl
theorem wd_705 : Cond.code yXM_word cXM_word 4 (some .int) ∈ sbT := sb_in 705 (by decide +kernel) rfl
theorem wd_448 : Cond.codeWith yXL_find cXL_find 3 (some .int) [(0, 8, 11, 13)] ∈ sbT := sb_in 448 (by decide +kernel) rfl
theorem wd_446 : Cond.methodLink RXL 103 yXL_find ∈ sbT := sb_in 446 (by decide +kernel) rfl
theorem wd_447 : Cond.static yXL_find ∈ sbT := sb_in 447 (by decide +kernel) rfl
theorem wd_706 : Cond.methodLink RXL 105 yXM_find ∈ sbT := sb_in 706 (by decide +kernel) rfl
theorem wd_707 : Cond.instanceMethod yXM_find ∈ sbT := sb_in 707 (by decide +kernel) rfl
theorem wd_708 : Cond.selects RXM yXM_find yXM_find ∈ sbT := sb_in 708 (by decide +kernel) rfl
theorem wd_709 : Cond.code yXM_find cXM_find 1 (some .int) ∈ sbT := sb_in 709 (by decide +kernel) rfl
theorem wd_455 : Cond.codeWith yXL_passes cXL_passes 3 (some .int) [(0, 15, 18, 13)] ∈ sbT := sb_in 455 (by decide +kernel) rfl
theorem wd_453 : Cond.methodLink RXL 106 yXL_passes ∈ sbT := sb_in 453 (by decide +kernel) rfl
theorem wd_454 : Cond.static yXL_passes ∈ sbT := sb_in 454 (by decide +kernel) rfl
theorem wd_710 : Cond.methodLink RXL 108 yXM_passes ∈ sbT := sb_in 710 (by decide +kernel) rfl
theorem wd_711 : Cond.instanceMethod yXM_passes ∈ sbT := sb_in 711 (by decide +kernel) rfl
theorem wd_712 : Cond.selects RXM yXM_passes yXM_passes ∈ sbT := sb_in 712 (by decide +kernel) rfl
theorem wd_713 : Cond.code yXM_passes cXM_passes 1 (some .boolean) ∈ sbT := sb_in 713 (by decide +kernel) rfl
theorem wd_462 : Cond.codeWith yXL_cell2 cXL_cell2 4 (some .int) [(0, 9, 12, 13)] ∈ sbT := sb_in 462 (by decide +kernel) rfl
theorem wd_460 : Cond.methodLink RXL 109 yXL_cell2 ∈ sbT := sb_in 460 (by decide +kernel) rfl
theorem wd_461 : Cond.static yXL_cell2 ∈ sbT := sb_in 461 (by decide +kernel) rfl
theorem wd_714 : Cond.methodLink RXL 111 yXM_cell ∈ sbT := sb_in 714 (by decide +kernel) rfl
theorem wd_715 : Cond.instanceMethod yXM_cell ∈ sbT := sb_in 715 (by decide +kernel) rfl
theorem wd_716 : Cond.selects RXM yXM_cell yXM_cell ∈ sbT := sb_in 716 (by decide +kernel) rfl
theorem wd_717 : Cond.code yXM_cell cXM_cell 2 (some .int) ∈ sbT := sb_in 717 (by decide +kernel) rfl
theorem wd_473 : Cond.codeWith yXL_count cXL_count 4 (some .int) [(0, 9, 12, 13)] ∈ sbT := sb_in 473 (by decide +kernel) rfl
theorem wd_471 : Cond.methodLink RXL 112 yXL_count ∈ sbT := sb_in 471 (by decide +kernel) rfl
theorem wd_472 : Cond.static yXL_count ∈ sbT := sb_in 472 (by decide +kernel) rfl
theorem wd_718 : Cond.methodLink RXL 114 yXM_count ∈ sbT := sb_in 718 (by decide +kernel) rfl
theorem wd_719 : Cond.instanceMethod yXM_count ∈ sbT := sb_in 719 (by decide +kernel) rfl
theorem wd_720 : Cond.selects RXM yXM_count yXM_count ∈ sbT := sb_in 720 (by decide +kernel) rfl
theorem wd_721 : Cond.code yXM_count cXM_count 5 (some .int) ∈ sbT := sb_in 721 (by decide +kernel) rfl
theorem wd_498 : Cond.codeWith yXL_refresh cXL_refresh 2 (some .int) [(0, 4, 7, 13)] ∈ sbT := sb_in 498 (by decide +kernel) rfl
theorem wd_496 : Cond.methodLink RXL 115 yXL_refresh ∈ sbT := sb_in 496 (by decide +kernel) rfl
theorem wd_497 : Cond.static yXL_refresh ∈ sbT := sb_in 497 (by decide +kernel) rfl
theorem wd_722 : Cond.methodLink RXL 118 yXM_refresh ∈ sbT := sb_in 722 (by decide +kernel) rfl
theorem wd_723 : Cond.instanceMethod yXM_refresh ∈ sbT := sb_in 723 (by decide +kernel) rfl
theorem wd_724 : Cond.selects RXM yXM_refresh yXM_refresh ∈ sbT := sb_in 724 (by decide +kernel) rfl
theorem wd_725 : Cond.code yXM_refresh cXM_refresh 1 none ∈ sbT := sb_in 725 (by decide +kernel) rfl
theorem wd_505 : Cond.codeWith yXL_save cXL_save 3 (some .int) [(0, 8, 11, 13)] ∈ sbT := sb_in 505 (by decide +kernel) rfl
theorem wd_503 : Cond.methodLink RXL 119 yXL_save ∈ sbT := sb_in 503 (by decide +kernel) rfl
theorem wd_504 : Cond.static yXL_save ∈ sbT := sb_in 504 (by decide +kernel) rfl
theorem wd_730 : Cond.methodLink RXL 121 yXM_save ∈ sbT := sb_in 730 (by decide +kernel) rfl
theorem wd_731 : Cond.instanceMethod yXM_save ∈ sbT := sb_in 731 (by decide +kernel) rfl
theorem wd_732 : Cond.selects RXM yXM_save yXM_save ∈ sbT := sb_in 732 (by decide +kernel) rfl
theorem wd_733 : Cond.code yXM_save cXM_save 2 (some .int) ∈ sbT := sb_in 733 (by decide +kernel) rfl
theorem wd_520 : Cond.codeWith yXL_crashAfter cXL_crashAfter 3 (some .int) [(0, 5, 8, 64)] ∈ sbT := sb_in 520 (by decide +kernel) rfl
theorem wd_518 : Cond.methodLink RXL 122 yXL_crashAfter ∈ sbT := sb_in 518 (by decide +kernel) rfl
theorem wd_519 : Cond.static yXL_crashAfter ∈ sbT := sb_in 519 (by decide +kernel) rfl
theorem wd_734 : Cond.methodLink RXL 125 yXM_crashAfter ∈ sbT := sb_in 734 (by decide +kernel) rfl
theorem wd_735 : Cond.instanceMethod yXM_crashAfter ∈ sbT := sb_in 735 (by decide +kernel) rfl
theorem wd_736 : Cond.selects RXM yXM_crashAfter yXM_crashAfter ∈ sbT := sb_in 736 (by decide +kernel) rfl
theorem wd_737 : Cond.code yXM_crashAfter cXM_crashAfter 2 none ∈ sbT := sb_in 737 (by decide +kernel) rfl
theorem wd_134 : Cond.methodLink RXL 126 yXB_down ∈ sbT := sb_in 134 (by decide +kernel) rfl
theorem wd_135 : Cond.instanceMethod yXB_down ∈ sbT := sb_in 135 (by decide +kernel) rfl
theorem wd_136 : Cond.selects RXB yXB_down yXB_down ∈ sbT := sb_in 136 (by decide +kernel) rfl
theorem wd_137 : Cond.code yXB_down cXB_down 1 (some .boolean) ∈ sbT := sb_in 137 (by decide +kernel) rfl
theorem wd_738 : Cond.methodLink RXL 129 yXM_down ∈ sbT := sb_in 738 (by decide +kernel) rfl
theorem wd_739 : Cond.instanceMethod yXM_down ∈ sbT := sb_in 739 (by decide +kernel) rfl
theorem wd_740 : Cond.selects RXM yXM_down yXM_down ∈ sbT := sb_in 740 (by decide +kernel) rfl
theorem wd_741 : Cond.code yXM_down cXM_down 1 (some .boolean) ∈ sbT := sb_in 741 (by decide +kernel) rfl
theorem wd_142 : Cond.methodLink RXL 130 yXB_recover ∈ sbT := sb_in 142 (by decide +kernel) rfl
theorem wd_143 : Cond.instanceMethod yXB_recover ∈ sbT := sb_in 143 (by decide +kernel) rfl
theorem wd_144 : Cond.selects RXB yXB_recover yXB_recover ∈ sbT := sb_in 144 (by decide +kernel) rfl
theorem wd_145 : Cond.code yXB_recover cXB_recover 2 (some .int) ∈ sbT := sb_in 145 (by decide +kernel) rfl
theorem wd_742 : Cond.methodLink RXL 133 yXM_recover ∈ sbT := sb_in 742 (by decide +kernel) rfl
theorem wd_743 : Cond.instanceMethod yXM_recover ∈ sbT := sb_in 743 (by decide +kernel) rfl
theorem wd_744 : Cond.selects RXM yXM_recover yXM_recover ∈ sbT := sb_in 744 (by decide +kernel) rfl
theorem wd_745 : Cond.code yXM_recover cXM_recover 2 (some .int) ∈ sbT := sb_in 745 (by decide +kernel) rfl
theorem wd_217 : Cond.methodLink RXL 134 yXB_probes ∈ sbT := sb_in 217 (by decide +kernel) rfl
theorem wd_218 : Cond.instanceMethod yXB_probes ∈ sbT := sb_in 218 (by decide +kernel) rfl
theorem wd_219 : Cond.selects RXB yXB_probes yXB_probes ∈ sbT := sb_in 219 (by decide +kernel) rfl
theorem wd_220 : Cond.code yXB_probes cXB_probes 1 (some .int) ∈ sbT := sb_in 220 (by decide +kernel) rfl
theorem wd_746 : Cond.methodLink RXL 137 yXM_probes ∈ sbT := sb_in 746 (by decide +kernel) rfl
theorem wd_747 : Cond.instanceMethod yXM_probes ∈ sbT := sb_in 747 (by decide +kernel) rfl
theorem wd_748 : Cond.selects RXM yXM_probes yXM_probes ∈ sbT := sb_in 748 (by decide +kernel) rfl
theorem wd_749 : Cond.code yXM_probes cXM_probes 1 (some .int) ∈ sbT := sb_in 749 (by decide +kernel) rfl
theorem wd_225 : Cond.methodLink RXL 138 yXB_writes ∈ sbT := sb_in 225 (by decide +kernel) rfl
theorem wd_226 : Cond.instanceMethod yXB_writes ∈ sbT := sb_in 226 (by decide +kernel) rfl
theorem wd_227 : Cond.selects RXB yXB_writes yXB_writes ∈ sbT := sb_in 227 (by decide +kernel) rfl
theorem wd_228 : Cond.code yXB_writes cXB_writes 1 (some .int) ∈ sbT := sb_in 228 (by decide +kernel) rfl
theorem wd_750 : Cond.methodLink RXL 141 yXM_writes ∈ sbT := sb_in 750 (by decide +kernel) rfl
theorem wd_751 : Cond.instanceMethod yXM_writes ∈ sbT := sb_in 751 (by decide +kernel) rfl
theorem wd_752 : Cond.selects RXM yXM_writes yXM_writes ∈ sbT := sb_in 752 (by decide +kernel) rfl
theorem wd_753 : Cond.code yXM_writes cXM_writes 1 (some .int) ∈ sbT := sb_in 753 (by decide +kernel) rfl
