theorem dX12_words_217 : decode cX12_words 217 = .ok (.getfield 303, 3) := by decide +kernel
theorem dX12_words_220 : decode cX12_words 220 = .ok (.if_icmp .ge 26, 3) := by decide +kernel
theorem dX12_words_223 : decode cX12_words 223 = .ok (.aload_n 0, 1) := by decide +kernel
theorem dX12_words_224 : decode cX12_words 224 = .ok (.getfield 77, 3) := by decide +kernel
theorem dX12_words_227 : decode cX12_words 227 = .ok (.iload 10, 2) := by decide +kernel
theorem dX12_words_229 : decode cX12_words 229 = .ok (.aload_n 0, 1) := by decide +kernel
theorem dX12_words_230 : decode cX12_words 230 = .ok (.aload_n 0, 1) := by decide +kernel
theorem dX12_words_231 : decode cX12_words 231 = .ok (.getfield 61, 3) := by decide +kernel
theorem dX12_words_234 : decode cX12_words 234 = .ok (.iload 10, 2) := by decide +kernel
theorem dX12_words_236 : decode cX12_words 236 = .ok (.invokevirtual 345, 3) := by decide +kernel
theorem dX12_words_239 : decode cX12_words 239 = .ok (.iastore, 1) := by decide +kernel
theorem dX12_words_240 : decode cX12_words 240 = .ok (.iinc 10 1, 3) := by decide +kernel
theorem dX12_words_243 : decode cX12_words 243 = .ok (.goto (-29), 3) := by decide +kernel
theorem dX12_words_246 : decode cX12_words 246 = .ok (.iconst 0, 1) := by decide +kernel
theorem dX12_words_247 : decode cX12_words 247 = .ok (.istore 10, 2) := by decide +kernel
theorem dX12_words_249 : decode cX12_words 249 = .ok (.iload 10, 2) := by decide +kernel
theorem dX12_words_251 : decode cX12_words 251 = .ok (.aload_n 0, 1) := by decide +kernel
theorem dX12_words_252 : decode cX12_words 252 = .ok (.getfield 300, 3) := by decide +kernel
theorem dX12_words_255 : decode cX12_words 255 = .ok (.if_icmp .ge 50, 3) := by decide +kernel
theorem dX12_words_258 : decode cX12_words 258 = .ok (.iload 9, 2) := by decide +kernel
theorem dX12_words_260 : decode cX12_words 260 = .ok (.aload_n 0, 1) := by decide +kernel
theorem dX12_words_261 : decode cX12_words 261 = .ok (.getfield 49, 3) := by decide +kernel
theorem dX12_words_264 : decode cX12_words 264 = .ok (.iconst 4, 1) := by decide +kernel
theorem dX12_words_265 : decode cX12_words 265 = .ok (.iload 10, 2) := by decide +kernel
theorem dX12_words_267 : decode cX12_words 267 = .ok (.imul, 1) := by decide +kernel
theorem dX12_words_268 : decode cX12_words 268 = .ok (.iaload, 1) := by decide +kernel
theorem dX12_words_269 : decode cX12_words 269 = .ok (.ifCond .ne 7, 3) := by decide +kernel
theorem dX12_words_272 : decode cX12_words 272 = .ok (.iconst 0, 1) := by decide +kernel
theorem dX12_words_273 : decode cX12_words 273 = .ok (.goto 23, 3) := by decide +kernel
theorem dX12_words_276 : decode cX12_words 276 = .ok (.aload_n 0, 1) := by decide +kernel
theorem dX12_words_277 : decode cX12_words 277 = .ok (.getfield 49, 3) := by decide +kernel
theorem dX12_words_280 : decode cX12_words 280 = .ok (.iconst 4, 1) := by decide +kernel
theorem dX12_words_281 : decode cX12_words 281 = .ok (.iload 10, 2) := by decide +kernel
theorem dX12_words_283 : decode cX12_words 283 = .ok (.imul, 1) := by decide +kernel
theorem dX12_words_284 : decode cX12_words 284 = .ok (.iaload, 1) := by decide +kernel
theorem dX12_words_285 : decode cX12_words 285 = .ok (.aload_n 0, 1) := by decide +kernel
theorem dX12_words_286 : decode cX12_words 286 = .ok (.iload 10, 2) := by decide +kernel
theorem dX12_words_288 : decode cX12_words 288 = .ok (.aload_n 0, 1) := by decide +kernel
theorem dX12_words_289 : decode cX12_words 289 = .ok (.getfield 303, 3) := by decide +kernel
theorem dX12_words_292 : decode cX12_words 292 = .ok (.invokevirtual 454, 3) := by decide +kernel
theorem dX12_words_295 : decode cX12_words 295 = .ok (.imul, 1) := by decide +kernel
theorem dX12_words_296 : decode cX12_words 296 = .ok (.iadd, 1) := by decide +kernel
theorem dX12_words_297 : decode cX12_words 297 = .ok (.istore 9, 2) := by decide +kernel
theorem dX12_words_299 : decode cX12_words 299 = .ok (.iinc 10 1, 3) := by decide +kernel
theorem dX12_words_302 : decode cX12_words 302 = .ok (.goto (-53), 3) := by decide +kernel
theorem dX12_words_305 : decode cX12_words 305 = .ok (.iconst 0, 1) := by decide +kernel
theorem dX12_words_306 : decode cX12_words 306 = .ok (.istore 10, 2) := by decide +kernel
theorem dX12_words_308 : decode cX12_words 308 = .ok (.iload 10, 2) := by decide +kernel
theorem dX12_words_310 : decode cX12_words 310 = .ok (.aload_n 0, 1) := by decide +kernel
theorem dX12_words_311 : decode cX12_words 311 = .ok (.getfield 297, 3) := by decide +kernel
theorem dX12_words_314 : decode cX12_words 314 = .ok (.if_icmp .ge 33, 3) := by decide +kernel
theorem dX12_words_317 : decode cX12_words 317 = .ok (.aload_n 0, 1) := by decide +kernel
theorem dX12_words_318 : decode cX12_words 318 = .ok (.getfield 61, 3) := by decide +kernel
theorem dX12_words_321 : decode cX12_words 321 = .ok (.bipush 6, 2) := by decide +kernel
theorem dX12_words_323 : decode cX12_words 323 = .ok (.iload 10, 2) := by decide +kernel
theorem dX12_words_325 : decode cX12_words 325 = .ok (.imul, 1) := by decide +kernel
theorem dX12_words_326 : decode cX12_words 326 = .ok (.iconst 2, 1) := by decide +kernel
theorem dX12_words_327 : decode cX12_words 327 = .ok (.iadd, 1) := by decide +kernel
theorem dX12_words_328 : decode cX12_words 328 = .ok (.aload_n 0, 1) := by decide +kernel
theorem dX12_words_329 : decode cX12_words 329 = .ok (.getfield 64, 3) := by decide +kernel
theorem dX12_words_332 : decode cX12_words 332 = .ok (.bipush 6, 2) := by decide +kernel
theorem dX12_words_334 : decode cX12_words 334 = .ok (.iload 10, 2) := by decide +kernel
theorem dX12_words_336 : decode cX12_words 336 = .ok (.imul, 1) := by decide +kernel
theorem dX12_words_337 : decode cX12_words 337 = .ok (.iconst 2, 1) := by decide +kernel
theorem dX12_words_338 : decode cX12_words 338 = .ok (.iadd, 1) := by decide +kernel
theorem dX12_words_339 : decode cX12_words 339 = .ok (.iaload, 1) := by decide +kernel
theorem dX12_words_340 : decode cX12_words 340 = .ok (.iastore, 1) := by decide +kernel
theorem dX12_words_341 : decode cX12_words 341 = .ok (.iinc 10 1, 3) := by decide +kernel
theorem dX12_words_344 : decode cX12_words 344 = .ok (.goto (-36), 3) := by decide +kernel
theorem dX12_words_347 : decode cX12_words 347 = .ok (.iload 4, 2) := by decide +kernel
theorem dX12_words_349 : decode cX12_words 349 = .ok (.iconst (-1), 1) := by decide +kernel
theorem dX12_words_350 : decode cX12_words 350 = .ok (.if_icmp .eq 13, 3) := by decide +kernel
theorem dX12_words_353 : decode cX12_words 353 = .ok (.iload 9, 2) := by decide +kernel
theorem dX12_words_355 : decode cX12_words 355 = .ok (.iload 5, 2) := by decide +kernel
theorem dX12_words_357 : decode cX12_words 357 = .ok (.if_icmp .lt 6, 3) := by decide +kernel
theorem dX12_words_360 : decode cX12_words 360 = .ok (.goto 11, 3) := by decide +kernel
theorem dX12_words_363 : decode cX12_words 363 = .ok (.iload 7, 2) := by decide +kernel
theorem dX12_words_365 : decode cX12_words 365 = .ok (.istore 4, 2) := by decide +kernel
theorem dX12_words_367 : decode cX12_words 367 = .ok (.iload 9, 2) := by decide +kernel
theorem dX12_words_369 : decode cX12_words 369 = .ok (.istore 5, 2) := by decide +kernel
theorem dX12_words_371 : decode cX12_words 371 = .ok (.iinc 6 1, 3) := by decide +kernel
theorem dX12_words_374 : decode cX12_words 374 = .ok (.goto (-279), 3) := by decide +kernel
theorem dX12_words_377 : decode cX12_words 377 = .ok (.iload_n 1, 1) := by decide +kernel
theorem dX12_words_378 : decode cX12_words 378 = .ok (.ifCond .ne 8, 3) := by decide +kernel
theorem dX12_words_381 : decode cX12_words 381 = .ok (.iload 4, 2) := by decide +kernel
theorem dX12_words_383 : decode cX12_words 383 = .ok (.goto 5, 3) := by decide +kernel
theorem dX12_words_386 : decode cX12_words 386 = .ok (.iload 5, 2) := by decide +kernel
theorem dX12_words_388 : decode cX12_words 388 = .ok (.ireturn, 1) := by decide +kernel
theorem dX12_hear_0 : decode cX12_hear 0 = .ok (.aload_n 0, 1) := by decide +kernel
theorem dX12_hear_1 : decode cX12_hear 1 = .ok (.iconst 0, 1) := by decide +kernel
theorem dX12_hear_2 : decode cX12_hear 2 = .ok (.putfield 99, 3) := by decide +kernel
theorem dX12_hear_5 : decode cX12_hear 5 = .ok (.aload_n 0, 1) := by decide +kernel
theorem dX12_hear_6 : decode cX12_hear 6 = .ok (.getfield 297, 3) := by decide +kernel
theorem dX12_hear_9 : decode cX12_hear 9 = .ok (.ifCond .eq 24, 3) := by decide +kernel
theorem dX12_hear_12 : decode cX12_hear 12 = .ok (.iload_n 2, 1) := by decide +kernel
theorem dX12_hear_13 : decode cX12_hear 13 = .ok (.i2l, 1) := by decide +kernel
theorem dX12_hear_14 : decode cX12_hear 14 = .ok (.lconst 0, 1) := by decide +kernel
theorem dX12_hear_15 : decode cX12_hear 15 = .ok (.ldc2_w 470, 3) := by decide +kernel
theorem dX12_hear_18 : decode cX12_hear 18 = .ok (.invokestatic 220, 3) := by decide +kernel
theorem dX12_hear_21 : decode cX12_hear 21 = .ok (.ifCond .eq 12, 3) := by decide +kernel
theorem dX12_hear_24 : decode cX12_hear 24 = .ok (.aload_n 0, 1) := by decide +kernel
theorem dX12_hear_25 : decode cX12_hear 25 = .ok (.getfield 306, 3) := by decide +kernel
theorem dX12_hear_28 : decode cX12_hear 28 = .ok (.bipush 8, 2) := by decide +kernel
theorem dX12_hear_30 : decode cX12_hear 30 = .ok (.if_icmp .ne 5, 3) := by decide +kernel
theorem dX12_hear_33 : decode cX12_hear 33 = .ok (.iconst (-1), 1) := by decide +kernel
theorem dX12_hear_34 : decode cX12_hear 34 = .ok (.ireturn, 1) := by decide +kernel
theorem dX12_hear_35 : decode cX12_hear 35 = .ok (.aload_n 0, 1) := by decide +kernel
theorem dX12_hear_36 : decode cX12_hear 36 = .ok (.getfield 80, 3) := by decide +kernel
theorem dX12_hear_39 : decode cX12_hear 39 = .ok (.aload_n 0, 1) := by decide +kernel
theorem dX12_hear_40 : decode cX12_hear 40 = .ok (.getfield 306, 3) := by decide +kernel
theorem dX12_hear_43 : decode cX12_hear 43 = .ok (.iload_n 1, 1) := by decide +kernel
theorem dX12_hear_44 : decode cX12_hear 44 = .ok (.bastore, 1) := by decide +kernel
theorem dX12_hear_45 : decode cX12_hear 45 = .ok (.aload_n 0, 1) := by decide +kernel
theorem dX12_hear_46 : decode cX12_hear 46 = .ok (.getfield 84, 3) := by decide +kernel
theorem dX12_hear_49 : decode cX12_hear 49 = .ok (.aload_n 0, 1) := by decide +kernel
theorem dX12_hear_50 : decode cX12_hear 50 = .ok (.getfield 306, 3) := by decide +kernel
theorem dX12_hear_53 : decode cX12_hear 53 = .ok (.iload_n 2, 1) := by decide +kernel
theorem dX12_hear_54 : decode cX12_hear 54 = .ok (.iastore, 1) := by decide +kernel
theorem dX12_hear_55 : decode cX12_hear 55 = .ok (.aload_n 0, 1) := by decide +kernel
theorem dX12_hear_56 : decode cX12_hear 56 = .ok (.dup, 1) := by decide +kernel
theorem dX12_hear_57 : decode cX12_hear 57 = .ok (.getfield 306, 3) := by decide +kernel
theorem dX12_hear_60 : decode cX12_hear 60 = .ok (.iconst 1, 1) := by decide +kernel
theorem dX12_hear_61 : decode cX12_hear 61 = .ok (.iadd, 1) := by decide +kernel
theorem dX12_hear_62 : decode cX12_hear 62 = .ok (.putfield 306, 3) := by decide +kernel
theorem dX12_hear_65 : decode cX12_hear 65 = .ok (.aload_n 0, 1) := by decide +kernel
theorem dX12_hear_66 : decode cX12_hear 66 = .ok (.getfield 306, 3) := by decide +kernel
theorem dX12_hear_69 : decode cX12_hear 69 = .ok (.ireturn, 1) := by decide +kernel
theorem dX12_couldBe_0 : decode cX12_couldBe 0 = .ok (.aload_n 0, 1) := by decide +kernel
theorem dX12_couldBe_1 : decode cX12_couldBe 1 = .ok (.iload_n 1, 1) := by decide +kernel
theorem dX12_couldBe_2 : decode cX12_couldBe 2 = .ok (.invokevirtual 451, 3) := by decide +kernel
theorem dX12_couldBe_5 : decode cX12_couldBe 5 = .ok (.iconst 0, 1) := by decide +kernel
theorem dX12_couldBe_6 : decode cX12_couldBe 6 = .ok (.istore_n 2, 1) := by decide +kernel
theorem dX12_couldBe_7 : decode cX12_couldBe 7 = .ok (.iload_n 2, 1) := by decide +kernel
theorem dX12_couldBe_8 : decode cX12_couldBe 8 = .ok (.aload_n 0, 1) := by decide +kernel
theorem dX12_couldBe_9 : decode cX12_couldBe 9 = .ok (.getfield 306, 3) := by decide +kernel
theorem dX12_couldBe_12 : decode cX12_couldBe 12 = .ok (.if_icmp .ge 52, 3) := by decide +kernel
theorem dX12_couldBe_15 : decode cX12_couldBe 15 = .ok (.aload_n 0, 1) := by decide +kernel
theorem dX12_couldBe_16 : decode cX12_couldBe 16 = .ok (.getfield 80, 3) := by decide +kernel
theorem dX12_couldBe_19 : decode cX12_couldBe 19 = .ok (.iload_n 2, 1) := by decide +kernel
theorem dX12_couldBe_20 : decode cX12_couldBe 20 = .ok (.baload, 1) := by decide +kernel
theorem dX12_couldBe_21 : decode cX12_couldBe 21 = .ok (.aload_n 0, 1) := by decide +kernel
theorem dX12_couldBe_22 : decode cX12_couldBe 22 = .ok (.getfield 49, 3) := by decide +kernel
theorem dX12_couldBe_25 : decode cX12_couldBe 25 = .ok (.iconst 4, 1) := by decide +kernel
theorem dX12_couldBe_26 : decode cX12_couldBe 26 = .ok (.iload_n 1, 1) := by decide +kernel
theorem dX12_couldBe_27 : decode cX12_couldBe 27 = .ok (.imul, 1) := by decide +kernel
theorem dX12_couldBe_28 : decode cX12_couldBe 28 = .ok (.iconst 1, 1) := by decide +kernel
theorem dX12_couldBe_29 : decode cX12_couldBe 29 = .ok (.iadd, 1) := by decide +kernel
theorem dX12_couldBe_30 : decode cX12_couldBe 30 = .ok (.iaload, 1) := by decide +kernel
theorem dX12_couldBe_31 : decode cX12_couldBe 31 = .ok (.iconst 1, 1) := by decide +kernel
theorem dX12_couldBe_32 : decode cX12_couldBe 32 = .ok (.if_icmp .ne 7, 3) := by decide +kernel
theorem dX12_couldBe_35 : decode cX12_couldBe 35 = .ok (.iconst 1, 1) := by decide +kernel
theorem dX12_couldBe_36 : decode cX12_couldBe 36 = .ok (.goto 4, 3) := by decide +kernel
theorem dX12_couldBe_39 : decode cX12_couldBe 39 = .ok (.iconst 0, 1) := by decide +kernel
theorem dX12_couldBe_40 : decode cX12_couldBe 40 = .ok (.if_icmp .ne 16, 3) := by decide +kernel
theorem dX12_couldBe_43 : decode cX12_couldBe 43 = .ok (.aload_n 0, 1) := by decide +kernel
theorem dX12_couldBe_44 : decode cX12_couldBe 44 = .ok (.getfield 333, 3) := by decide +kernel
theorem dX12_couldBe_47 : decode cX12_couldBe 47 = .ok (.aload_n 0, 1) := by decide +kernel
theorem dX12_couldBe_48 : decode cX12_couldBe 48 = .ok (.getfield 84, 3) := by decide +kernel
theorem dX12_couldBe_51 : decode cX12_couldBe 51 = .ok (.iload_n 2, 1) := by decide +kernel
theorem dX12_couldBe_52 : decode cX12_couldBe 52 = .ok (.iaload, 1) := by decide +kernel
theorem dX12_couldBe_53 : decode cX12_couldBe 53 = .ok (.if_icmp .ge 5, 3) := by decide +kernel
theorem dX12_couldBe_56 : decode cX12_couldBe 56 = .ok (.iconst 0, 1) := by decide +kernel
theorem dX12_couldBe_57 : decode cX12_couldBe 57 = .ok (.ireturn, 1) := by decide +kernel
theorem dX12_couldBe_58 : decode cX12_couldBe 58 = .ok (.iinc 2 1, 3) := by decide +kernel
theorem dX12_couldBe_61 : decode cX12_couldBe 61 = .ok (.goto (-54), 3) := by decide +kernel
theorem dX12_couldBe_64 : decode cX12_couldBe 64 = .ok (.iconst 1, 1) := by decide +kernel
theorem dX12_couldBe_65 : decode cX12_couldBe 65 = .ok (.ireturn, 1) := by decide +kernel
theorem dX12_tonight_0 : decode cX12_tonight 0 = .ok (.aload_n 0, 1) := by decide +kernel
theorem dX12_tonight_1 : decode cX12_tonight 1 = .ok (.iconst 0, 1) := by decide +kernel
theorem dX12_tonight_2 : decode cX12_tonight 2 = .ok (.putfield 99, 3) := by decide +kernel
theorem dX12_tonight_5 : decode cX12_tonight 5 = .ok (.aload_n 0, 1) := by decide +kernel
theorem dX12_tonight_6 : decode cX12_tonight 6 = .ok (.iload_n 1, 1) := by decide +kernel
theorem dX12_tonight_7 : decode cX12_tonight 7 = .ok (.invokevirtual 374, 3) := by decide +kernel
theorem dX12_tonight_10 : decode cX12_tonight 10 = .ok (.ifCond .ne 5, 3) := by decide +kernel
theorem dX12_tonight_13 : decode cX12_tonight 13 = .ok (.iconst (-1), 1) := by decide +kernel
theorem dX12_tonight_14 : decode cX12_tonight 14 = .ok (.ireturn, 1) := by decide +kernel
theorem dX12_tonight_15 : decode cX12_tonight 15 = .ok (.iconst 0, 1) := by decide +kernel
theorem dX12_tonight_16 : decode cX12_tonight 16 = .ok (.istore_n 2, 1) := by decide +kernel
theorem dX12_tonight_17 : decode cX12_tonight 17 = .ok (.iconst 0, 1) := by decide +kernel
theorem dX12_tonight_18 : decode cX12_tonight 18 = .ok (.istore_n 3, 1) := by decide +kernel
theorem dX12_tonight_19 : decode cX12_tonight 19 = .ok (.iload_n 3, 1) := by decide +kernel
theorem dX12_tonight_20 : decode cX12_tonight 20 = .ok (.aload_n 0, 1) := by decide +kernel
theorem dX12_tonight_21 : decode cX12_tonight 21 = .ok (.getfield 300, 3) := by decide +kernel
theorem dX12_tonight_24 : decode cX12_tonight 24 = .ok (.if_icmp .ge 32, 3) := by decide +kernel
theorem dX12_tonight_27 : decode cX12_tonight 27 = .ok (.iload_n 2, 1) := by decide +kernel
theorem dX12_tonight_28 : decode cX12_tonight 28 = .ok (.aload_n 0, 1) := by decide +kernel
theorem dX12_tonight_29 : decode cX12_tonight 29 = .ok (.iload_n 3, 1) := by decide +kernel
theorem dX12_tonight_30 : decode cX12_tonight 30 = .ok (.invokevirtual 472, 3) := by decide +kernel
theorem dX12_tonight_33 : decode cX12_tonight 33 = .ok (.ifCond .eq 14, 3) := by decide +kernel
theorem dX12_tonight_36 : decode cX12_tonight 36 = .ok (.aload_n 0, 1) := by decide +kernel
theorem dX12_tonight_37 : decode cX12_tonight 37 = .ok (.getfield 49, 3) := by decide +kernel
theorem dX12_tonight_40 : decode cX12_tonight 40 = .ok (.iconst 4, 1) := by decide +kernel
theorem dX12_tonight_41 : decode cX12_tonight 41 = .ok (.iload_n 3, 1) := by decide +kernel
theorem dX12_tonight_42 : decode cX12_tonight 42 = .ok (.imul, 1) := by decide +kernel
theorem dX12_tonight_43 : decode cX12_tonight 43 = .ok (.iaload, 1) := by decide +kernel
theorem dX12_tonight_44 : decode cX12_tonight 44 = .ok (.goto 4, 3) := by decide +kernel
theorem dX12_tonight_47 : decode cX12_tonight 47 = .ok (.iconst 0, 1) := by decide +kernel
theorem dX12_tonight_48 : decode cX12_tonight 48 = .ok (.iadd, 1) := by decide +kernel
theorem dX12_tonight_49 : decode cX12_tonight 49 = .ok (.istore_n 2, 1) := by decide +kernel
theorem dX12_tonight_50 : decode cX12_tonight 50 = .ok (.iinc 3 1, 3) := by decide +kernel
theorem dX12_tonight_53 : decode cX12_tonight 53 = .ok (.goto (-34), 3) := by decide +kernel
theorem dX12_tonight_56 : decode cX12_tonight 56 = .ok (.iload_n 2, 1) := by decide +kernel
theorem dX12_tonight_57 : decode cX12_tonight 57 = .ok (.ifCond .eq 11, 3) := by decide +kernel
theorem dX12_tonight_60 : decode cX12_tonight 60 = .ok (.aload_n 0, 1) := by decide +kernel
theorem dX12_tonight_61 : decode cX12_tonight 61 = .ok (.iload_n 1, 1) := by decide +kernel
theorem dX12_tonight_62 : decode cX12_tonight 62 = .ok (.invokevirtual 472, 3) := by decide +kernel
theorem dX12_tonight_65 : decode cX12_tonight 65 = .ok (.ifCond .ne 7, 3) := by decide +kernel
theorem dX12_tonight_68 : decode cX12_tonight 68 = .ok (.iconst 0, 1) := by decide +kernel
theorem dX12_tonight_69 : decode cX12_tonight 69 = .ok (.goto 17, 3) := by decide +kernel
theorem dX12_tonight_72 : decode cX12_tonight 72 = .ok (.ldc_w 475, 3) := by decide +kernel
theorem dX12_tonight_75 : decode cX12_tonight 75 = .ok (.aload_n 0, 1) := by decide +kernel
theorem dX12_tonight_76 : decode cX12_tonight 76 = .ok (.getfield 49, 3) := by decide +kernel
theorem dX12_tonight_79 : decode cX12_tonight 79 = .ok (.iconst 4, 1) := by decide +kernel
theorem dX12_tonight_80 : decode cX12_tonight 80 = .ok (.iload_n 1, 1) := by decide +kernel
theorem dX12_tonight_81 : decode cX12_tonight 81 = .ok (.imul, 1) := by decide +kernel
theorem dX12_tonight_82 : decode cX12_tonight 82 = .ok (.iaload, 1) := by decide +kernel
theorem dX12_tonight_83 : decode cX12_tonight 83 = .ok (.imul, 1) := by decide +kernel
theorem dX12_tonight_84 : decode cX12_tonight 84 = .ok (.iload_n 2, 1) := by decide +kernel
theorem dX12_tonight_85 : decode cX12_tonight 85 = .ok (.idiv, 1) := by decide +kernel
theorem dX12_tonight_86 : decode cX12_tonight 86 = .ok (.ireturn, 1) := by decide +kernel
theorem dX12_lookAt_0 : decode cX12_lookAt 0 = .ok (.aload_n 0, 1) := by decide +kernel
theorem dX12_lookAt_1 : decode cX12_lookAt 1 = .ok (.iconst 0, 1) := by decide +kernel
theorem dX12_lookAt_2 : decode cX12_lookAt 2 = .ok (.putfield 99, 3) := by decide +kernel
theorem dX12_lookAt_5 : decode cX12_lookAt 5 = .ok (.aload_n 0, 1) := by decide +kernel
theorem dX12_lookAt_6 : decode cX12_lookAt 6 = .ok (.iload_n 1, 1) := by decide +kernel
theorem dX12_lookAt_7 : decode cX12_lookAt 7 = .ok (.invokevirtual 369, 3) := by decide +kernel
theorem dX12_lookAt_10 : decode cX12_lookAt 10 = .ok (.ifCond .eq 12, 3) := by decide +kernel
theorem dX12_lookAt_13 : decode cX12_lookAt 13 = .ok (.aload_n 0, 1) := by decide +kernel
theorem dX12_lookAt_14 : decode cX12_lookAt 14 = .ok (.getfield 309, 3) := by decide +kernel
theorem dX12_lookAt_17 : decode cX12_lookAt 17 = .ok (.bipush 10, 2) := by decide +kernel
theorem dX12_lookAt_19 : decode cX12_lookAt 19 = .ok (.if_icmp .ne 5, 3) := by decide +kernel
theorem dX12_lookAt_22 : decode cX12_lookAt 22 = .ok (.iconst (-1), 1) := by decide +kernel
theorem dX12_lookAt_23 : decode cX12_lookAt 23 = .ok (.ireturn, 1) := by decide +kernel
theorem dX12_lookAt_24 : decode cX12_lookAt 24 = .ok (.aload_n 0, 1) := by decide +kernel
theorem dX12_lookAt_25 : decode cX12_lookAt 25 = .ok (.getfield 87, 3) := by decide +kernel
theorem dX12_lookAt_28 : decode cX12_lookAt 28 = .ok (.aload_n 0, 1) := by decide +kernel
theorem dX12_lookAt_29 : decode cX12_lookAt 29 = .ok (.getfield 309, 3) := by decide +kernel
theorem dX12_lookAt_32 : decode cX12_lookAt 32 = .ok (.iload_n 1, 1) := by decide +kernel
theorem dX12_lookAt_33 : decode cX12_lookAt 33 = .ok (.iastore, 1) := by decide +kernel
theorem dX12_lookAt_34 : decode cX12_lookAt 34 = .ok (.aload_n 0, 1) := by decide +kernel
theorem dX12_lookAt_35 : decode cX12_lookAt 35 = .ok (.getfield 90, 3) := by decide +kernel
theorem dX12_lookAt_38 : decode cX12_lookAt 38 = .ok (.aload_n 0, 1) := by decide +kernel
theorem dX12_lookAt_39 : decode cX12_lookAt 39 = .ok (.getfield 309, 3) := by decide +kernel
theorem dX12_lookAt_42 : decode cX12_lookAt 42 = .ok (.iload_n 2, 1) := by decide +kernel
theorem dX12_lookAt_43 : decode cX12_lookAt 43 = .ok (.bastore, 1) := by decide +kernel
theorem dX12_lookAt_44 : decode cX12_lookAt 44 = .ok (.aload_n 0, 1) := by decide +kernel
theorem dX12_lookAt_45 : decode cX12_lookAt 45 = .ok (.dup, 1) := by decide +kernel
theorem dX12_lookAt_46 : decode cX12_lookAt 46 = .ok (.getfield 309, 3) := by decide +kernel
theorem dX12_lookAt_49 : decode cX12_lookAt 49 = .ok (.iconst 1, 1) := by decide +kernel
theorem dX12_lookAt_50 : decode cX12_lookAt 50 = .ok (.iadd, 1) := by decide +kernel
theorem dX12_lookAt_51 : decode cX12_lookAt 51 = .ok (.putfield 309, 3) := by decide +kernel
theorem dX12_lookAt_54 : decode cX12_lookAt 54 = .ok (.aload_n 0, 1) := by decide +kernel
theorem dX12_lookAt_55 : decode cX12_lookAt 55 = .ok (.getfield 309, 3) := by decide +kernel
theorem dX12_lookAt_58 : decode cX12_lookAt 58 = .ok (.ireturn, 1) := by decide +kernel
theorem dX12_areSo_0 : decode cX12_areSo 0 = .ok (.iconst 0, 1) := by decide +kernel
theorem dX12_areSo_1 : decode cX12_areSo 1 = .ok (.istore_n 3, 1) := by decide +kernel
theorem dX12_areSo_2 : decode cX12_areSo 2 = .ok (.iload_n 3, 1) := by decide +kernel
theorem dX12_areSo_3 : decode cX12_areSo 3 = .ok (.aload_n 0, 1) := by decide +kernel
theorem dX12_areSo_4 : decode cX12_areSo 4 = .ok (.getfield 309, 3) := by decide +kernel
theorem dX12_areSo_7 : decode cX12_areSo 7 = .ok (.if_icmp .ge 45, 3) := by decide +kernel
theorem dX12_areSo_10 : decode cX12_areSo 10 = .ok (.aload_n 0, 1) := by decide +kernel
theorem dX12_areSo_11 : decode cX12_areSo 11 = .ok (.getfield 90, 3) := by decide +kernel
theorem dX12_areSo_14 : decode cX12_areSo 14 = .ok (.iload_n 3, 1) := by decide +kernel
theorem dX12_areSo_15 : decode cX12_areSo 15 = .ok (.baload, 1) := by decide +kernel
theorem dX12_areSo_16 : decode cX12_areSo 16 = .ok (.aload_n 0, 1) := by decide +kernel
theorem dX12_areSo_17 : decode cX12_areSo 17 = .ok (.getfield 87, 3) := by decide +kernel
theorem dX12_areSo_20 : decode cX12_areSo 20 = .ok (.iload_n 3, 1) := by decide +kernel
theorem dX12_areSo_21 : decode cX12_areSo 21 = .ok (.iaload, 1) := by decide +kernel
theorem dX12_areSo_22 : decode cX12_areSo 22 = .ok (.iload_n 1, 1) := by decide +kernel
theorem dX12_areSo_23 : decode cX12_areSo 23 = .ok (.if_icmp .eq 13, 3) := by decide +kernel
theorem dX12_areSo_26 : decode cX12_areSo 26 = .ok (.aload_n 0, 1) := by decide +kernel
theorem dX12_areSo_27 : decode cX12_areSo 27 = .ok (.getfield 87, 3) := by decide +kernel
theorem dX12_areSo_30 : decode cX12_areSo 30 = .ok (.iload_n 3, 1) := by decide +kernel
theorem dX12_areSo_31 : decode cX12_areSo 31 = .ok (.iaload, 1) := by decide +kernel
theorem dX12_areSo_32 : decode cX12_areSo 32 = .ok (.iload_n 2, 1) := by decide +kernel
theorem dX12_areSo_33 : decode cX12_areSo 33 = .ok (.if_icmp .ne 7, 3) := by decide +kernel
theorem dX12_areSo_36 : decode cX12_areSo 36 = .ok (.iconst 1, 1) := by decide +kernel
theorem dX12_areSo_37 : decode cX12_areSo 37 = .ok (.goto 4, 3) := by decide +kernel
theorem dX12_areSo_40 : decode cX12_areSo 40 = .ok (.iconst 0, 1) := by decide +kernel
theorem dX12_areSo_41 : decode cX12_areSo 41 = .ok (.if_icmp .ne 5, 3) := by decide +kernel
theorem dX12_areSo_44 : decode cX12_areSo 44 = .ok (.iconst 0, 1) := by decide +kernel
theorem dX12_areSo_45 : decode cX12_areSo 45 = .ok (.ireturn, 1) := by decide +kernel
theorem dX12_areSo_46 : decode cX12_areSo 46 = .ok (.iinc 3 1, 3) := by decide +kernel
theorem dX12_areSo_49 : decode cX12_areSo 49 = .ok (.goto (-47), 3) := by decide +kernel
theorem dX12_areSo_52 : decode cX12_areSo 52 = .ok (.iconst 1, 1) := by decide +kernel
theorem dX12_areSo_53 : decode cX12_areSo 53 = .ok (.ireturn, 1) := by decide +kernel
theorem dX12_wayOf_0 : decode cX12_wayOf 0 = .ok (.iload_n 1, 1) := by decide +kernel
theorem dX12_wayOf_1 : decode cX12_wayOf 1 = .ok (.ifCond .ne 19, 3) := by decide +kernel
theorem dX12_wayOf_4 : decode cX12_wayOf 4 = .ok (.aload_n 0, 1) := by decide +kernel
theorem dX12_wayOf_5 : decode cX12_wayOf 5 = .ok (.iconst (-1), 1) := by decide +kernel
theorem dX12_wayOf_6 : decode cX12_wayOf 6 = .ok (.iconst (-1), 1) := by decide +kernel
theorem dX12_wayOf_7 : decode cX12_wayOf 7 = .ok (.invokevirtual 476, 3) := by decide +kernel
theorem dX12_wayOf_10 : decode cX12_wayOf 10 = .ok (.ifCond .eq 7, 3) := by decide +kernel
theorem dX12_wayOf_13 : decode cX12_wayOf 13 = .ok (.iconst 0, 1) := by decide +kernel
theorem dX12_wayOf_14 : decode cX12_wayOf 14 = .ok (.goto 5, 3) := by decide +kernel
theorem dX12_wayOf_17 : decode cX12_wayOf 17 = .ok (.bipush 99, 2) := by decide +kernel
theorem dX12_wayOf_19 : decode cX12_wayOf 19 = .ok (.ireturn, 1) := by decide +kernel
theorem dX12_wayOf_20 : decode cX12_wayOf 20 = .ok (.iload_n 1, 1) := by decide +kernel
theorem dX12_wayOf_21 : decode cX12_wayOf 21 = .ok (.bipush 10, 2) := by decide +kernel
theorem dX12_wayOf_23 : decode cX12_wayOf 23 = .ok (.idiv, 1) := by decide +kernel
theorem dX12_wayOf_24 : decode cX12_wayOf 24 = .ok (.istore_n 2, 1) := by decide +kernel
theorem dX12_wayOf_25 : decode cX12_wayOf 25 = .ok (.iload_n 1, 1) := by decide +kernel
theorem dX12_wayOf_26 : decode cX12_wayOf 26 = .ok (.bipush 10, 2) := by decide +kernel
theorem dX12_wayOf_28 : decode cX12_wayOf 28 = .ok (.irem, 1) := by decide +kernel
theorem dX12_wayOf_29 : decode cX12_wayOf 29 = .ok (.istore_n 3, 1) := by decide +kernel
theorem dX12_wayOf_30 : decode cX12_wayOf 30 = .ok (.iload_n 2, 1) := by decide +kernel
theorem dX12_wayOf_31 : decode cX12_wayOf 31 = .ok (.iload_n 3, 1) := by decide +kernel
theorem dX12_wayOf_32 : decode cX12_wayOf 32 = .ok (.if_icmp .ge 52, 3) := by decide +kernel
theorem dX12_wayOf_35 : decode cX12_wayOf 35 = .ok (.iload_n 3, 1) := by decide +kernel
theorem dX12_wayOf_36 : decode cX12_wayOf 36 = .ok (.aload_n 0, 1) := by decide +kernel
theorem dX12_wayOf_37 : decode cX12_wayOf 37 = .ok (.getfield 297, 3) := by decide +kernel
theorem dX12_wayOf_40 : decode cX12_wayOf 40 = .ok (.if_icmp .ge 44, 3) := by decide +kernel
theorem dX12_wayOf_43 : decode cX12_wayOf 43 = .ok (.aload_n 0, 1) := by decide +kernel
theorem dX12_wayOf_44 : decode cX12_wayOf 44 = .ok (.getfield 43, 3) := by decide +kernel
theorem dX12_wayOf_47 : decode cX12_wayOf 47 = .ok (.bipush 6, 2) := by decide +kernel
theorem dX12_wayOf_49 : decode cX12_wayOf 49 = .ok (.iload_n 2, 1) := by decide +kernel
theorem dX12_wayOf_50 : decode cX12_wayOf 50 = .ok (.imul, 1) := by decide +kernel
theorem dX12_wayOf_51 : decode cX12_wayOf 51 = .ok (.iconst 4, 1) := by decide +kernel
theorem dX12_wayOf_52 : decode cX12_wayOf 52 = .ok (.iadd, 1) := by decide +kernel
theorem dX12_wayOf_53 : decode cX12_wayOf 53 = .ok (.iaload, 1) := by decide +kernel
theorem dX12_wayOf_54 : decode cX12_wayOf 54 = .ok (.aload_n 0, 1) := by decide +kernel
theorem dX12_wayOf_55 : decode cX12_wayOf 55 = .ok (.getfield 43, 3) := by decide +kernel
theorem dX12_wayOf_58 : decode cX12_wayOf 58 = .ok (.bipush 6, 2) := by decide +kernel
theorem dX12_wayOf_60 : decode cX12_wayOf 60 = .ok (.iload_n 3, 1) := by decide +kernel
theorem dX12_wayOf_61 : decode cX12_wayOf 61 = .ok (.imul, 1) := by decide +kernel
theorem dX12_wayOf_62 : decode cX12_wayOf 62 = .ok (.iconst 4, 1) := by decide +kernel
theorem dX12_wayOf_63 : decode cX12_wayOf 63 = .ok (.iadd, 1) := by decide +kernel
theorem dX12_wayOf_64 : decode cX12_wayOf 64 = .ok (.iaload, 1) := by decide +kernel
theorem dX12_wayOf_65 : decode cX12_wayOf 65 = .ok (.if_icmp .eq 19, 3) := by decide +kernel
theorem dX12_wayOf_68 : decode cX12_wayOf 68 = .ok (.aload_n 0, 1) := by decide +kernel
theorem dX12_wayOf_69 : decode cX12_wayOf 69 = .ok (.iload_n 2, 1) := by decide +kernel
theorem dX12_wayOf_70 : decode cX12_wayOf 70 = .ok (.iload_n 3, 1) := by decide +kernel
theorem dX12_wayOf_71 : decode cX12_wayOf 71 = .ok (.invokevirtual 476, 3) := by decide +kernel
theorem dX12_wayOf_74 : decode cX12_wayOf 74 = .ok (.ifCond .eq 10, 3) := by decide +kernel
theorem dX12_wayOf_77 : decode cX12_wayOf 77 = .ok (.bipush 101, 2) := by decide +kernel
theorem dX12_wayOf_79 : decode cX12_wayOf 79 = .ok (.iload_n 1, 1) := by decide +kernel
theorem dX12_wayOf_80 : decode cX12_wayOf 80 = .ok (.iadd, 1) := by decide +kernel
theorem dX12_wayOf_81 : decode cX12_wayOf 81 = .ok (.goto 5, 3) := by decide +kernel
theorem dX12_wayOf_84 : decode cX12_wayOf 84 = .ok (.bipush 99, 2) := by decide +kernel
theorem dX12_wayOf_86 : decode cX12_wayOf 86 = .ok (.ireturn, 1) := by decide +kernel
theorem dX12_fit_0 : decode cX12_fit 0 = .ok (.aload_n 0, 1) := by decide +kernel
theorem dX12_fit_1 : decode cX12_fit 1 = .ok (.iconst 0, 1) := by decide +kernel
theorem dX12_fit_2 : decode cX12_fit 2 = .ok (.putfield 99, 3) := by decide +kernel
theorem dX12_fit_5 : decode cX12_fit 5 = .ok (.aload_n 0, 1) := by decide +kernel
theorem dX12_fit_6 : decode cX12_fit 6 = .ok (.getfield 297, 3) := by decide +kernel
theorem dX12_fit_9 : decode cX12_fit 9 = .ok (.ifCond .eq 8, 3) := by decide +kernel
theorem dX12_fit_12 : decode cX12_fit 12 = .ok (.iload_n 1, 1) := by decide +kernel
theorem dX12_fit_13 : decode cX12_fit 13 = .ok (.iconst (-1), 1) := by decide +kernel
theorem dX12_fit_14 : decode cX12_fit 14 = .ok (.if_icmp .ge 5, 3) := by decide +kernel
theorem dX12_fit_17 : decode cX12_fit 17 = .ok (.iconst (-1), 1) := by decide +kernel
theorem dX12_fit_18 : decode cX12_fit 18 = .ok (.ireturn, 1) := by decide +kernel
theorem dX12_fit_19 : decode cX12_fit 19 = .ok (.iconst 0, 1) := by decide +kernel
theorem dX12_fit_20 : decode cX12_fit 20 = .ok (.istore_n 2, 1) := by decide +kernel
theorem dX12_fit_21 : decode cX12_fit 21 = .ok (.iconst 0, 1) := by decide +kernel
theorem dX12_fit_22 : decode cX12_fit 22 = .ok (.istore_n 3, 1) := by decide +kernel
theorem dX12_fit_23 : decode cX12_fit 23 = .ok (.iload_n 3, 1) := by decide +kernel
theorem dX12_fit_24 : decode cX12_fit 24 = .ok (.bipush 10, 2) := by decide +kernel
theorem dX12_fit_26 : decode cX12_fit 26 = .ok (.aload_n 0, 1) := by decide +kernel
theorem dX12_fit_27 : decode cX12_fit 27 = .ok (.getfield 297, 3) := by decide +kernel
theorem dX12_fit_30 : decode cX12_fit 30 = .ok (.imul, 1) := by decide +kernel
theorem dX12_fit_31 : decode cX12_fit 31 = .ok (.if_icmp .ge 37, 3) := by decide +kernel
theorem dX12_fit_34 : decode cX12_fit 34 = .ok (.aload_n 0, 1) := by decide +kernel
theorem dX12_fit_35 : decode cX12_fit 35 = .ok (.iload_n 3, 1) := by decide +kernel
theorem dX12_fit_36 : decode cX12_fit 36 = .ok (.invokevirtual 479, 3) := by decide +kernel
theorem dX12_fit_39 : decode cX12_fit 39 = .ok (.istore 4, 2) := by decide +kernel
theorem dX12_fit_41 : decode cX12_fit 41 = .ok (.iload 4, 2) := by decide +kernel
theorem dX12_fit_43 : decode cX12_fit 43 = .ok (.bipush 99, 2) := by decide +kernel
theorem dX12_fit_45 : decode cX12_fit 45 = .ok (.if_icmp .ne 6, 3) := by decide +kernel
theorem dX12_fit_48 : decode cX12_fit 48 = .ok (.goto 14, 3) := by decide +kernel
theorem dX12_fit_51 : decode cX12_fit 51 = .ok (.iload_n 2, 1) := by decide +kernel
theorem dX12_fit_52 : decode cX12_fit 52 = .ok (.iload_n 1, 1) := by decide +kernel
theorem dX12_fit_53 : decode cX12_fit 53 = .ok (.if_icmp .ne 6, 3) := by decide +kernel
theorem dX12_fit_56 : decode cX12_fit 56 = .ok (.iload 4, 2) := by decide +kernel
theorem dX12_fit_58 : decode cX12_fit 58 = .ok (.ireturn, 1) := by decide +kernel
theorem dX12_fit_59 : decode cX12_fit 59 = .ok (.iinc 2 1, 3) := by decide +kernel
theorem dX12_fit_62 : decode cX12_fit 62 = .ok (.iinc 3 1, 3) := by decide +kernel
theorem dX12_fit_65 : decode cX12_fit 65 = .ok (.goto (-42), 3) := by decide +kernel
theorem dX12_fit_68 : decode cX12_fit 68 = .ok (.iload_n 1, 1) := by decide +kernel
theorem dX12_fit_69 : decode cX12_fit 69 = .ok (.iconst (-1), 1) := by decide +kernel
theorem dX12_fit_70 : decode cX12_fit 70 = .ok (.if_icmp .ne 7, 3) := by decide +kernel
theorem dX12_fit_73 : decode cX12_fit 73 = .ok (.iload_n 2, 1) := by decide +kernel
theorem dX12_fit_74 : decode cX12_fit 74 = .ok (.goto 4, 3) := by decide +kernel
theorem dX12_fit_77 : decode cX12_fit 77 = .ok (.iconst (-1), 1) := by decide +kernel
theorem dX12_fit_78 : decode cX12_fit 78 = .ok (.ireturn, 1) := by decide +kernel
theorem dX12_best_0 : decode cX12_best 0 = .ok (.aload_n 0, 1) := by decide +kernel
theorem dX12_best_1 : decode cX12_best 1 = .ok (.iconst 0, 1) := by decide +kernel
theorem dX12_best_2 : decode cX12_best 2 = .ok (.putfield 99, 3) := by decide +kernel
theorem dX12_best_5 : decode cX12_best 5 = .ok (.aload_n 0, 1) := by decide +kernel
theorem dX12_best_6 : decode cX12_best 6 = .ok (.getfield 297, 3) := by decide +kernel
theorem dX12_best_9 : decode cX12_best 9 = .ok (.ifCond .eq 11, 3) := by decide +kernel
theorem dX12_best_12 : decode cX12_best 12 = .ok (.aload_n 0, 1) := by decide +kernel
theorem dX12_best_13 : decode cX12_best 13 = .ok (.iconst (-1), 1) := by decide +kernel
theorem dX12_best_14 : decode cX12_best 14 = .ok (.invokevirtual 482, 3) := by decide +kernel
theorem dX12_best_17 : decode cX12_best 17 = .ok (.ifCond .ne 5, 3) := by decide +kernel
theorem dX12_best_20 : decode cX12_best 20 = .ok (.iconst (-1), 1) := by decide +kernel
theorem dX12_best_21 : decode cX12_best 21 = .ok (.ireturn, 1) := by decide +kernel
theorem dX12_best_22 : decode cX12_best 22 = .ok (.iconst (-1), 1) := by decide +kernel
theorem dX12_best_23 : decode cX12_best 23 = .ok (.istore_n 1, 1) := by decide +kernel
theorem dX12_best_24 : decode cX12_best 24 = .ok (.iconst 0, 1) := by decide +kernel
theorem dX12_best_25 : decode cX12_best 25 = .ok (.istore_n 2, 1) := by decide +kernel
theorem dX12_best_26 : decode cX12_best 26 = .ok (.iconst 0, 1) := by decide +kernel
theorem dX12_best_27 : decode cX12_best 27 = .ok (.istore_n 3, 1) := by decide +kernel
theorem dX12_best_28 : decode cX12_best 28 = .ok (.iload_n 3, 1) := by decide +kernel
theorem dX12_best_29 : decode cX12_best 29 = .ok (.aload_n 0, 1) := by decide +kernel
theorem dX12_best_30 : decode cX12_best 30 = .ok (.getfield 297, 3) := by decide +kernel
theorem dX12_best_33 : decode cX12_best 33 = .ok (.if_icmp .ge 118, 3) := by decide +kernel
theorem dX12_best_36 : decode cX12_best 36 = .ok (.iconst 0, 1) := by decide +kernel
theorem dX12_best_37 : decode cX12_best 37 = .ok (.istore 4, 2) := by decide +kernel
theorem dX12_best_39 : decode cX12_best 39 = .ok (.iconst 0, 1) := by decide +kernel
theorem dX12_best_40 : decode cX12_best 40 = .ok (.istore 5, 2) := by decide +kernel
theorem dX12_best_42 : decode cX12_best 42 = .ok (.iload 5, 2) := by decide +kernel
theorem dX12_best_44 : decode cX12_best 44 = .ok (.bipush 10, 2) := by decide +kernel
theorem dX12_best_46 : decode cX12_best 46 = .ok (.aload_n 0, 1) := by decide +kernel
theorem dX12_best_47 : decode cX12_best 47 = .ok (.getfield 297, 3) := by decide +kernel
theorem dX12_best_50 : decode cX12_best 50 = .ok (.imul, 1) := by decide +kernel
theorem dX12_best_51 : decode cX12_best 51 = .ok (.if_icmp .ge 68, 3) := by decide +kernel
theorem dX12_best_54 : decode cX12_best 54 = .ok (.aload_n 0, 1) := by decide +kernel
theorem dX12_best_55 : decode cX12_best 55 = .ok (.iload 5, 2) := by decide +kernel
theorem dX12_best_57 : decode cX12_best 57 = .ok (.invokevirtual 479, 3) := by decide +kernel
theorem dX12_best_60 : decode cX12_best 60 = .ok (.bipush 99, 2) := by decide +kernel
theorem dX12_best_62 : decode cX12_best 62 = .ok (.if_icmp .ne 6, 3) := by decide +kernel
theorem dX12_best_65 : decode cX12_best 65 = .ok (.goto 48, 3) := by decide +kernel
theorem dX12_best_68 : decode cX12_best 68 = .ok (.iload 5, 2) := by decide +kernel
theorem dX12_best_70 : decode cX12_best 70 = .ok (.ifCond .le 25, 3) := by decide +kernel
theorem dX12_best_73 : decode cX12_best 73 = .ok (.iload 5, 2) := by decide +kernel
theorem dX12_best_75 : decode cX12_best 75 = .ok (.bipush 10, 2) := by decide +kernel
theorem dX12_best_77 : decode cX12_best 77 = .ok (.idiv, 1) := by decide +kernel
theorem dX12_best_78 : decode cX12_best 78 = .ok (.iload_n 3, 1) := by decide +kernel
theorem dX12_best_79 : decode cX12_best 79 = .ok (.if_icmp .eq 12, 3) := by decide +kernel
theorem dX12_best_82 : decode cX12_best 82 = .ok (.iload 5, 2) := by decide +kernel
theorem dX12_best_84 : decode cX12_best 84 = .ok (.bipush 10, 2) := by decide +kernel
theorem dX12_best_86 : decode cX12_best 86 = .ok (.irem, 1) := by decide +kernel
theorem dX12_best_87 : decode cX12_best 87 = .ok (.iload_n 3, 1) := by decide +kernel
theorem dX12_best_88 : decode cX12_best 88 = .ok (.if_icmp .ne 7, 3) := by decide +kernel
theorem dX12_best_91 : decode cX12_best 91 = .ok (.iconst 1, 1) := by decide +kernel
theorem dX12_best_92 : decode cX12_best 92 = .ok (.goto 4, 3) := by decide +kernel
theorem dX12_best_95 : decode cX12_best 95 = .ok (.iconst 0, 1) := by decide +kernel
theorem dX12_best_96 : decode cX12_best 96 = .ok (.istore 6, 2) := by decide +kernel
theorem dX12_best_98 : decode cX12_best 98 = .ok (.iload 4, 2) := by decide +kernel
theorem dX12_best_100 : decode cX12_best 100 = .ok (.iload 6, 2) := by decide +kernel
theorem dX12_best_102 : decode cX12_best 102 = .ok (.ifCond .eq 7, 3) := by decide +kernel
theorem dX12_best_105 : decode cX12_best 105 = .ok (.iconst (-1), 1) := by decide +kernel
theorem dX12_best_106 : decode cX12_best 106 = .ok (.goto 4, 3) := by decide +kernel
theorem dX12_best_109 : decode cX12_best 109 = .ok (.iconst 1, 1) := by decide +kernel
theorem dX12_best_110 : decode cX12_best 110 = .ok (.iadd, 1) := by decide +kernel
theorem dX12_best_111 : decode cX12_best 111 = .ok (.istore 4, 2) := by decide +kernel
theorem dX12_best_113 : decode cX12_best 113 = .ok (.iinc 5 1, 3) := by decide +kernel
theorem dX12_best_116 : decode cX12_best 116 = .ok (.goto (-74), 3) := by decide +kernel
theorem dX12_best_119 : decode cX12_best 119 = .ok (.iload 4, 2) := by decide +kernel
theorem dX12_best_121 : decode cX12_best 121 = .ok (.invokestatic 485, 3) := by decide +kernel
theorem dX12_best_124 : decode cX12_best 124 = .ok (.istore 4, 2) := by decide +kernel
theorem dX12_best_126 : decode cX12_best 126 = .ok (.iload_n 1, 1) := by decide +kernel
theorem dX12_best_127 : decode cX12_best 127 = .ok (.iconst (-1), 1) := by decide +kernel
theorem dX12_best_128 : decode cX12_best 128 = .ok (.if_icmp .eq 12, 3) := by decide +kernel
theorem dX12_best_131 : decode cX12_best 131 = .ok (.iload 4, 2) := by decide +kernel
theorem dX12_best_133 : decode cX12_best 133 = .ok (.iload_n 2, 1) := by decide +kernel
theorem dX12_best_134 : decode cX12_best 134 = .ok (.if_icmp .lt 6, 3) := by decide +kernel
theorem dX12_best_137 : decode cX12_best 137 = .ok (.goto 8, 3) := by decide +kernel
theorem dX12_best_140 : decode cX12_best 140 = .ok (.iload_n 3, 1) := by decide +kernel
theorem dX12_best_141 : decode cX12_best 141 = .ok (.istore_n 1, 1) := by decide +kernel
theorem dX12_best_142 : decode cX12_best 142 = .ok (.iload 4, 2) := by decide +kernel
theorem dX12_best_144 : decode cX12_best 144 = .ok (.istore_n 2, 1) := by decide +kernel
theorem dX12_best_145 : decode cX12_best 145 = .ok (.iinc 3 1, 3) := by decide +kernel
theorem dX12_best_148 : decode cX12_best 148 = .ok (.goto (-120), 3) := by decide +kernel
theorem dX12_best_151 : decode cX12_best 151 = .ok (.iload_n 1, 1) := by decide +kernel
theorem dX12_best_152 : decode cX12_best 152 = .ok (.ireturn, 1) := by decide +kernel
theorem dX12_heads_0 : decode cX12_heads 0 = .ok (.aload_n 0, 1) := by decide +kernel
theorem dX12_heads_1 : decode cX12_heads 1 = .ok (.iconst 0, 1) := by decide +kernel
theorem dX12_heads_2 : decode cX12_heads 2 = .ok (.putfield 99, 3) := by decide +kernel
theorem dX12_heads_5 : decode cX12_heads 5 = .ok (.aload_n 0, 1) := by decide +kernel
theorem dX12_heads_6 : decode cX12_heads 6 = .ok (.getfield 297, 3) := by decide +kernel
theorem dX12_heads_9 : decode cX12_heads 9 = .ok (.ifCond .eq 20, 3) := by decide +kernel
theorem dX12_heads_12 : decode cX12_heads 12 = .ok (.iload_n 1, 1) := by decide +kernel
theorem dX12_heads_13 : decode cX12_heads 13 = .ok (.i2l, 1) := by decide +kernel
theorem dX12_heads_14 : decode cX12_heads 14 = .ok (.lconst 0, 1) := by decide +kernel
theorem dX12_heads_15 : decode cX12_heads 15 = .ok (.ldc2_w 488, 3) := by decide +kernel
theorem dX12_heads_18 : decode cX12_heads 18 = .ok (.invokestatic 220, 3) := by decide +kernel
theorem dX12_heads_21 : decode cX12_heads 21 = .ok (.ifCond .eq 8, 3) := by decide +kernel
theorem dX12_heads_24 : decode cX12_heads 24 = .ok (.iload_n 2, 1) := by decide +kernel
theorem dX12_heads_25 : decode cX12_heads 25 = .ok (.iconst (-1), 1) := by decide +kernel
theorem dX12_heads_26 : decode cX12_heads 26 = .ok (.if_icmp .ge 5, 3) := by decide +kernel
theorem dX12_heads_29 : decode cX12_heads 29 = .ok (.iconst (-1), 1) := by decide +kernel
theorem dX12_heads_30 : decode cX12_heads 30 = .ok (.ireturn, 1) := by decide +kernel
theorem dX12_heads_31 : decode cX12_heads 31 = .ok (.iconst 0, 1) := by decide +kernel
theorem dX12_heads_32 : decode cX12_heads 32 = .ok (.istore_n 3, 1) := by decide +kernel
theorem dX12_heads_33 : decode cX12_heads 33 = .ok (.iconst 0, 1) := by decide +kernel
theorem dX12_heads_34 : decode cX12_heads 34 = .ok (.istore 4, 2) := by decide +kernel
theorem dX12_heads_36 : decode cX12_heads 36 = .ok (.iload 4, 2) := by decide +kernel
theorem dX12_heads_38 : decode cX12_heads 38 = .ok (.aload_n 0, 1) := by decide +kernel
theorem dX12_heads_39 : decode cX12_heads 39 = .ok (.getfield 297, 3) := by decide +kernel
theorem dX12_heads_42 : decode cX12_heads 42 = .ok (.if_icmp .ge 29, 3) := by decide +kernel
theorem dX12_heads_45 : decode cX12_heads 45 = .ok (.iload_n 3, 1) := by decide +kernel
theorem dX12_heads_46 : decode cX12_heads 46 = .ok (.aload_n 0, 1) := by decide +kernel
theorem dX12_heads_47 : decode cX12_heads 47 = .ok (.iload 4, 2) := by decide +kernel
theorem dX12_heads_49 : decode cX12_heads 49 = .ok (.invokevirtual 379, 3) := by decide +kernel
theorem dX12_heads_52 : decode cX12_heads 52 = .ok (.ifCond .eq 10, 3) := by decide +kernel
theorem dX12_heads_55 : decode cX12_heads 55 = .ok (.iconst 1, 1) := by decide +kernel
theorem dX12_heads_56 : decode cX12_heads 56 = .ok (.iload 4, 2) := by decide +kernel
theorem dX12_heads_58 : decode cX12_heads 58 = .ok (.ishl, 1) := by decide +kernel
theorem dX12_heads_59 : decode cX12_heads 59 = .ok (.goto 4, 3) := by decide +kernel
theorem dX12_heads_62 : decode cX12_heads 62 = .ok (.iconst 0, 1) := by decide +kernel
theorem dX12_heads_63 : decode cX12_heads 63 = .ok (.ior, 1) := by decide +kernel
theorem dX12_heads_64 : decode cX12_heads 64 = .ok (.istore_n 3, 1) := by decide +kernel
theorem dX12_heads_65 : decode cX12_heads 65 = .ok (.iinc 4 1, 3) := by decide +kernel
theorem dX12_heads_68 : decode cX12_heads 68 = .ok (.goto (-32), 3) := by decide +kernel
theorem dX12_heads_71 : decode cX12_heads 71 = .ok (.iconst 0, 1) := by decide +kernel
theorem dX12_heads_72 : decode cX12_heads 72 = .ok (.istore 4, 2) := by decide +kernel
theorem dX12_heads_74 : decode cX12_heads 74 = .ok (.iconst 0, 1) := by decide +kernel
theorem dX12_heads_75 : decode cX12_heads 75 = .ok (.istore 5, 2) := by decide +kernel
theorem dX12_heads_77 : decode cX12_heads 77 = .ok (.iload 5, 2) := by decide +kernel
theorem dX12_heads_79 : decode cX12_heads 79 = .ok (.iload_n 3, 1) := by decide +kernel
theorem dX12_heads_80 : decode cX12_heads 80 = .ok (.if_icmp .gt 47, 3) := by decide +kernel
theorem dX12_heads_83 : decode cX12_heads 83 = .ok (.iload 5, 2) := by decide +kernel
theorem dX12_heads_85 : decode cX12_heads 85 = .ok (.iload_n 3, 1) := by decide +kernel
theorem dX12_heads_86 : decode cX12_heads 86 = .ok (.iconst (-1), 1) := by decide +kernel
theorem dX12_heads_87 : decode cX12_heads 87 = .ok (.ixor, 1) := by decide +kernel
theorem dX12_heads_88 : decode cX12_heads 88 = .ok (.iand, 1) := by decide +kernel
theorem dX12_heads_89 : decode cX12_heads 89 = .ok (.ifCond .ne 32, 3) := by decide +kernel
theorem dX12_heads_92 : decode cX12_heads 92 = .ok (.aload_n 0, 1) := by decide +kernel
theorem dX12_heads_93 : decode cX12_heads 93 = .ok (.getfield 303, 3) := by decide +kernel
theorem dX12_heads_96 : decode cX12_heads 96 = .ok (.iload 5, 2) := by decide +kernel
theorem dX12_heads_98 : decode cX12_heads 98 = .ok (.invokestatic 490, 3) := by decide +kernel
theorem dX12_heads_101 : decode cX12_heads 101 = .ok (.iadd, 1) := by decide +kernel
theorem dX12_heads_102 : decode cX12_heads 102 = .ok (.iload_n 1, 1) := by decide +kernel
theorem dX12_heads_103 : decode cX12_heads 103 = .ok (.if_icmp .eq 6, 3) := by decide +kernel
theorem dX12_heads_106 : decode cX12_heads 106 = .ok (.goto 15, 3) := by decide +kernel
theorem dX12_heads_109 : decode cX12_heads 109 = .ok (.iload 4, 2) := by decide +kernel
theorem dX12_heads_111 : decode cX12_heads 111 = .ok (.iload_n 2, 1) := by decide +kernel
theorem dX12_heads_112 : decode cX12_heads 112 = .ok (.if_icmp .ne 6, 3) := by decide +kernel
theorem dX12_heads_115 : decode cX12_heads 115 = .ok (.iload 5, 2) := by decide +kernel
theorem dX12_heads_117 : decode cX12_heads 117 = .ok (.ireturn, 1) := by decide +kernel
theorem dX12_heads_118 : decode cX12_heads 118 = .ok (.iinc 4 1, 3) := by decide +kernel
theorem dX12_heads_121 : decode cX12_heads 121 = .ok (.iinc 5 1, 3) := by decide +kernel
theorem dX12_heads_124 : decode cX12_heads 124 = .ok (.goto (-47), 3) := by decide +kernel
theorem dX12_heads_127 : decode cX12_heads 127 = .ok (.iload_n 2, 1) := by decide +kernel
theorem dX12_heads_128 : decode cX12_heads 128 = .ok (.iconst (-1), 1) := by decide +kernel
theorem dX12_heads_129 : decode cX12_heads 129 = .ok (.if_icmp .ne 8, 3) := by decide +kernel
theorem dX12_heads_132 : decode cX12_heads 132 = .ok (.iload 4, 2) := by decide +kernel
theorem dX12_heads_134 : decode cX12_heads 134 = .ok (.goto 4, 3) := by decide +kernel
theorem dX12_heads_137 : decode cX12_heads 137 = .ok (.iconst (-1), 1) := by decide +kernel
theorem dX12_heads_138 : decode cX12_heads 138 = .ok (.ireturn, 1) := by decide +kernel
theorem dX12_troubleOf_0 : decode cX12_troubleOf 0 = .ok (.iconst 0, 1) := by decide +kernel
theorem dX12_troubleOf_1 : decode cX12_troubleOf 1 = .ok (.istore_n 1, 1) := by decide +kernel
theorem dX12_troubleOf_2 : decode cX12_troubleOf 2 = .ok (.iconst 0, 1) := by decide +kernel
theorem dX12_troubleOf_3 : decode cX12_troubleOf 3 = .ok (.istore_n 2, 1) := by decide +kernel
theorem dX12_troubleOf_4 : decode cX12_troubleOf 4 = .ok (.iload_n 2, 1) := by decide +kernel
theorem dX12_troubleOf_5 : decode cX12_troubleOf 5 = .ok (.aload_n 0, 1) := by decide +kernel
theorem dX12_troubleOf_6 : decode cX12_troubleOf 6 = .ok (.getfield 297, 3) := by decide +kernel
theorem dX12_troubleOf_9 : decode cX12_troubleOf 9 = .ok (.if_icmp .ge 99, 3) := by decide +kernel
theorem dX12_troubleOf_12 : decode cX12_troubleOf 12 = .ok (.iload_n 2, 1) := by decide +kernel
theorem dX12_troubleOf_13 : decode cX12_troubleOf 13 = .ok (.ifCond .le 24, 3) := by decide +kernel
theorem dX12_troubleOf_16 : decode cX12_troubleOf 16 = .ok (.aload_n 0, 1) := by decide +kernel
theorem dX12_troubleOf_17 : decode cX12_troubleOf 17 = .ok (.getfield 43, 3) := by decide +kernel
theorem dX12_troubleOf_20 : decode cX12_troubleOf 20 = .ok (.bipush 6, 2) := by decide +kernel
theorem dX12_troubleOf_22 : decode cX12_troubleOf 22 = .ok (.aload_n 0, 1) := by decide +kernel
theorem dX12_troubleOf_23 : decode cX12_troubleOf 23 = .ok (.getfield 93, 3) := by decide +kernel
theorem dX12_troubleOf_26 : decode cX12_troubleOf 26 = .ok (.iload_n 2, 1) := by decide +kernel
theorem dX12_troubleOf_27 : decode cX12_troubleOf 27 = .ok (.iconst 1, 1) := by decide +kernel
theorem dX12_troubleOf_28 : decode cX12_troubleOf 28 = .ok (.isub, 1) := by decide +kernel
theorem dX12_troubleOf_29 : decode cX12_troubleOf 29 = .ok (.iaload, 1) := by decide +kernel
theorem dX12_troubleOf_30 : decode cX12_troubleOf 30 = .ok (.imul, 1) := by decide +kernel
theorem dX12_troubleOf_31 : decode cX12_troubleOf 31 = .ok (.iconst 3, 1) := by decide +kernel
theorem dX12_troubleOf_32 : decode cX12_troubleOf 32 = .ok (.iadd, 1) := by decide +kernel
theorem dX12_troubleOf_33 : decode cX12_troubleOf 33 = .ok (.iaload, 1) := by decide +kernel
theorem dX12_troubleOf_34 : decode cX12_troubleOf 34 = .ok (.goto 4, 3) := by decide +kernel
theorem dX12_troubleOf_37 : decode cX12_troubleOf 37 = .ok (.iconst 0, 1) := by decide +kernel
theorem dX12_troubleOf_38 : decode cX12_troubleOf 38 = .ok (.iload_n 2, 1) := by decide +kernel
theorem dX12_troubleOf_39 : decode cX12_troubleOf 39 = .ok (.aload_n 0, 1) := by decide +kernel
theorem dX12_troubleOf_40 : decode cX12_troubleOf 40 = .ok (.getfield 297, 3) := by decide +kernel
theorem dX12_troubleOf_43 : decode cX12_troubleOf 43 = .ok (.iconst 1, 1) := by decide +kernel
theorem dX12_troubleOf_44 : decode cX12_troubleOf 44 = .ok (.isub, 1) := by decide +kernel
theorem dX12_troubleOf_45 : decode cX12_troubleOf 45 = .ok (.if_icmp .ge 24, 3) := by decide +kernel
theorem dX12_troubleOf_48 : decode cX12_troubleOf 48 = .ok (.aload_n 0, 1) := by decide +kernel
theorem dX12_troubleOf_49 : decode cX12_troubleOf 49 = .ok (.getfield 43, 3) := by decide +kernel
theorem dX12_troubleOf_52 : decode cX12_troubleOf 52 = .ok (.bipush 6, 2) := by decide +kernel
theorem dX12_troubleOf_54 : decode cX12_troubleOf 54 = .ok (.aload_n 0, 1) := by decide +kernel
theorem dX12_troubleOf_55 : decode cX12_troubleOf 55 = .ok (.getfield 93, 3) := by decide +kernel
theorem dX12_troubleOf_58 : decode cX12_troubleOf 58 = .ok (.iload_n 2, 1) := by decide +kernel
theorem dX12_troubleOf_59 : decode cX12_troubleOf 59 = .ok (.iconst 1, 1) := by decide +kernel
theorem dX12_troubleOf_60 : decode cX12_troubleOf 60 = .ok (.iadd, 1) := by decide +kernel
theorem dX12_troubleOf_61 : decode cX12_troubleOf 61 = .ok (.iaload, 1) := by decide +kernel
theorem dX12_troubleOf_62 : decode cX12_troubleOf 62 = .ok (.imul, 1) := by decide +kernel
theorem dX12_troubleOf_63 : decode cX12_troubleOf 63 = .ok (.iconst 3, 1) := by decide +kernel
theorem dX12_troubleOf_64 : decode cX12_troubleOf 64 = .ok (.iadd, 1) := by decide +kernel
theorem dX12_troubleOf_65 : decode cX12_troubleOf 65 = .ok (.iaload, 1) := by decide +kernel
theorem dX12_troubleOf_66 : decode cX12_troubleOf 66 = .ok (.goto 4, 3) := by decide +kernel
theorem dX12_troubleOf_69 : decode cX12_troubleOf 69 = .ok (.iconst 0, 1) := by decide +kernel
theorem dX12_troubleOf_70 : decode cX12_troubleOf 70 = .ok (.iadd, 1) := by decide +kernel
theorem dX12_troubleOf_71 : decode cX12_troubleOf 71 = .ok (.istore_n 3, 1) := by decide +kernel
theorem dX12_troubleOf_72 : decode cX12_troubleOf 72 = .ok (.iload_n 1, 1) := by decide +kernel
theorem dX12_troubleOf_73 : decode cX12_troubleOf 73 = .ok (.aload_n 0, 1) := by decide +kernel
theorem dX12_troubleOf_74 : decode cX12_troubleOf 74 = .ok (.getfield 43, 3) := by decide +kernel
theorem dX12_troubleOf_77 : decode cX12_troubleOf 77 = .ok (.bipush 6, 2) := by decide +kernel
theorem dX12_troubleOf_79 : decode cX12_troubleOf 79 = .ok (.aload_n 0, 1) := by decide +kernel
theorem dX12_troubleOf_80 : decode cX12_troubleOf 80 = .ok (.getfield 93, 3) := by decide +kernel
theorem dX12_troubleOf_83 : decode cX12_troubleOf 83 = .ok (.iload_n 2, 1) := by decide +kernel
theorem dX12_troubleOf_84 : decode cX12_troubleOf 84 = .ok (.iaload, 1) := by decide +kernel
theorem dX12_troubleOf_85 : decode cX12_troubleOf 85 = .ok (.imul, 1) := by decide +kernel
theorem dX12_troubleOf_86 : decode cX12_troubleOf 86 = .ok (.iconst 2, 1) := by decide +kernel
theorem dX12_troubleOf_87 : decode cX12_troubleOf 87 = .ok (.iadd, 1) := by decide +kernel
theorem dX12_troubleOf_88 : decode cX12_troubleOf 88 = .ok (.iaload, 1) := by decide +kernel
theorem dX12_troubleOf_89 : decode cX12_troubleOf 89 = .ok (.iload_n 3, 1) := by decide +kernel
theorem dX12_troubleOf_90 : decode cX12_troubleOf 90 = .ok (.aload_n 0, 1) := by decide +kernel
theorem dX12_troubleOf_91 : decode cX12_troubleOf 91 = .ok (.getfield 297, 3) := by decide +kernel
theorem dX12_troubleOf_94 : decode cX12_troubleOf 94 = .ok (.iadd, 1) := by decide +kernel
theorem dX12_troubleOf_95 : decode cX12_troubleOf 95 = .ok (.iconst 1, 1) := by decide +kernel
theorem dX12_troubleOf_96 : decode cX12_troubleOf 96 = .ok (.isub, 1) := by decide +kernel
theorem dX12_troubleOf_97 : decode cX12_troubleOf 97 = .ok (.iload_n 2, 1) := by decide +kernel
theorem dX12_troubleOf_98 : decode cX12_troubleOf 98 = .ok (.isub, 1) := by decide +kernel
theorem dX12_troubleOf_99 : decode cX12_troubleOf 99 = .ok (.imul, 1) := by decide +kernel
theorem dX12_troubleOf_100 : decode cX12_troubleOf 100 = .ok (.iadd, 1) := by decide +kernel
theorem dX12_troubleOf_101 : decode cX12_troubleOf 101 = .ok (.istore_n 1, 1) := by decide +kernel
theorem dX12_troubleOf_102 : decode cX12_troubleOf 102 = .ok (.iinc 2 1, 3) := by decide +kernel
theorem dX12_troubleOf_105 : decode cX12_troubleOf 105 = .ok (.goto (-101), 3) := by decide +kernel
theorem dX12_troubleOf_108 : decode cX12_troubleOf 108 = .ok (.iload_n 1, 1) := by decide +kernel
theorem dX12_troubleOf_109 : decode cX12_troubleOf 109 = .ok (.ireturn, 1) := by decide +kernel
theorem dX12_goGive_0 : decode cX12_goGive 0 = .ok (.iload_n 1, 1) := by decide +kernel
theorem dX12_goGive_1 : decode cX12_goGive 1 = .ok (.aload_n 0, 1) := by decide +kernel
theorem dX12_goGive_2 : decode cX12_goGive 2 = .ok (.getfield 297, 3) := by decide +kernel
theorem dX12_goGive_5 : decode cX12_goGive 5 = .ok (.if_icmp .ne 39, 3) := by decide +kernel
theorem dX12_goGive_8 : decode cX12_goGive 8 = .ok (.aload_n 0, 1) := by decide +kernel
theorem dX12_goGive_9 : decode cX12_goGive 9 = .ok (.invokevirtual 495, 3) := by decide +kernel
theorem dX12_goGive_12 : decode cX12_goGive 12 = .ok (.istore 4, 2) := by decide +kernel
theorem dX12_goGive_14 : decode cX12_goGive 14 = .ok (.aload_n 0, 1) := by decide +kernel
theorem dX12_goGive_15 : decode cX12_goGive 15 = .ok (.getfield 498, 3) := by decide +kernel
theorem dX12_goGive_18 : decode cX12_goGive 18 = .ok (.iconst (-1), 1) := by decide +kernel
theorem dX12_goGive_19 : decode cX12_goGive 19 = .ok (.if_icmp .eq 13, 3) := by decide +kernel
theorem dX12_goGive_22 : decode cX12_goGive 22 = .ok (.iload 4, 2) := by decide +kernel
theorem dX12_goGive_24 : decode cX12_goGive 24 = .ok (.aload_n 0, 1) := by decide +kernel
theorem dX12_goGive_25 : decode cX12_goGive 25 = .ok (.getfield 498, 3) := by decide +kernel
theorem dX12_goGive_28 : decode cX12_goGive 28 = .ok (.if_icmp .lt 4, 3) := by decide +kernel
theorem dX12_goGive_31 : decode cX12_goGive 31 = .ok (.return_, 1) := by decide +kernel
theorem dX12_goGive_32 : decode cX12_goGive 32 = .ok (.aload_n 0, 1) := by decide +kernel
theorem dX12_goGive_33 : decode cX12_goGive 33 = .ok (.iload 4, 2) := by decide +kernel
theorem dX12_goGive_35 : decode cX12_goGive 35 = .ok (.putfield 498, 3) := by decide +kernel
theorem dX12_goGive_38 : decode cX12_goGive 38 = .ok (.aload_n 0, 1) := by decide +kernel
theorem dX12_goGive_39 : decode cX12_goGive 39 = .ok (.iload_n 3, 1) := by decide +kernel
theorem dX12_goGive_40 : decode cX12_goGive 40 = .ok (.putfield 501, 3) := by decide +kernel
theorem dX12_goGive_43 : decode cX12_goGive 43 = .ok (.return_, 1) := by decide +kernel
theorem dX12_goGive_44 : decode cX12_goGive 44 = .ok (.iconst 0, 1) := by decide +kernel
theorem dX12_goGive_45 : decode cX12_goGive 45 = .ok (.istore 4, 2) := by decide +kernel
theorem dX12_goGive_47 : decode cX12_goGive 47 = .ok (.iload 4, 2) := by decide +kernel
theorem dX12_goGive_49 : decode cX12_goGive 49 = .ok (.aload_n 0, 1) := by decide +kernel
theorem dX12_goGive_50 : decode cX12_goGive 50 = .ok (.getfield 297, 3) := by decide +kernel
theorem dX12_goGive_53 : decode cX12_goGive 53 = .ok (.if_icmp .ge 49, 3) := by decide +kernel
theorem dX12_goGive_56 : decode cX12_goGive 56 = .ok (.iload_n 2, 1) := by decide +kernel
theorem dX12_goGive_57 : decode cX12_goGive 57 = .ok (.iload 4, 2) := by decide +kernel
theorem dX12_goGive_59 : decode cX12_goGive 59 = .ok (.invokestatic 232, 3) := by decide +kernel
theorem dX12_goGive_62 : decode cX12_goGive 62 = .ok (.ifCond .eq 6, 3) := by decide +kernel
theorem dX12_goGive_65 : decode cX12_goGive 65 = .ok (.goto 31, 3) := by decide +kernel
theorem dX12_goGive_68 : decode cX12_goGive 68 = .ok (.aload_n 0, 1) := by decide +kernel
theorem dX12_goGive_69 : decode cX12_goGive 69 = .ok (.getfield 93, 3) := by decide +kernel
theorem dX12_goGive_72 : decode cX12_goGive 72 = .ok (.iload_n 1, 1) := by decide +kernel
theorem dX12_goGive_73 : decode cX12_goGive 73 = .ok (.iload 4, 2) := by decide +kernel
theorem dX12_goGive_75 : decode cX12_goGive 75 = .ok (.iastore, 1) := by decide +kernel
theorem dX12_goGive_76 : decode cX12_goGive 76 = .ok (.aload_n 0, 1) := by decide +kernel
theorem dX12_goGive_77 : decode cX12_goGive 77 = .ok (.iload_n 1, 1) := by decide +kernel
theorem dX12_goGive_78 : decode cX12_goGive 78 = .ok (.iconst 1, 1) := by decide +kernel
theorem dX12_goGive_79 : decode cX12_goGive 79 = .ok (.iadd, 1) := by decide +kernel
theorem dX12_goGive_80 : decode cX12_goGive 80 = .ok (.iload_n 2, 1) := by decide +kernel
theorem dX12_goGive_81 : decode cX12_goGive 81 = .ok (.iconst 1, 1) := by decide +kernel
theorem dX12_goGive_82 : decode cX12_goGive 82 = .ok (.iload 4, 2) := by decide +kernel
theorem dX12_goGive_84 : decode cX12_goGive 84 = .ok (.ishl, 1) := by decide +kernel
theorem dX12_goGive_85 : decode cX12_goGive 85 = .ok (.ior, 1) := by decide +kernel
theorem dX12_goGive_86 : decode cX12_goGive 86 = .ok (.bipush 10, 2) := by decide +kernel
theorem dX12_goGive_88 : decode cX12_goGive 88 = .ok (.iload_n 3, 1) := by decide +kernel
theorem dX12_goGive_89 : decode cX12_goGive 89 = .ok (.imul, 1) := by decide +kernel
theorem dX12_goGive_90 : decode cX12_goGive 90 = .ok (.iload 4, 2) := by decide +kernel
theorem dX12_goGive_92 : decode cX12_goGive 92 = .ok (.iadd, 1) := by decide +kernel
theorem dX12_goGive_93 : decode cX12_goGive 93 = .ok (.invokevirtual 504, 3) := by decide +kernel
theorem dX12_goGive_96 : decode cX12_goGive 96 = .ok (.iinc 4 1, 3) := by decide +kernel
theorem dX12_goGive_99 : decode cX12_goGive 99 = .ok (.goto (-52), 3) := by decide +kernel
theorem dX12_goGive_102 : decode cX12_goGive 102 = .ok (.return_, 1) := by decide +kernel
theorem dX12_give_0 : decode cX12_give 0 = .ok (.aload_n 0, 1) := by decide +kernel
theorem dX12_give_1 : decode cX12_give 1 = .ok (.iconst 0, 1) := by decide +kernel
theorem dX12_give_2 : decode cX12_give 2 = .ok (.putfield 99, 3) := by decide +kernel
theorem dX12_give_5 : decode cX12_give 5 = .ok (.aload_n 0, 1) := by decide +kernel
theorem dX12_give_6 : decode cX12_give 6 = .ok (.getfield 297, 3) := by decide +kernel
theorem dX12_give_9 : decode cX12_give 9 = .ok (.ifCond .eq 13, 3) := by decide +kernel
theorem dX12_give_12 : decode cX12_give 12 = .ok (.iload_n 1, 1) := by decide +kernel
theorem dX12_give_13 : decode cX12_give 13 = .ok (.i2l, 1) := by decide +kernel
theorem dX12_give_14 : decode cX12_give 14 = .ok (.lconst 0, 1) := by decide +kernel
theorem dX12_give_15 : decode cX12_give 15 = .ok (.lconst 1, 1) := by decide +kernel
theorem dX12_give_16 : decode cX12_give 16 = .ok (.invokestatic 220, 3) := by decide +kernel
theorem dX12_give_19 : decode cX12_give 19 = .ok (.ifCond .ne 5, 3) := by decide +kernel
theorem dX12_give_22 : decode cX12_give 22 = .ok (.iconst (-1), 1) := by decide +kernel
theorem dX12_give_23 : decode cX12_give 23 = .ok (.ireturn, 1) := by decide +kernel
theorem dX12_give_24 : decode cX12_give 24 = .ok (.aload_n 0, 1) := by decide +kernel
theorem dX12_give_25 : decode cX12_give 25 = .ok (.getfield 297, 3) := by decide +kernel
theorem dX12_give_28 : decode cX12_give 28 = .ok (.bipush 7, 2) := by decide +kernel
theorem dX12_give_30 : decode cX12_give 30 = .ok (.if_icmp .le 7, 3) := by decide +kernel
theorem dX12_give_33 : decode cX12_give 33 = .ok (.ldc_w 441, 3) := by decide +kernel
theorem dX12_give_36 : decode cX12_give 36 = .ok (.ireturn, 1) := by decide +kernel
theorem dX12_give_37 : decode cX12_give 37 = .ok (.aload_n 0, 1) := by decide +kernel
theorem dX12_give_38 : decode cX12_give 38 = .ok (.iconst (-1), 1) := by decide +kernel
theorem dX12_give_39 : decode cX12_give 39 = .ok (.putfield 498, 3) := by decide +kernel
theorem dX12_give_42 : decode cX12_give 42 = .ok (.aload_n 0, 1) := by decide +kernel
theorem dX12_give_43 : decode cX12_give 43 = .ok (.iconst 0, 1) := by decide +kernel
theorem dX12_give_44 : decode cX12_give 44 = .ok (.iconst 0, 1) := by decide +kernel
theorem dX12_give_45 : decode cX12_give 45 = .ok (.iconst 0, 1) := by decide +kernel
theorem dX12_give_46 : decode cX12_give 46 = .ok (.invokevirtual 504, 3) := by decide +kernel
theorem dX12_give_49 : decode cX12_give 49 = .ok (.iload_n 1, 1) := by decide +kernel
theorem dX12_give_50 : decode cX12_give 50 = .ok (.ifCond .ne 10, 3) := by decide +kernel
theorem dX12_give_53 : decode cX12_give 53 = .ok (.aload_n 0, 1) := by decide +kernel
theorem dX12_give_54 : decode cX12_give 54 = .ok (.getfield 501, 3) := by decide +kernel
theorem dX12_give_57 : decode cX12_give 57 = .ok (.goto 7, 3) := by decide +kernel
theorem dX12_give_60 : decode cX12_give 60 = .ok (.aload_n 0, 1) := by decide +kernel
theorem dX12_give_61 : decode cX12_give 61 = .ok (.getfield 498, 3) := by decide +kernel
theorem dX12_give_64 : decode cX12_give 64 = .ok (.ireturn, 1) := by decide +kernel
theorem dX12_between_0 : decode cX12_between 0 = .ok (.aload_n 0, 1) := by decide +kernel
theorem dX12_between_1 : decode cX12_between 1 = .ok (.iconst 0, 1) := by decide +kernel
theorem dX12_between_2 : decode cX12_between 2 = .ok (.putfield 99, 3) := by decide +kernel
theorem dX12_between_5 : decode cX12_between 5 = .ok (.aload_n 0, 1) := by decide +kernel
theorem dX12_between_6 : decode cX12_between 6 = .ok (.getfield 297, 3) := by decide +kernel
theorem dX12_between_9 : decode cX12_between 9 = .ok (.ifCond .ne 5, 3) := by decide +kernel
theorem dX12_between_12 : decode cX12_between 12 = .ok (.iconst (-1), 1) := by decide +kernel
theorem dX12_between_13 : decode cX12_between 13 = .ok (.ireturn, 1) := by decide +kernel
theorem dX12_between_14 : decode cX12_between 14 = .ok (.iconst 0, 1) := by decide +kernel
theorem dX12_between_15 : decode cX12_between 15 = .ok (.istore_n 1, 1) := by decide +kernel
theorem dX12_between_16 : decode cX12_between 16 = .ok (.iconst 0, 1) := by decide +kernel
theorem dX12_between_17 : decode cX12_between 17 = .ok (.istore_n 2, 1) := by decide +kernel
theorem dX12_between_18 : decode cX12_between 18 = .ok (.iload_n 2, 1) := by decide +kernel
theorem dX12_between_19 : decode cX12_between 19 = .ok (.aload_n 0, 1) := by decide +kernel
theorem dX12_between_20 : decode cX12_between 20 = .ok (.getfield 297, 3) := by decide +kernel
theorem dX12_between_23 : decode cX12_between 23 = .ok (.if_icmp .ge 54, 3) := by decide +kernel
theorem dX12_between_26 : decode cX12_between 26 = .ok (.iload_n 1, 1) := by decide +kernel
theorem dX12_between_27 : decode cX12_between 27 = .ok (.aload_n 0, 1) := by decide +kernel
theorem dX12_between_28 : decode cX12_between 28 = .ok (.getfield 61, 3) := by decide +kernel
theorem dX12_between_31 : decode cX12_between 31 = .ok (.bipush 6, 2) := by decide +kernel
theorem dX12_between_33 : decode cX12_between 33 = .ok (.iload_n 2, 1) := by decide +kernel
theorem dX12_between_34 : decode cX12_between 34 = .ok (.imul, 1) := by decide +kernel
theorem dX12_between_35 : decode cX12_between 35 = .ok (.iconst 3, 1) := by decide +kernel
theorem dX12_between_36 : decode cX12_between 36 = .ok (.iadd, 1) := by decide +kernel
theorem dX12_between_37 : decode cX12_between 37 = .ok (.iaload, 1) := by decide +kernel
theorem dX12_between_38 : decode cX12_between 38 = .ok (.ifCond .ne 30, 3) := by decide +kernel
theorem dX12_between_41 : decode cX12_between 41 = .ok (.aload_n 0, 1) := by decide +kernel
theorem dX12_between_42 : decode cX12_between 42 = .ok (.aload_n 0, 1) := by decide +kernel
theorem dX12_between_43 : decode cX12_between 43 = .ok (.getfield 61, 3) := by decide +kernel
theorem dX12_between_46 : decode cX12_between 46 = .ok (.iload_n 2, 1) := by decide +kernel
theorem dX12_between_47 : decode cX12_between 47 = .ok (.iconst 0, 1) := by decide +kernel
theorem dX12_between_48 : decode cX12_between 48 = .ok (.bipush 9, 2) := by decide +kernel
theorem dX12_between_50 : decode cX12_between 50 = .ok (.invokevirtual 329, 3) := by decide +kernel
theorem dX12_between_53 : decode cX12_between 53 = .ok (.aload_n 0, 1) := by decide +kernel
theorem dX12_between_54 : decode cX12_between 54 = .ok (.getfield 37, 3) := by decide +kernel
theorem dX12_between_57 : decode cX12_between 57 = .ok (.iconst 1, 1) := by decide +kernel
theorem dX12_between_58 : decode cX12_between 58 = .ok (.iaload, 1) := by decide +kernel
theorem dX12_between_59 : decode cX12_between 59 = .ok (.if_icmp .le 9, 3) := by decide +kernel
theorem dX12_between_62 : decode cX12_between 62 = .ok (.iconst 1, 1) := by decide +kernel
theorem dX12_between_63 : decode cX12_between 63 = .ok (.iload_n 2, 1) := by decide +kernel
theorem dX12_between_64 : decode cX12_between 64 = .ok (.ishl, 1) := by decide +kernel
theorem dX12_between_65 : decode cX12_between 65 = .ok (.goto 4, 3) := by decide +kernel
theorem dX12_between_68 : decode cX12_between 68 = .ok (.iconst 0, 1) := by decide +kernel
theorem dX12_between_69 : decode cX12_between 69 = .ok (.ior, 1) := by decide +kernel
theorem dX12_between_70 : decode cX12_between 70 = .ok (.istore_n 1, 1) := by decide +kernel
theorem dX12_between_71 : decode cX12_between 71 = .ok (.iinc 2 1, 3) := by decide +kernel
theorem dX12_between_74 : decode cX12_between 74 = .ok (.goto (-56), 3) := by decide +kernel
theorem dX12_between_77 : decode cX12_between 77 = .ok (.iload_n 1, 1) := by decide +kernel
theorem dX12_between_78 : decode cX12_between 78 = .ok (.ireturn, 1) := by decide +kernel
theorem dX12_favourOf_0 : decode cX12_favourOf 0 = .ok (.iload 5, 2) := by decide +kernel
theorem dX12_favourOf_2 : decode cX12_favourOf 2 = .ok (.iconst 1, 1) := by decide +kernel
theorem dX12_favourOf_3 : decode cX12_favourOf 3 = .ok (.if_icmp .ne 23, 3) := by decide +kernel
theorem dX12_favourOf_6 : decode cX12_favourOf 6 = .ok (.iconst 3, 1) := by decide +kernel
theorem dX12_favourOf_7 : decode cX12_favourOf 7 = .ok (.iload_n 2, 1) := by decide +kernel
theorem dX12_favourOf_8 : decode cX12_favourOf 8 = .ok (.imul, 1) := by decide +kernel
theorem dX12_favourOf_9 : decode cX12_favourOf 9 = .ok (.iload_n 3, 1) := by decide +kernel
theorem dX12_favourOf_10 : decode cX12_favourOf 10 = .ok (.imul, 1) := by decide +kernel
theorem dX12_favourOf_11 : decode cX12_favourOf 11 = .ok (.iload_n 2, 1) := by decide +kernel
theorem dX12_favourOf_12 : decode cX12_favourOf 12 = .ok (.iload 4, 2) := by decide +kernel
theorem dX12_favourOf_14 : decode cX12_favourOf 14 = .ok (.imul, 1) := by decide +kernel
theorem dX12_favourOf_15 : decode cX12_favourOf 15 = .ok (.iadd, 1) := by decide +kernel
theorem dX12_favourOf_16 : decode cX12_favourOf 16 = .ok (.iconst 2, 1) := by decide +kernel
theorem dX12_favourOf_17 : decode cX12_favourOf 17 = .ok (.iload_n 2, 1) := by decide +kernel
theorem dX12_favourOf_18 : decode cX12_favourOf 18 = .ok (.imul, 1) := by decide +kernel
theorem dX12_favourOf_19 : decode cX12_favourOf 19 = .ok (.iload_n 3, 1) := by decide +kernel
theorem dX12_favourOf_20 : decode cX12_favourOf 20 = .ok (.imul, 1) := by decide +kernel
theorem dX12_favourOf_21 : decode cX12_favourOf 21 = .ok (.iload 4, 2) := by decide +kernel
theorem dX12_favourOf_23 : decode cX12_favourOf 23 = .ok (.imul, 1) := by decide +kernel
theorem dX12_favourOf_24 : decode cX12_favourOf 24 = .ok (.isub, 1) := by decide +kernel
theorem dX12_favourOf_25 : decode cX12_favourOf 25 = .ok (.ireturn, 1) := by decide +kernel
theorem dX12_favourOf_26 : decode cX12_favourOf 26 = .ok (.iconst 0, 1) := by decide +kernel
theorem dX12_favourOf_27 : decode cX12_favourOf 27 = .ok (.istore 6, 2) := by decide +kernel
theorem dX12_favourOf_29 : decode cX12_favourOf 29 = .ok (.iconst 0, 1) := by decide +kernel
theorem dX12_favourOf_30 : decode cX12_favourOf 30 = .ok (.istore 7, 2) := by decide +kernel
theorem dX12_favourOf_32 : decode cX12_favourOf 32 = .ok (.iload 7, 2) := by decide +kernel
theorem dX12_favourOf_34 : decode cX12_favourOf 34 = .ok (.aload_n 0, 1) := by decide +kernel
theorem dX12_favourOf_35 : decode cX12_favourOf 35 = .ok (.getfield 297, 3) := by decide +kernel
theorem dX12_favourOf_38 : decode cX12_favourOf 38 = .ok (.if_icmp .ge 40, 3) := by decide +kernel
theorem dX12_favourOf_41 : decode cX12_favourOf 41 = .ok (.iload 6, 2) := by decide +kernel
theorem dX12_favourOf_43 : decode cX12_favourOf 43 = .ok (.aload_n 0, 1) := by decide +kernel
theorem dX12_favourOf_44 : decode cX12_favourOf 44 = .ok (.iload 7, 2) := by decide +kernel
theorem dX12_favourOf_46 : decode cX12_favourOf 46 = .ok (.invokevirtual 379, 3) := by decide +kernel
theorem dX12_favourOf_49 : decode cX12_favourOf 49 = .ok (.ifCond .eq 7, 3) := by decide +kernel
theorem dX12_favourOf_52 : decode cX12_favourOf 52 = .ok (.iconst 0, 1) := by decide +kernel
theorem dX12_favourOf_53 : decode cX12_favourOf 53 = .ok (.goto 16, 3) := by decide +kernel
theorem dX12_favourOf_56 : decode cX12_favourOf 56 = .ok (.aload_n 0, 1) := by decide +kernel
theorem dX12_favourOf_57 : decode cX12_favourOf 57 = .ok (.aload_n 0, 1) := by decide +kernel
theorem dX12_favourOf_58 : decode cX12_favourOf 58 = .ok (.getfield 61, 3) := by decide +kernel
theorem dX12_favourOf_61 : decode cX12_favourOf 61 = .ok (.iload 7, 2) := by decide +kernel
theorem dX12_favourOf_63 : decode cX12_favourOf 63 = .ok (.iconst 0, 1) := by decide +kernel
theorem dX12_favourOf_64 : decode cX12_favourOf 64 = .ok (.bipush 9, 2) := by decide +kernel
theorem dX12_favourOf_66 : decode cX12_favourOf 66 = .ok (.invokevirtual 329, 3) := by decide +kernel
theorem dX12_favourOf_69 : decode cX12_favourOf 69 = .ok (.iadd, 1) := by decide +kernel
theorem dX12_favourOf_70 : decode cX12_favourOf 70 = .ok (.istore 6, 2) := by decide +kernel
theorem dX12_favourOf_72 : decode cX12_favourOf 72 = .ok (.iinc 7 1, 3) := by decide +kernel
theorem dX12_favourOf_75 : decode cX12_favourOf 75 = .ok (.goto (-43), 3) := by decide +kernel
theorem dX12_favourOf_78 : decode cX12_favourOf 78 = .ok (.iload_n 3, 1) := by decide +kernel
theorem dX12_favourOf_79 : decode cX12_favourOf 79 = .ok (.iconst 1, 1) := by decide +kernel
theorem dX12_favourOf_80 : decode cX12_favourOf 80 = .ok (.if_icmp .ne 25, 3) := by decide +kernel
theorem dX12_favourOf_83 : decode cX12_favourOf 83 = .ok (.iload 4, 2) := by decide +kernel
theorem dX12_favourOf_85 : decode cX12_favourOf 85 = .ok (.ifCond .ne 20, 3) := by decide +kernel
theorem dX12_favourOf_88 : decode cX12_favourOf 88 = .ok (.aload_n 0, 1) := by decide +kernel
theorem dX12_favourOf_89 : decode cX12_favourOf 89 = .ok (.getfield 49, 3) := by decide +kernel
theorem dX12_favourOf_92 : decode cX12_favourOf 92 = .ok (.iconst 4, 1) := by decide +kernel
theorem dX12_favourOf_93 : decode cX12_favourOf 93 = .ok (.iload_n 1, 1) := by decide +kernel
theorem dX12_favourOf_94 : decode cX12_favourOf 94 = .ok (.imul, 1) := by decide +kernel
theorem dX12_favourOf_95 : decode cX12_favourOf 95 = .ok (.iconst 3, 1) := by decide +kernel
theorem dX12_favourOf_96 : decode cX12_favourOf 96 = .ok (.iadd, 1) := by decide +kernel
theorem dX12_favourOf_97 : decode cX12_favourOf 97 = .ok (.iaload, 1) := by decide +kernel
theorem dX12_favourOf_98 : decode cX12_favourOf 98 = .ok (.iload_n 2, 1) := by decide +kernel
theorem dX12_favourOf_99 : decode cX12_favourOf 99 = .ok (.iconst 1, 1) := by decide +kernel
theorem dX12_favourOf_100 : decode cX12_favourOf 100 = .ok (.isub, 1) := by decide +kernel
theorem dX12_favourOf_101 : decode cX12_favourOf 101 = .ok (.imul, 1) := by decide +kernel
theorem dX12_favourOf_102 : decode cX12_favourOf 102 = .ok (.goto 4, 3) := by decide +kernel
theorem dX12_favourOf_105 : decode cX12_favourOf 105 = .ok (.iconst 0, 1) := by decide +kernel
theorem dX12_favourOf_106 : decode cX12_favourOf 106 = .ok (.iconst 2, 1) := by decide +kernel
theorem dX12_favourOf_107 : decode cX12_favourOf 107 = .ok (.iload_n 2, 1) := by decide +kernel
theorem dX12_favourOf_108 : decode cX12_favourOf 108 = .ok (.imul, 1) := by decide +kernel
theorem dX12_favourOf_109 : decode cX12_favourOf 109 = .ok (.iload_n 3, 1) := by decide +kernel
theorem dX12_favourOf_110 : decode cX12_favourOf 110 = .ok (.imul, 1) := by decide +kernel
theorem dX12_favourOf_111 : decode cX12_favourOf 111 = .ok (.isub, 1) := by decide +kernel
theorem dX12_favourOf_112 : decode cX12_favourOf 112 = .ok (.iload_n 2, 1) := by decide +kernel
theorem dX12_favourOf_113 : decode cX12_favourOf 113 = .ok (.iload 4, 2) := by decide +kernel
theorem dX12_favourOf_115 : decode cX12_favourOf 115 = .ok (.imul, 1) := by decide +kernel
theorem dX12_favourOf_116 : decode cX12_favourOf 116 = .ok (.iload 6, 2) := by decide +kernel
theorem dX12_favourOf_118 : decode cX12_favourOf 118 = .ok (.bipush 10, 2) := by decide +kernel
theorem dX12_favourOf_120 : decode cX12_favourOf 120 = .ok (.idiv, 1) := by decide +kernel
theorem dX12_favourOf_121 : decode cX12_favourOf 121 = .ok (.imul, 1) := by decide +kernel
theorem dX12_favourOf_122 : decode cX12_favourOf 122 = .ok (.isub, 1) := by decide +kernel
theorem dX12_favourOf_123 : decode cX12_favourOf 123 = .ok (.ireturn, 1) := by decide +kernel
theorem dX12_favour_0 : decode cX12_favour 0 = .ok (.aload_n 0, 1) := by decide +kernel
theorem dX12_favour_1 : decode cX12_favour 1 = .ok (.iconst 0, 1) := by decide +kernel
theorem dX12_favour_2 : decode cX12_favour 2 = .ok (.putfield 99, 3) := by decide +kernel
theorem dX12_favour_5 : decode cX12_favour 5 = .ok (.aload_n 0, 1) := by decide +kernel
theorem dX12_favour_6 : decode cX12_favour 6 = .ok (.iload_n 1, 1) := by decide +kernel
theorem dX12_favour_7 : decode cX12_favour 7 = .ok (.invokevirtual 374, 3) := by decide +kernel
theorem dX12_favour_10 : decode cX12_favour 10 = .ok (.ifCond .eq 61, 3) := by decide +kernel
theorem dX12_favour_13 : decode cX12_favour 13 = .ok (.iload_n 2, 1) := by decide +kernel
theorem dX12_favour_14 : decode cX12_favour 14 = .ok (.i2l, 1) := by decide +kernel
theorem dX12_favour_15 : decode cX12_favour 15 = .ok (.lconst 1, 1) := by decide +kernel
theorem dX12_favour_16 : decode cX12_favour 16 = .ok (.ldc2_w 488, 3) := by decide +kernel
theorem dX12_favour_19 : decode cX12_favour 19 = .ok (.invokestatic 220, 3) := by decide +kernel
theorem dX12_favour_22 : decode cX12_favour 22 = .ok (.ifCond .eq 49, 3) := by decide +kernel
theorem dX12_favour_25 : decode cX12_favour 25 = .ok (.iload_n 3, 1) := by decide +kernel
theorem dX12_favour_26 : decode cX12_favour 26 = .ok (.i2l, 1) := by decide +kernel
theorem dX12_favour_27 : decode cX12_favour 27 = .ok (.lconst 0, 1) := by decide +kernel
theorem dX12_favour_28 : decode cX12_favour 28 = .ok (.lconst 1, 1) := by decide +kernel
theorem dX12_favour_29 : decode cX12_favour 29 = .ok (.invokestatic 220, 3) := by decide +kernel
theorem dX12_favour_32 : decode cX12_favour 32 = .ok (.ifCond .eq 39, 3) := by decide +kernel
theorem dX12_favour_35 : decode cX12_favour 35 = .ok (.iload 4, 2) := by decide +kernel
theorem dX12_favour_37 : decode cX12_favour 37 = .ok (.i2l, 1) := by decide +kernel
theorem dX12_favour_38 : decode cX12_favour 38 = .ok (.lconst 0, 1) := by decide +kernel
theorem dX12_favour_39 : decode cX12_favour 39 = .ok (.lconst 1, 1) := by decide +kernel
theorem dX12_favour_40 : decode cX12_favour 40 = .ok (.invokestatic 220, 3) := by decide +kernel
theorem dX12_favour_43 : decode cX12_favour 43 = .ok (.ifCond .eq 28, 3) := by decide +kernel
theorem dX12_favour_46 : decode cX12_favour 46 = .ok (.iload 5, 2) := by decide +kernel
theorem dX12_favour_48 : decode cX12_favour 48 = .ok (.i2l, 1) := by decide +kernel
theorem dX12_favour_49 : decode cX12_favour 49 = .ok (.lconst 0, 1) := by decide +kernel
theorem dX12_favour_50 : decode cX12_favour 50 = .ok (.lconst 1, 1) := by decide +kernel
theorem dX12_favour_51 : decode cX12_favour 51 = .ok (.invokestatic 220, 3) := by decide +kernel
theorem dX12_favour_54 : decode cX12_favour 54 = .ok (.ifCond .eq 17, 3) := by decide +kernel
theorem dX12_favour_57 : decode cX12_favour 57 = .ok (.aload_n 0, 1) := by decide +kernel
theorem dX12_favour_58 : decode cX12_favour 58 = .ok (.iload_n 1, 1) := by decide +kernel
theorem dX12_favour_59 : decode cX12_favour 59 = .ok (.iload_n 2, 1) := by decide +kernel
theorem dX12_favour_60 : decode cX12_favour 60 = .ok (.iload_n 3, 1) := by decide +kernel
theorem dX12_favour_61 : decode cX12_favour 61 = .ok (.iload 4, 2) := by decide +kernel
theorem dX12_favour_63 : decode cX12_favour 63 = .ok (.iload 5, 2) := by decide +kernel
theorem dX12_favour_65 : decode cX12_favour 65 = .ok (.invokevirtual 508, 3) := by decide +kernel
theorem dX12_favour_68 : decode cX12_favour 68 = .ok (.goto 6, 3) := by decide +kernel
theorem dX12_favour_71 : decode cX12_favour 71 = .ok (.ldc_w 441, 3) := by decide +kernel
theorem dX12_favour_74 : decode cX12_favour 74 = .ok (.ireturn, 1) := by decide +kernel
theorem dX12_rests_0 : decode cX12_rests 0 = .ok (.aload_n 0, 1) := by decide +kernel
theorem dX12_rests_1 : decode cX12_rests 1 = .ok (.iconst 0, 1) := by decide +kernel
theorem dX12_rests_2 : decode cX12_rests 2 = .ok (.putfield 99, 3) := by decide +kernel
theorem dX12_rests_5 : decode cX12_rests 5 = .ok (.aload_n 0, 1) := by decide +kernel
theorem dX12_rests_6 : decode cX12_rests 6 = .ok (.iload_n 1, 1) := by decide +kernel
theorem dX12_rests_7 : decode cX12_rests 7 = .ok (.invokevirtual 374, 3) := by decide +kernel
theorem dX12_rests_10 : decode cX12_rests 10 = .ok (.ifCond .eq 20, 3) := by decide +kernel
theorem dX12_rests_13 : decode cX12_rests 13 = .ok (.iload_n 2, 1) := by decide +kernel
theorem dX12_rests_14 : decode cX12_rests 14 = .ok (.i2l, 1) := by decide +kernel
theorem dX12_rests_15 : decode cX12_rests 15 = .ok (.lconst 1, 1) := by decide +kernel
theorem dX12_rests_16 : decode cX12_rests 16 = .ok (.ldc2_w 488, 3) := by decide +kernel
theorem dX12_rests_19 : decode cX12_rests 19 = .ok (.invokestatic 220, 3) := by decide +kernel
theorem dX12_rests_22 : decode cX12_rests 22 = .ok (.ifCond .eq 8, 3) := by decide +kernel
theorem dX12_rests_25 : decode cX12_rests 25 = .ok (.iload_n 3, 1) := by decide +kernel
theorem dX12_rests_26 : decode cX12_rests 26 = .ok (.iconst (-1), 1) := by decide +kernel
theorem dX12_rests_27 : decode cX12_rests 27 = .ok (.if_icmp .ge 5, 3) := by decide +kernel
theorem dX12_rests_30 : decode cX12_rests 30 = .ok (.iconst (-1), 1) := by decide +kernel
theorem dX12_rests_31 : decode cX12_rests 31 = .ok (.ireturn, 1) := by decide +kernel
theorem dX12_rests_32 : decode cX12_rests 32 = .ok (.iconst 0, 1) := by decide +kernel
theorem dX12_rests_33 : decode cX12_rests 33 = .ok (.istore 4, 2) := by decide +kernel
theorem dX12_rests_35 : decode cX12_rests 35 = .ok (.iconst 0, 1) := by decide +kernel
theorem dX12_rests_36 : decode cX12_rests 36 = .ok (.istore 5, 2) := by decide +kernel
theorem dX12_rests_38 : decode cX12_rests 38 = .ok (.iload 5, 2) := by decide +kernel
theorem dX12_rests_40 : decode cX12_rests 40 = .ok (.iconst 4, 1) := by decide +kernel
theorem dX12_rests_41 : decode cX12_rests 41 = .ok (.if_icmp .ge 96, 3) := by decide +kernel
theorem dX12_rests_44 : decode cX12_rests 44 = .ok (.iload 5, 2) := by decide +kernel
theorem dX12_rests_46 : decode cX12_rests 46 = .ok (.iconst 2, 1) := by decide +kernel
theorem dX12_rests_47 : decode cX12_rests 47 = .ok (.idiv, 1) := by decide +kernel
theorem dX12_rests_48 : decode cX12_rests 48 = .ok (.istore 6, 2) := by decide +kernel
theorem dX12_rests_50 : decode cX12_rests 50 = .ok (.iload 5, 2) := by decide +kernel
theorem dX12_rests_52 : decode cX12_rests 52 = .ok (.iconst 2, 1) := by decide +kernel
theorem dX12_rests_53 : decode cX12_rests 53 = .ok (.irem, 1) := by decide +kernel
theorem dX12_rests_54 : decode cX12_rests 54 = .ok (.istore 7, 2) := by decide +kernel
theorem dX12_rests_56 : decode cX12_rests 56 = .ok (.aload_n 0, 1) := by decide +kernel
theorem dX12_rests_57 : decode cX12_rests 57 = .ok (.iload_n 1, 1) := by decide +kernel
theorem dX12_rests_58 : decode cX12_rests 58 = .ok (.iload_n 2, 1) := by decide +kernel
theorem dX12_rests_59 : decode cX12_rests 59 = .ok (.iconst 1, 1) := by decide +kernel
theorem dX12_rests_60 : decode cX12_rests 60 = .ok (.iload 6, 2) := by decide +kernel
theorem dX12_rests_62 : decode cX12_rests 62 = .ok (.isub, 1) := by decide +kernel
theorem dX12_rests_63 : decode cX12_rests 63 = .ok (.iload 7, 2) := by decide +kernel
theorem dX12_rests_65 : decode cX12_rests 65 = .ok (.iconst 0, 1) := by decide +kernel
theorem dX12_rests_66 : decode cX12_rests 66 = .ok (.invokevirtual 508, 3) := by decide +kernel
theorem dX12_rests_69 : decode cX12_rests 69 = .ok (.aload_n 0, 1) := by decide +kernel
theorem dX12_rests_70 : decode cX12_rests 70 = .ok (.iload_n 1, 1) := by decide +kernel
theorem dX12_rests_71 : decode cX12_rests 71 = .ok (.iload_n 2, 1) := by decide +kernel
theorem dX12_rests_72 : decode cX12_rests 72 = .ok (.iload 6, 2) := by decide +kernel
theorem dX12_rests_74 : decode cX12_rests 74 = .ok (.iload 7, 2) := by decide +kernel
theorem dX12_rests_76 : decode cX12_rests 76 = .ok (.iconst 0, 1) := by decide +kernel
theorem dX12_rests_77 : decode cX12_rests 77 = .ok (.invokevirtual 508, 3) := by decide +kernel
theorem dX12_rests_80 : decode cX12_rests 80 = .ok (.if_icmp .gt 51, 3) := by decide +kernel
theorem dX12_rests_83 : decode cX12_rests 83 = .ok (.aload_n 0, 1) := by decide +kernel
theorem dX12_rests_84 : decode cX12_rests 84 = .ok (.iload_n 1, 1) := by decide +kernel
theorem dX12_rests_85 : decode cX12_rests 85 = .ok (.iload_n 2, 1) := by decide +kernel
theorem dX12_rests_86 : decode cX12_rests 86 = .ok (.iload 6, 2) := by decide +kernel
theorem dX12_rests_88 : decode cX12_rests 88 = .ok (.iconst 1, 1) := by decide +kernel
theorem dX12_rests_89 : decode cX12_rests 89 = .ok (.iload 7, 2) := by decide +kernel
theorem dX12_rests_91 : decode cX12_rests 91 = .ok (.isub, 1) := by decide +kernel
theorem dX12_rests_92 : decode cX12_rests 92 = .ok (.iconst 1, 1) := by decide +kernel
theorem dX12_rests_93 : decode cX12_rests 93 = .ok (.invokevirtual 508, 3) := by decide +kernel
theorem dX12_rests_96 : decode cX12_rests 96 = .ok (.aload_n 0, 1) := by decide +kernel
theorem dX12_rests_97 : decode cX12_rests 97 = .ok (.iload_n 1, 1) := by decide +kernel
theorem dX12_rests_98 : decode cX12_rests 98 = .ok (.iload_n 2, 1) := by decide +kernel
theorem dX12_rests_99 : decode cX12_rests 99 = .ok (.iload 6, 2) := by decide +kernel
theorem dX12_rests_101 : decode cX12_rests 101 = .ok (.iload 7, 2) := by decide +kernel
theorem dX12_rests_103 : decode cX12_rests 103 = .ok (.iconst 1, 1) := by decide +kernel
theorem dX12_rests_104 : decode cX12_rests 104 = .ok (.invokevirtual 508, 3) := by decide +kernel
theorem dX12_rests_107 : decode cX12_rests 107 = .ok (.if_icmp .le 6, 3) := by decide +kernel
theorem dX12_rests_110 : decode cX12_rests 110 = .ok (.goto 21, 3) := by decide +kernel
theorem dX12_rests_113 : decode cX12_rests 113 = .ok (.iload 4, 2) := by decide +kernel
theorem dX12_rests_115 : decode cX12_rests 115 = .ok (.iload_n 3, 1) := by decide +kernel
theorem dX12_rests_116 : decode cX12_rests 116 = .ok (.if_icmp .ne 12, 3) := by decide +kernel
theorem dX12_rests_119 : decode cX12_rests 119 = .ok (.bipush 10, 2) := by decide +kernel
theorem dX12_rests_121 : decode cX12_rests 121 = .ok (.iload 6, 2) := by decide +kernel
theorem dX12_rests_123 : decode cX12_rests 123 = .ok (.imul, 1) := by decide +kernel
theorem dX12_rests_124 : decode cX12_rests 124 = .ok (.iload 7, 2) := by decide +kernel
theorem dX12_rests_126 : decode cX12_rests 126 = .ok (.iadd, 1) := by decide +kernel
theorem dX12_rests_127 : decode cX12_rests 127 = .ok (.ireturn, 1) := by decide +kernel
theorem dX12_rests_128 : decode cX12_rests 128 = .ok (.iinc 4 1, 3) := by decide +kernel
theorem dX12_rests_131 : decode cX12_rests 131 = .ok (.iinc 5 1, 3) := by decide +kernel
theorem dX12_rests_134 : decode cX12_rests 134 = .ok (.goto (-96), 3) := by decide +kernel
theorem dX12_rests_137 : decode cX12_rests 137 = .ok (.iload_n 3, 1) := by decide +kernel
theorem dX12_rests_138 : decode cX12_rests 138 = .ok (.iconst (-1), 1) := by decide +kernel
theorem dX12_rests_139 : decode cX12_rests 139 = .ok (.if_icmp .ne 8, 3) := by decide +kernel
theorem dX12_rests_142 : decode cX12_rests 142 = .ok (.iload 4, 2) := by decide +kernel
theorem dX12_rests_144 : decode cX12_rests 144 = .ok (.goto 4, 3) := by decide +kernel
theorem dX12_rests_147 : decode cX12_rests 147 = .ok (.iconst (-1), 1) := by decide +kernel
theorem dX12_rests_148 : decode cX12_rests 148 = .ok (.ireturn, 1) := by decide +kernel
theorem dX12_which_0 : decode cX12_which 0 = .ok (.aload_n 0, 1) := by decide +kernel
theorem dX12_which_1 : decode cX12_which 1 = .ok (.iconst 0, 1) := by decide +kernel
theorem dX12_which_2 : decode cX12_which 2 = .ok (.putfield 99, 3) := by decide +kernel
theorem dX12_which_5 : decode cX12_which 5 = .ok (.aload_n 0, 1) := by decide +kernel
theorem dX12_which_6 : decode cX12_which 6 = .ok (.getfield 297, 3) := by decide +kernel
theorem dX12_which_9 : decode cX12_which 9 = .ok (.ifCond .eq 17, 3) := by decide +kernel
theorem dX12_which_12 : decode cX12_which 12 = .ok (.iload_n 1, 1) := by decide +kernel
theorem dX12_which_13 : decode cX12_which 13 = .ok (.ifCond .lt 13, 3) := by decide +kernel
theorem dX12_which_16 : decode cX12_which 16 = .ok (.iload_n 1, 1) := by decide +kernel
theorem dX12_which_17 : decode cX12_which 17 = .ok (.iconst 1, 1) := by decide +kernel
theorem dX12_which_18 : decode cX12_which 18 = .ok (.aload_n 0, 1) := by decide +kernel
theorem dX12_which_19 : decode cX12_which 19 = .ok (.getfield 297, 3) := by decide +kernel
theorem dX12_which_22 : decode cX12_which 22 = .ok (.ishl, 1) := by decide +kernel
theorem dX12_which_23 : decode cX12_which 23 = .ok (.if_icmp .lt 5, 3) := by decide +kernel
theorem dX12_which_26 : decode cX12_which 26 = .ok (.iconst (-1), 1) := by decide +kernel
theorem dX12_which_27 : decode cX12_which 27 = .ok (.ireturn, 1) := by decide +kernel
theorem dX12_which_28 : decode cX12_which 28 = .ok (.iconst 0, 1) := by decide +kernel
theorem dX12_which_29 : decode cX12_which 29 = .ok (.istore_n 2, 1) := by decide +kernel
theorem dX12_which_30 : decode cX12_which 30 = .ok (.iconst 0, 1) := by decide +kernel
theorem dX12_which_31 : decode cX12_which 31 = .ok (.istore_n 3, 1) := by decide +kernel
theorem dX12_which_32 : decode cX12_which 32 = .ok (.iload_n 3, 1) := by decide +kernel
theorem dX12_which_33 : decode cX12_which 33 = .ok (.aload_n 0, 1) := by decide +kernel
theorem dX12_which_34 : decode cX12_which 34 = .ok (.getfield 297, 3) := by decide +kernel
theorem dX12_which_37 : decode cX12_which 37 = .ok (.if_icmp .ge 42, 3) := by decide +kernel
theorem dX12_which_40 : decode cX12_which 40 = .ok (.iload_n 2, 1) := by decide +kernel
theorem dX12_which_41 : decode cX12_which 41 = .ok (.aload_n 0, 1) := by decide +kernel
theorem dX12_which_42 : decode cX12_which 42 = .ok (.iload_n 3, 1) := by decide +kernel
theorem dX12_which_43 : decode cX12_which 43 = .ok (.invokevirtual 379, 3) := by decide +kernel
theorem dX12_which_46 : decode cX12_which 46 = .ok (.ifCond .ne 24, 3) := by decide +kernel
theorem dX12_which_49 : decode cX12_which 49 = .ok (.aload_n 0, 1) := by decide +kernel
theorem dX12_which_50 : decode cX12_which 50 = .ok (.getfield 61, 3) := by decide +kernel
theorem dX12_which_53 : decode cX12_which 53 = .ok (.bipush 6, 2) := by decide +kernel
theorem dX12_which_55 : decode cX12_which 55 = .ok (.iload_n 3, 1) := by decide +kernel
theorem dX12_which_56 : decode cX12_which 56 = .ok (.imul, 1) := by decide +kernel
theorem dX12_which_57 : decode cX12_which 57 = .ok (.iconst 3, 1) := by decide +kernel
theorem dX12_which_58 : decode cX12_which 58 = .ok (.iadd, 1) := by decide +kernel
theorem dX12_which_59 : decode cX12_which 59 = .ok (.iaload, 1) := by decide +kernel
theorem dX12_which_60 : decode cX12_which 60 = .ok (.iconst 1, 1) := by decide +kernel
theorem dX12_which_61 : decode cX12_which 61 = .ok (.if_icmp .ne 9, 3) := by decide +kernel
theorem dX12_which_64 : decode cX12_which 64 = .ok (.iconst 1, 1) := by decide +kernel
theorem dX12_which_65 : decode cX12_which 65 = .ok (.iload_n 3, 1) := by decide +kernel
theorem dX12_which_66 : decode cX12_which 66 = .ok (.ishl, 1) := by decide +kernel
theorem dX12_which_67 : decode cX12_which 67 = .ok (.goto 4, 3) := by decide +kernel
theorem dX12_which_70 : decode cX12_which 70 = .ok (.iconst 0, 1) := by decide +kernel
theorem dX12_which_71 : decode cX12_which 71 = .ok (.ior, 1) := by decide +kernel
theorem dX12_which_72 : decode cX12_which 72 = .ok (.istore_n 2, 1) := by decide +kernel
theorem dX12_which_73 : decode cX12_which 73 = .ok (.iinc 3 1, 3) := by decide +kernel
theorem dX12_which_76 : decode cX12_which 76 = .ok (.goto (-44), 3) := by decide +kernel
theorem dX12_which_79 : decode cX12_which 79 = .ok (.iconst 0, 1) := by decide +kernel
theorem dX12_which_80 : decode cX12_which 80 = .ok (.istore_n 3, 1) := by decide +kernel
theorem dX12_which_81 : decode cX12_which 81 = .ok (.iconst 0, 1) := by decide +kernel
theorem dX12_which_82 : decode cX12_which 82 = .ok (.istore 4, 2) := by decide +kernel
theorem dX12_which_84 : decode cX12_which 84 = .ok (.iload 4, 2) := by decide +kernel
theorem dX12_which_86 : decode cX12_which 86 = .ok (.aload_n 0, 1) := by decide +kernel
theorem dX12_which_87 : decode cX12_which 87 = .ok (.getfield 300, 3) := by decide +kernel
theorem dX12_which_90 : decode cX12_which 90 = .ok (.if_icmp .ge 44, 3) := by decide +kernel
theorem dX12_which_93 : decode cX12_which 93 = .ok (.iload_n 3, 1) := by decide +kernel
theorem dX12_which_94 : decode cX12_which 94 = .ok (.iload_n 1, 1) := by decide +kernel
theorem dX12_which_95 : decode cX12_which 95 = .ok (.aload_n 0, 1) := by decide +kernel
theorem dX12_which_96 : decode cX12_which 96 = .ok (.getfield 49, 3) := by decide +kernel
theorem dX12_which_99 : decode cX12_which 99 = .ok (.iconst 4, 1) := by decide +kernel
theorem dX12_which_100 : decode cX12_which 100 = .ok (.iload 4, 2) := by decide +kernel
theorem dX12_which_102 : decode cX12_which 102 = .ok (.imul, 1) := by decide +kernel
theorem dX12_which_103 : decode cX12_which 103 = .ok (.iconst 1, 1) := by decide +kernel
theorem dX12_which_104 : decode cX12_which 104 = .ok (.iadd, 1) := by decide +kernel
theorem dX12_which_105 : decode cX12_which 105 = .ok (.iaload, 1) := by decide +kernel
theorem dX12_which_106 : decode cX12_which 106 = .ok (.iconst 1, 1) := by decide +kernel
theorem dX12_which_107 : decode cX12_which 107 = .ok (.if_icmp .ne 7, 3) := by decide +kernel
theorem dX12_which_110 : decode cX12_which 110 = .ok (.iload_n 2, 1) := by decide +kernel
theorem dX12_which_111 : decode cX12_which 111 = .ok (.goto 4, 3) := by decide +kernel
theorem dX12_which_114 : decode cX12_which 114 = .ok (.iconst 0, 1) := by decide +kernel
theorem dX12_which_115 : decode cX12_which 115 = .ok (.if_icmp .ne 10, 3) := by decide +kernel
theorem dX12_which_118 : decode cX12_which 118 = .ok (.iconst 1, 1) := by decide +kernel
theorem dX12_which_119 : decode cX12_which 119 = .ok (.iload 4, 2) := by decide +kernel
theorem dX12_which_121 : decode cX12_which 121 = .ok (.ishl, 1) := by decide +kernel
theorem dX12_which_122 : decode cX12_which 122 = .ok (.goto 4, 3) := by decide +kernel
theorem dX12_which_125 : decode cX12_which 125 = .ok (.iconst 0, 1) := by decide +kernel
theorem dX12_which_126 : decode cX12_which 126 = .ok (.ior, 1) := by decide +kernel
theorem dX12_which_127 : decode cX12_which 127 = .ok (.istore_n 3, 1) := by decide +kernel
theorem dX12_which_128 : decode cX12_which 128 = .ok (.iinc 4 1, 3) := by decide +kernel
theorem dX12_which_131 : decode cX12_which 131 = .ok (.goto (-47), 3) := by decide +kernel
theorem dX12_which_134 : decode cX12_which 134 = .ok (.iload_n 3, 1) := by decide +kernel
theorem dX12_which_135 : decode cX12_which 135 = .ok (.ireturn, 1) := by decide +kernel
theorem dX12_woken_0 : decode cX12_woken 0 = .ok (.aload_n 0, 1) := by decide +kernel
theorem dX12_woken_1 : decode cX12_woken 1 = .ok (.iconst 0, 1) := by decide +kernel
theorem dX12_woken_2 : decode cX12_woken 2 = .ok (.putfield 99, 3) := by decide +kernel
theorem dX12_woken_5 : decode cX12_woken 5 = .ok (.aload_n 0, 1) := by decide +kernel
theorem dX12_woken_6 : decode cX12_woken 6 = .ok (.iload_n 1, 1) := by decide +kernel
theorem dX12_woken_7 : decode cX12_woken 7 = .ok (.invokevirtual 369, 3) := by decide +kernel
theorem dX12_woken_10 : decode cX12_woken 10 = .ok (.ifCond .eq 17, 3) := by decide +kernel
theorem dX12_woken_13 : decode cX12_woken 13 = .ok (.aload_n 0, 1) := by decide +kernel
theorem dX12_woken_14 : decode cX12_woken 14 = .ok (.getfield 61, 3) := by decide +kernel
theorem dX12_woken_17 : decode cX12_woken 17 = .ok (.bipush 6, 2) := by decide +kernel
theorem dX12_woken_19 : decode cX12_woken 19 = .ok (.iload_n 1, 1) := by decide +kernel
theorem dX12_woken_20 : decode cX12_woken 20 = .ok (.imul, 1) := by decide +kernel
theorem dX12_woken_21 : decode cX12_woken 21 = .ok (.iconst 4, 1) := by decide +kernel
theorem dX12_woken_22 : decode cX12_woken 22 = .ok (.iadd, 1) := by decide +kernel
theorem dX12_woken_23 : decode cX12_woken 23 = .ok (.iaload, 1) := by decide +kernel
theorem dX12_woken_24 : decode cX12_woken 24 = .ok (.goto 4, 3) := by decide +kernel
theorem dX12_woken_27 : decode cX12_woken 27 = .ok (.iconst (-1), 1) := by decide +kernel
theorem dX12_woken_28 : decode cX12_woken 28 = .ok (.ireturn, 1) := by decide +kernel
theorem dX12_tired_0 : decode cX12_tired 0 = .ok (.aload_n 0, 1) := by decide +kernel
theorem dX12_tired_1 : decode cX12_tired 1 = .ok (.iconst 0, 1) := by decide +kernel
theorem dX12_tired_2 : decode cX12_tired 2 = .ok (.putfield 99, 3) := by decide +kernel
theorem dX12_tired_5 : decode cX12_tired 5 = .ok (.iconst (-1), 1) := by decide +kernel
theorem dX12_tired_6 : decode cX12_tired 6 = .ok (.istore_n 1, 1) := by decide +kernel
theorem dX12_tired_7 : decode cX12_tired 7 = .ok (.iconst 0, 1) := by decide +kernel
theorem dX12_tired_8 : decode cX12_tired 8 = .ok (.istore_n 2, 1) := by decide +kernel
theorem dX12_tired_9 : decode cX12_tired 9 = .ok (.iload_n 2, 1) := by decide +kernel
theorem dX12_tired_10 : decode cX12_tired 10 = .ok (.aload_n 0, 1) := by decide +kernel
theorem dX12_tired_11 : decode cX12_tired 11 = .ok (.getfield 297, 3) := by decide +kernel
theorem dX12_tired_14 : decode cX12_tired 14 = .ok (.if_icmp .ge 45, 3) := by decide +kernel
theorem dX12_tired_17 : decode cX12_tired 17 = .ok (.aload_n 0, 1) := by decide +kernel
theorem dX12_tired_18 : decode cX12_tired 18 = .ok (.getfield 61, 3) := by decide +kernel
theorem dX12_tired_21 : decode cX12_tired 21 = .ok (.bipush 6, 2) := by decide +kernel
theorem dX12_tired_23 : decode cX12_tired 23 = .ok (.iload_n 2, 1) := by decide +kernel
theorem dX12_tired_24 : decode cX12_tired 24 = .ok (.imul, 1) := by decide +kernel
theorem dX12_tired_25 : decode cX12_tired 25 = .ok (.iconst 5, 1) := by decide +kernel
theorem dX12_tired_26 : decode cX12_tired 26 = .ok (.iadd, 1) := by decide +kernel
theorem dX12_tired_27 : decode cX12_tired 27 = .ok (.iaload, 1) := by decide +kernel
theorem dX12_tired_28 : decode cX12_tired 28 = .ok (.iload_n 1, 1) := by decide +kernel
theorem dX12_tired_29 : decode cX12_tired 29 = .ok (.iconst (-1), 1) := by decide +kernel
theorem dX12_tired_30 : decode cX12_tired 30 = .ok (.if_icmp .ne 7, 3) := by decide +kernel
theorem dX12_tired_33 : decode cX12_tired 33 = .ok (.iconst 0, 1) := by decide +kernel
theorem dX12_tired_34 : decode cX12_tired 34 = .ok (.goto 14, 3) := by decide +kernel
theorem dX12_tired_37 : decode cX12_tired 37 = .ok (.aload_n 0, 1) := by decide +kernel
theorem dX12_tired_38 : decode cX12_tired 38 = .ok (.getfield 61, 3) := by decide +kernel
theorem dX12_tired_41 : decode cX12_tired 41 = .ok (.bipush 6, 2) := by decide +kernel
theorem dX12_tired_43 : decode cX12_tired 43 = .ok (.iload_n 1, 1) := by decide +kernel
theorem dX12_tired_44 : decode cX12_tired 44 = .ok (.imul, 1) := by decide +kernel
theorem dX12_tired_45 : decode cX12_tired 45 = .ok (.iconst 5, 1) := by decide +kernel
theorem dX12_tired_46 : decode cX12_tired 46 = .ok (.iadd, 1) := by decide +kernel
theorem dX12_tired_47 : decode cX12_tired 47 = .ok (.iaload, 1) := by decide +kernel
theorem dX12_tired_48 : decode cX12_tired 48 = .ok (.if_icmp .le 5, 3) := by decide +kernel
theorem dX12_tired_51 : decode cX12_tired 51 = .ok (.iload_n 2, 1) := by decide +kernel
theorem dX12_tired_52 : decode cX12_tired 52 = .ok (.istore_n 1, 1) := by decide +kernel
theorem dX12_tired_53 : decode cX12_tired 53 = .ok (.iinc 2 1, 3) := by decide +kernel
theorem dX12_tired_56 : decode cX12_tired 56 = .ok (.goto (-47), 3) := by decide +kernel
theorem dX12_tired_59 : decode cX12_tired 59 = .ok (.iload_n 1, 1) := by decide +kernel
theorem dX12_tired_60 : decode cX12_tired 60 = .ok (.ireturn, 1) := by decide +kernel
theorem dX12_beside_0 : decode cX12_beside 0 = .ok (.aload_n 0, 1) := by decide +kernel
theorem dX12_beside_1 : decode cX12_beside 1 = .ok (.iconst 0, 1) := by decide +kernel
theorem dX12_beside_2 : decode cX12_beside 2 = .ok (.putfield 99, 3) := by decide +kernel
theorem dX12_beside_5 : decode cX12_beside 5 = .ok (.aload_n 0, 1) := by decide +kernel
theorem dX12_beside_6 : decode cX12_beside 6 = .ok (.iload_n 1, 1) := by decide +kernel
theorem dX12_beside_7 : decode cX12_beside 7 = .ok (.invokevirtual 369, 3) := by decide +kernel
theorem dX12_beside_10 : decode cX12_beside 10 = .ok (.ifCond .ne 5, 3) := by decide +kernel
theorem dX12_beside_13 : decode cX12_beside 13 = .ok (.iconst (-1), 1) := by decide +kernel
theorem dX12_beside_14 : decode cX12_beside 14 = .ok (.ireturn, 1) := by decide +kernel
theorem dX12_beside_15 : decode cX12_beside 15 = .ok (.iconst 0, 1) := by decide +kernel
theorem dX12_beside_16 : decode cX12_beside 16 = .ok (.istore_n 2, 1) := by decide +kernel
theorem dX12_beside_17 : decode cX12_beside 17 = .ok (.iconst 0, 1) := by decide +kernel
theorem dX12_beside_18 : decode cX12_beside 18 = .ok (.istore_n 3, 1) := by decide +kernel
theorem dX12_beside_19 : decode cX12_beside 19 = .ok (.iload_n 3, 1) := by decide +kernel
theorem dX12_beside_20 : decode cX12_beside 20 = .ok (.aload_n 0, 1) := by decide +kernel
theorem dX12_beside_21 : decode cX12_beside 21 = .ok (.getfield 297, 3) := by decide +kernel
theorem dX12_beside_24 : decode cX12_beside 24 = .ok (.if_icmp .ge 49, 3) := by decide +kernel
theorem dX12_beside_27 : decode cX12_beside 27 = .ok (.iload_n 2, 1) := by decide +kernel
theorem dX12_beside_28 : decode cX12_beside 28 = .ok (.aload_n 0, 1) := by decide +kernel
theorem dX12_beside_29 : decode cX12_beside 29 = .ok (.getfield 61, 3) := by decide +kernel
theorem dX12_beside_32 : decode cX12_beside 32 = .ok (.bipush 6, 2) := by decide +kernel
theorem dX12_beside_34 : decode cX12_beside 34 = .ok (.iload_n 1, 1) := by decide +kernel
theorem dX12_beside_35 : decode cX12_beside 35 = .ok (.imul, 1) := by decide +kernel
theorem dX12_beside_36 : decode cX12_beside 36 = .ok (.iconst 0, 1) := by decide +kernel
theorem dX12_beside_37 : decode cX12_beside 37 = .ok (.iadd, 1) := by decide +kernel
theorem dX12_beside_38 : decode cX12_beside 38 = .ok (.iaload, 1) := by decide +kernel
theorem dX12_beside_39 : decode cX12_beside 39 = .ok (.aload_n 0, 1) := by decide +kernel
theorem dX12_beside_40 : decode cX12_beside 40 = .ok (.getfield 61, 3) := by decide +kernel
theorem dX12_beside_43 : decode cX12_beside 43 = .ok (.bipush 6, 2) := by decide +kernel
theorem dX12_beside_45 : decode cX12_beside 45 = .ok (.iload_n 3, 1) := by decide +kernel
theorem dX12_beside_46 : decode cX12_beside 46 = .ok (.imul, 1) := by decide +kernel
theorem dX12_beside_47 : decode cX12_beside 47 = .ok (.iconst 0, 1) := by decide +kernel
theorem dX12_beside_48 : decode cX12_beside 48 = .ok (.iadd, 1) := by decide +kernel
theorem dX12_beside_49 : decode cX12_beside 49 = .ok (.iaload, 1) := by decide +kernel
theorem dX12_beside_50 : decode cX12_beside 50 = .ok (.isub, 1) := by decide +kernel
theorem dX12_beside_51 : decode cX12_beside 51 = .ok (.invokestatic 485, 3) := by decide +kernel
theorem dX12_beside_54 : decode cX12_beside 54 = .ok (.iconst 1, 1) := by decide +kernel
theorem dX12_beside_55 : decode cX12_beside 55 = .ok (.if_icmp .ne 9, 3) := by decide +kernel
theorem dX12_beside_58 : decode cX12_beside 58 = .ok (.iconst 1, 1) := by decide +kernel
theorem dX12_beside_59 : decode cX12_beside 59 = .ok (.iload_n 3, 1) := by decide +kernel
theorem dX12_beside_60 : decode cX12_beside 60 = .ok (.ishl, 1) := by decide +kernel
theorem dX12_beside_61 : decode cX12_beside 61 = .ok (.goto 4, 3) := by decide +kernel
theorem dX12_beside_64 : decode cX12_beside 64 = .ok (.iconst 0, 1) := by decide +kernel
theorem dX12_beside_65 : decode cX12_beside 65 = .ok (.ior, 1) := by decide +kernel
theorem dX12_beside_66 : decode cX12_beside 66 = .ok (.istore_n 2, 1) := by decide +kernel
theorem dX12_beside_67 : decode cX12_beside 67 = .ok (.iinc 3 1, 3) := by decide +kernel
theorem dX12_beside_70 : decode cX12_beside 70 = .ok (.goto (-51), 3) := by decide +kernel
theorem dX12_beside_73 : decode cX12_beside 73 = .ok (.iload_n 2, 1) := by decide +kernel
theorem dX12_beside_74 : decode cX12_beside 74 = .ok (.ireturn, 1) := by decide +kernel
theorem dX12_slack_0 : decode cX12_slack 0 = .ok (.aload_n 0, 1) := by decide +kernel
theorem dX12_slack_1 : decode cX12_slack 1 = .ok (.iconst 0, 1) := by decide +kernel
theorem dX12_slack_2 : decode cX12_slack 2 = .ok (.putfield 99, 3) := by decide +kernel
theorem dX12_slack_5 : decode cX12_slack 5 = .ok (.aload_n 0, 1) := by decide +kernel
theorem dX12_slack_6 : decode cX12_slack 6 = .ok (.iload_n 1, 1) := by decide +kernel
theorem dX12_slack_7 : decode cX12_slack 7 = .ok (.invokevirtual 374, 3) := by decide +kernel
theorem dX12_slack_10 : decode cX12_slack 10 = .ok (.ifCond .ne 7, 3) := by decide +kernel
theorem dX12_slack_13 : decode cX12_slack 13 = .ok (.ldc_w 441, 3) := by decide +kernel
theorem dX12_slack_16 : decode cX12_slack 16 = .ok (.ireturn, 1) := by decide +kernel
theorem dX12_slack_17 : decode cX12_slack 17 = .ok (.aload_n 0, 1) := by decide +kernel
theorem dX12_slack_18 : decode cX12_slack 18 = .ok (.iload_n 1, 1) := by decide +kernel
theorem dX12_slack_19 : decode cX12_slack 19 = .ok (.invokevirtual 451, 3) := by decide +kernel
theorem dX12_slack_22 : decode cX12_slack 22 = .ok (.bipush 6, 2) := by decide +kernel
theorem dX12_slack_24 : decode cX12_slack 24 = .ok (.aload_n 0, 1) := by decide +kernel
theorem dX12_slack_25 : decode cX12_slack 25 = .ok (.getfield 37, 3) := by decide +kernel
theorem dX12_slack_28 : decode cX12_slack 28 = .ok (.iconst 0, 1) := by decide +kernel
theorem dX12_slack_29 : decode cX12_slack 29 = .ok (.iaload, 1) := by decide +kernel
theorem dX12_slack_30 : decode cX12_slack 30 = .ok (.imul, 1) := by decide +kernel
theorem dX12_slack_31 : decode cX12_slack 31 = .ok (.aload_n 0, 1) := by decide +kernel
theorem dX12_slack_32 : decode cX12_slack 32 = .ok (.getfield 333, 3) := by decide +kernel
theorem dX12_slack_35 : decode cX12_slack 35 = .ok (.isub, 1) := by decide +kernel
theorem dX12_slack_36 : decode cX12_slack 36 = .ok (.ireturn, 1) := by decide +kernel
theorem dX12_longest_0 : decode cX12_longest 0 = .ok (.aload_n 0, 1) := by decide +kernel
theorem dX12_longest_1 : decode cX12_longest 1 = .ok (.iconst 0, 1) := by decide +kernel
theorem dX12_longest_2 : decode cX12_longest 2 = .ok (.putfield 99, 3) := by decide +kernel
theorem dX12_longest_5 : decode cX12_longest 5 = .ok (.aload_n 0, 1) := by decide +kernel
theorem dX12_longest_6 : decode cX12_longest 6 = .ok (.iload_n 1, 1) := by decide +kernel
theorem dX12_longest_7 : decode cX12_longest 7 = .ok (.invokevirtual 374, 3) := by decide +kernel
theorem dX12_longest_10 : decode cX12_longest 10 = .ok (.ifCond .ne 5, 3) := by decide +kernel
theorem dX12_longest_13 : decode cX12_longest 13 = .ok (.iconst (-1), 1) := by decide +kernel
theorem dX12_longest_14 : decode cX12_longest 14 = .ok (.ireturn, 1) := by decide +kernel
theorem dX12_longest_15 : decode cX12_longest 15 = .ok (.aload_n 0, 1) := by decide +kernel
theorem dX12_longest_16 : decode cX12_longest 16 = .ok (.iload_n 1, 1) := by decide +kernel
theorem dX12_longest_17 : decode cX12_longest 17 = .ok (.invokevirtual 451, 3) := by decide +kernel
theorem dX12_longest_20 : decode cX12_longest 20 = .ok (.aload_n 0, 1) := by decide +kernel
theorem dX12_longest_21 : decode cX12_longest 21 = .ok (.getfield 339, 3) := by decide +kernel
theorem dX12_longest_24 : decode cX12_longest 24 = .ok (.ireturn, 1) := by decide +kernel
theorem dX12_image_0 : decode cX12_image 0 = .ok (.aload_n 0, 1) := by decide +kernel
theorem dX12_image_1 : decode cX12_image 1 = .ok (.iconst 0, 1) := by decide +kernel
theorem dX12_image_2 : decode cX12_image 2 = .ok (.putfield 99, 3) := by decide +kernel
theorem dX12_image_5 : decode cX12_image 5 = .ok (.aload_n 0, 1) := by decide +kernel
theorem dX12_image_6 : decode cX12_image 6 = .ok (.getfield 297, 3) := by decide +kernel
theorem dX12_image_9 : decode cX12_image 9 = .ok (.ifCond .ne 5, 3) := by decide +kernel
theorem dX12_image_12 : decode cX12_image 12 = .ok (.iconst (-1), 1) := by decide +kernel
theorem dX12_image_13 : decode cX12_image 13 = .ok (.ireturn, 1) := by decide +kernel
theorem dX12_image_14 : decode cX12_image 14 = .ok (.aload_n 0, 1) := by decide +kernel
theorem dX12_image_15 : decode cX12_image 15 = .ok (.getfield 61, 3) := by decide +kernel
theorem dX12_image_18 : decode cX12_image 18 = .ok (.aload_n 0, 1) := by decide +kernel
theorem dX12_image_19 : decode cX12_image 19 = .ok (.getfield 96, 3) := by decide +kernel
theorem dX12_image_22 : decode cX12_image 22 = .ok (.invokestatic 359, 3) := by decide +kernel
theorem dX12_image_25 : decode cX12_image 25 = .ok (.aload_n 0, 1) := by decide +kernel
theorem dX12_image_26 : decode cX12_image 26 = .ok (.iconst 1, 1) := by decide +kernel
theorem dX12_image_27 : decode cX12_image 27 = .ok (.putfield 315, 3) := by decide +kernel
theorem dX12_image_30 : decode cX12_image 30 = .ok (.aload_n 0, 1) := by decide +kernel
theorem dX12_image_31 : decode cX12_image 31 = .ok (.aload_n 0, 1) := by decide +kernel
theorem dX12_image_32 : decode cX12_image 32 = .ok (.getfield 61, 3) := by decide +kernel
theorem dX12_image_35 : decode cX12_image 35 = .ok (.invokevirtual 403, 3) := by decide +kernel
theorem dX12_image_38 : decode cX12_image 38 = .ok (.ireturn, 1) := by decide +kernel
theorem dX12_back_0 : decode cX12_back 0 = .ok (.aload_n 0, 1) := by decide +kernel
theorem dX12_back_1 : decode cX12_back 1 = .ok (.iconst 0, 1) := by decide +kernel
theorem dX12_back_2 : decode cX12_back 2 = .ok (.putfield 99, 3) := by decide +kernel
theorem dX12_back_5 : decode cX12_back 5 = .ok (.aload_n 0, 1) := by decide +kernel
theorem dX12_back_6 : decode cX12_back 6 = .ok (.getfield 315, 3) := by decide +kernel
theorem dX12_back_9 : decode cX12_back 9 = .ok (.ifCond .ne 5, 3) := by decide +kernel
theorem dX12_back_12 : decode cX12_back 12 = .ok (.iconst (-1), 1) := by decide +kernel
theorem dX12_back_13 : decode cX12_back 13 = .ok (.ireturn, 1) := by decide +kernel
theorem dX12_back_14 : decode cX12_back 14 = .ok (.aload_n 0, 1) := by decide +kernel
theorem dX12_back_15 : decode cX12_back 15 = .ok (.getfield 96, 3) := by decide +kernel
theorem dX12_back_18 : decode cX12_back 18 = .ok (.aload_n 0, 1) := by decide +kernel
theorem dX12_back_19 : decode cX12_back 19 = .ok (.getfield 61, 3) := by decide +kernel
theorem dX12_back_22 : decode cX12_back 22 = .ok (.invokestatic 359, 3) := by decide +kernel
theorem dX12_back_25 : decode cX12_back 25 = .ok (.aload_n 0, 1) := by decide +kernel
theorem dX12_back_26 : decode cX12_back 26 = .ok (.iconst 0, 1) := by decide +kernel
theorem dX12_back_27 : decode cX12_back 27 = .ok (.putfield 312, 3) := by decide +kernel
theorem dX12_back_30 : decode cX12_back 30 = .ok (.aload_n 0, 1) := by decide +kernel
theorem dX12_back_31 : decode cX12_back 31 = .ok (.aload_n 0, 1) := by decide +kernel
theorem dX12_back_32 : decode cX12_back 32 = .ok (.getfield 61, 3) := by decide +kernel
theorem dX12_back_35 : decode cX12_back 35 = .ok (.invokevirtual 403, 3) := by decide +kernel
theorem dX12_back_38 : decode cX12_back 38 = .ok (.ireturn, 1) := by decide +kernel
theorem dX12_count_0 : decode cX12_count 0 = .ok (.aload_n 0, 1) := by decide +kernel
theorem dX12_count_1 : decode cX12_count 1 = .ok (.iconst 0, 1) := by decide +kernel
theorem dX12_count_2 : decode cX12_count 2 = .ok (.putfield 99, 3) := by decide +kernel
theorem dX12_count_5 : decode cX12_count 5 = .ok (.iload_n 1, 1) := by decide +kernel
theorem dX12_count_6 : decode cX12_count 6 = .ok (.tableswitch 151 0 13 #[70, 75, 80, 85, 90, 95, 100, 105, 114, 119, 124, 129, 137, 142], 70) := by decide +kernel
theorem dX12_count_76 : decode cX12_count 76 = .ok (.aload_n 0, 1) := by decide +kernel
theorem dX12_count_77 : decode cX12_count 77 = .ok (.getfield 297, 3) := by decide +kernel
theorem dX12_count_80 : decode cX12_count 80 = .ok (.ireturn, 1) := by decide +kernel
theorem dX12_count_81 : decode cX12_count 81 = .ok (.aload_n 0, 1) := by decide +kernel
theorem dX12_count_82 : decode cX12_count 82 = .ok (.getfield 300, 3) := by decide +kernel
theorem dX12_count_85 : decode cX12_count 85 = .ok (.ireturn, 1) := by decide +kernel
theorem dX12_count_86 : decode cX12_count 86 = .ok (.aload_n 0, 1) := by decide +kernel
theorem dX12_count_87 : decode cX12_count 87 = .ok (.getfield 289, 3) := by decide +kernel
theorem dX12_count_90 : decode cX12_count 90 = .ok (.ireturn, 1) := by decide +kernel
theorem dX12_count_91 : decode cX12_count 91 = .ok (.aload_n 0, 1) := by decide +kernel
theorem dX12_count_92 : decode cX12_count 92 = .ok (.getfield 292, 3) := by decide +kernel
theorem dX12_count_95 : decode cX12_count 95 = .ok (.ireturn, 1) := by decide +kernel
theorem dX12_count_96 : decode cX12_count 96 = .ok (.aload_n 0, 1) := by decide +kernel
theorem dX12_count_97 : decode cX12_count 97 = .ok (.getfield 112, 3) := by decide +kernel
theorem dX12_count_100 : decode cX12_count 100 = .ok (.ireturn, 1) := by decide +kernel
theorem dX12_count_101 : decode cX12_count 101 = .ok (.aload_n 0, 1) := by decide +kernel
theorem dX12_count_102 : decode cX12_count 102 = .ok (.getfield 67, 3) := by decide +kernel
theorem dX12_count_105 : decode cX12_count 105 = .ok (.ireturn, 1) := by decide +kernel
theorem dX12_count_106 : decode cX12_count 106 = .ok (.aload_n 0, 1) := by decide +kernel
theorem dX12_count_107 : decode cX12_count 107 = .ok (.getfield 303, 3) := by decide +kernel
theorem dX12_count_110 : decode cX12_count 110 = .ok (.ireturn, 1) := by decide +kernel
theorem dX12_count_111 : decode cX12_count 111 = .ok (.aload_n 0, 1) := by decide +kernel
theorem dX12_count_112 : decode cX12_count 112 = .ok (.aload_n 0, 1) := by decide +kernel
theorem dX12_count_113 : decode cX12_count 113 = .ok (.getfield 61, 3) := by decide +kernel
theorem dX12_count_116 : decode cX12_count 116 = .ok (.invokevirtual 403, 3) := by decide +kernel
theorem dX12_count_119 : decode cX12_count 119 = .ok (.ireturn, 1) := by decide +kernel
theorem dX12_count_120 : decode cX12_count 120 = .ok (.aload_n 0, 1) := by decide +kernel
theorem dX12_count_121 : decode cX12_count 121 = .ok (.getfield 71, 3) := by decide +kernel
theorem dX12_count_124 : decode cX12_count 124 = .ok (.ireturn, 1) := by decide +kernel
theorem dX12_count_125 : decode cX12_count 125 = .ok (.aload_n 0, 1) := by decide +kernel
theorem dX12_count_126 : decode cX12_count 126 = .ok (.getfield 306, 3) := by decide +kernel
theorem dX12_count_129 : decode cX12_count 129 = .ok (.ireturn, 1) := by decide +kernel
theorem dX12_count_130 : decode cX12_count 130 = .ok (.aload_n 0, 1) := by decide +kernel
theorem dX12_count_131 : decode cX12_count 131 = .ok (.getfield 309, 3) := by decide +kernel
theorem dX12_count_134 : decode cX12_count 134 = .ok (.ireturn, 1) := by decide +kernel
theorem dX12_count_135 : decode cX12_count 135 = .ok (.aload_n 0, 1) := by decide +kernel
theorem dX12_count_136 : decode cX12_count 136 = .ok (.getfield 61, 3) := by decide +kernel
theorem dX12_count_139 : decode cX12_count 139 = .ok (.bipush 55, 2) := by decide +kernel
theorem dX12_count_141 : decode cX12_count 141 = .ok (.iaload, 1) := by decide +kernel
theorem dX12_count_142 : decode cX12_count 142 = .ok (.ireturn, 1) := by decide +kernel
theorem dX12_count_143 : decode cX12_count 143 = .ok (.aload_n 0, 1) := by decide +kernel
theorem dX12_count_144 : decode cX12_count 144 = .ok (.getfield 312, 3) := by decide +kernel
theorem dX12_count_147 : decode cX12_count 147 = .ok (.ireturn, 1) := by decide +kernel
theorem dX12_count_148 : decode cX12_count 148 = .ok (.aload_n 0, 1) := by decide +kernel
theorem dX12_count_149 : decode cX12_count 149 = .ok (.aload_n 0, 1) := by decide +kernel
theorem dX12_count_150 : decode cX12_count 150 = .ok (.getfield 61, 3) := by decide +kernel
theorem dX12_count_153 : decode cX12_count 153 = .ok (.invokevirtual 448, 3) := by decide +kernel
theorem dX12_count_156 : decode cX12_count 156 = .ok (.ireturn, 1) := by decide +kernel
theorem dX12_count_157 : decode cX12_count 157 = .ok (.ldc_w 441, 3) := by decide +kernel
theorem dX12_count_160 : decode cX12_count 160 = .ok (.ireturn, 1) := by decide +kernel
