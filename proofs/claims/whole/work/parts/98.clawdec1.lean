set_option maxRecDepth 20000 in
theorem dG_law_1 : (decode cL_law 0 = .ok (.new 8, 3)) ∧ (decode cL_law 3 = .ok (.dup, 1)) ∧ (decode cL_law 4 = .ok (.invokespecial 138, 3)) ∧ (decode cL_law 7 = .ok (.astore_n 1, 1)) ∧ (decode cL_law 8 = .ok (.new 139, 3)) ∧ (decode cL_law 11 = .ok (.dup, 1)) ∧ (decode cL_law 12 = .ok (.invokespecial 141, 3)) ∧ (decode cL_law 15 = .ok (.astore_n 2, 1)) := by decide +kernel
theorem dL_law_0 : decode cL_law 0 = .ok (.new 8, 3) := dG_law_1.1
theorem dL_law_3 : decode cL_law 3 = .ok (.dup, 1) := dG_law_1.2.1
theorem dL_law_4 : decode cL_law 4 = .ok (.invokespecial 138, 3) := dG_law_1.2.2.1
theorem dL_law_7 : decode cL_law 7 = .ok (.astore_n 1, 1) := dG_law_1.2.2.2.1
theorem dL_law_8 : decode cL_law 8 = .ok (.new 139, 3) := dG_law_1.2.2.2.2.1
theorem dL_law_11 : decode cL_law 11 = .ok (.dup, 1) := dG_law_1.2.2.2.2.2.1
theorem dL_law_12 : decode cL_law 12 = .ok (.invokespecial 141, 3) := dG_law_1.2.2.2.2.2.2.1
theorem dL_law_15 : decode cL_law 15 = .ok (.astore_n 2, 1) := dG_law_1.2.2.2.2.2.2.2
set_option maxRecDepth 20000 in
theorem dG_law_2 : (decode cL_law 16 = .ok (.iconst 1, 1)) ∧ (decode cL_law 17 = .ok (.newarray .long, 2)) ∧ (decode cL_law 19 = .ok (.astore_n 3, 1)) ∧ (decode cL_law 20 = .ok (.iconst 0, 1)) ∧ (decode cL_law 21 = .ok (.istore 4, 2)) ∧ (decode cL_law 23 = .ok (.iload 4, 2)) ∧ (decode cL_law 25 = .ok (.aload_n 0, 1)) ∧ (decode cL_law 26 = .ok (.arraylength, 1)) := by decide +kernel
theorem dL_law_16 : decode cL_law 16 = .ok (.iconst 1, 1) := dG_law_2.1
theorem dL_law_17 : decode cL_law 17 = .ok (.newarray .long, 2) := dG_law_2.2.1
theorem dL_law_19 : decode cL_law 19 = .ok (.astore_n 3, 1) := dG_law_2.2.2.1
theorem dL_law_20 : decode cL_law 20 = .ok (.iconst 0, 1) := dG_law_2.2.2.2.1
theorem dL_law_21 : decode cL_law 21 = .ok (.istore 4, 2) := dG_law_2.2.2.2.2.1
theorem dL_law_23 : decode cL_law 23 = .ok (.iload 4, 2) := dG_law_2.2.2.2.2.2.1
theorem dL_law_25 : decode cL_law 25 = .ok (.aload_n 0, 1) := dG_law_2.2.2.2.2.2.2.1
theorem dL_law_26 : decode cL_law 26 = .ok (.arraylength, 1) := dG_law_2.2.2.2.2.2.2.2
set_option maxRecDepth 20000 in
theorem dG_law_3 : (decode cL_law 27 = .ok (.bipush 6, 2)) ∧ (decode cL_law 29 = .ok (.isub, 1)) ∧ (decode cL_law 30 = .ok (.if_icmp .gt 3176, 3)) ∧ (decode cL_law 33 = .ok (.aload_n 0, 1)) ∧ (decode cL_law 34 = .ok (.iload 4, 2)) ∧ (decode cL_law 36 = .ok (.iaload, 1)) ∧ (decode cL_law 37 = .ok (.bipush 63, 2)) ∧ (decode cL_law 39 = .ok (.iand, 1)) := by decide +kernel
theorem dL_law_27 : decode cL_law 27 = .ok (.bipush 6, 2) := dG_law_3.1
theorem dL_law_29 : decode cL_law 29 = .ok (.isub, 1) := dG_law_3.2.1
theorem dL_law_30 : decode cL_law 30 = .ok (.if_icmp .gt 3176, 3) := dG_law_3.2.2.1
theorem dL_law_33 : decode cL_law 33 = .ok (.aload_n 0, 1) := dG_law_3.2.2.2.1
theorem dL_law_34 : decode cL_law 34 = .ok (.iload 4, 2) := dG_law_3.2.2.2.2.1
theorem dL_law_36 : decode cL_law 36 = .ok (.iaload, 1) := dG_law_3.2.2.2.2.2.1
theorem dL_law_37 : decode cL_law 37 = .ok (.bipush 63, 2) := dG_law_3.2.2.2.2.2.2.1
theorem dL_law_39 : decode cL_law 39 = .ok (.iand, 1) := dG_law_3.2.2.2.2.2.2.2
set_option maxRecDepth 20000 in
theorem dG_law_4 : (decode cL_law 40 = .ok (.tableswitch 3160 0 62 #[268, 372, 428, 441, 454, 467, 480, 493, 506, 519, 532, 545, 558, 614, 670, 726, 782, 845, 913, 981, 1049, 1117, 1130, 1143, 1211, 1267, 1323, 1379, 1442, 1498, 1554, 1610, 1635, 1715, 1795, 1863, 1931, 1999, 2012, 2025, 2038, 2079, 2122, 2135, 2160, 2185, 2210, 2278, 2334, 2390, 2446, 2514, 2594, 2650, 2730, 2798, 2854, 2910, 2966, 2991, 3004, 3048, 3104], 268)) ∧ (decode cL_law 308 = .ok (.aload_n 1, 1)) ∧ (decode cL_law 309 = .ok (.aload_n 0, 1)) ∧ (decode cL_law 310 = .ok (.iload 4, 2)) ∧ (decode cL_law 312 = .ok (.iconst 1, 1)) ∧ (decode cL_law 313 = .ok (.iadd, 1)) ∧ (decode cL_law 314 = .ok (.iaload, 1)) ∧ (decode cL_law 315 = .ok (.aload_n 0, 1)) := by decide +kernel
theorem dL_law_40 : decode cL_law 40 = .ok (.tableswitch 3160 0 62 #[268, 372, 428, 441, 454, 467, 480, 493, 506, 519, 532, 545, 558, 614, 670, 726, 782, 845, 913, 981, 1049, 1117, 1130, 1143, 1211, 1267, 1323, 1379, 1442, 1498, 1554, 1610, 1635, 1715, 1795, 1863, 1931, 1999, 2012, 2025, 2038, 2079, 2122, 2135, 2160, 2185, 2210, 2278, 2334, 2390, 2446, 2514, 2594, 2650, 2730, 2798, 2854, 2910, 2966, 2991, 3004, 3048, 3104], 268) := dG_law_4.1
theorem dL_law_308 : decode cL_law 308 = .ok (.aload_n 1, 1) := dG_law_4.2.1
theorem dL_law_309 : decode cL_law 309 = .ok (.aload_n 0, 1) := dG_law_4.2.2.1
theorem dL_law_310 : decode cL_law 310 = .ok (.iload 4, 2) := dG_law_4.2.2.2.1
theorem dL_law_312 : decode cL_law 312 = .ok (.iconst 1, 1) := dG_law_4.2.2.2.2.1
theorem dL_law_313 : decode cL_law 313 = .ok (.iadd, 1) := dG_law_4.2.2.2.2.2.1
theorem dL_law_314 : decode cL_law 314 = .ok (.iaload, 1) := dG_law_4.2.2.2.2.2.2.1
theorem dL_law_315 : decode cL_law 315 = .ok (.aload_n 0, 1) := dG_law_4.2.2.2.2.2.2.2
set_option maxRecDepth 20000 in
theorem dG_law_5 : (decode cL_law 316 = .ok (.iload 4, 2)) ∧ (decode cL_law 318 = .ok (.iconst 2, 1)) ∧ (decode cL_law 319 = .ok (.iadd, 1)) ∧ (decode cL_law 320 = .ok (.iaload, 1)) ∧ (decode cL_law 321 = .ok (.aload_n 0, 1)) ∧ (decode cL_law 322 = .ok (.iload 4, 2)) ∧ (decode cL_law 324 = .ok (.iconst 3, 1)) ∧ (decode cL_law 325 = .ok (.iadd, 1)) := by decide +kernel
theorem dL_law_316 : decode cL_law 316 = .ok (.iload 4, 2) := dG_law_5.1
theorem dL_law_318 : decode cL_law 318 = .ok (.iconst 2, 1) := dG_law_5.2.1
theorem dL_law_319 : decode cL_law 319 = .ok (.iadd, 1) := dG_law_5.2.2.1
theorem dL_law_320 : decode cL_law 320 = .ok (.iaload, 1) := dG_law_5.2.2.2.1
theorem dL_law_321 : decode cL_law 321 = .ok (.aload_n 0, 1) := dG_law_5.2.2.2.2.1
theorem dL_law_322 : decode cL_law 322 = .ok (.iload 4, 2) := dG_law_5.2.2.2.2.2.1
theorem dL_law_324 : decode cL_law 324 = .ok (.iconst 3, 1) := dG_law_5.2.2.2.2.2.2.1
theorem dL_law_325 : decode cL_law 325 = .ok (.iadd, 1) := dG_law_5.2.2.2.2.2.2.2
set_option maxRecDepth 20000 in
theorem dG_law_6 : (decode cL_law 326 = .ok (.iaload, 1)) ∧ (decode cL_law 327 = .ok (.aload_n 0, 1)) ∧ (decode cL_law 328 = .ok (.iload 4, 2)) ∧ (decode cL_law 330 = .ok (.iconst 4, 1)) ∧ (decode cL_law 331 = .ok (.iadd, 1)) ∧ (decode cL_law 332 = .ok (.iaload, 1)) ∧ (decode cL_law 333 = .ok (.aload_n 0, 1)) ∧ (decode cL_law 334 = .ok (.iload 4, 2)) := by decide +kernel
theorem dL_law_326 : decode cL_law 326 = .ok (.iaload, 1) := dG_law_6.1
theorem dL_law_327 : decode cL_law 327 = .ok (.aload_n 0, 1) := dG_law_6.2.1
theorem dL_law_328 : decode cL_law 328 = .ok (.iload 4, 2) := dG_law_6.2.2.1
theorem dL_law_330 : decode cL_law 330 = .ok (.iconst 4, 1) := dG_law_6.2.2.2.1
theorem dL_law_331 : decode cL_law 331 = .ok (.iadd, 1) := dG_law_6.2.2.2.2.1
theorem dL_law_332 : decode cL_law 332 = .ok (.iaload, 1) := dG_law_6.2.2.2.2.2.1
theorem dL_law_333 : decode cL_law 333 = .ok (.aload_n 0, 1) := dG_law_6.2.2.2.2.2.2.1
theorem dL_law_334 : decode cL_law 334 = .ok (.iload 4, 2) := dG_law_6.2.2.2.2.2.2.2
set_option maxRecDepth 20000 in
theorem dG_law_7 : (decode cL_law 336 = .ok (.iconst 5, 1)) ∧ (decode cL_law 337 = .ok (.iadd, 1)) ∧ (decode cL_law 338 = .ok (.iaload, 1)) ∧ (decode cL_law 339 = .ok (.aload_n 3, 1)) ∧ (decode cL_law 340 = .ok (.invokestatic 142, 3)) ∧ (decode cL_law 343 = .ok (.istore 5, 2)) ∧ (decode cL_law 345 = .ok (.aload_n 2, 1)) ∧ (decode cL_law 346 = .ok (.aload_n 0, 1)) := by decide +kernel
theorem dL_law_336 : decode cL_law 336 = .ok (.iconst 5, 1) := dG_law_7.1
theorem dL_law_337 : decode cL_law 337 = .ok (.iadd, 1) := dG_law_7.2.1
theorem dL_law_338 : decode cL_law 338 = .ok (.iaload, 1) := dG_law_7.2.2.1
theorem dL_law_339 : decode cL_law 339 = .ok (.aload_n 3, 1) := dG_law_7.2.2.2.1
theorem dL_law_340 : decode cL_law 340 = .ok (.invokestatic 142, 3) := dG_law_7.2.2.2.2.1
theorem dL_law_343 : decode cL_law 343 = .ok (.istore 5, 2) := dG_law_7.2.2.2.2.2.1
theorem dL_law_345 : decode cL_law 345 = .ok (.aload_n 2, 1) := dG_law_7.2.2.2.2.2.2.1
theorem dL_law_346 : decode cL_law 346 = .ok (.aload_n 0, 1) := dG_law_7.2.2.2.2.2.2.2
set_option maxRecDepth 20000 in
theorem dG_law_8 : (decode cL_law 347 = .ok (.iload 4, 2)) ∧ (decode cL_law 349 = .ok (.iconst 1, 1)) ∧ (decode cL_law 350 = .ok (.iadd, 1)) ∧ (decode cL_law 351 = .ok (.iaload, 1)) ∧ (decode cL_law 352 = .ok (.aload_n 0, 1)) ∧ (decode cL_law 353 = .ok (.iload 4, 2)) ∧ (decode cL_law 355 = .ok (.iconst 2, 1)) ∧ (decode cL_law 356 = .ok (.iadd, 1)) := by decide +kernel
theorem dL_law_347 : decode cL_law 347 = .ok (.iload 4, 2) := dG_law_8.1
theorem dL_law_349 : decode cL_law 349 = .ok (.iconst 1, 1) := dG_law_8.2.1
theorem dL_law_350 : decode cL_law 350 = .ok (.iadd, 1) := dG_law_8.2.2.1
theorem dL_law_351 : decode cL_law 351 = .ok (.iaload, 1) := dG_law_8.2.2.2.1
theorem dL_law_352 : decode cL_law 352 = .ok (.aload_n 0, 1) := dG_law_8.2.2.2.2.1
theorem dL_law_353 : decode cL_law 353 = .ok (.iload 4, 2) := dG_law_8.2.2.2.2.2.1
theorem dL_law_355 : decode cL_law 355 = .ok (.iconst 2, 1) := dG_law_8.2.2.2.2.2.2.1
theorem dL_law_356 : decode cL_law 356 = .ok (.iadd, 1) := dG_law_8.2.2.2.2.2.2.2
set_option maxRecDepth 20000 in
theorem dG_law_9 : (decode cL_law 357 = .ok (.iaload, 1)) ∧ (decode cL_law 358 = .ok (.aload_n 0, 1)) ∧ (decode cL_law 359 = .ok (.iload 4, 2)) ∧ (decode cL_law 361 = .ok (.iconst 3, 1)) ∧ (decode cL_law 362 = .ok (.iadd, 1)) ∧ (decode cL_law 363 = .ok (.iaload, 1)) ∧ (decode cL_law 364 = .ok (.aload_n 0, 1)) ∧ (decode cL_law 365 = .ok (.iload 4, 2)) := by decide +kernel
theorem dL_law_357 : decode cL_law 357 = .ok (.iaload, 1) := dG_law_9.1
theorem dL_law_358 : decode cL_law 358 = .ok (.aload_n 0, 1) := dG_law_9.2.1
theorem dL_law_359 : decode cL_law 359 = .ok (.iload 4, 2) := dG_law_9.2.2.1
theorem dL_law_361 : decode cL_law 361 = .ok (.iconst 3, 1) := dG_law_9.2.2.2.1
theorem dL_law_362 : decode cL_law 362 = .ok (.iadd, 1) := dG_law_9.2.2.2.2.1
theorem dL_law_363 : decode cL_law 363 = .ok (.iaload, 1) := dG_law_9.2.2.2.2.2.1
theorem dL_law_364 : decode cL_law 364 = .ok (.aload_n 0, 1) := dG_law_9.2.2.2.2.2.2.1
theorem dL_law_365 : decode cL_law 365 = .ok (.iload 4, 2) := dG_law_9.2.2.2.2.2.2.2
set_option maxRecDepth 20000 in
theorem dG_law_10 : (decode cL_law 367 = .ok (.iconst 4, 1)) ∧ (decode cL_law 368 = .ok (.iadd, 1)) ∧ (decode cL_law 369 = .ok (.iaload, 1)) ∧ (decode cL_law 370 = .ok (.aload_n 0, 1)) ∧ (decode cL_law 371 = .ok (.iload 4, 2)) ∧ (decode cL_law 373 = .ok (.iconst 5, 1)) ∧ (decode cL_law 374 = .ok (.iadd, 1)) ∧ (decode cL_law 375 = .ok (.iaload, 1)) := by decide +kernel
theorem dL_law_367 : decode cL_law 367 = .ok (.iconst 4, 1) := dG_law_10.1
theorem dL_law_368 : decode cL_law 368 = .ok (.iadd, 1) := dG_law_10.2.1
theorem dL_law_369 : decode cL_law 369 = .ok (.iaload, 1) := dG_law_10.2.2.1
theorem dL_law_370 : decode cL_law 370 = .ok (.aload_n 0, 1) := dG_law_10.2.2.2.1
theorem dL_law_371 : decode cL_law 371 = .ok (.iload 4, 2) := dG_law_10.2.2.2.2.1
theorem dL_law_373 : decode cL_law 373 = .ok (.iconst 5, 1) := dG_law_10.2.2.2.2.2.1
theorem dL_law_374 : decode cL_law 374 = .ok (.iadd, 1) := dG_law_10.2.2.2.2.2.2.1
theorem dL_law_375 : decode cL_law 375 = .ok (.iaload, 1) := dG_law_10.2.2.2.2.2.2.2
set_option maxRecDepth 20000 in
theorem dG_law_11 : (decode cL_law 376 = .ok (.invokevirtual 147, 3)) ∧ (decode cL_law 379 = .ok (.istore 6, 2)) ∧ (decode cL_law 381 = .ok (.aload_n 2, 1)) ∧ (decode cL_law 382 = .ok (.invokevirtual 148, 3)) ∧ (decode cL_law 385 = .ok (.iload 5, 2)) ∧ (decode cL_law 387 = .ok (.if_icmp .eq 5, 3)) ∧ (decode cL_law 392 = .ok (.iload 5, 2)) ∧ (decode cL_law 394 = .ok (.ifCond .ne 15, 3)) := by decide +kernel
theorem dL_law_376 : decode cL_law 376 = .ok (.invokevirtual 147, 3) := dG_law_11.1
theorem dL_law_379 : decode cL_law 379 = .ok (.istore 6, 2) := dG_law_11.2.1
theorem dL_law_381 : decode cL_law 381 = .ok (.aload_n 2, 1) := dG_law_11.2.2.1
theorem dL_law_382 : decode cL_law 382 = .ok (.invokevirtual 148, 3) := dG_law_11.2.2.2.1
theorem dL_law_385 : decode cL_law 385 = .ok (.iload 5, 2) := dG_law_11.2.2.2.2.1
theorem dL_law_387 : decode cL_law 387 = .ok (.if_icmp .eq 5, 3) := dG_law_11.2.2.2.2.2.1
theorem dL_law_392 : decode cL_law 392 = .ok (.iload 5, 2) := dG_law_11.2.2.2.2.2.2.1
theorem dL_law_394 : decode cL_law 394 = .ok (.ifCond .ne 15, 3) := dG_law_11.2.2.2.2.2.2.2
set_option maxRecDepth 20000 in
theorem dG_law_12 : (decode cL_law 397 = .ok (.aload_n 3, 1)) ∧ (decode cL_law 398 = .ok (.iconst 0, 1)) ∧ (decode cL_law 399 = .ok (.laload, 1)) ∧ (decode cL_law 400 = .ok (.iload 6, 2)) ∧ (decode cL_law 402 = .ok (.i2l, 1)) ∧ (decode cL_law 403 = .ok (.lcmp, 1)) ∧ (decode cL_law 404 = .ok (.ifCond .eq 5, 3)) ∧ (decode cL_law 409 = .ok (.goto 2791, 3)) := by decide +kernel
theorem dL_law_397 : decode cL_law 397 = .ok (.aload_n 3, 1) := dG_law_12.1
theorem dL_law_398 : decode cL_law 398 = .ok (.iconst 0, 1) := dG_law_12.2.1
theorem dL_law_399 : decode cL_law 399 = .ok (.laload, 1) := dG_law_12.2.2.1
theorem dL_law_400 : decode cL_law 400 = .ok (.iload 6, 2) := dG_law_12.2.2.2.1
theorem dL_law_402 : decode cL_law 402 = .ok (.i2l, 1) := dG_law_12.2.2.2.2.1
theorem dL_law_403 : decode cL_law 403 = .ok (.lcmp, 1) := dG_law_12.2.2.2.2.2.1
theorem dL_law_404 : decode cL_law 404 = .ok (.ifCond .eq 5, 3) := dG_law_12.2.2.2.2.2.2.1
theorem dL_law_409 : decode cL_law 409 = .ok (.goto 2791, 3) := dG_law_12.2.2.2.2.2.2.2
set_option maxRecDepth 20000 in
theorem dG_law_13 : (decode cL_law 412 = .ok (.aload_n 1, 1)) ∧ (decode cL_law 413 = .ok (.aload_n 0, 1)) ∧ (decode cL_law 414 = .ok (.iload 4, 2)) ∧ (decode cL_law 416 = .ok (.iconst 1, 1)) ∧ (decode cL_law 417 = .ok (.iadd, 1)) ∧ (decode cL_law 418 = .ok (.iaload, 1)) ∧ (decode cL_law 419 = .ok (.aload_n 3, 1)) ∧ (decode cL_law 420 = .ok (.invokestatic 151, 3)) := by decide +kernel
theorem dL_law_412 : decode cL_law 412 = .ok (.aload_n 1, 1) := dG_law_13.1
theorem dL_law_413 : decode cL_law 413 = .ok (.aload_n 0, 1) := dG_law_13.2.1
theorem dL_law_414 : decode cL_law 414 = .ok (.iload 4, 2) := dG_law_13.2.2.1
theorem dL_law_416 : decode cL_law 416 = .ok (.iconst 1, 1) := dG_law_13.2.2.2.1
theorem dL_law_417 : decode cL_law 417 = .ok (.iadd, 1) := dG_law_13.2.2.2.2.1
theorem dL_law_418 : decode cL_law 418 = .ok (.iaload, 1) := dG_law_13.2.2.2.2.2.1
theorem dL_law_419 : decode cL_law 419 = .ok (.aload_n 3, 1) := dG_law_13.2.2.2.2.2.2.1
theorem dL_law_420 : decode cL_law 420 = .ok (.invokestatic 151, 3) := dG_law_13.2.2.2.2.2.2.2
set_option maxRecDepth 20000 in
theorem dG_law_14 : (decode cL_law 423 = .ok (.istore 5, 2)) ∧ (decode cL_law 425 = .ok (.aload_n 2, 1)) ∧ (decode cL_law 426 = .ok (.aload_n 0, 1)) ∧ (decode cL_law 427 = .ok (.iload 4, 2)) ∧ (decode cL_law 429 = .ok (.iconst 1, 1)) ∧ (decode cL_law 430 = .ok (.iadd, 1)) ∧ (decode cL_law 431 = .ok (.iaload, 1)) ∧ (decode cL_law 432 = .ok (.invokevirtual 154, 3)) := by decide +kernel
theorem dL_law_423 : decode cL_law 423 = .ok (.istore 5, 2) := dG_law_14.1
theorem dL_law_425 : decode cL_law 425 = .ok (.aload_n 2, 1) := dG_law_14.2.1
theorem dL_law_426 : decode cL_law 426 = .ok (.aload_n 0, 1) := dG_law_14.2.2.1
theorem dL_law_427 : decode cL_law 427 = .ok (.iload 4, 2) := dG_law_14.2.2.2.1
theorem dL_law_429 : decode cL_law 429 = .ok (.iconst 1, 1) := dG_law_14.2.2.2.2.1
theorem dL_law_430 : decode cL_law 430 = .ok (.iadd, 1) := dG_law_14.2.2.2.2.2.1
theorem dL_law_431 : decode cL_law 431 = .ok (.iaload, 1) := dG_law_14.2.2.2.2.2.2.1
theorem dL_law_432 : decode cL_law 432 = .ok (.invokevirtual 154, 3) := dG_law_14.2.2.2.2.2.2.2
set_option maxRecDepth 20000 in
theorem dG_law_15 : (decode cL_law 435 = .ok (.istore 6, 2)) ∧ (decode cL_law 437 = .ok (.aload_n 2, 1)) ∧ (decode cL_law 438 = .ok (.invokevirtual 148, 3)) ∧ (decode cL_law 441 = .ok (.iload 5, 2)) ∧ (decode cL_law 443 = .ok (.if_icmp .eq 5, 3)) ∧ (decode cL_law 448 = .ok (.iload 5, 2)) ∧ (decode cL_law 450 = .ok (.ifCond .ne 15, 3)) ∧ (decode cL_law 453 = .ok (.aload_n 3, 1)) := by decide +kernel
theorem dL_law_435 : decode cL_law 435 = .ok (.istore 6, 2) := dG_law_15.1
theorem dL_law_437 : decode cL_law 437 = .ok (.aload_n 2, 1) := dG_law_15.2.1
theorem dL_law_438 : decode cL_law 438 = .ok (.invokevirtual 148, 3) := dG_law_15.2.2.1
theorem dL_law_441 : decode cL_law 441 = .ok (.iload 5, 2) := dG_law_15.2.2.2.1
theorem dL_law_443 : decode cL_law 443 = .ok (.if_icmp .eq 5, 3) := dG_law_15.2.2.2.2.1
theorem dL_law_448 : decode cL_law 448 = .ok (.iload 5, 2) := dG_law_15.2.2.2.2.2.1
theorem dL_law_450 : decode cL_law 450 = .ok (.ifCond .ne 15, 3) := dG_law_15.2.2.2.2.2.2.1
theorem dL_law_453 : decode cL_law 453 = .ok (.aload_n 3, 1) := dG_law_15.2.2.2.2.2.2.2
set_option maxRecDepth 20000 in
theorem dG_law_16 : (decode cL_law 454 = .ok (.iconst 0, 1)) ∧ (decode cL_law 455 = .ok (.laload, 1)) ∧ (decode cL_law 456 = .ok (.iload 6, 2)) ∧ (decode cL_law 458 = .ok (.i2l, 1)) ∧ (decode cL_law 459 = .ok (.lcmp, 1)) ∧ (decode cL_law 460 = .ok (.ifCond .eq 5, 3)) ∧ (decode cL_law 465 = .ok (.goto 2735, 3)) ∧ (decode cL_law 468 = .ok (.aload_n 1, 1)) := by decide +kernel
theorem dL_law_454 : decode cL_law 454 = .ok (.iconst 0, 1) := dG_law_16.1
theorem dL_law_455 : decode cL_law 455 = .ok (.laload, 1) := dG_law_16.2.1
theorem dL_law_456 : decode cL_law 456 = .ok (.iload 6, 2) := dG_law_16.2.2.1
theorem dL_law_458 : decode cL_law 458 = .ok (.i2l, 1) := dG_law_16.2.2.2.1
theorem dL_law_459 : decode cL_law 459 = .ok (.lcmp, 1) := dG_law_16.2.2.2.2.1
theorem dL_law_460 : decode cL_law 460 = .ok (.ifCond .eq 5, 3) := dG_law_16.2.2.2.2.2.1
theorem dL_law_465 : decode cL_law 465 = .ok (.goto 2735, 3) := dG_law_16.2.2.2.2.2.2.1
theorem dL_law_468 : decode cL_law 468 = .ok (.aload_n 1, 1) := dG_law_16.2.2.2.2.2.2.2
set_option maxRecDepth 20000 in
theorem dG_law_17 : (decode cL_law 469 = .ok (.invokevirtual 155, 3)) ∧ (decode cL_law 472 = .ok (.aload_n 2, 1)) ∧ (decode cL_law 473 = .ok (.invokevirtual 158, 3)) ∧ (decode cL_law 476 = .ok (.if_icmp .eq 2724, 3)) ∧ (decode cL_law 481 = .ok (.aload_n 1, 1)) ∧ (decode cL_law 482 = .ok (.invokevirtual 159, 3)) ∧ (decode cL_law 485 = .ok (.aload_n 2, 1)) ∧ (decode cL_law 486 = .ok (.invokevirtual 162, 3)) := by decide +kernel
theorem dL_law_469 : decode cL_law 469 = .ok (.invokevirtual 155, 3) := dG_law_17.1
theorem dL_law_472 : decode cL_law 472 = .ok (.aload_n 2, 1) := dG_law_17.2.1
theorem dL_law_473 : decode cL_law 473 = .ok (.invokevirtual 158, 3) := dG_law_17.2.2.1
theorem dL_law_476 : decode cL_law 476 = .ok (.if_icmp .eq 2724, 3) := dG_law_17.2.2.2.1
theorem dL_law_481 : decode cL_law 481 = .ok (.aload_n 1, 1) := dG_law_17.2.2.2.2.1
theorem dL_law_482 : decode cL_law 482 = .ok (.invokevirtual 159, 3) := dG_law_17.2.2.2.2.2.1
theorem dL_law_485 : decode cL_law 485 = .ok (.aload_n 2, 1) := dG_law_17.2.2.2.2.2.2.1
theorem dL_law_486 : decode cL_law 486 = .ok (.invokevirtual 162, 3) := dG_law_17.2.2.2.2.2.2.2
set_option maxRecDepth 20000 in
theorem dG_law_18 : (decode cL_law 489 = .ok (.if_icmp .eq 2711, 3)) ∧ (decode cL_law 494 = .ok (.aload_n 1, 1)) ∧ (decode cL_law 495 = .ok (.invokevirtual 163, 3)) ∧ (decode cL_law 498 = .ok (.aload_n 2, 1)) ∧ (decode cL_law 499 = .ok (.invokevirtual 166, 3)) ∧ (decode cL_law 502 = .ok (.if_icmp .eq 2698, 3)) ∧ (decode cL_law 507 = .ok (.aload_n 1, 1)) ∧ (decode cL_law 508 = .ok (.invokevirtual 167, 3)) := by decide +kernel
theorem dL_law_489 : decode cL_law 489 = .ok (.if_icmp .eq 2711, 3) := dG_law_18.1
theorem dL_law_494 : decode cL_law 494 = .ok (.aload_n 1, 1) := dG_law_18.2.1
theorem dL_law_495 : decode cL_law 495 = .ok (.invokevirtual 163, 3) := dG_law_18.2.2.1
theorem dL_law_498 : decode cL_law 498 = .ok (.aload_n 2, 1) := dG_law_18.2.2.2.1
theorem dL_law_499 : decode cL_law 499 = .ok (.invokevirtual 166, 3) := dG_law_18.2.2.2.2.1
theorem dL_law_502 : decode cL_law 502 = .ok (.if_icmp .eq 2698, 3) := dG_law_18.2.2.2.2.2.1
theorem dL_law_507 : decode cL_law 507 = .ok (.aload_n 1, 1) := dG_law_18.2.2.2.2.2.2.1
theorem dL_law_508 : decode cL_law 508 = .ok (.invokevirtual 167, 3) := dG_law_18.2.2.2.2.2.2.2
set_option maxRecDepth 20000 in
theorem dG_law_19 : (decode cL_law 511 = .ok (.aload_n 2, 1)) ∧ (decode cL_law 512 = .ok (.invokevirtual 170, 3)) ∧ (decode cL_law 515 = .ok (.if_icmp .eq 2685, 3)) ∧ (decode cL_law 520 = .ok (.aload_n 1, 1)) ∧ (decode cL_law 521 = .ok (.invokevirtual 171, 3)) ∧ (decode cL_law 524 = .ok (.aload_n 2, 1)) ∧ (decode cL_law 525 = .ok (.invokevirtual 174, 3)) ∧ (decode cL_law 528 = .ok (.if_icmp .eq 2672, 3)) := by decide +kernel
theorem dL_law_511 : decode cL_law 511 = .ok (.aload_n 2, 1) := dG_law_19.1
theorem dL_law_512 : decode cL_law 512 = .ok (.invokevirtual 170, 3) := dG_law_19.2.1
theorem dL_law_515 : decode cL_law 515 = .ok (.if_icmp .eq 2685, 3) := dG_law_19.2.2.1
theorem dL_law_520 : decode cL_law 520 = .ok (.aload_n 1, 1) := dG_law_19.2.2.2.1
theorem dL_law_521 : decode cL_law 521 = .ok (.invokevirtual 171, 3) := dG_law_19.2.2.2.2.1
theorem dL_law_524 : decode cL_law 524 = .ok (.aload_n 2, 1) := dG_law_19.2.2.2.2.2.1
theorem dL_law_525 : decode cL_law 525 = .ok (.invokevirtual 174, 3) := dG_law_19.2.2.2.2.2.2.1
theorem dL_law_528 : decode cL_law 528 = .ok (.if_icmp .eq 2672, 3) := dG_law_19.2.2.2.2.2.2.2
set_option maxRecDepth 20000 in
theorem dG_law_20 : (decode cL_law 533 = .ok (.aload_n 1, 1)) ∧ (decode cL_law 534 = .ok (.invokevirtual 175, 3)) ∧ (decode cL_law 537 = .ok (.aload_n 2, 1)) ∧ (decode cL_law 538 = .ok (.invokevirtual 178, 3)) ∧ (decode cL_law 541 = .ok (.if_icmp .eq 2659, 3)) ∧ (decode cL_law 546 = .ok (.aload_n 1, 1)) ∧ (decode cL_law 547 = .ok (.invokevirtual 179, 3)) ∧ (decode cL_law 550 = .ok (.aload_n 2, 1)) := by decide +kernel
theorem dL_law_533 : decode cL_law 533 = .ok (.aload_n 1, 1) := dG_law_20.1
theorem dL_law_534 : decode cL_law 534 = .ok (.invokevirtual 175, 3) := dG_law_20.2.1
theorem dL_law_537 : decode cL_law 537 = .ok (.aload_n 2, 1) := dG_law_20.2.2.1
theorem dL_law_538 : decode cL_law 538 = .ok (.invokevirtual 178, 3) := dG_law_20.2.2.2.1
theorem dL_law_541 : decode cL_law 541 = .ok (.if_icmp .eq 2659, 3) := dG_law_20.2.2.2.2.1
theorem dL_law_546 : decode cL_law 546 = .ok (.aload_n 1, 1) := dG_law_20.2.2.2.2.2.1
theorem dL_law_547 : decode cL_law 547 = .ok (.invokevirtual 179, 3) := dG_law_20.2.2.2.2.2.2.1
theorem dL_law_550 : decode cL_law 550 = .ok (.aload_n 2, 1) := dG_law_20.2.2.2.2.2.2.2
set_option maxRecDepth 20000 in
theorem dG_law_21 : (decode cL_law 551 = .ok (.invokevirtual 182, 3)) ∧ (decode cL_law 554 = .ok (.if_icmp .eq 2646, 3)) ∧ (decode cL_law 559 = .ok (.aload_n 1, 1)) ∧ (decode cL_law 560 = .ok (.invokevirtual 183, 3)) ∧ (decode cL_law 563 = .ok (.aload_n 2, 1)) ∧ (decode cL_law 564 = .ok (.invokevirtual 186, 3)) ∧ (decode cL_law 567 = .ok (.if_icmp .eq 2633, 3)) ∧ (decode cL_law 572 = .ok (.aload_n 1, 1)) := by decide +kernel
theorem dL_law_551 : decode cL_law 551 = .ok (.invokevirtual 182, 3) := dG_law_21.1
theorem dL_law_554 : decode cL_law 554 = .ok (.if_icmp .eq 2646, 3) := dG_law_21.2.1
theorem dL_law_559 : decode cL_law 559 = .ok (.aload_n 1, 1) := dG_law_21.2.2.1
theorem dL_law_560 : decode cL_law 560 = .ok (.invokevirtual 183, 3) := dG_law_21.2.2.2.1
theorem dL_law_563 : decode cL_law 563 = .ok (.aload_n 2, 1) := dG_law_21.2.2.2.2.1
theorem dL_law_564 : decode cL_law 564 = .ok (.invokevirtual 186, 3) := dG_law_21.2.2.2.2.2.1
theorem dL_law_567 : decode cL_law 567 = .ok (.if_icmp .eq 2633, 3) := dG_law_21.2.2.2.2.2.2.1
theorem dL_law_572 : decode cL_law 572 = .ok (.aload_n 1, 1) := dG_law_21.2.2.2.2.2.2.2
set_option maxRecDepth 20000 in
theorem dG_law_22 : (decode cL_law 573 = .ok (.invokevirtual 187, 3)) ∧ (decode cL_law 576 = .ok (.aload_n 2, 1)) ∧ (decode cL_law 577 = .ok (.invokevirtual 190, 3)) ∧ (decode cL_law 580 = .ok (.if_icmp .eq 2620, 3)) ∧ (decode cL_law 585 = .ok (.aload_n 1, 1)) ∧ (decode cL_law 586 = .ok (.invokevirtual 191, 3)) ∧ (decode cL_law 589 = .ok (.aload_n 2, 1)) ∧ (decode cL_law 590 = .ok (.invokevirtual 194, 3)) := by decide +kernel
theorem dL_law_573 : decode cL_law 573 = .ok (.invokevirtual 187, 3) := dG_law_22.1
theorem dL_law_576 : decode cL_law 576 = .ok (.aload_n 2, 1) := dG_law_22.2.1
theorem dL_law_577 : decode cL_law 577 = .ok (.invokevirtual 190, 3) := dG_law_22.2.2.1
theorem dL_law_580 : decode cL_law 580 = .ok (.if_icmp .eq 2620, 3) := dG_law_22.2.2.2.1
theorem dL_law_585 : decode cL_law 585 = .ok (.aload_n 1, 1) := dG_law_22.2.2.2.2.1
theorem dL_law_586 : decode cL_law 586 = .ok (.invokevirtual 191, 3) := dG_law_22.2.2.2.2.2.1
theorem dL_law_589 : decode cL_law 589 = .ok (.aload_n 2, 1) := dG_law_22.2.2.2.2.2.2.1
theorem dL_law_590 : decode cL_law 590 = .ok (.invokevirtual 194, 3) := dG_law_22.2.2.2.2.2.2.2
set_option maxRecDepth 20000 in
theorem dG_law_23 : (decode cL_law 593 = .ok (.if_icmp .eq 2607, 3)) ∧ (decode cL_law 598 = .ok (.aload_n 1, 1)) ∧ (decode cL_law 599 = .ok (.aload_n 0, 1)) ∧ (decode cL_law 600 = .ok (.iload 4, 2)) ∧ (decode cL_law 602 = .ok (.iconst 1, 1)) ∧ (decode cL_law 603 = .ok (.iadd, 1)) ∧ (decode cL_law 604 = .ok (.iaload, 1)) ∧ (decode cL_law 605 = .ok (.aload_n 3, 1)) := by decide +kernel
theorem dL_law_593 : decode cL_law 593 = .ok (.if_icmp .eq 2607, 3) := dG_law_23.1
theorem dL_law_598 : decode cL_law 598 = .ok (.aload_n 1, 1) := dG_law_23.2.1
theorem dL_law_599 : decode cL_law 599 = .ok (.aload_n 0, 1) := dG_law_23.2.2.1
theorem dL_law_600 : decode cL_law 600 = .ok (.iload 4, 2) := dG_law_23.2.2.2.1
theorem dL_law_602 : decode cL_law 602 = .ok (.iconst 1, 1) := dG_law_23.2.2.2.2.1
theorem dL_law_603 : decode cL_law 603 = .ok (.iadd, 1) := dG_law_23.2.2.2.2.2.1
theorem dL_law_604 : decode cL_law 604 = .ok (.iaload, 1) := dG_law_23.2.2.2.2.2.2.1
theorem dL_law_605 : decode cL_law 605 = .ok (.aload_n 3, 1) := dG_law_23.2.2.2.2.2.2.2
set_option maxRecDepth 20000 in
theorem dG_law_24 : (decode cL_law 606 = .ok (.invokestatic 195, 3)) ∧ (decode cL_law 609 = .ok (.istore 5, 2)) ∧ (decode cL_law 611 = .ok (.aload_n 2, 1)) ∧ (decode cL_law 612 = .ok (.aload_n 0, 1)) ∧ (decode cL_law 613 = .ok (.iload 4, 2)) ∧ (decode cL_law 615 = .ok (.iconst 1, 1)) ∧ (decode cL_law 616 = .ok (.iadd, 1)) ∧ (decode cL_law 617 = .ok (.iaload, 1)) := by decide +kernel
theorem dL_law_606 : decode cL_law 606 = .ok (.invokestatic 195, 3) := dG_law_24.1
theorem dL_law_609 : decode cL_law 609 = .ok (.istore 5, 2) := dG_law_24.2.1
theorem dL_law_611 : decode cL_law 611 = .ok (.aload_n 2, 1) := dG_law_24.2.2.1
theorem dL_law_612 : decode cL_law 612 = .ok (.aload_n 0, 1) := dG_law_24.2.2.2.1
theorem dL_law_613 : decode cL_law 613 = .ok (.iload 4, 2) := dG_law_24.2.2.2.2.1
theorem dL_law_615 : decode cL_law 615 = .ok (.iconst 1, 1) := dG_law_24.2.2.2.2.2.1
theorem dL_law_616 : decode cL_law 616 = .ok (.iadd, 1) := dG_law_24.2.2.2.2.2.2.1
theorem dL_law_617 : decode cL_law 617 = .ok (.iaload, 1) := dG_law_24.2.2.2.2.2.2.2
set_option maxRecDepth 20000 in
theorem dG_law_25 : (decode cL_law 618 = .ok (.invokevirtual 197, 3)) ∧ (decode cL_law 621 = .ok (.istore 6, 2)) ∧ (decode cL_law 623 = .ok (.aload_n 2, 1)) ∧ (decode cL_law 624 = .ok (.invokevirtual 148, 3)) ∧ (decode cL_law 627 = .ok (.iload 5, 2)) ∧ (decode cL_law 629 = .ok (.if_icmp .eq 5, 3)) ∧ (decode cL_law 634 = .ok (.iload 5, 2)) ∧ (decode cL_law 636 = .ok (.ifCond .ne 15, 3)) := by decide +kernel
theorem dL_law_618 : decode cL_law 618 = .ok (.invokevirtual 197, 3) := dG_law_25.1
theorem dL_law_621 : decode cL_law 621 = .ok (.istore 6, 2) := dG_law_25.2.1
theorem dL_law_623 : decode cL_law 623 = .ok (.aload_n 2, 1) := dG_law_25.2.2.1
theorem dL_law_624 : decode cL_law 624 = .ok (.invokevirtual 148, 3) := dG_law_25.2.2.2.1
theorem dL_law_627 : decode cL_law 627 = .ok (.iload 5, 2) := dG_law_25.2.2.2.2.1
theorem dL_law_629 : decode cL_law 629 = .ok (.if_icmp .eq 5, 3) := dG_law_25.2.2.2.2.2.1
theorem dL_law_634 : decode cL_law 634 = .ok (.iload 5, 2) := dG_law_25.2.2.2.2.2.2.1
theorem dL_law_636 : decode cL_law 636 = .ok (.ifCond .ne 15, 3) := dG_law_25.2.2.2.2.2.2.2
set_option maxRecDepth 20000 in
theorem dG_law_26 : (decode cL_law 639 = .ok (.aload_n 3, 1)) ∧ (decode cL_law 640 = .ok (.iconst 0, 1)) ∧ (decode cL_law 641 = .ok (.laload, 1)) ∧ (decode cL_law 642 = .ok (.iload 6, 2)) ∧ (decode cL_law 644 = .ok (.i2l, 1)) ∧ (decode cL_law 645 = .ok (.lcmp, 1)) ∧ (decode cL_law 646 = .ok (.ifCond .eq 5, 3)) ∧ (decode cL_law 651 = .ok (.goto 2549, 3)) := by decide +kernel
theorem dL_law_639 : decode cL_law 639 = .ok (.aload_n 3, 1) := dG_law_26.1
theorem dL_law_640 : decode cL_law 640 = .ok (.iconst 0, 1) := dG_law_26.2.1
theorem dL_law_641 : decode cL_law 641 = .ok (.laload, 1) := dG_law_26.2.2.1
theorem dL_law_642 : decode cL_law 642 = .ok (.iload 6, 2) := dG_law_26.2.2.2.1
theorem dL_law_644 : decode cL_law 644 = .ok (.i2l, 1) := dG_law_26.2.2.2.2.1
theorem dL_law_645 : decode cL_law 645 = .ok (.lcmp, 1) := dG_law_26.2.2.2.2.2.1
theorem dL_law_646 : decode cL_law 646 = .ok (.ifCond .eq 5, 3) := dG_law_26.2.2.2.2.2.2.1
theorem dL_law_651 : decode cL_law 651 = .ok (.goto 2549, 3) := dG_law_26.2.2.2.2.2.2.2
set_option maxRecDepth 20000 in
theorem dG_law_27 : (decode cL_law 654 = .ok (.aload_n 1, 1)) ∧ (decode cL_law 655 = .ok (.aload_n 0, 1)) ∧ (decode cL_law 656 = .ok (.iload 4, 2)) ∧ (decode cL_law 658 = .ok (.iconst 1, 1)) ∧ (decode cL_law 659 = .ok (.iadd, 1)) ∧ (decode cL_law 660 = .ok (.iaload, 1)) ∧ (decode cL_law 661 = .ok (.aload_n 3, 1)) ∧ (decode cL_law 662 = .ok (.invokestatic 198, 3)) := by decide +kernel
theorem dL_law_654 : decode cL_law 654 = .ok (.aload_n 1, 1) := dG_law_27.1
theorem dL_law_655 : decode cL_law 655 = .ok (.aload_n 0, 1) := dG_law_27.2.1
theorem dL_law_656 : decode cL_law 656 = .ok (.iload 4, 2) := dG_law_27.2.2.1
theorem dL_law_658 : decode cL_law 658 = .ok (.iconst 1, 1) := dG_law_27.2.2.2.1
theorem dL_law_659 : decode cL_law 659 = .ok (.iadd, 1) := dG_law_27.2.2.2.2.1
theorem dL_law_660 : decode cL_law 660 = .ok (.iaload, 1) := dG_law_27.2.2.2.2.2.1
theorem dL_law_661 : decode cL_law 661 = .ok (.aload_n 3, 1) := dG_law_27.2.2.2.2.2.2.1
theorem dL_law_662 : decode cL_law 662 = .ok (.invokestatic 198, 3) := dG_law_27.2.2.2.2.2.2.2
set_option maxRecDepth 20000 in
theorem dG_law_28 : (decode cL_law 665 = .ok (.istore 5, 2)) ∧ (decode cL_law 667 = .ok (.aload_n 2, 1)) ∧ (decode cL_law 668 = .ok (.aload_n 0, 1)) ∧ (decode cL_law 669 = .ok (.iload 4, 2)) ∧ (decode cL_law 671 = .ok (.iconst 1, 1)) ∧ (decode cL_law 672 = .ok (.iadd, 1)) ∧ (decode cL_law 673 = .ok (.iaload, 1)) ∧ (decode cL_law 674 = .ok (.invokevirtual 200, 3)) := by decide +kernel
theorem dL_law_665 : decode cL_law 665 = .ok (.istore 5, 2) := dG_law_28.1
theorem dL_law_667 : decode cL_law 667 = .ok (.aload_n 2, 1) := dG_law_28.2.1
theorem dL_law_668 : decode cL_law 668 = .ok (.aload_n 0, 1) := dG_law_28.2.2.1
theorem dL_law_669 : decode cL_law 669 = .ok (.iload 4, 2) := dG_law_28.2.2.2.1
theorem dL_law_671 : decode cL_law 671 = .ok (.iconst 1, 1) := dG_law_28.2.2.2.2.1
theorem dL_law_672 : decode cL_law 672 = .ok (.iadd, 1) := dG_law_28.2.2.2.2.2.1
theorem dL_law_673 : decode cL_law 673 = .ok (.iaload, 1) := dG_law_28.2.2.2.2.2.2.1
theorem dL_law_674 : decode cL_law 674 = .ok (.invokevirtual 200, 3) := dG_law_28.2.2.2.2.2.2.2
set_option maxRecDepth 20000 in
theorem dG_law_29 : (decode cL_law 677 = .ok (.istore 6, 2)) ∧ (decode cL_law 679 = .ok (.aload_n 2, 1)) ∧ (decode cL_law 680 = .ok (.invokevirtual 148, 3)) ∧ (decode cL_law 683 = .ok (.iload 5, 2)) ∧ (decode cL_law 685 = .ok (.if_icmp .eq 5, 3)) ∧ (decode cL_law 690 = .ok (.iload 5, 2)) ∧ (decode cL_law 692 = .ok (.ifCond .ne 15, 3)) ∧ (decode cL_law 695 = .ok (.aload_n 3, 1)) := by decide +kernel
theorem dL_law_677 : decode cL_law 677 = .ok (.istore 6, 2) := dG_law_29.1
theorem dL_law_679 : decode cL_law 679 = .ok (.aload_n 2, 1) := dG_law_29.2.1
theorem dL_law_680 : decode cL_law 680 = .ok (.invokevirtual 148, 3) := dG_law_29.2.2.1
theorem dL_law_683 : decode cL_law 683 = .ok (.iload 5, 2) := dG_law_29.2.2.2.1
theorem dL_law_685 : decode cL_law 685 = .ok (.if_icmp .eq 5, 3) := dG_law_29.2.2.2.2.1
theorem dL_law_690 : decode cL_law 690 = .ok (.iload 5, 2) := dG_law_29.2.2.2.2.2.1
theorem dL_law_692 : decode cL_law 692 = .ok (.ifCond .ne 15, 3) := dG_law_29.2.2.2.2.2.2.1
theorem dL_law_695 : decode cL_law 695 = .ok (.aload_n 3, 1) := dG_law_29.2.2.2.2.2.2.2
set_option maxRecDepth 20000 in
theorem dG_law_30 : (decode cL_law 696 = .ok (.iconst 0, 1)) ∧ (decode cL_law 697 = .ok (.laload, 1)) ∧ (decode cL_law 698 = .ok (.iload 6, 2)) ∧ (decode cL_law 700 = .ok (.i2l, 1)) ∧ (decode cL_law 701 = .ok (.lcmp, 1)) ∧ (decode cL_law 702 = .ok (.ifCond .eq 5, 3)) ∧ (decode cL_law 707 = .ok (.goto 2493, 3)) ∧ (decode cL_law 710 = .ok (.aload_n 1, 1)) := by decide +kernel
theorem dL_law_696 : decode cL_law 696 = .ok (.iconst 0, 1) := dG_law_30.1
theorem dL_law_697 : decode cL_law 697 = .ok (.laload, 1) := dG_law_30.2.1
theorem dL_law_698 : decode cL_law 698 = .ok (.iload 6, 2) := dG_law_30.2.2.1
theorem dL_law_700 : decode cL_law 700 = .ok (.i2l, 1) := dG_law_30.2.2.2.1
theorem dL_law_701 : decode cL_law 701 = .ok (.lcmp, 1) := dG_law_30.2.2.2.2.1
theorem dL_law_702 : decode cL_law 702 = .ok (.ifCond .eq 5, 3) := dG_law_30.2.2.2.2.2.1
theorem dL_law_707 : decode cL_law 707 = .ok (.goto 2493, 3) := dG_law_30.2.2.2.2.2.2.1
theorem dL_law_710 : decode cL_law 710 = .ok (.aload_n 1, 1) := dG_law_30.2.2.2.2.2.2.2
set_option maxRecDepth 20000 in
theorem dG_law_31 : (decode cL_law 711 = .ok (.aload_n 0, 1)) ∧ (decode cL_law 712 = .ok (.iload 4, 2)) ∧ (decode cL_law 714 = .ok (.iconst 1, 1)) ∧ (decode cL_law 715 = .ok (.iadd, 1)) ∧ (decode cL_law 716 = .ok (.iaload, 1)) ∧ (decode cL_law 717 = .ok (.aload_n 3, 1)) ∧ (decode cL_law 718 = .ok (.invokestatic 201, 3)) ∧ (decode cL_law 721 = .ok (.istore 5, 2)) := by decide +kernel
theorem dL_law_711 : decode cL_law 711 = .ok (.aload_n 0, 1) := dG_law_31.1
theorem dL_law_712 : decode cL_law 712 = .ok (.iload 4, 2) := dG_law_31.2.1
theorem dL_law_714 : decode cL_law 714 = .ok (.iconst 1, 1) := dG_law_31.2.2.1
theorem dL_law_715 : decode cL_law 715 = .ok (.iadd, 1) := dG_law_31.2.2.2.1
theorem dL_law_716 : decode cL_law 716 = .ok (.iaload, 1) := dG_law_31.2.2.2.2.1
theorem dL_law_717 : decode cL_law 717 = .ok (.aload_n 3, 1) := dG_law_31.2.2.2.2.2.1
theorem dL_law_718 : decode cL_law 718 = .ok (.invokestatic 201, 3) := dG_law_31.2.2.2.2.2.2.1
theorem dL_law_721 : decode cL_law 721 = .ok (.istore 5, 2) := dG_law_31.2.2.2.2.2.2.2
set_option maxRecDepth 20000 in
theorem dG_law_32 : (decode cL_law 723 = .ok (.aload_n 2, 1)) ∧ (decode cL_law 724 = .ok (.aload_n 0, 1)) ∧ (decode cL_law 725 = .ok (.iload 4, 2)) ∧ (decode cL_law 727 = .ok (.iconst 1, 1)) ∧ (decode cL_law 728 = .ok (.iadd, 1)) ∧ (decode cL_law 729 = .ok (.iaload, 1)) ∧ (decode cL_law 730 = .ok (.invokevirtual 203, 3)) ∧ (decode cL_law 733 = .ok (.istore 6, 2)) := by decide +kernel
theorem dL_law_723 : decode cL_law 723 = .ok (.aload_n 2, 1) := dG_law_32.1
theorem dL_law_724 : decode cL_law 724 = .ok (.aload_n 0, 1) := dG_law_32.2.1
theorem dL_law_725 : decode cL_law 725 = .ok (.iload 4, 2) := dG_law_32.2.2.1
theorem dL_law_727 : decode cL_law 727 = .ok (.iconst 1, 1) := dG_law_32.2.2.2.1
theorem dL_law_728 : decode cL_law 728 = .ok (.iadd, 1) := dG_law_32.2.2.2.2.1
theorem dL_law_729 : decode cL_law 729 = .ok (.iaload, 1) := dG_law_32.2.2.2.2.2.1
theorem dL_law_730 : decode cL_law 730 = .ok (.invokevirtual 203, 3) := dG_law_32.2.2.2.2.2.2.1
theorem dL_law_733 : decode cL_law 733 = .ok (.istore 6, 2) := dG_law_32.2.2.2.2.2.2.2
set_option maxRecDepth 20000 in
theorem dG_law_33 : (decode cL_law 735 = .ok (.aload_n 2, 1)) ∧ (decode cL_law 736 = .ok (.invokevirtual 148, 3)) ∧ (decode cL_law 739 = .ok (.iload 5, 2)) ∧ (decode cL_law 741 = .ok (.if_icmp .eq 5, 3)) ∧ (decode cL_law 746 = .ok (.iload 5, 2)) ∧ (decode cL_law 748 = .ok (.ifCond .ne 15, 3)) ∧ (decode cL_law 751 = .ok (.aload_n 3, 1)) ∧ (decode cL_law 752 = .ok (.iconst 0, 1)) := by decide +kernel
theorem dL_law_735 : decode cL_law 735 = .ok (.aload_n 2, 1) := dG_law_33.1
theorem dL_law_736 : decode cL_law 736 = .ok (.invokevirtual 148, 3) := dG_law_33.2.1
theorem dL_law_739 : decode cL_law 739 = .ok (.iload 5, 2) := dG_law_33.2.2.1
theorem dL_law_741 : decode cL_law 741 = .ok (.if_icmp .eq 5, 3) := dG_law_33.2.2.2.1
theorem dL_law_746 : decode cL_law 746 = .ok (.iload 5, 2) := dG_law_33.2.2.2.2.1
theorem dL_law_748 : decode cL_law 748 = .ok (.ifCond .ne 15, 3) := dG_law_33.2.2.2.2.2.1
theorem dL_law_751 : decode cL_law 751 = .ok (.aload_n 3, 1) := dG_law_33.2.2.2.2.2.2.1
theorem dL_law_752 : decode cL_law 752 = .ok (.iconst 0, 1) := dG_law_33.2.2.2.2.2.2.2
set_option maxRecDepth 20000 in
theorem dG_law_34 : (decode cL_law 753 = .ok (.laload, 1)) ∧ (decode cL_law 754 = .ok (.iload 6, 2)) ∧ (decode cL_law 756 = .ok (.i2l, 1)) ∧ (decode cL_law 757 = .ok (.lcmp, 1)) ∧ (decode cL_law 758 = .ok (.ifCond .eq 5, 3)) ∧ (decode cL_law 763 = .ok (.goto 2437, 3)) ∧ (decode cL_law 766 = .ok (.aload_n 1, 1)) ∧ (decode cL_law 767 = .ok (.aload_n 0, 1)) := by decide +kernel
theorem dL_law_753 : decode cL_law 753 = .ok (.laload, 1) := dG_law_34.1
theorem dL_law_754 : decode cL_law 754 = .ok (.iload 6, 2) := dG_law_34.2.1
theorem dL_law_756 : decode cL_law 756 = .ok (.i2l, 1) := dG_law_34.2.2.1
theorem dL_law_757 : decode cL_law 757 = .ok (.lcmp, 1) := dG_law_34.2.2.2.1
theorem dL_law_758 : decode cL_law 758 = .ok (.ifCond .eq 5, 3) := dG_law_34.2.2.2.2.1
theorem dL_law_763 : decode cL_law 763 = .ok (.goto 2437, 3) := dG_law_34.2.2.2.2.2.1
theorem dL_law_766 : decode cL_law 766 = .ok (.aload_n 1, 1) := dG_law_34.2.2.2.2.2.2.1
theorem dL_law_767 : decode cL_law 767 = .ok (.aload_n 0, 1) := dG_law_34.2.2.2.2.2.2.2
set_option maxRecDepth 20000 in
theorem dG_law_35 : (decode cL_law 768 = .ok (.iload 4, 2)) ∧ (decode cL_law 770 = .ok (.iconst 1, 1)) ∧ (decode cL_law 771 = .ok (.iadd, 1)) ∧ (decode cL_law 772 = .ok (.iaload, 1)) ∧ (decode cL_law 773 = .ok (.aload_n 3, 1)) ∧ (decode cL_law 774 = .ok (.invokestatic 204, 3)) ∧ (decode cL_law 777 = .ok (.istore 5, 2)) ∧ (decode cL_law 779 = .ok (.aload_n 2, 1)) := by decide +kernel
theorem dL_law_768 : decode cL_law 768 = .ok (.iload 4, 2) := dG_law_35.1
theorem dL_law_770 : decode cL_law 770 = .ok (.iconst 1, 1) := dG_law_35.2.1
theorem dL_law_771 : decode cL_law 771 = .ok (.iadd, 1) := dG_law_35.2.2.1
theorem dL_law_772 : decode cL_law 772 = .ok (.iaload, 1) := dG_law_35.2.2.2.1
theorem dL_law_773 : decode cL_law 773 = .ok (.aload_n 3, 1) := dG_law_35.2.2.2.2.1
theorem dL_law_774 : decode cL_law 774 = .ok (.invokestatic 204, 3) := dG_law_35.2.2.2.2.2.1
theorem dL_law_777 : decode cL_law 777 = .ok (.istore 5, 2) := dG_law_35.2.2.2.2.2.2.1
theorem dL_law_779 : decode cL_law 779 = .ok (.aload_n 2, 1) := dG_law_35.2.2.2.2.2.2.2
set_option maxRecDepth 20000 in
theorem dG_law_36 : (decode cL_law 780 = .ok (.aload_n 0, 1)) ∧ (decode cL_law 781 = .ok (.iload 4, 2)) ∧ (decode cL_law 783 = .ok (.iconst 1, 1)) ∧ (decode cL_law 784 = .ok (.iadd, 1)) ∧ (decode cL_law 785 = .ok (.iaload, 1)) ∧ (decode cL_law 786 = .ok (.invokevirtual 206, 3)) ∧ (decode cL_law 789 = .ok (.istore 6, 2)) ∧ (decode cL_law 791 = .ok (.aload_n 2, 1)) := by decide +kernel
theorem dL_law_780 : decode cL_law 780 = .ok (.aload_n 0, 1) := dG_law_36.1
theorem dL_law_781 : decode cL_law 781 = .ok (.iload 4, 2) := dG_law_36.2.1
theorem dL_law_783 : decode cL_law 783 = .ok (.iconst 1, 1) := dG_law_36.2.2.1
theorem dL_law_784 : decode cL_law 784 = .ok (.iadd, 1) := dG_law_36.2.2.2.1
theorem dL_law_785 : decode cL_law 785 = .ok (.iaload, 1) := dG_law_36.2.2.2.2.1
theorem dL_law_786 : decode cL_law 786 = .ok (.invokevirtual 206, 3) := dG_law_36.2.2.2.2.2.1
theorem dL_law_789 : decode cL_law 789 = .ok (.istore 6, 2) := dG_law_36.2.2.2.2.2.2.1
theorem dL_law_791 : decode cL_law 791 = .ok (.aload_n 2, 1) := dG_law_36.2.2.2.2.2.2.2
set_option maxRecDepth 20000 in
theorem dG_law_37 : (decode cL_law 792 = .ok (.invokevirtual 148, 3)) ∧ (decode cL_law 795 = .ok (.iload 5, 2)) ∧ (decode cL_law 797 = .ok (.if_icmp .eq 5, 3)) ∧ (decode cL_law 802 = .ok (.iload 5, 2)) ∧ (decode cL_law 804 = .ok (.ifCond .ne 15, 3)) ∧ (decode cL_law 807 = .ok (.aload_n 3, 1)) ∧ (decode cL_law 808 = .ok (.iconst 0, 1)) ∧ (decode cL_law 809 = .ok (.laload, 1)) := by decide +kernel
theorem dL_law_792 : decode cL_law 792 = .ok (.invokevirtual 148, 3) := dG_law_37.1
theorem dL_law_795 : decode cL_law 795 = .ok (.iload 5, 2) := dG_law_37.2.1
theorem dL_law_797 : decode cL_law 797 = .ok (.if_icmp .eq 5, 3) := dG_law_37.2.2.1
theorem dL_law_802 : decode cL_law 802 = .ok (.iload 5, 2) := dG_law_37.2.2.2.1
theorem dL_law_804 : decode cL_law 804 = .ok (.ifCond .ne 15, 3) := dG_law_37.2.2.2.2.1
theorem dL_law_807 : decode cL_law 807 = .ok (.aload_n 3, 1) := dG_law_37.2.2.2.2.2.1
theorem dL_law_808 : decode cL_law 808 = .ok (.iconst 0, 1) := dG_law_37.2.2.2.2.2.2.1
theorem dL_law_809 : decode cL_law 809 = .ok (.laload, 1) := dG_law_37.2.2.2.2.2.2.2
set_option maxRecDepth 20000 in
theorem dG_law_38 : (decode cL_law 810 = .ok (.iload 6, 2)) ∧ (decode cL_law 812 = .ok (.i2l, 1)) ∧ (decode cL_law 813 = .ok (.lcmp, 1)) ∧ (decode cL_law 814 = .ok (.ifCond .eq 5, 3)) ∧ (decode cL_law 819 = .ok (.goto 2381, 3)) ∧ (decode cL_law 822 = .ok (.aload_n 1, 1)) ∧ (decode cL_law 823 = .ok (.aload_n 0, 1)) ∧ (decode cL_law 824 = .ok (.iload 4, 2)) := by decide +kernel
theorem dL_law_810 : decode cL_law 810 = .ok (.iload 6, 2) := dG_law_38.1
theorem dL_law_812 : decode cL_law 812 = .ok (.i2l, 1) := dG_law_38.2.1
theorem dL_law_813 : decode cL_law 813 = .ok (.lcmp, 1) := dG_law_38.2.2.1
theorem dL_law_814 : decode cL_law 814 = .ok (.ifCond .eq 5, 3) := dG_law_38.2.2.2.1
theorem dL_law_819 : decode cL_law 819 = .ok (.goto 2381, 3) := dG_law_38.2.2.2.2.1
theorem dL_law_822 : decode cL_law 822 = .ok (.aload_n 1, 1) := dG_law_38.2.2.2.2.2.1
theorem dL_law_823 : decode cL_law 823 = .ok (.aload_n 0, 1) := dG_law_38.2.2.2.2.2.2.1
theorem dL_law_824 : decode cL_law 824 = .ok (.iload 4, 2) := dG_law_38.2.2.2.2.2.2.2
set_option maxRecDepth 20000 in
theorem dG_law_39 : (decode cL_law 826 = .ok (.iconst 1, 1)) ∧ (decode cL_law 827 = .ok (.iadd, 1)) ∧ (decode cL_law 828 = .ok (.iaload, 1)) ∧ (decode cL_law 829 = .ok (.aload_n 3, 1)) ∧ (decode cL_law 830 = .ok (.invokestatic 207, 3)) ∧ (decode cL_law 833 = .ok (.istore 5, 2)) ∧ (decode cL_law 835 = .ok (.aload_n 2, 1)) ∧ (decode cL_law 836 = .ok (.aload_n 0, 1)) := by decide +kernel
theorem dL_law_826 : decode cL_law 826 = .ok (.iconst 1, 1) := dG_law_39.1
theorem dL_law_827 : decode cL_law 827 = .ok (.iadd, 1) := dG_law_39.2.1
theorem dL_law_828 : decode cL_law 828 = .ok (.iaload, 1) := dG_law_39.2.2.1
theorem dL_law_829 : decode cL_law 829 = .ok (.aload_n 3, 1) := dG_law_39.2.2.2.1
theorem dL_law_830 : decode cL_law 830 = .ok (.invokestatic 207, 3) := dG_law_39.2.2.2.2.1
theorem dL_law_833 : decode cL_law 833 = .ok (.istore 5, 2) := dG_law_39.2.2.2.2.2.1
theorem dL_law_835 : decode cL_law 835 = .ok (.aload_n 2, 1) := dG_law_39.2.2.2.2.2.2.1
theorem dL_law_836 : decode cL_law 836 = .ok (.aload_n 0, 1) := dG_law_39.2.2.2.2.2.2.2
set_option maxRecDepth 20000 in
theorem dG_law_40 : (decode cL_law 837 = .ok (.iload 4, 2)) ∧ (decode cL_law 839 = .ok (.iconst 1, 1)) ∧ (decode cL_law 840 = .ok (.iadd, 1)) ∧ (decode cL_law 841 = .ok (.iaload, 1)) ∧ (decode cL_law 842 = .ok (.invokevirtual 209, 3)) ∧ (decode cL_law 845 = .ok (.istore 6, 2)) ∧ (decode cL_law 847 = .ok (.aload_n 2, 1)) ∧ (decode cL_law 848 = .ok (.invokevirtual 148, 3)) := by decide +kernel
theorem dL_law_837 : decode cL_law 837 = .ok (.iload 4, 2) := dG_law_40.1
theorem dL_law_839 : decode cL_law 839 = .ok (.iconst 1, 1) := dG_law_40.2.1
theorem dL_law_840 : decode cL_law 840 = .ok (.iadd, 1) := dG_law_40.2.2.1
theorem dL_law_841 : decode cL_law 841 = .ok (.iaload, 1) := dG_law_40.2.2.2.1
theorem dL_law_842 : decode cL_law 842 = .ok (.invokevirtual 209, 3) := dG_law_40.2.2.2.2.1
theorem dL_law_845 : decode cL_law 845 = .ok (.istore 6, 2) := dG_law_40.2.2.2.2.2.1
theorem dL_law_847 : decode cL_law 847 = .ok (.aload_n 2, 1) := dG_law_40.2.2.2.2.2.2.1
theorem dL_law_848 : decode cL_law 848 = .ok (.invokevirtual 148, 3) := dG_law_40.2.2.2.2.2.2.2
set_option maxRecDepth 20000 in
theorem dG_law_41 : (decode cL_law 851 = .ok (.iload 5, 2)) ∧ (decode cL_law 853 = .ok (.if_icmp .eq 5, 3)) ∧ (decode cL_law 858 = .ok (.iload 5, 2)) ∧ (decode cL_law 860 = .ok (.ifCond .ne 22, 3)) ∧ (decode cL_law 863 = .ok (.aload_n 3, 1)) ∧ (decode cL_law 864 = .ok (.iconst 0, 1)) ∧ (decode cL_law 865 = .ok (.laload, 1)) ∧ (decode cL_law 866 = .ok (.iload 6, 2)) := by decide +kernel
theorem dL_law_851 : decode cL_law 851 = .ok (.iload 5, 2) := dG_law_41.1
theorem dL_law_853 : decode cL_law 853 = .ok (.if_icmp .eq 5, 3) := dG_law_41.2.1
theorem dL_law_858 : decode cL_law 858 = .ok (.iload 5, 2) := dG_law_41.2.2.1
theorem dL_law_860 : decode cL_law 860 = .ok (.ifCond .ne 22, 3) := dG_law_41.2.2.2.1
theorem dL_law_863 : decode cL_law 863 = .ok (.aload_n 3, 1) := dG_law_41.2.2.2.2.1
theorem dL_law_864 : decode cL_law 864 = .ok (.iconst 0, 1) := dG_law_41.2.2.2.2.2.1
theorem dL_law_865 : decode cL_law 865 = .ok (.laload, 1) := dG_law_41.2.2.2.2.2.2.1
theorem dL_law_866 : decode cL_law 866 = .ok (.iload 6, 2) := dG_law_41.2.2.2.2.2.2.2
set_option maxRecDepth 20000 in
theorem dG_law_42 : (decode cL_law 868 = .ok (.ifCond .eq 7, 3)) ∧ (decode cL_law 871 = .ok (.lconst 1, 1)) ∧ (decode cL_law 872 = .ok (.goto 4, 3)) ∧ (decode cL_law 875 = .ok (.lconst 0, 1)) ∧ (decode cL_law 876 = .ok (.lcmp, 1)) ∧ (decode cL_law 877 = .ok (.ifCond .eq 5, 3)) ∧ (decode cL_law 882 = .ok (.goto 2318, 3)) ∧ (decode cL_law 885 = .ok (.aload_n 1, 1)) := by decide +kernel
theorem dL_law_868 : decode cL_law 868 = .ok (.ifCond .eq 7, 3) := dG_law_42.1
theorem dL_law_871 : decode cL_law 871 = .ok (.lconst 1, 1) := dG_law_42.2.1
theorem dL_law_872 : decode cL_law 872 = .ok (.goto 4, 3) := dG_law_42.2.2.1
theorem dL_law_875 : decode cL_law 875 = .ok (.lconst 0, 1) := dG_law_42.2.2.2.1
theorem dL_law_876 : decode cL_law 876 = .ok (.lcmp, 1) := dG_law_42.2.2.2.2.1
theorem dL_law_877 : decode cL_law 877 = .ok (.ifCond .eq 5, 3) := dG_law_42.2.2.2.2.2.1
theorem dL_law_882 : decode cL_law 882 = .ok (.goto 2318, 3) := dG_law_42.2.2.2.2.2.2.1
theorem dL_law_885 : decode cL_law 885 = .ok (.aload_n 1, 1) := dG_law_42.2.2.2.2.2.2.2
set_option maxRecDepth 20000 in
theorem dG_law_43 : (decode cL_law 886 = .ok (.aload_n 0, 1)) ∧ (decode cL_law 887 = .ok (.iload 4, 2)) ∧ (decode cL_law 889 = .ok (.iconst 1, 1)) ∧ (decode cL_law 890 = .ok (.iadd, 1)) ∧ (decode cL_law 891 = .ok (.iaload, 1)) ∧ (decode cL_law 892 = .ok (.aload_n 0, 1)) ∧ (decode cL_law 893 = .ok (.iload 4, 2)) ∧ (decode cL_law 895 = .ok (.iconst 2, 1)) := by decide +kernel
theorem dL_law_886 : decode cL_law 886 = .ok (.aload_n 0, 1) := dG_law_43.1
theorem dL_law_887 : decode cL_law 887 = .ok (.iload 4, 2) := dG_law_43.2.1
theorem dL_law_889 : decode cL_law 889 = .ok (.iconst 1, 1) := dG_law_43.2.2.1
theorem dL_law_890 : decode cL_law 890 = .ok (.iadd, 1) := dG_law_43.2.2.2.1
theorem dL_law_891 : decode cL_law 891 = .ok (.iaload, 1) := dG_law_43.2.2.2.2.1
theorem dL_law_892 : decode cL_law 892 = .ok (.aload_n 0, 1) := dG_law_43.2.2.2.2.2.1
theorem dL_law_893 : decode cL_law 893 = .ok (.iload 4, 2) := dG_law_43.2.2.2.2.2.2.1
theorem dL_law_895 : decode cL_law 895 = .ok (.iconst 2, 1) := dG_law_43.2.2.2.2.2.2.2
set_option maxRecDepth 20000 in
theorem dG_law_44 : (decode cL_law 896 = .ok (.iadd, 1)) ∧ (decode cL_law 897 = .ok (.iaload, 1)) ∧ (decode cL_law 898 = .ok (.aload_n 3, 1)) ∧ (decode cL_law 899 = .ok (.invokestatic 210, 3)) ∧ (decode cL_law 902 = .ok (.istore 5, 2)) ∧ (decode cL_law 904 = .ok (.aload_n 2, 1)) ∧ (decode cL_law 905 = .ok (.aload_n 0, 1)) ∧ (decode cL_law 906 = .ok (.iload 4, 2)) := by decide +kernel
theorem dL_law_896 : decode cL_law 896 = .ok (.iadd, 1) := dG_law_44.1
theorem dL_law_897 : decode cL_law 897 = .ok (.iaload, 1) := dG_law_44.2.1
theorem dL_law_898 : decode cL_law 898 = .ok (.aload_n 3, 1) := dG_law_44.2.2.1
theorem dL_law_899 : decode cL_law 899 = .ok (.invokestatic 210, 3) := dG_law_44.2.2.2.1
theorem dL_law_902 : decode cL_law 902 = .ok (.istore 5, 2) := dG_law_44.2.2.2.2.1
theorem dL_law_904 : decode cL_law 904 = .ok (.aload_n 2, 1) := dG_law_44.2.2.2.2.2.1
theorem dL_law_905 : decode cL_law 905 = .ok (.aload_n 0, 1) := dG_law_44.2.2.2.2.2.2.1
theorem dL_law_906 : decode cL_law 906 = .ok (.iload 4, 2) := dG_law_44.2.2.2.2.2.2.2
set_option maxRecDepth 20000 in
theorem dG_law_45 : (decode cL_law 908 = .ok (.iconst 1, 1)) ∧ (decode cL_law 909 = .ok (.iadd, 1)) ∧ (decode cL_law 910 = .ok (.iaload, 1)) ∧ (decode cL_law 911 = .ok (.aload_n 0, 1)) ∧ (decode cL_law 912 = .ok (.iload 4, 2)) ∧ (decode cL_law 914 = .ok (.iconst 2, 1)) ∧ (decode cL_law 915 = .ok (.iadd, 1)) ∧ (decode cL_law 916 = .ok (.iaload, 1)) := by decide +kernel
theorem dL_law_908 : decode cL_law 908 = .ok (.iconst 1, 1) := dG_law_45.1
theorem dL_law_909 : decode cL_law 909 = .ok (.iadd, 1) := dG_law_45.2.1
theorem dL_law_910 : decode cL_law 910 = .ok (.iaload, 1) := dG_law_45.2.2.1
theorem dL_law_911 : decode cL_law 911 = .ok (.aload_n 0, 1) := dG_law_45.2.2.2.1
theorem dL_law_912 : decode cL_law 912 = .ok (.iload 4, 2) := dG_law_45.2.2.2.2.1
theorem dL_law_914 : decode cL_law 914 = .ok (.iconst 2, 1) := dG_law_45.2.2.2.2.2.1
theorem dL_law_915 : decode cL_law 915 = .ok (.iadd, 1) := dG_law_45.2.2.2.2.2.2.1
theorem dL_law_916 : decode cL_law 916 = .ok (.iaload, 1) := dG_law_45.2.2.2.2.2.2.2
set_option maxRecDepth 20000 in
theorem dG_law_46 : (decode cL_law 917 = .ok (.invokevirtual 213, 3)) ∧ (decode cL_law 920 = .ok (.istore 6, 2)) ∧ (decode cL_law 922 = .ok (.aload_n 2, 1)) ∧ (decode cL_law 923 = .ok (.invokevirtual 148, 3)) ∧ (decode cL_law 926 = .ok (.iload 5, 2)) ∧ (decode cL_law 928 = .ok (.if_icmp .eq 5, 3)) ∧ (decode cL_law 933 = .ok (.iload 5, 2)) ∧ (decode cL_law 935 = .ok (.ifCond .ne 15, 3)) := by decide +kernel
theorem dL_law_917 : decode cL_law 917 = .ok (.invokevirtual 213, 3) := dG_law_46.1
theorem dL_law_920 : decode cL_law 920 = .ok (.istore 6, 2) := dG_law_46.2.1
theorem dL_law_922 : decode cL_law 922 = .ok (.aload_n 2, 1) := dG_law_46.2.2.1
theorem dL_law_923 : decode cL_law 923 = .ok (.invokevirtual 148, 3) := dG_law_46.2.2.2.1
theorem dL_law_926 : decode cL_law 926 = .ok (.iload 5, 2) := dG_law_46.2.2.2.2.1
theorem dL_law_928 : decode cL_law 928 = .ok (.if_icmp .eq 5, 3) := dG_law_46.2.2.2.2.2.1
theorem dL_law_933 : decode cL_law 933 = .ok (.iload 5, 2) := dG_law_46.2.2.2.2.2.2.1
theorem dL_law_935 : decode cL_law 935 = .ok (.ifCond .ne 15, 3) := dG_law_46.2.2.2.2.2.2.2
set_option maxRecDepth 20000 in
theorem dG_law_47 : (decode cL_law 938 = .ok (.aload_n 3, 1)) ∧ (decode cL_law 939 = .ok (.iconst 0, 1)) ∧ (decode cL_law 940 = .ok (.laload, 1)) ∧ (decode cL_law 941 = .ok (.iload 6, 2)) ∧ (decode cL_law 943 = .ok (.i2l, 1)) ∧ (decode cL_law 944 = .ok (.lcmp, 1)) ∧ (decode cL_law 945 = .ok (.ifCond .eq 5, 3)) ∧ (decode cL_law 950 = .ok (.goto 2250, 3)) := by decide +kernel
theorem dL_law_938 : decode cL_law 938 = .ok (.aload_n 3, 1) := dG_law_47.1
theorem dL_law_939 : decode cL_law 939 = .ok (.iconst 0, 1) := dG_law_47.2.1
theorem dL_law_940 : decode cL_law 940 = .ok (.laload, 1) := dG_law_47.2.2.1
theorem dL_law_941 : decode cL_law 941 = .ok (.iload 6, 2) := dG_law_47.2.2.2.1
theorem dL_law_943 : decode cL_law 943 = .ok (.i2l, 1) := dG_law_47.2.2.2.2.1
theorem dL_law_944 : decode cL_law 944 = .ok (.lcmp, 1) := dG_law_47.2.2.2.2.2.1
theorem dL_law_945 : decode cL_law 945 = .ok (.ifCond .eq 5, 3) := dG_law_47.2.2.2.2.2.2.1
theorem dL_law_950 : decode cL_law 950 = .ok (.goto 2250, 3) := dG_law_47.2.2.2.2.2.2.2
set_option maxRecDepth 20000 in
theorem dG_law_48 : (decode cL_law 953 = .ok (.aload_n 1, 1)) ∧ (decode cL_law 954 = .ok (.aload_n 0, 1)) ∧ (decode cL_law 955 = .ok (.iload 4, 2)) ∧ (decode cL_law 957 = .ok (.iconst 1, 1)) ∧ (decode cL_law 958 = .ok (.iadd, 1)) ∧ (decode cL_law 959 = .ok (.iaload, 1)) ∧ (decode cL_law 960 = .ok (.aload_n 0, 1)) ∧ (decode cL_law 961 = .ok (.iload 4, 2)) := by decide +kernel
theorem dL_law_953 : decode cL_law 953 = .ok (.aload_n 1, 1) := dG_law_48.1
theorem dL_law_954 : decode cL_law 954 = .ok (.aload_n 0, 1) := dG_law_48.2.1
theorem dL_law_955 : decode cL_law 955 = .ok (.iload 4, 2) := dG_law_48.2.2.1
theorem dL_law_957 : decode cL_law 957 = .ok (.iconst 1, 1) := dG_law_48.2.2.2.1
theorem dL_law_958 : decode cL_law 958 = .ok (.iadd, 1) := dG_law_48.2.2.2.2.1
theorem dL_law_959 : decode cL_law 959 = .ok (.iaload, 1) := dG_law_48.2.2.2.2.2.1
theorem dL_law_960 : decode cL_law 960 = .ok (.aload_n 0, 1) := dG_law_48.2.2.2.2.2.2.1
theorem dL_law_961 : decode cL_law 961 = .ok (.iload 4, 2) := dG_law_48.2.2.2.2.2.2.2
set_option maxRecDepth 20000 in
theorem dG_law_49 : (decode cL_law 963 = .ok (.iconst 2, 1)) ∧ (decode cL_law 964 = .ok (.iadd, 1)) ∧ (decode cL_law 965 = .ok (.iaload, 1)) ∧ (decode cL_law 966 = .ok (.aload_n 3, 1)) ∧ (decode cL_law 967 = .ok (.invokestatic 214, 3)) ∧ (decode cL_law 970 = .ok (.istore 5, 2)) ∧ (decode cL_law 972 = .ok (.aload_n 2, 1)) ∧ (decode cL_law 973 = .ok (.aload_n 0, 1)) := by decide +kernel
theorem dL_law_963 : decode cL_law 963 = .ok (.iconst 2, 1) := dG_law_49.1
theorem dL_law_964 : decode cL_law 964 = .ok (.iadd, 1) := dG_law_49.2.1
theorem dL_law_965 : decode cL_law 965 = .ok (.iaload, 1) := dG_law_49.2.2.1
theorem dL_law_966 : decode cL_law 966 = .ok (.aload_n 3, 1) := dG_law_49.2.2.2.1
theorem dL_law_967 : decode cL_law 967 = .ok (.invokestatic 214, 3) := dG_law_49.2.2.2.2.1
theorem dL_law_970 : decode cL_law 970 = .ok (.istore 5, 2) := dG_law_49.2.2.2.2.2.1
theorem dL_law_972 : decode cL_law 972 = .ok (.aload_n 2, 1) := dG_law_49.2.2.2.2.2.2.1
theorem dL_law_973 : decode cL_law 973 = .ok (.aload_n 0, 1) := dG_law_49.2.2.2.2.2.2.2
set_option maxRecDepth 20000 in
theorem dG_law_50 : (decode cL_law 974 = .ok (.iload 4, 2)) ∧ (decode cL_law 976 = .ok (.iconst 1, 1)) ∧ (decode cL_law 977 = .ok (.iadd, 1)) ∧ (decode cL_law 978 = .ok (.iaload, 1)) ∧ (decode cL_law 979 = .ok (.aload_n 0, 1)) ∧ (decode cL_law 980 = .ok (.iload 4, 2)) ∧ (decode cL_law 982 = .ok (.iconst 2, 1)) ∧ (decode cL_law 983 = .ok (.iadd, 1)) := by decide +kernel
theorem dL_law_974 : decode cL_law 974 = .ok (.iload 4, 2) := dG_law_50.1
theorem dL_law_976 : decode cL_law 976 = .ok (.iconst 1, 1) := dG_law_50.2.1
theorem dL_law_977 : decode cL_law 977 = .ok (.iadd, 1) := dG_law_50.2.2.1
theorem dL_law_978 : decode cL_law 978 = .ok (.iaload, 1) := dG_law_50.2.2.2.1
theorem dL_law_979 : decode cL_law 979 = .ok (.aload_n 0, 1) := dG_law_50.2.2.2.2.1
theorem dL_law_980 : decode cL_law 980 = .ok (.iload 4, 2) := dG_law_50.2.2.2.2.2.1
theorem dL_law_982 : decode cL_law 982 = .ok (.iconst 2, 1) := dG_law_50.2.2.2.2.2.2.1
theorem dL_law_983 : decode cL_law 983 = .ok (.iadd, 1) := dG_law_50.2.2.2.2.2.2.2
set_option maxRecDepth 20000 in
theorem dG_law_51 : (decode cL_law 984 = .ok (.iaload, 1)) ∧ (decode cL_law 985 = .ok (.invokevirtual 216, 3)) ∧ (decode cL_law 988 = .ok (.istore 6, 2)) ∧ (decode cL_law 990 = .ok (.aload_n 2, 1)) ∧ (decode cL_law 991 = .ok (.invokevirtual 148, 3)) ∧ (decode cL_law 994 = .ok (.iload 5, 2)) ∧ (decode cL_law 996 = .ok (.if_icmp .eq 5, 3)) ∧ (decode cL_law 1001 = .ok (.iload 5, 2)) := by decide +kernel
theorem dL_law_984 : decode cL_law 984 = .ok (.iaload, 1) := dG_law_51.1
theorem dL_law_985 : decode cL_law 985 = .ok (.invokevirtual 216, 3) := dG_law_51.2.1
theorem dL_law_988 : decode cL_law 988 = .ok (.istore 6, 2) := dG_law_51.2.2.1
theorem dL_law_990 : decode cL_law 990 = .ok (.aload_n 2, 1) := dG_law_51.2.2.2.1
theorem dL_law_991 : decode cL_law 991 = .ok (.invokevirtual 148, 3) := dG_law_51.2.2.2.2.1
theorem dL_law_994 : decode cL_law 994 = .ok (.iload 5, 2) := dG_law_51.2.2.2.2.2.1
theorem dL_law_996 : decode cL_law 996 = .ok (.if_icmp .eq 5, 3) := dG_law_51.2.2.2.2.2.2.1
theorem dL_law_1001 : decode cL_law 1001 = .ok (.iload 5, 2) := dG_law_51.2.2.2.2.2.2.2
set_option maxRecDepth 20000 in
theorem dG_law_52 : (decode cL_law 1003 = .ok (.ifCond .ne 15, 3)) ∧ (decode cL_law 1006 = .ok (.aload_n 3, 1)) ∧ (decode cL_law 1007 = .ok (.iconst 0, 1)) ∧ (decode cL_law 1008 = .ok (.laload, 1)) ∧ (decode cL_law 1009 = .ok (.iload 6, 2)) ∧ (decode cL_law 1011 = .ok (.i2l, 1)) ∧ (decode cL_law 1012 = .ok (.lcmp, 1)) ∧ (decode cL_law 1013 = .ok (.ifCond .eq 5, 3)) := by decide +kernel
theorem dL_law_1003 : decode cL_law 1003 = .ok (.ifCond .ne 15, 3) := dG_law_52.1
theorem dL_law_1006 : decode cL_law 1006 = .ok (.aload_n 3, 1) := dG_law_52.2.1
theorem dL_law_1007 : decode cL_law 1007 = .ok (.iconst 0, 1) := dG_law_52.2.2.1
theorem dL_law_1008 : decode cL_law 1008 = .ok (.laload, 1) := dG_law_52.2.2.2.1
theorem dL_law_1009 : decode cL_law 1009 = .ok (.iload 6, 2) := dG_law_52.2.2.2.2.1
theorem dL_law_1011 : decode cL_law 1011 = .ok (.i2l, 1) := dG_law_52.2.2.2.2.2.1
theorem dL_law_1012 : decode cL_law 1012 = .ok (.lcmp, 1) := dG_law_52.2.2.2.2.2.2.1
theorem dL_law_1013 : decode cL_law 1013 = .ok (.ifCond .eq 5, 3) := dG_law_52.2.2.2.2.2.2.2
