/-! The law: its instructions, its call sites. -/
abbrev mW (nm : String) : tl_M := (⟨RL, nm, "([I)Z"⟩, code, 7, ret, room_1)
theorem dW_0 : decode code 0 = .ok (.new 8, 3) := by decide +kernel
theorem dW_3 : decode code 3 = .ok (.dup, 1) := by decide +kernel
theorem dW_4 : decode code 4 = .ok (.invokespecial 106, 3) := by decide +kernel
theorem dW_7 : decode code 7 = .ok (.astore_n 1, 1) := by decide +kernel
theorem dW_8 : decode code 8 = .ok (.new 107, 3) := by decide +kernel
theorem dW_11 : decode code 11 = .ok (.dup, 1) := by decide +kernel
theorem dW_12 : decode code 12 = .ok (.invokespecial 109, 3) := by decide +kernel
theorem dW_15 : decode code 15 = .ok (.astore_n 2, 1) := by decide +kernel
theorem dW_16 : decode code 16 = .ok (.iconst 1, 1) := by decide +kernel
theorem dW_17 : decode code 17 = .ok (.newarray .long, 2) := by decide +kernel
theorem dW_19 : decode code 19 = .ok (.astore_n 3, 1) := by decide +kernel
theorem dW_20 : decode code 20 = .ok (.iconst 0, 1) := by decide +kernel
theorem dW_21 : decode code 21 = .ok (.istore 4, 2) := by decide +kernel
theorem dW_23 : decode code 23 = .ok (.iload 4, 2) := by decide +kernel
theorem dW_25 : decode code 25 = .ok (.aload_n 0, 1) := by decide +kernel
theorem dW_26 : decode code 26 = .ok (.arraylength, 1) := by decide +kernel
theorem dW_27 : decode code 27 = .ok (.iconst 5, 1) := by decide +kernel
theorem dW_28 : decode code 28 = .ok (.isub, 1) := by decide +kernel
theorem dW_29 : decode code 29 = .ok (.if_icmp .gt 2064, 3) := by decide +kernel
theorem dW_32 : decode code 32 = .ok (.aload_n 0, 1) := by decide +kernel
theorem dW_33 : decode code 33 = .ok (.iload 4, 2) := by decide +kernel
theorem dW_35 : decode code 35 = .ok (.iaload, 1) := by decide +kernel
theorem dW_36 : decode code 36 = .ok (.bipush 31, 2) := by decide +kernel
theorem dW_38 : decode code 38 = .ok (.iand, 1) := by decide +kernel
theorem dW_39 : decode code 39 = .ok (.tableswitch 2048 0 30 #[137, 193, 206, 219, 263, 319, 387, 455, 523, 579, 647, 715, 771, 839, 907, 999, 1055, 1135, 1203, 1259, 1327, 1383, 1427, 1483, 1551, 1564, 1644, 1736, 1836, 1936, 1992], 137) := by decide +kernel
theorem dW_176 : decode code 176 = .ok (.aload_n 1, 1) := by decide +kernel
theorem dW_177 : decode code 177 = .ok (.aload_n 0, 1) := by decide +kernel
theorem dW_178 : decode code 178 = .ok (.iload 4, 2) := by decide +kernel
theorem dW_180 : decode code 180 = .ok (.iconst 1, 1) := by decide +kernel
theorem dW_181 : decode code 181 = .ok (.iadd, 1) := by decide +kernel
theorem dW_182 : decode code 182 = .ok (.iaload, 1) := by decide +kernel
theorem dW_183 : decode code 183 = .ok (.aload_n 3, 1) := by decide +kernel
theorem dW_184 : decode code 184 = .ok (.invokestatic 110, 3) := by decide +kernel
theorem dW_187 : decode code 187 = .ok (.istore 5, 2) := by decide +kernel
theorem dW_189 : decode code 189 = .ok (.aload_n 2, 1) := by decide +kernel
theorem dW_190 : decode code 190 = .ok (.aload_n 0, 1) := by decide +kernel
theorem dW_191 : decode code 191 = .ok (.iload 4, 2) := by decide +kernel
theorem dW_193 : decode code 193 = .ok (.iconst 1, 1) := by decide +kernel
theorem dW_194 : decode code 194 = .ok (.iadd, 1) := by decide +kernel
theorem dW_195 : decode code 195 = .ok (.iaload, 1) := by decide +kernel
theorem dW_196 : decode code 196 = .ok (.invokevirtual 115, 3) := by decide +kernel
theorem dW_199 : decode code 199 = .ok (.istore 6, 2) := by decide +kernel
theorem dW_201 : decode code 201 = .ok (.aload_n 2, 1) := by decide +kernel
theorem dW_202 : decode code 202 = .ok (.invokevirtual 116, 3) := by decide +kernel
theorem dW_205 : decode code 205 = .ok (.iload 5, 2) := by decide +kernel
theorem dW_207 : decode code 207 = .ok (.if_icmp .eq 5, 3) := by decide +kernel
theorem dW_210 : decode code 210 = .ok (.iconst 0, 1) := by decide +kernel
theorem dW_211 : decode code 211 = .ok (.ireturn, 1) := by decide +kernel
theorem dW_212 : decode code 212 = .ok (.iload 5, 2) := by decide +kernel
theorem dW_214 : decode code 214 = .ok (.ifCond .ne 15, 3) := by decide +kernel
theorem dW_217 : decode code 217 = .ok (.aload_n 3, 1) := by decide +kernel
theorem dW_218 : decode code 218 = .ok (.iconst 0, 1) := by decide +kernel
theorem dW_219 : decode code 219 = .ok (.laload, 1) := by decide +kernel
theorem dW_220 : decode code 220 = .ok (.iload 6, 2) := by decide +kernel
theorem dW_222 : decode code 222 = .ok (.i2l, 1) := by decide +kernel
theorem dW_223 : decode code 223 = .ok (.lcmp, 1) := by decide +kernel
theorem dW_224 : decode code 224 = .ok (.ifCond .eq 5, 3) := by decide +kernel
theorem dW_227 : decode code 227 = .ok (.iconst 0, 1) := by decide +kernel
theorem dW_228 : decode code 228 = .ok (.ireturn, 1) := by decide +kernel
theorem dW_229 : decode code 229 = .ok (.goto 1858, 3) := by decide +kernel
theorem dW_232 : decode code 232 = .ok (.aload_n 1, 1) := by decide +kernel
theorem dW_233 : decode code 233 = .ok (.invokevirtual 119, 3) := by decide +kernel
theorem dW_236 : decode code 236 = .ok (.aload_n 2, 1) := by decide +kernel
theorem dW_237 : decode code 237 = .ok (.invokevirtual 122, 3) := by decide +kernel
theorem dW_240 : decode code 240 = .ok (.if_icmp .eq 1847, 3) := by decide +kernel
theorem dW_243 : decode code 243 = .ok (.iconst 0, 1) := by decide +kernel
theorem dW_244 : decode code 244 = .ok (.ireturn, 1) := by decide +kernel
theorem dW_245 : decode code 245 = .ok (.aload_n 1, 1) := by decide +kernel
theorem dW_246 : decode code 246 = .ok (.invokevirtual 123, 3) := by decide +kernel
theorem dW_249 : decode code 249 = .ok (.aload_n 2, 1) := by decide +kernel
theorem dW_250 : decode code 250 = .ok (.invokevirtual 126, 3) := by decide +kernel
theorem dW_253 : decode code 253 = .ok (.if_icmp .eq 1834, 3) := by decide +kernel
theorem dW_256 : decode code 256 = .ok (.iconst 0, 1) := by decide +kernel
theorem dW_257 : decode code 257 = .ok (.ireturn, 1) := by decide +kernel
theorem dW_258 : decode code 258 = .ok (.aload_n 1, 1) := by decide +kernel
theorem dW_259 : decode code 259 = .ok (.aload_n 3, 1) := by decide +kernel
theorem dW_260 : decode code 260 = .ok (.invokestatic 127, 3) := by decide +kernel
theorem dW_263 : decode code 263 = .ok (.istore 5, 2) := by decide +kernel
theorem dW_265 : decode code 265 = .ok (.aload_n 2, 1) := by decide +kernel
theorem dW_266 : decode code 266 = .ok (.invokevirtual 130, 3) := by decide +kernel
theorem dW_269 : decode code 269 = .ok (.istore 6, 2) := by decide +kernel
theorem dW_271 : decode code 271 = .ok (.aload_n 2, 1) := by decide +kernel
theorem dW_272 : decode code 272 = .ok (.invokevirtual 116, 3) := by decide +kernel
theorem dW_275 : decode code 275 = .ok (.iload 5, 2) := by decide +kernel
theorem dW_277 : decode code 277 = .ok (.if_icmp .eq 5, 3) := by decide +kernel
theorem dW_280 : decode code 280 = .ok (.iconst 0, 1) := by decide +kernel
theorem dW_281 : decode code 281 = .ok (.ireturn, 1) := by decide +kernel
theorem dW_282 : decode code 282 = .ok (.iload 5, 2) := by decide +kernel
theorem dW_284 : decode code 284 = .ok (.ifCond .ne 15, 3) := by decide +kernel
theorem dW_287 : decode code 287 = .ok (.aload_n 3, 1) := by decide +kernel
theorem dW_288 : decode code 288 = .ok (.iconst 0, 1) := by decide +kernel
theorem dW_289 : decode code 289 = .ok (.laload, 1) := by decide +kernel
theorem dW_290 : decode code 290 = .ok (.iload 6, 2) := by decide +kernel
theorem dW_292 : decode code 292 = .ok (.i2l, 1) := by decide +kernel
theorem dW_293 : decode code 293 = .ok (.lcmp, 1) := by decide +kernel
theorem dW_294 : decode code 294 = .ok (.ifCond .eq 5, 3) := by decide +kernel
theorem dW_297 : decode code 297 = .ok (.iconst 0, 1) := by decide +kernel
theorem dW_298 : decode code 298 = .ok (.ireturn, 1) := by decide +kernel
theorem dW_299 : decode code 299 = .ok (.goto 1788, 3) := by decide +kernel
theorem dW_302 : decode code 302 = .ok (.aload_n 1, 1) := by decide +kernel
theorem dW_303 : decode code 303 = .ok (.aload_n 0, 1) := by decide +kernel
theorem dW_304 : decode code 304 = .ok (.iload 4, 2) := by decide +kernel
theorem dW_306 : decode code 306 = .ok (.iconst 1, 1) := by decide +kernel
theorem dW_307 : decode code 307 = .ok (.iadd, 1) := by decide +kernel
theorem dW_308 : decode code 308 = .ok (.iaload, 1) := by decide +kernel
theorem dW_309 : decode code 309 = .ok (.aload_n 3, 1) := by decide +kernel
theorem dW_310 : decode code 310 = .ok (.invokestatic 131, 3) := by decide +kernel
theorem dW_313 : decode code 313 = .ok (.istore 5, 2) := by decide +kernel
theorem dW_315 : decode code 315 = .ok (.aload_n 2, 1) := by decide +kernel
theorem dW_316 : decode code 316 = .ok (.aload_n 0, 1) := by decide +kernel
theorem dW_317 : decode code 317 = .ok (.iload 4, 2) := by decide +kernel
theorem dW_319 : decode code 319 = .ok (.iconst 1, 1) := by decide +kernel
theorem dW_320 : decode code 320 = .ok (.iadd, 1) := by decide +kernel
theorem dW_321 : decode code 321 = .ok (.iaload, 1) := by decide +kernel
theorem dW_322 : decode code 322 = .ok (.invokevirtual 133, 3) := by decide +kernel
theorem dW_325 : decode code 325 = .ok (.istore 6, 2) := by decide +kernel
theorem dW_327 : decode code 327 = .ok (.aload_n 2, 1) := by decide +kernel
theorem dW_328 : decode code 328 = .ok (.invokevirtual 116, 3) := by decide +kernel
theorem dW_331 : decode code 331 = .ok (.iload 5, 2) := by decide +kernel
theorem dW_333 : decode code 333 = .ok (.if_icmp .eq 5, 3) := by decide +kernel
theorem dW_336 : decode code 336 = .ok (.iconst 0, 1) := by decide +kernel
theorem dW_337 : decode code 337 = .ok (.ireturn, 1) := by decide +kernel
theorem dW_338 : decode code 338 = .ok (.iload 5, 2) := by decide +kernel
theorem dW_340 : decode code 340 = .ok (.ifCond .ne 15, 3) := by decide +kernel
theorem dW_343 : decode code 343 = .ok (.aload_n 3, 1) := by decide +kernel
theorem dW_344 : decode code 344 = .ok (.iconst 0, 1) := by decide +kernel
theorem dW_345 : decode code 345 = .ok (.laload, 1) := by decide +kernel
theorem dW_346 : decode code 346 = .ok (.iload 6, 2) := by decide +kernel
theorem dW_348 : decode code 348 = .ok (.i2l, 1) := by decide +kernel
theorem dW_349 : decode code 349 = .ok (.lcmp, 1) := by decide +kernel
theorem dW_350 : decode code 350 = .ok (.ifCond .eq 5, 3) := by decide +kernel
theorem dW_353 : decode code 353 = .ok (.iconst 0, 1) := by decide +kernel
theorem dW_354 : decode code 354 = .ok (.ireturn, 1) := by decide +kernel
theorem dW_355 : decode code 355 = .ok (.goto 1732, 3) := by decide +kernel
theorem dW_358 : decode code 358 = .ok (.aload_n 1, 1) := by decide +kernel
theorem dW_359 : decode code 359 = .ok (.aload_n 0, 1) := by decide +kernel
theorem dW_360 : decode code 360 = .ok (.iload 4, 2) := by decide +kernel
theorem dW_362 : decode code 362 = .ok (.iconst 1, 1) := by decide +kernel
theorem dW_363 : decode code 363 = .ok (.iadd, 1) := by decide +kernel
theorem dW_364 : decode code 364 = .ok (.iaload, 1) := by decide +kernel
theorem dW_365 : decode code 365 = .ok (.aload_n 0, 1) := by decide +kernel
theorem dW_366 : decode code 366 = .ok (.iload 4, 2) := by decide +kernel
theorem dW_368 : decode code 368 = .ok (.iconst 2, 1) := by decide +kernel
theorem dW_369 : decode code 369 = .ok (.iadd, 1) := by decide +kernel
theorem dW_370 : decode code 370 = .ok (.iaload, 1) := by decide +kernel
theorem dW_371 : decode code 371 = .ok (.aload_n 3, 1) := by decide +kernel
theorem dW_372 : decode code 372 = .ok (.invokestatic 134, 3) := by decide +kernel
theorem dW_375 : decode code 375 = .ok (.istore 5, 2) := by decide +kernel
theorem dW_377 : decode code 377 = .ok (.aload_n 2, 1) := by decide +kernel
theorem dW_378 : decode code 378 = .ok (.aload_n 0, 1) := by decide +kernel
theorem dW_379 : decode code 379 = .ok (.iload 4, 2) := by decide +kernel
theorem dW_381 : decode code 381 = .ok (.iconst 1, 1) := by decide +kernel
theorem dW_382 : decode code 382 = .ok (.iadd, 1) := by decide +kernel
theorem dW_383 : decode code 383 = .ok (.iaload, 1) := by decide +kernel
theorem dW_384 : decode code 384 = .ok (.aload_n 0, 1) := by decide +kernel
theorem dW_385 : decode code 385 = .ok (.iload 4, 2) := by decide +kernel
theorem dW_387 : decode code 387 = .ok (.iconst 2, 1) := by decide +kernel
theorem dW_388 : decode code 388 = .ok (.iadd, 1) := by decide +kernel
theorem dW_389 : decode code 389 = .ok (.iaload, 1) := by decide +kernel
theorem dW_390 : decode code 390 = .ok (.invokevirtual 137, 3) := by decide +kernel
theorem dW_393 : decode code 393 = .ok (.istore 6, 2) := by decide +kernel
theorem dW_395 : decode code 395 = .ok (.aload_n 2, 1) := by decide +kernel
theorem dW_396 : decode code 396 = .ok (.invokevirtual 116, 3) := by decide +kernel
theorem dW_399 : decode code 399 = .ok (.iload 5, 2) := by decide +kernel
theorem dW_401 : decode code 401 = .ok (.if_icmp .eq 5, 3) := by decide +kernel
theorem dW_404 : decode code 404 = .ok (.iconst 0, 1) := by decide +kernel
theorem dW_405 : decode code 405 = .ok (.ireturn, 1) := by decide +kernel
theorem dW_406 : decode code 406 = .ok (.iload 5, 2) := by decide +kernel
theorem dW_408 : decode code 408 = .ok (.ifCond .ne 15, 3) := by decide +kernel
theorem dW_411 : decode code 411 = .ok (.aload_n 3, 1) := by decide +kernel
theorem dW_412 : decode code 412 = .ok (.iconst 0, 1) := by decide +kernel
theorem dW_413 : decode code 413 = .ok (.laload, 1) := by decide +kernel
theorem dW_414 : decode code 414 = .ok (.iload 6, 2) := by decide +kernel
theorem dW_416 : decode code 416 = .ok (.i2l, 1) := by decide +kernel
theorem dW_417 : decode code 417 = .ok (.lcmp, 1) := by decide +kernel
theorem dW_418 : decode code 418 = .ok (.ifCond .eq 5, 3) := by decide +kernel
theorem dW_421 : decode code 421 = .ok (.iconst 0, 1) := by decide +kernel
theorem dW_422 : decode code 422 = .ok (.ireturn, 1) := by decide +kernel
theorem dW_423 : decode code 423 = .ok (.goto 1664, 3) := by decide +kernel
theorem dW_426 : decode code 426 = .ok (.aload_n 1, 1) := by decide +kernel
theorem dW_427 : decode code 427 = .ok (.aload_n 0, 1) := by decide +kernel
theorem dW_428 : decode code 428 = .ok (.iload 4, 2) := by decide +kernel
theorem dW_430 : decode code 430 = .ok (.iconst 1, 1) := by decide +kernel
theorem dW_431 : decode code 431 = .ok (.iadd, 1) := by decide +kernel
theorem dW_432 : decode code 432 = .ok (.iaload, 1) := by decide +kernel
theorem dW_433 : decode code 433 = .ok (.aload_n 0, 1) := by decide +kernel
theorem dW_434 : decode code 434 = .ok (.iload 4, 2) := by decide +kernel
theorem dW_436 : decode code 436 = .ok (.iconst 2, 1) := by decide +kernel
theorem dW_437 : decode code 437 = .ok (.iadd, 1) := by decide +kernel
theorem dW_438 : decode code 438 = .ok (.iaload, 1) := by decide +kernel
theorem dW_439 : decode code 439 = .ok (.aload_n 3, 1) := by decide +kernel
theorem dW_440 : decode code 440 = .ok (.invokestatic 138, 3) := by decide +kernel
theorem dW_443 : decode code 443 = .ok (.istore 5, 2) := by decide +kernel
theorem dW_445 : decode code 445 = .ok (.aload_n 2, 1) := by decide +kernel
theorem dW_446 : decode code 446 = .ok (.aload_n 0, 1) := by decide +kernel
theorem dW_447 : decode code 447 = .ok (.iload 4, 2) := by decide +kernel
theorem dW_449 : decode code 449 = .ok (.iconst 1, 1) := by decide +kernel
theorem dW_450 : decode code 450 = .ok (.iadd, 1) := by decide +kernel
theorem dW_451 : decode code 451 = .ok (.iaload, 1) := by decide +kernel
theorem dW_452 : decode code 452 = .ok (.aload_n 0, 1) := by decide +kernel
theorem dW_453 : decode code 453 = .ok (.iload 4, 2) := by decide +kernel
theorem dW_455 : decode code 455 = .ok (.iconst 2, 1) := by decide +kernel
theorem dW_456 : decode code 456 = .ok (.iadd, 1) := by decide +kernel
theorem dW_457 : decode code 457 = .ok (.iaload, 1) := by decide +kernel
theorem dW_458 : decode code 458 = .ok (.invokevirtual 140, 3) := by decide +kernel
theorem dW_461 : decode code 461 = .ok (.istore 6, 2) := by decide +kernel
theorem dW_463 : decode code 463 = .ok (.aload_n 2, 1) := by decide +kernel
theorem dW_464 : decode code 464 = .ok (.invokevirtual 116, 3) := by decide +kernel
theorem dW_467 : decode code 467 = .ok (.iload 5, 2) := by decide +kernel
theorem dW_469 : decode code 469 = .ok (.if_icmp .eq 5, 3) := by decide +kernel
theorem dW_472 : decode code 472 = .ok (.iconst 0, 1) := by decide +kernel
theorem dW_473 : decode code 473 = .ok (.ireturn, 1) := by decide +kernel
theorem dW_474 : decode code 474 = .ok (.iload 5, 2) := by decide +kernel
theorem dW_476 : decode code 476 = .ok (.ifCond .ne 15, 3) := by decide +kernel
theorem dW_479 : decode code 479 = .ok (.aload_n 3, 1) := by decide +kernel
theorem dW_480 : decode code 480 = .ok (.iconst 0, 1) := by decide +kernel
theorem dW_481 : decode code 481 = .ok (.laload, 1) := by decide +kernel
theorem dW_482 : decode code 482 = .ok (.iload 6, 2) := by decide +kernel
theorem dW_484 : decode code 484 = .ok (.i2l, 1) := by decide +kernel
theorem dW_485 : decode code 485 = .ok (.lcmp, 1) := by decide +kernel
theorem dW_486 : decode code 486 = .ok (.ifCond .eq 5, 3) := by decide +kernel
theorem dW_489 : decode code 489 = .ok (.iconst 0, 1) := by decide +kernel
theorem dW_490 : decode code 490 = .ok (.ireturn, 1) := by decide +kernel
theorem dW_491 : decode code 491 = .ok (.goto 1596, 3) := by decide +kernel
theorem dW_494 : decode code 494 = .ok (.aload_n 1, 1) := by decide +kernel
theorem dW_495 : decode code 495 = .ok (.aload_n 0, 1) := by decide +kernel
theorem dW_496 : decode code 496 = .ok (.iload 4, 2) := by decide +kernel
theorem dW_498 : decode code 498 = .ok (.iconst 1, 1) := by decide +kernel
theorem dW_499 : decode code 499 = .ok (.iadd, 1) := by decide +kernel
theorem dW_500 : decode code 500 = .ok (.iaload, 1) := by decide +kernel
theorem dW_501 : decode code 501 = .ok (.aload_n 0, 1) := by decide +kernel
theorem dW_502 : decode code 502 = .ok (.iload 4, 2) := by decide +kernel
theorem dW_504 : decode code 504 = .ok (.iconst 2, 1) := by decide +kernel
theorem dW_505 : decode code 505 = .ok (.iadd, 1) := by decide +kernel
theorem dW_506 : decode code 506 = .ok (.iaload, 1) := by decide +kernel
theorem dW_507 : decode code 507 = .ok (.aload_n 3, 1) := by decide +kernel
theorem dW_508 : decode code 508 = .ok (.invokestatic 141, 3) := by decide +kernel
theorem dW_511 : decode code 511 = .ok (.istore 5, 2) := by decide +kernel
theorem dW_513 : decode code 513 = .ok (.aload_n 2, 1) := by decide +kernel
theorem dW_514 : decode code 514 = .ok (.aload_n 0, 1) := by decide +kernel
theorem dW_515 : decode code 515 = .ok (.iload 4, 2) := by decide +kernel
theorem dW_517 : decode code 517 = .ok (.iconst 1, 1) := by decide +kernel
theorem dW_518 : decode code 518 = .ok (.iadd, 1) := by decide +kernel
theorem dW_519 : decode code 519 = .ok (.iaload, 1) := by decide +kernel
theorem dW_520 : decode code 520 = .ok (.aload_n 0, 1) := by decide +kernel
theorem dW_521 : decode code 521 = .ok (.iload 4, 2) := by decide +kernel
theorem dW_523 : decode code 523 = .ok (.iconst 2, 1) := by decide +kernel
theorem dW_524 : decode code 524 = .ok (.iadd, 1) := by decide +kernel
theorem dW_525 : decode code 525 = .ok (.iaload, 1) := by decide +kernel
theorem dW_526 : decode code 526 = .ok (.invokevirtual 143, 3) := by decide +kernel
theorem dW_529 : decode code 529 = .ok (.istore 6, 2) := by decide +kernel
theorem dW_531 : decode code 531 = .ok (.aload_n 2, 1) := by decide +kernel
theorem dW_532 : decode code 532 = .ok (.invokevirtual 116, 3) := by decide +kernel
theorem dW_535 : decode code 535 = .ok (.iload 5, 2) := by decide +kernel
theorem dW_537 : decode code 537 = .ok (.if_icmp .eq 5, 3) := by decide +kernel
theorem dW_540 : decode code 540 = .ok (.iconst 0, 1) := by decide +kernel
theorem dW_541 : decode code 541 = .ok (.ireturn, 1) := by decide +kernel
theorem dW_542 : decode code 542 = .ok (.iload 5, 2) := by decide +kernel
theorem dW_544 : decode code 544 = .ok (.ifCond .ne 15, 3) := by decide +kernel
theorem dW_547 : decode code 547 = .ok (.aload_n 3, 1) := by decide +kernel
theorem dW_548 : decode code 548 = .ok (.iconst 0, 1) := by decide +kernel
theorem dW_549 : decode code 549 = .ok (.laload, 1) := by decide +kernel
theorem dW_550 : decode code 550 = .ok (.iload 6, 2) := by decide +kernel
theorem dW_552 : decode code 552 = .ok (.i2l, 1) := by decide +kernel
theorem dW_553 : decode code 553 = .ok (.lcmp, 1) := by decide +kernel
theorem dW_554 : decode code 554 = .ok (.ifCond .eq 5, 3) := by decide +kernel
theorem dW_557 : decode code 557 = .ok (.iconst 0, 1) := by decide +kernel
theorem dW_558 : decode code 558 = .ok (.ireturn, 1) := by decide +kernel
theorem dW_559 : decode code 559 = .ok (.goto 1528, 3) := by decide +kernel
theorem dW_562 : decode code 562 = .ok (.aload_n 1, 1) := by decide +kernel
theorem dW_563 : decode code 563 = .ok (.aload_n 0, 1) := by decide +kernel
theorem dW_564 : decode code 564 = .ok (.iload 4, 2) := by decide +kernel
theorem dW_566 : decode code 566 = .ok (.iconst 1, 1) := by decide +kernel
theorem dW_567 : decode code 567 = .ok (.iadd, 1) := by decide +kernel
theorem dW_568 : decode code 568 = .ok (.iaload, 1) := by decide +kernel
theorem dW_569 : decode code 569 = .ok (.aload_n 3, 1) := by decide +kernel
theorem dW_570 : decode code 570 = .ok (.invokestatic 144, 3) := by decide +kernel
theorem dW_573 : decode code 573 = .ok (.istore 5, 2) := by decide +kernel
theorem dW_575 : decode code 575 = .ok (.aload_n 2, 1) := by decide +kernel
theorem dW_576 : decode code 576 = .ok (.aload_n 0, 1) := by decide +kernel
theorem dW_577 : decode code 577 = .ok (.iload 4, 2) := by decide +kernel
theorem dW_579 : decode code 579 = .ok (.iconst 1, 1) := by decide +kernel
theorem dW_580 : decode code 580 = .ok (.iadd, 1) := by decide +kernel
theorem dW_581 : decode code 581 = .ok (.iaload, 1) := by decide +kernel
theorem dW_582 : decode code 582 = .ok (.invokevirtual 146, 3) := by decide +kernel
theorem dW_585 : decode code 585 = .ok (.istore 6, 2) := by decide +kernel
theorem dW_587 : decode code 587 = .ok (.aload_n 2, 1) := by decide +kernel
theorem dW_588 : decode code 588 = .ok (.invokevirtual 116, 3) := by decide +kernel
theorem dW_591 : decode code 591 = .ok (.iload 5, 2) := by decide +kernel
theorem dW_593 : decode code 593 = .ok (.if_icmp .eq 5, 3) := by decide +kernel
theorem dW_596 : decode code 596 = .ok (.iconst 0, 1) := by decide +kernel
theorem dW_597 : decode code 597 = .ok (.ireturn, 1) := by decide +kernel
theorem dW_598 : decode code 598 = .ok (.iload 5, 2) := by decide +kernel
theorem dW_600 : decode code 600 = .ok (.ifCond .ne 15, 3) := by decide +kernel
theorem dW_603 : decode code 603 = .ok (.aload_n 3, 1) := by decide +kernel
theorem dW_604 : decode code 604 = .ok (.iconst 0, 1) := by decide +kernel
theorem dW_605 : decode code 605 = .ok (.laload, 1) := by decide +kernel
theorem dW_606 : decode code 606 = .ok (.iload 6, 2) := by decide +kernel
theorem dW_608 : decode code 608 = .ok (.i2l, 1) := by decide +kernel
theorem dW_609 : decode code 609 = .ok (.lcmp, 1) := by decide +kernel
theorem dW_610 : decode code 610 = .ok (.ifCond .eq 5, 3) := by decide +kernel
theorem dW_613 : decode code 613 = .ok (.iconst 0, 1) := by decide +kernel
theorem dW_614 : decode code 614 = .ok (.ireturn, 1) := by decide +kernel
theorem dW_615 : decode code 615 = .ok (.goto 1472, 3) := by decide +kernel
theorem dW_618 : decode code 618 = .ok (.aload_n 1, 1) := by decide +kernel
theorem dW_619 : decode code 619 = .ok (.aload_n 0, 1) := by decide +kernel
theorem dW_620 : decode code 620 = .ok (.iload 4, 2) := by decide +kernel
theorem dW_622 : decode code 622 = .ok (.iconst 1, 1) := by decide +kernel
theorem dW_623 : decode code 623 = .ok (.iadd, 1) := by decide +kernel
theorem dW_624 : decode code 624 = .ok (.iaload, 1) := by decide +kernel
theorem dW_625 : decode code 625 = .ok (.aload_n 0, 1) := by decide +kernel
theorem dW_626 : decode code 626 = .ok (.iload 4, 2) := by decide +kernel
theorem dW_628 : decode code 628 = .ok (.iconst 2, 1) := by decide +kernel
theorem dW_629 : decode code 629 = .ok (.iadd, 1) := by decide +kernel
theorem dW_630 : decode code 630 = .ok (.iaload, 1) := by decide +kernel
theorem dW_631 : decode code 631 = .ok (.aload_n 3, 1) := by decide +kernel
theorem dW_632 : decode code 632 = .ok (.invokestatic 147, 3) := by decide +kernel
theorem dW_635 : decode code 635 = .ok (.istore 5, 2) := by decide +kernel
theorem dW_637 : decode code 637 = .ok (.aload_n 2, 1) := by decide +kernel
theorem dW_638 : decode code 638 = .ok (.aload_n 0, 1) := by decide +kernel
theorem dW_639 : decode code 639 = .ok (.iload 4, 2) := by decide +kernel
theorem dW_641 : decode code 641 = .ok (.iconst 1, 1) := by decide +kernel
theorem dW_642 : decode code 642 = .ok (.iadd, 1) := by decide +kernel
theorem dW_643 : decode code 643 = .ok (.iaload, 1) := by decide +kernel
theorem dW_644 : decode code 644 = .ok (.aload_n 0, 1) := by decide +kernel
theorem dW_645 : decode code 645 = .ok (.iload 4, 2) := by decide +kernel
theorem dW_647 : decode code 647 = .ok (.iconst 2, 1) := by decide +kernel
theorem dW_648 : decode code 648 = .ok (.iadd, 1) := by decide +kernel
theorem dW_649 : decode code 649 = .ok (.iaload, 1) := by decide +kernel
theorem dW_650 : decode code 650 = .ok (.invokevirtual 149, 3) := by decide +kernel
theorem dW_653 : decode code 653 = .ok (.istore 6, 2) := by decide +kernel
theorem dW_655 : decode code 655 = .ok (.aload_n 2, 1) := by decide +kernel
theorem dW_656 : decode code 656 = .ok (.invokevirtual 116, 3) := by decide +kernel
theorem dW_659 : decode code 659 = .ok (.iload 5, 2) := by decide +kernel
theorem dW_661 : decode code 661 = .ok (.if_icmp .eq 5, 3) := by decide +kernel
theorem dW_664 : decode code 664 = .ok (.iconst 0, 1) := by decide +kernel
theorem dW_665 : decode code 665 = .ok (.ireturn, 1) := by decide +kernel
theorem dW_666 : decode code 666 = .ok (.iload 5, 2) := by decide +kernel
theorem dW_668 : decode code 668 = .ok (.ifCond .ne 15, 3) := by decide +kernel
theorem dW_671 : decode code 671 = .ok (.aload_n 3, 1) := by decide +kernel
theorem dW_672 : decode code 672 = .ok (.iconst 0, 1) := by decide +kernel
theorem dW_673 : decode code 673 = .ok (.laload, 1) := by decide +kernel
theorem dW_674 : decode code 674 = .ok (.iload 6, 2) := by decide +kernel
theorem dW_676 : decode code 676 = .ok (.i2l, 1) := by decide +kernel
theorem dW_677 : decode code 677 = .ok (.lcmp, 1) := by decide +kernel
theorem dW_678 : decode code 678 = .ok (.ifCond .eq 5, 3) := by decide +kernel
theorem dW_681 : decode code 681 = .ok (.iconst 0, 1) := by decide +kernel
theorem dW_682 : decode code 682 = .ok (.ireturn, 1) := by decide +kernel
theorem dW_683 : decode code 683 = .ok (.goto 1404, 3) := by decide +kernel
theorem dW_686 : decode code 686 = .ok (.aload_n 1, 1) := by decide +kernel
theorem dW_687 : decode code 687 = .ok (.aload_n 0, 1) := by decide +kernel
theorem dW_688 : decode code 688 = .ok (.iload 4, 2) := by decide +kernel
theorem dW_690 : decode code 690 = .ok (.iconst 1, 1) := by decide +kernel
theorem dW_691 : decode code 691 = .ok (.iadd, 1) := by decide +kernel
theorem dW_692 : decode code 692 = .ok (.iaload, 1) := by decide +kernel
theorem dW_693 : decode code 693 = .ok (.aload_n 0, 1) := by decide +kernel
theorem dW_694 : decode code 694 = .ok (.iload 4, 2) := by decide +kernel
theorem dW_696 : decode code 696 = .ok (.iconst 2, 1) := by decide +kernel
theorem dW_697 : decode code 697 = .ok (.iadd, 1) := by decide +kernel
theorem dW_698 : decode code 698 = .ok (.iaload, 1) := by decide +kernel
theorem dW_699 : decode code 699 = .ok (.aload_n 3, 1) := by decide +kernel
theorem dW_700 : decode code 700 = .ok (.invokestatic 150, 3) := by decide +kernel
theorem dW_703 : decode code 703 = .ok (.istore 5, 2) := by decide +kernel
theorem dW_705 : decode code 705 = .ok (.aload_n 2, 1) := by decide +kernel
theorem dW_706 : decode code 706 = .ok (.aload_n 0, 1) := by decide +kernel
theorem dW_707 : decode code 707 = .ok (.iload 4, 2) := by decide +kernel
theorem dW_709 : decode code 709 = .ok (.iconst 1, 1) := by decide +kernel
theorem dW_710 : decode code 710 = .ok (.iadd, 1) := by decide +kernel
theorem dW_711 : decode code 711 = .ok (.iaload, 1) := by decide +kernel
theorem dW_712 : decode code 712 = .ok (.aload_n 0, 1) := by decide +kernel
theorem dW_713 : decode code 713 = .ok (.iload 4, 2) := by decide +kernel
theorem dW_715 : decode code 715 = .ok (.iconst 2, 1) := by decide +kernel
theorem dW_716 : decode code 716 = .ok (.iadd, 1) := by decide +kernel
theorem dW_717 : decode code 717 = .ok (.iaload, 1) := by decide +kernel
theorem dW_718 : decode code 718 = .ok (.invokevirtual 152, 3) := by decide +kernel
theorem dW_721 : decode code 721 = .ok (.istore 6, 2) := by decide +kernel
theorem dW_723 : decode code 723 = .ok (.aload_n 2, 1) := by decide +kernel
theorem dW_724 : decode code 724 = .ok (.invokevirtual 116, 3) := by decide +kernel
theorem dW_727 : decode code 727 = .ok (.iload 5, 2) := by decide +kernel
theorem dW_729 : decode code 729 = .ok (.if_icmp .eq 5, 3) := by decide +kernel
theorem dW_732 : decode code 732 = .ok (.iconst 0, 1) := by decide +kernel
theorem dW_733 : decode code 733 = .ok (.ireturn, 1) := by decide +kernel
theorem dW_734 : decode code 734 = .ok (.iload 5, 2) := by decide +kernel
theorem dW_736 : decode code 736 = .ok (.ifCond .ne 15, 3) := by decide +kernel
theorem dW_739 : decode code 739 = .ok (.aload_n 3, 1) := by decide +kernel
theorem dW_740 : decode code 740 = .ok (.iconst 0, 1) := by decide +kernel
theorem dW_741 : decode code 741 = .ok (.laload, 1) := by decide +kernel
theorem dW_742 : decode code 742 = .ok (.iload 6, 2) := by decide +kernel
theorem dW_744 : decode code 744 = .ok (.i2l, 1) := by decide +kernel
theorem dW_745 : decode code 745 = .ok (.lcmp, 1) := by decide +kernel
theorem dW_746 : decode code 746 = .ok (.ifCond .eq 5, 3) := by decide +kernel
theorem dW_749 : decode code 749 = .ok (.iconst 0, 1) := by decide +kernel
theorem dW_750 : decode code 750 = .ok (.ireturn, 1) := by decide +kernel
theorem dW_751 : decode code 751 = .ok (.goto 1336, 3) := by decide +kernel
theorem dW_754 : decode code 754 = .ok (.aload_n 1, 1) := by decide +kernel
theorem dW_755 : decode code 755 = .ok (.aload_n 0, 1) := by decide +kernel
theorem dW_756 : decode code 756 = .ok (.iload 4, 2) := by decide +kernel
theorem dW_758 : decode code 758 = .ok (.iconst 1, 1) := by decide +kernel
theorem dW_759 : decode code 759 = .ok (.iadd, 1) := by decide +kernel
theorem dW_760 : decode code 760 = .ok (.iaload, 1) := by decide +kernel
theorem dW_761 : decode code 761 = .ok (.aload_n 3, 1) := by decide +kernel
theorem dW_762 : decode code 762 = .ok (.invokestatic 153, 3) := by decide +kernel
theorem dW_765 : decode code 765 = .ok (.istore 5, 2) := by decide +kernel
theorem dW_767 : decode code 767 = .ok (.aload_n 2, 1) := by decide +kernel
theorem dW_768 : decode code 768 = .ok (.aload_n 0, 1) := by decide +kernel
theorem dW_769 : decode code 769 = .ok (.iload 4, 2) := by decide +kernel
theorem dW_771 : decode code 771 = .ok (.iconst 1, 1) := by decide +kernel
theorem dW_772 : decode code 772 = .ok (.iadd, 1) := by decide +kernel
theorem dW_773 : decode code 773 = .ok (.iaload, 1) := by decide +kernel
theorem dW_774 : decode code 774 = .ok (.invokevirtual 155, 3) := by decide +kernel
theorem dW_777 : decode code 777 = .ok (.istore 6, 2) := by decide +kernel
theorem dW_779 : decode code 779 = .ok (.aload_n 2, 1) := by decide +kernel
theorem dW_780 : decode code 780 = .ok (.invokevirtual 116, 3) := by decide +kernel
theorem dW_783 : decode code 783 = .ok (.iload 5, 2) := by decide +kernel
theorem dW_785 : decode code 785 = .ok (.if_icmp .eq 5, 3) := by decide +kernel
theorem dW_788 : decode code 788 = .ok (.iconst 0, 1) := by decide +kernel
theorem dW_789 : decode code 789 = .ok (.ireturn, 1) := by decide +kernel
theorem dW_790 : decode code 790 = .ok (.iload 5, 2) := by decide +kernel
theorem dW_792 : decode code 792 = .ok (.ifCond .ne 15, 3) := by decide +kernel
theorem dW_795 : decode code 795 = .ok (.aload_n 3, 1) := by decide +kernel
theorem dW_796 : decode code 796 = .ok (.iconst 0, 1) := by decide +kernel
theorem dW_797 : decode code 797 = .ok (.laload, 1) := by decide +kernel
theorem dW_798 : decode code 798 = .ok (.iload 6, 2) := by decide +kernel
theorem dW_800 : decode code 800 = .ok (.i2l, 1) := by decide +kernel
theorem dW_801 : decode code 801 = .ok (.lcmp, 1) := by decide +kernel
theorem dW_802 : decode code 802 = .ok (.ifCond .eq 5, 3) := by decide +kernel
theorem dW_805 : decode code 805 = .ok (.iconst 0, 1) := by decide +kernel
theorem dW_806 : decode code 806 = .ok (.ireturn, 1) := by decide +kernel
theorem dW_807 : decode code 807 = .ok (.goto 1280, 3) := by decide +kernel
theorem dW_810 : decode code 810 = .ok (.aload_n 1, 1) := by decide +kernel
theorem dW_811 : decode code 811 = .ok (.aload_n 0, 1) := by decide +kernel
theorem dW_812 : decode code 812 = .ok (.iload 4, 2) := by decide +kernel
theorem dW_814 : decode code 814 = .ok (.iconst 1, 1) := by decide +kernel
theorem dW_815 : decode code 815 = .ok (.iadd, 1) := by decide +kernel
theorem dW_816 : decode code 816 = .ok (.iaload, 1) := by decide +kernel
theorem dW_817 : decode code 817 = .ok (.aload_n 0, 1) := by decide +kernel
theorem dW_818 : decode code 818 = .ok (.iload 4, 2) := by decide +kernel
theorem dW_820 : decode code 820 = .ok (.iconst 2, 1) := by decide +kernel
theorem dW_821 : decode code 821 = .ok (.iadd, 1) := by decide +kernel
theorem dW_822 : decode code 822 = .ok (.iaload, 1) := by decide +kernel
theorem dW_823 : decode code 823 = .ok (.aload_n 3, 1) := by decide +kernel
theorem dW_824 : decode code 824 = .ok (.invokestatic 156, 3) := by decide +kernel
theorem dW_827 : decode code 827 = .ok (.istore 5, 2) := by decide +kernel
theorem dW_829 : decode code 829 = .ok (.aload_n 2, 1) := by decide +kernel
theorem dW_830 : decode code 830 = .ok (.aload_n 0, 1) := by decide +kernel
theorem dW_831 : decode code 831 = .ok (.iload 4, 2) := by decide +kernel
theorem dW_833 : decode code 833 = .ok (.iconst 1, 1) := by decide +kernel
theorem dW_834 : decode code 834 = .ok (.iadd, 1) := by decide +kernel
theorem dW_835 : decode code 835 = .ok (.iaload, 1) := by decide +kernel
theorem dW_836 : decode code 836 = .ok (.aload_n 0, 1) := by decide +kernel
theorem dW_837 : decode code 837 = .ok (.iload 4, 2) := by decide +kernel
theorem dW_839 : decode code 839 = .ok (.iconst 2, 1) := by decide +kernel
theorem dW_840 : decode code 840 = .ok (.iadd, 1) := by decide +kernel
theorem dW_841 : decode code 841 = .ok (.iaload, 1) := by decide +kernel
theorem dW_842 : decode code 842 = .ok (.invokevirtual 158, 3) := by decide +kernel
theorem dW_845 : decode code 845 = .ok (.istore 6, 2) := by decide +kernel
theorem dW_847 : decode code 847 = .ok (.aload_n 2, 1) := by decide +kernel
theorem dW_848 : decode code 848 = .ok (.invokevirtual 116, 3) := by decide +kernel
theorem dW_851 : decode code 851 = .ok (.iload 5, 2) := by decide +kernel
theorem dW_853 : decode code 853 = .ok (.if_icmp .eq 5, 3) := by decide +kernel
theorem dW_856 : decode code 856 = .ok (.iconst 0, 1) := by decide +kernel
theorem dW_857 : decode code 857 = .ok (.ireturn, 1) := by decide +kernel
theorem dW_858 : decode code 858 = .ok (.iload 5, 2) := by decide +kernel
theorem dW_860 : decode code 860 = .ok (.ifCond .ne 15, 3) := by decide +kernel
theorem dW_863 : decode code 863 = .ok (.aload_n 3, 1) := by decide +kernel
theorem dW_864 : decode code 864 = .ok (.iconst 0, 1) := by decide +kernel
theorem dW_865 : decode code 865 = .ok (.laload, 1) := by decide +kernel
theorem dW_866 : decode code 866 = .ok (.iload 6, 2) := by decide +kernel
theorem dW_868 : decode code 868 = .ok (.i2l, 1) := by decide +kernel
theorem dW_869 : decode code 869 = .ok (.lcmp, 1) := by decide +kernel
theorem dW_870 : decode code 870 = .ok (.ifCond .eq 5, 3) := by decide +kernel
theorem dW_873 : decode code 873 = .ok (.iconst 0, 1) := by decide +kernel
theorem dW_874 : decode code 874 = .ok (.ireturn, 1) := by decide +kernel
theorem dW_875 : decode code 875 = .ok (.goto 1212, 3) := by decide +kernel
theorem dW_878 : decode code 878 = .ok (.aload_n 1, 1) := by decide +kernel
theorem dW_879 : decode code 879 = .ok (.aload_n 0, 1) := by decide +kernel
theorem dW_880 : decode code 880 = .ok (.iload 4, 2) := by decide +kernel
theorem dW_882 : decode code 882 = .ok (.iconst 1, 1) := by decide +kernel
theorem dW_883 : decode code 883 = .ok (.iadd, 1) := by decide +kernel
theorem dW_884 : decode code 884 = .ok (.iaload, 1) := by decide +kernel
theorem dW_885 : decode code 885 = .ok (.aload_n 0, 1) := by decide +kernel
theorem dW_886 : decode code 886 = .ok (.iload 4, 2) := by decide +kernel
theorem dW_888 : decode code 888 = .ok (.iconst 2, 1) := by decide +kernel
theorem dW_889 : decode code 889 = .ok (.iadd, 1) := by decide +kernel
theorem dW_890 : decode code 890 = .ok (.iaload, 1) := by decide +kernel
theorem dW_891 : decode code 891 = .ok (.aload_n 3, 1) := by decide +kernel
theorem dW_892 : decode code 892 = .ok (.invokestatic 159, 3) := by decide +kernel
theorem dW_895 : decode code 895 = .ok (.istore 5, 2) := by decide +kernel
theorem dW_897 : decode code 897 = .ok (.aload_n 2, 1) := by decide +kernel
theorem dW_898 : decode code 898 = .ok (.aload_n 0, 1) := by decide +kernel
theorem dW_899 : decode code 899 = .ok (.iload 4, 2) := by decide +kernel
theorem dW_901 : decode code 901 = .ok (.iconst 1, 1) := by decide +kernel
theorem dW_902 : decode code 902 = .ok (.iadd, 1) := by decide +kernel
theorem dW_903 : decode code 903 = .ok (.iaload, 1) := by decide +kernel
theorem dW_904 : decode code 904 = .ok (.aload_n 0, 1) := by decide +kernel
theorem dW_905 : decode code 905 = .ok (.iload 4, 2) := by decide +kernel
theorem dW_907 : decode code 907 = .ok (.iconst 2, 1) := by decide +kernel
theorem dW_908 : decode code 908 = .ok (.iadd, 1) := by decide +kernel
theorem dW_909 : decode code 909 = .ok (.iaload, 1) := by decide +kernel
theorem dW_910 : decode code 910 = .ok (.invokevirtual 161, 3) := by decide +kernel
theorem dW_913 : decode code 913 = .ok (.istore 6, 2) := by decide +kernel
theorem dW_915 : decode code 915 = .ok (.aload_n 2, 1) := by decide +kernel
theorem dW_916 : decode code 916 = .ok (.invokevirtual 116, 3) := by decide +kernel
theorem dW_919 : decode code 919 = .ok (.iload 5, 2) := by decide +kernel
theorem dW_921 : decode code 921 = .ok (.if_icmp .eq 5, 3) := by decide +kernel
theorem dW_924 : decode code 924 = .ok (.iconst 0, 1) := by decide +kernel
theorem dW_925 : decode code 925 = .ok (.ireturn, 1) := by decide +kernel
theorem dW_926 : decode code 926 = .ok (.iload 5, 2) := by decide +kernel
theorem dW_928 : decode code 928 = .ok (.ifCond .ne 15, 3) := by decide +kernel
theorem dW_931 : decode code 931 = .ok (.aload_n 3, 1) := by decide +kernel
theorem dW_932 : decode code 932 = .ok (.iconst 0, 1) := by decide +kernel
theorem dW_933 : decode code 933 = .ok (.laload, 1) := by decide +kernel
theorem dW_934 : decode code 934 = .ok (.iload 6, 2) := by decide +kernel
theorem dW_936 : decode code 936 = .ok (.i2l, 1) := by decide +kernel
theorem dW_937 : decode code 937 = .ok (.lcmp, 1) := by decide +kernel
theorem dW_938 : decode code 938 = .ok (.ifCond .eq 5, 3) := by decide +kernel
theorem dW_941 : decode code 941 = .ok (.iconst 0, 1) := by decide +kernel
theorem dW_942 : decode code 942 = .ok (.ireturn, 1) := by decide +kernel
theorem dW_943 : decode code 943 = .ok (.goto 1144, 3) := by decide +kernel
theorem dW_946 : decode code 946 = .ok (.aload_n 1, 1) := by decide +kernel
theorem dW_947 : decode code 947 = .ok (.aload_n 0, 1) := by decide +kernel
theorem dW_948 : decode code 948 = .ok (.iload 4, 2) := by decide +kernel
theorem dW_950 : decode code 950 = .ok (.iconst 1, 1) := by decide +kernel
theorem dW_951 : decode code 951 = .ok (.iadd, 1) := by decide +kernel
theorem dW_952 : decode code 952 = .ok (.iaload, 1) := by decide +kernel
theorem dW_953 : decode code 953 = .ok (.aload_n 0, 1) := by decide +kernel
theorem dW_954 : decode code 954 = .ok (.iload 4, 2) := by decide +kernel
theorem dW_956 : decode code 956 = .ok (.iconst 2, 1) := by decide +kernel
theorem dW_957 : decode code 957 = .ok (.iadd, 1) := by decide +kernel
theorem dW_958 : decode code 958 = .ok (.iaload, 1) := by decide +kernel
theorem dW_959 : decode code 959 = .ok (.aload_n 0, 1) := by decide +kernel
theorem dW_960 : decode code 960 = .ok (.iload 4, 2) := by decide +kernel
theorem dW_962 : decode code 962 = .ok (.iconst 3, 1) := by decide +kernel
theorem dW_963 : decode code 963 = .ok (.iadd, 1) := by decide +kernel
theorem dW_964 : decode code 964 = .ok (.iaload, 1) := by decide +kernel
theorem dW_965 : decode code 965 = .ok (.aload_n 0, 1) := by decide +kernel
theorem dW_966 : decode code 966 = .ok (.iload 4, 2) := by decide +kernel
theorem dW_968 : decode code 968 = .ok (.iconst 4, 1) := by decide +kernel
theorem dW_969 : decode code 969 = .ok (.iadd, 1) := by decide +kernel
theorem dW_970 : decode code 970 = .ok (.iaload, 1) := by decide +kernel
theorem dW_971 : decode code 971 = .ok (.aload_n 3, 1) := by decide +kernel
theorem dW_972 : decode code 972 = .ok (.invokestatic 162, 3) := by decide +kernel
theorem dW_975 : decode code 975 = .ok (.istore 5, 2) := by decide +kernel
theorem dW_977 : decode code 977 = .ok (.aload_n 2, 1) := by decide +kernel
theorem dW_978 : decode code 978 = .ok (.aload_n 0, 1) := by decide +kernel
theorem dW_979 : decode code 979 = .ok (.iload 4, 2) := by decide +kernel
theorem dW_981 : decode code 981 = .ok (.iconst 1, 1) := by decide +kernel
theorem dW_982 : decode code 982 = .ok (.iadd, 1) := by decide +kernel
theorem dW_983 : decode code 983 = .ok (.iaload, 1) := by decide +kernel
theorem dW_984 : decode code 984 = .ok (.aload_n 0, 1) := by decide +kernel
theorem dW_985 : decode code 985 = .ok (.iload 4, 2) := by decide +kernel
theorem dW_987 : decode code 987 = .ok (.iconst 2, 1) := by decide +kernel
theorem dW_988 : decode code 988 = .ok (.iadd, 1) := by decide +kernel
theorem dW_989 : decode code 989 = .ok (.iaload, 1) := by decide +kernel
theorem dW_990 : decode code 990 = .ok (.aload_n 0, 1) := by decide +kernel
theorem dW_991 : decode code 991 = .ok (.iload 4, 2) := by decide +kernel
theorem dW_993 : decode code 993 = .ok (.iconst 3, 1) := by decide +kernel
theorem dW_994 : decode code 994 = .ok (.iadd, 1) := by decide +kernel
theorem dW_995 : decode code 995 = .ok (.iaload, 1) := by decide +kernel
theorem dW_996 : decode code 996 = .ok (.aload_n 0, 1) := by decide +kernel
theorem dW_997 : decode code 997 = .ok (.iload 4, 2) := by decide +kernel
theorem dW_999 : decode code 999 = .ok (.iconst 4, 1) := by decide +kernel
theorem dW_1000 : decode code 1000 = .ok (.iadd, 1) := by decide +kernel
theorem dW_1001 : decode code 1001 = .ok (.iaload, 1) := by decide +kernel
theorem dW_1002 : decode code 1002 = .ok (.invokevirtual 165, 3) := by decide +kernel
theorem dW_1005 : decode code 1005 = .ok (.istore 6, 2) := by decide +kernel
theorem dW_1007 : decode code 1007 = .ok (.aload_n 2, 1) := by decide +kernel
theorem dW_1008 : decode code 1008 = .ok (.invokevirtual 116, 3) := by decide +kernel
theorem dW_1011 : decode code 1011 = .ok (.iload 5, 2) := by decide +kernel
theorem dW_1013 : decode code 1013 = .ok (.if_icmp .eq 5, 3) := by decide +kernel
theorem dW_1016 : decode code 1016 = .ok (.iconst 0, 1) := by decide +kernel
theorem dW_1017 : decode code 1017 = .ok (.ireturn, 1) := by decide +kernel
theorem dW_1018 : decode code 1018 = .ok (.iload 5, 2) := by decide +kernel
theorem dW_1020 : decode code 1020 = .ok (.ifCond .ne 15, 3) := by decide +kernel
theorem dW_1023 : decode code 1023 = .ok (.aload_n 3, 1) := by decide +kernel
theorem dW_1024 : decode code 1024 = .ok (.iconst 0, 1) := by decide +kernel
theorem dW_1025 : decode code 1025 = .ok (.laload, 1) := by decide +kernel
theorem dW_1026 : decode code 1026 = .ok (.iload 6, 2) := by decide +kernel
theorem dW_1028 : decode code 1028 = .ok (.i2l, 1) := by decide +kernel
theorem dW_1029 : decode code 1029 = .ok (.lcmp, 1) := by decide +kernel
theorem dW_1030 : decode code 1030 = .ok (.ifCond .eq 5, 3) := by decide +kernel
theorem dW_1033 : decode code 1033 = .ok (.iconst 0, 1) := by decide +kernel
theorem dW_1034 : decode code 1034 = .ok (.ireturn, 1) := by decide +kernel
theorem dW_1035 : decode code 1035 = .ok (.goto 1052, 3) := by decide +kernel
theorem dW_1038 : decode code 1038 = .ok (.aload_n 1, 1) := by decide +kernel
theorem dW_1039 : decode code 1039 = .ok (.aload_n 0, 1) := by decide +kernel
theorem dW_1040 : decode code 1040 = .ok (.iload 4, 2) := by decide +kernel
theorem dW_1042 : decode code 1042 = .ok (.iconst 1, 1) := by decide +kernel
theorem dW_1043 : decode code 1043 = .ok (.iadd, 1) := by decide +kernel
theorem dW_1044 : decode code 1044 = .ok (.iaload, 1) := by decide +kernel
theorem dW_1045 : decode code 1045 = .ok (.aload_n 3, 1) := by decide +kernel
theorem dW_1046 : decode code 1046 = .ok (.invokestatic 166, 3) := by decide +kernel
theorem dW_1049 : decode code 1049 = .ok (.istore 5, 2) := by decide +kernel
theorem dW_1051 : decode code 1051 = .ok (.aload_n 2, 1) := by decide +kernel
theorem dW_1052 : decode code 1052 = .ok (.aload_n 0, 1) := by decide +kernel
theorem dW_1053 : decode code 1053 = .ok (.iload 4, 2) := by decide +kernel
theorem dW_1055 : decode code 1055 = .ok (.iconst 1, 1) := by decide +kernel
theorem dW_1056 : decode code 1056 = .ok (.iadd, 1) := by decide +kernel
theorem dW_1057 : decode code 1057 = .ok (.iaload, 1) := by decide +kernel
theorem dW_1058 : decode code 1058 = .ok (.invokevirtual 168, 3) := by decide +kernel
theorem dW_1061 : decode code 1061 = .ok (.istore 6, 2) := by decide +kernel
theorem dW_1063 : decode code 1063 = .ok (.aload_n 2, 1) := by decide +kernel
theorem dW_1064 : decode code 1064 = .ok (.invokevirtual 116, 3) := by decide +kernel
theorem dW_1067 : decode code 1067 = .ok (.iload 5, 2) := by decide +kernel
theorem dW_1069 : decode code 1069 = .ok (.if_icmp .eq 5, 3) := by decide +kernel
theorem dW_1072 : decode code 1072 = .ok (.iconst 0, 1) := by decide +kernel
theorem dW_1073 : decode code 1073 = .ok (.ireturn, 1) := by decide +kernel
theorem dW_1074 : decode code 1074 = .ok (.iload 5, 2) := by decide +kernel
theorem dW_1076 : decode code 1076 = .ok (.ifCond .ne 15, 3) := by decide +kernel
theorem dW_1079 : decode code 1079 = .ok (.aload_n 3, 1) := by decide +kernel
theorem dW_1080 : decode code 1080 = .ok (.iconst 0, 1) := by decide +kernel
theorem dW_1081 : decode code 1081 = .ok (.laload, 1) := by decide +kernel
theorem dW_1082 : decode code 1082 = .ok (.iload 6, 2) := by decide +kernel
theorem dW_1084 : decode code 1084 = .ok (.i2l, 1) := by decide +kernel
theorem dW_1085 : decode code 1085 = .ok (.lcmp, 1) := by decide +kernel
theorem dW_1086 : decode code 1086 = .ok (.ifCond .eq 5, 3) := by decide +kernel
theorem dW_1089 : decode code 1089 = .ok (.iconst 0, 1) := by decide +kernel
theorem dW_1090 : decode code 1090 = .ok (.ireturn, 1) := by decide +kernel
theorem dW_1091 : decode code 1091 = .ok (.goto 996, 3) := by decide +kernel
theorem dW_1094 : decode code 1094 = .ok (.aload_n 1, 1) := by decide +kernel
theorem dW_1095 : decode code 1095 = .ok (.aload_n 0, 1) := by decide +kernel
theorem dW_1096 : decode code 1096 = .ok (.iload 4, 2) := by decide +kernel
theorem dW_1098 : decode code 1098 = .ok (.iconst 1, 1) := by decide +kernel
theorem dW_1099 : decode code 1099 = .ok (.iadd, 1) := by decide +kernel
theorem dW_1100 : decode code 1100 = .ok (.iaload, 1) := by decide +kernel
theorem dW_1101 : decode code 1101 = .ok (.aload_n 0, 1) := by decide +kernel
theorem dW_1102 : decode code 1102 = .ok (.iload 4, 2) := by decide +kernel
theorem dW_1104 : decode code 1104 = .ok (.iconst 2, 1) := by decide +kernel
theorem dW_1105 : decode code 1105 = .ok (.iadd, 1) := by decide +kernel
theorem dW_1106 : decode code 1106 = .ok (.iaload, 1) := by decide +kernel
theorem dW_1107 : decode code 1107 = .ok (.aload_n 0, 1) := by decide +kernel
theorem dW_1108 : decode code 1108 = .ok (.iload 4, 2) := by decide +kernel
theorem dW_1110 : decode code 1110 = .ok (.iconst 3, 1) := by decide +kernel
theorem dW_1111 : decode code 1111 = .ok (.iadd, 1) := by decide +kernel
theorem dW_1112 : decode code 1112 = .ok (.iaload, 1) := by decide +kernel
theorem dW_1113 : decode code 1113 = .ok (.aload_n 3, 1) := by decide +kernel
theorem dW_1114 : decode code 1114 = .ok (.invokestatic 169, 3) := by decide +kernel
theorem dW_1117 : decode code 1117 = .ok (.istore 5, 2) := by decide +kernel
theorem dW_1119 : decode code 1119 = .ok (.aload_n 2, 1) := by decide +kernel
theorem dW_1120 : decode code 1120 = .ok (.aload_n 0, 1) := by decide +kernel
theorem dW_1121 : decode code 1121 = .ok (.iload 4, 2) := by decide +kernel
theorem dW_1123 : decode code 1123 = .ok (.iconst 1, 1) := by decide +kernel
theorem dW_1124 : decode code 1124 = .ok (.iadd, 1) := by decide +kernel
theorem dW_1125 : decode code 1125 = .ok (.iaload, 1) := by decide +kernel
theorem dW_1126 : decode code 1126 = .ok (.aload_n 0, 1) := by decide +kernel
theorem dW_1127 : decode code 1127 = .ok (.iload 4, 2) := by decide +kernel
theorem dW_1129 : decode code 1129 = .ok (.iconst 2, 1) := by decide +kernel
theorem dW_1130 : decode code 1130 = .ok (.iadd, 1) := by decide +kernel
theorem dW_1131 : decode code 1131 = .ok (.iaload, 1) := by decide +kernel
theorem dW_1132 : decode code 1132 = .ok (.aload_n 0, 1) := by decide +kernel
theorem dW_1133 : decode code 1133 = .ok (.iload 4, 2) := by decide +kernel
theorem dW_1135 : decode code 1135 = .ok (.iconst 3, 1) := by decide +kernel
theorem dW_1136 : decode code 1136 = .ok (.iadd, 1) := by decide +kernel
theorem dW_1137 : decode code 1137 = .ok (.iaload, 1) := by decide +kernel
theorem dW_1138 : decode code 1138 = .ok (.invokevirtual 172, 3) := by decide +kernel
theorem dW_1141 : decode code 1141 = .ok (.istore 6, 2) := by decide +kernel
theorem dW_1143 : decode code 1143 = .ok (.aload_n 2, 1) := by decide +kernel
theorem dW_1144 : decode code 1144 = .ok (.invokevirtual 116, 3) := by decide +kernel
theorem dW_1147 : decode code 1147 = .ok (.iload 5, 2) := by decide +kernel
theorem dW_1149 : decode code 1149 = .ok (.if_icmp .eq 5, 3) := by decide +kernel
theorem dW_1152 : decode code 1152 = .ok (.iconst 0, 1) := by decide +kernel
theorem dW_1153 : decode code 1153 = .ok (.ireturn, 1) := by decide +kernel
theorem dW_1154 : decode code 1154 = .ok (.iload 5, 2) := by decide +kernel
theorem dW_1156 : decode code 1156 = .ok (.ifCond .ne 15, 3) := by decide +kernel
theorem dW_1159 : decode code 1159 = .ok (.aload_n 3, 1) := by decide +kernel
theorem dW_1160 : decode code 1160 = .ok (.iconst 0, 1) := by decide +kernel
theorem dW_1161 : decode code 1161 = .ok (.laload, 1) := by decide +kernel
theorem dW_1162 : decode code 1162 = .ok (.iload 6, 2) := by decide +kernel
theorem dW_1164 : decode code 1164 = .ok (.i2l, 1) := by decide +kernel
theorem dW_1165 : decode code 1165 = .ok (.lcmp, 1) := by decide +kernel
theorem dW_1166 : decode code 1166 = .ok (.ifCond .eq 5, 3) := by decide +kernel
theorem dW_1169 : decode code 1169 = .ok (.iconst 0, 1) := by decide +kernel
theorem dW_1170 : decode code 1170 = .ok (.ireturn, 1) := by decide +kernel
theorem dW_1171 : decode code 1171 = .ok (.goto 916, 3) := by decide +kernel
theorem dW_1174 : decode code 1174 = .ok (.aload_n 1, 1) := by decide +kernel
theorem dW_1175 : decode code 1175 = .ok (.aload_n 0, 1) := by decide +kernel
theorem dW_1176 : decode code 1176 = .ok (.iload 4, 2) := by decide +kernel
theorem dW_1178 : decode code 1178 = .ok (.iconst 1, 1) := by decide +kernel
theorem dW_1179 : decode code 1179 = .ok (.iadd, 1) := by decide +kernel
theorem dW_1180 : decode code 1180 = .ok (.iaload, 1) := by decide +kernel
theorem dW_1181 : decode code 1181 = .ok (.aload_n 0, 1) := by decide +kernel
theorem dW_1182 : decode code 1182 = .ok (.iload 4, 2) := by decide +kernel
theorem dW_1184 : decode code 1184 = .ok (.iconst 2, 1) := by decide +kernel
theorem dW_1185 : decode code 1185 = .ok (.iadd, 1) := by decide +kernel
theorem dW_1186 : decode code 1186 = .ok (.iaload, 1) := by decide +kernel
theorem dW_1187 : decode code 1187 = .ok (.aload_n 3, 1) := by decide +kernel
theorem dW_1188 : decode code 1188 = .ok (.invokestatic 173, 3) := by decide +kernel
theorem dW_1191 : decode code 1191 = .ok (.istore 5, 2) := by decide +kernel
theorem dW_1193 : decode code 1193 = .ok (.aload_n 2, 1) := by decide +kernel
theorem dW_1194 : decode code 1194 = .ok (.aload_n 0, 1) := by decide +kernel
theorem dW_1195 : decode code 1195 = .ok (.iload 4, 2) := by decide +kernel
theorem dW_1197 : decode code 1197 = .ok (.iconst 1, 1) := by decide +kernel
theorem dW_1198 : decode code 1198 = .ok (.iadd, 1) := by decide +kernel
theorem dW_1199 : decode code 1199 = .ok (.iaload, 1) := by decide +kernel
theorem dW_1200 : decode code 1200 = .ok (.aload_n 0, 1) := by decide +kernel
theorem dW_1201 : decode code 1201 = .ok (.iload 4, 2) := by decide +kernel
theorem dW_1203 : decode code 1203 = .ok (.iconst 2, 1) := by decide +kernel
theorem dW_1204 : decode code 1204 = .ok (.iadd, 1) := by decide +kernel
theorem dW_1205 : decode code 1205 = .ok (.iaload, 1) := by decide +kernel
theorem dW_1206 : decode code 1206 = .ok (.invokevirtual 175, 3) := by decide +kernel
theorem dW_1209 : decode code 1209 = .ok (.istore 6, 2) := by decide +kernel
theorem dW_1211 : decode code 1211 = .ok (.aload_n 2, 1) := by decide +kernel
theorem dW_1212 : decode code 1212 = .ok (.invokevirtual 116, 3) := by decide +kernel
theorem dW_1215 : decode code 1215 = .ok (.iload 5, 2) := by decide +kernel
theorem dW_1217 : decode code 1217 = .ok (.if_icmp .eq 5, 3) := by decide +kernel
theorem dW_1220 : decode code 1220 = .ok (.iconst 0, 1) := by decide +kernel
theorem dW_1221 : decode code 1221 = .ok (.ireturn, 1) := by decide +kernel
theorem dW_1222 : decode code 1222 = .ok (.iload 5, 2) := by decide +kernel
theorem dW_1224 : decode code 1224 = .ok (.ifCond .ne 15, 3) := by decide +kernel
theorem dW_1227 : decode code 1227 = .ok (.aload_n 3, 1) := by decide +kernel
theorem dW_1228 : decode code 1228 = .ok (.iconst 0, 1) := by decide +kernel
theorem dW_1229 : decode code 1229 = .ok (.laload, 1) := by decide +kernel
theorem dW_1230 : decode code 1230 = .ok (.iload 6, 2) := by decide +kernel
theorem dW_1232 : decode code 1232 = .ok (.i2l, 1) := by decide +kernel
theorem dW_1233 : decode code 1233 = .ok (.lcmp, 1) := by decide +kernel
theorem dW_1234 : decode code 1234 = .ok (.ifCond .eq 5, 3) := by decide +kernel
theorem dW_1237 : decode code 1237 = .ok (.iconst 0, 1) := by decide +kernel
theorem dW_1238 : decode code 1238 = .ok (.ireturn, 1) := by decide +kernel
theorem dW_1239 : decode code 1239 = .ok (.goto 848, 3) := by decide +kernel
theorem dW_1242 : decode code 1242 = .ok (.aload_n 1, 1) := by decide +kernel
theorem dW_1243 : decode code 1243 = .ok (.aload_n 0, 1) := by decide +kernel
theorem dW_1244 : decode code 1244 = .ok (.iload 4, 2) := by decide +kernel
theorem dW_1246 : decode code 1246 = .ok (.iconst 1, 1) := by decide +kernel
theorem dW_1247 : decode code 1247 = .ok (.iadd, 1) := by decide +kernel
theorem dW_1248 : decode code 1248 = .ok (.iaload, 1) := by decide +kernel
theorem dW_1249 : decode code 1249 = .ok (.aload_n 3, 1) := by decide +kernel
theorem dW_1250 : decode code 1250 = .ok (.invokestatic 176, 3) := by decide +kernel
theorem dW_1253 : decode code 1253 = .ok (.istore 5, 2) := by decide +kernel
theorem dW_1255 : decode code 1255 = .ok (.aload_n 2, 1) := by decide +kernel
theorem dW_1256 : decode code 1256 = .ok (.aload_n 0, 1) := by decide +kernel
theorem dW_1257 : decode code 1257 = .ok (.iload 4, 2) := by decide +kernel
theorem dW_1259 : decode code 1259 = .ok (.iconst 1, 1) := by decide +kernel
theorem dW_1260 : decode code 1260 = .ok (.iadd, 1) := by decide +kernel
theorem dW_1261 : decode code 1261 = .ok (.iaload, 1) := by decide +kernel
theorem dW_1262 : decode code 1262 = .ok (.invokevirtual 178, 3) := by decide +kernel
theorem dW_1265 : decode code 1265 = .ok (.istore 6, 2) := by decide +kernel
theorem dW_1267 : decode code 1267 = .ok (.aload_n 2, 1) := by decide +kernel
theorem dW_1268 : decode code 1268 = .ok (.invokevirtual 116, 3) := by decide +kernel
theorem dW_1271 : decode code 1271 = .ok (.iload 5, 2) := by decide +kernel
theorem dW_1273 : decode code 1273 = .ok (.if_icmp .eq 5, 3) := by decide +kernel
theorem dW_1276 : decode code 1276 = .ok (.iconst 0, 1) := by decide +kernel
theorem dW_1277 : decode code 1277 = .ok (.ireturn, 1) := by decide +kernel
theorem dW_1278 : decode code 1278 = .ok (.iload 5, 2) := by decide +kernel
theorem dW_1280 : decode code 1280 = .ok (.ifCond .ne 15, 3) := by decide +kernel
theorem dW_1283 : decode code 1283 = .ok (.aload_n 3, 1) := by decide +kernel
theorem dW_1284 : decode code 1284 = .ok (.iconst 0, 1) := by decide +kernel
theorem dW_1285 : decode code 1285 = .ok (.laload, 1) := by decide +kernel
theorem dW_1286 : decode code 1286 = .ok (.iload 6, 2) := by decide +kernel
theorem dW_1288 : decode code 1288 = .ok (.i2l, 1) := by decide +kernel
theorem dW_1289 : decode code 1289 = .ok (.lcmp, 1) := by decide +kernel
theorem dW_1290 : decode code 1290 = .ok (.ifCond .eq 5, 3) := by decide +kernel
theorem dW_1293 : decode code 1293 = .ok (.iconst 0, 1) := by decide +kernel
theorem dW_1294 : decode code 1294 = .ok (.ireturn, 1) := by decide +kernel
theorem dW_1295 : decode code 1295 = .ok (.goto 792, 3) := by decide +kernel
theorem dW_1298 : decode code 1298 = .ok (.aload_n 1, 1) := by decide +kernel
theorem dW_1299 : decode code 1299 = .ok (.aload_n 0, 1) := by decide +kernel
theorem dW_1300 : decode code 1300 = .ok (.iload 4, 2) := by decide +kernel
theorem dW_1302 : decode code 1302 = .ok (.iconst 1, 1) := by decide +kernel
theorem dW_1303 : decode code 1303 = .ok (.iadd, 1) := by decide +kernel
theorem dW_1304 : decode code 1304 = .ok (.iaload, 1) := by decide +kernel
theorem dW_1305 : decode code 1305 = .ok (.aload_n 0, 1) := by decide +kernel
theorem dW_1306 : decode code 1306 = .ok (.iload 4, 2) := by decide +kernel
theorem dW_1308 : decode code 1308 = .ok (.iconst 2, 1) := by decide +kernel
theorem dW_1309 : decode code 1309 = .ok (.iadd, 1) := by decide +kernel
theorem dW_1310 : decode code 1310 = .ok (.iaload, 1) := by decide +kernel
theorem dW_1311 : decode code 1311 = .ok (.aload_n 3, 1) := by decide +kernel
theorem dW_1312 : decode code 1312 = .ok (.invokestatic 179, 3) := by decide +kernel
theorem dW_1315 : decode code 1315 = .ok (.istore 5, 2) := by decide +kernel
theorem dW_1317 : decode code 1317 = .ok (.aload_n 2, 1) := by decide +kernel
theorem dW_1318 : decode code 1318 = .ok (.aload_n 0, 1) := by decide +kernel
theorem dW_1319 : decode code 1319 = .ok (.iload 4, 2) := by decide +kernel
theorem dW_1321 : decode code 1321 = .ok (.iconst 1, 1) := by decide +kernel
theorem dW_1322 : decode code 1322 = .ok (.iadd, 1) := by decide +kernel
theorem dW_1323 : decode code 1323 = .ok (.iaload, 1) := by decide +kernel
theorem dW_1324 : decode code 1324 = .ok (.aload_n 0, 1) := by decide +kernel
theorem dW_1325 : decode code 1325 = .ok (.iload 4, 2) := by decide +kernel
theorem dW_1327 : decode code 1327 = .ok (.iconst 2, 1) := by decide +kernel
theorem dW_1328 : decode code 1328 = .ok (.iadd, 1) := by decide +kernel
theorem dW_1329 : decode code 1329 = .ok (.iaload, 1) := by decide +kernel
theorem dW_1330 : decode code 1330 = .ok (.invokevirtual 181, 3) := by decide +kernel
theorem dW_1333 : decode code 1333 = .ok (.istore 6, 2) := by decide +kernel
theorem dW_1335 : decode code 1335 = .ok (.aload_n 2, 1) := by decide +kernel
theorem dW_1336 : decode code 1336 = .ok (.invokevirtual 116, 3) := by decide +kernel
theorem dW_1339 : decode code 1339 = .ok (.iload 5, 2) := by decide +kernel
theorem dW_1341 : decode code 1341 = .ok (.if_icmp .eq 5, 3) := by decide +kernel
theorem dW_1344 : decode code 1344 = .ok (.iconst 0, 1) := by decide +kernel
theorem dW_1345 : decode code 1345 = .ok (.ireturn, 1) := by decide +kernel
theorem dW_1346 : decode code 1346 = .ok (.iload 5, 2) := by decide +kernel
theorem dW_1348 : decode code 1348 = .ok (.ifCond .ne 15, 3) := by decide +kernel
theorem dW_1351 : decode code 1351 = .ok (.aload_n 3, 1) := by decide +kernel
theorem dW_1352 : decode code 1352 = .ok (.iconst 0, 1) := by decide +kernel
theorem dW_1353 : decode code 1353 = .ok (.laload, 1) := by decide +kernel
theorem dW_1354 : decode code 1354 = .ok (.iload 6, 2) := by decide +kernel
theorem dW_1356 : decode code 1356 = .ok (.i2l, 1) := by decide +kernel
theorem dW_1357 : decode code 1357 = .ok (.lcmp, 1) := by decide +kernel
theorem dW_1358 : decode code 1358 = .ok (.ifCond .eq 5, 3) := by decide +kernel
theorem dW_1361 : decode code 1361 = .ok (.iconst 0, 1) := by decide +kernel
theorem dW_1362 : decode code 1362 = .ok (.ireturn, 1) := by decide +kernel
theorem dW_1363 : decode code 1363 = .ok (.goto 724, 3) := by decide +kernel
theorem dW_1366 : decode code 1366 = .ok (.aload_n 1, 1) := by decide +kernel
theorem dW_1367 : decode code 1367 = .ok (.aload_n 0, 1) := by decide +kernel
theorem dW_1368 : decode code 1368 = .ok (.iload 4, 2) := by decide +kernel
theorem dW_1370 : decode code 1370 = .ok (.iconst 1, 1) := by decide +kernel
theorem dW_1371 : decode code 1371 = .ok (.iadd, 1) := by decide +kernel
theorem dW_1372 : decode code 1372 = .ok (.iaload, 1) := by decide +kernel
theorem dW_1373 : decode code 1373 = .ok (.aload_n 3, 1) := by decide +kernel
theorem dW_1374 : decode code 1374 = .ok (.invokestatic 182, 3) := by decide +kernel
theorem dW_1377 : decode code 1377 = .ok (.istore 5, 2) := by decide +kernel
theorem dW_1379 : decode code 1379 = .ok (.aload_n 2, 1) := by decide +kernel
theorem dW_1380 : decode code 1380 = .ok (.aload_n 0, 1) := by decide +kernel
theorem dW_1381 : decode code 1381 = .ok (.iload 4, 2) := by decide +kernel
theorem dW_1383 : decode code 1383 = .ok (.iconst 1, 1) := by decide +kernel
theorem dW_1384 : decode code 1384 = .ok (.iadd, 1) := by decide +kernel
theorem dW_1385 : decode code 1385 = .ok (.iaload, 1) := by decide +kernel
theorem dW_1386 : decode code 1386 = .ok (.invokevirtual 184, 3) := by decide +kernel
theorem dW_1389 : decode code 1389 = .ok (.istore 6, 2) := by decide +kernel
theorem dW_1391 : decode code 1391 = .ok (.aload_n 2, 1) := by decide +kernel
theorem dW_1392 : decode code 1392 = .ok (.invokevirtual 116, 3) := by decide +kernel
theorem dW_1395 : decode code 1395 = .ok (.iload 5, 2) := by decide +kernel
theorem dW_1397 : decode code 1397 = .ok (.if_icmp .eq 5, 3) := by decide +kernel
theorem dW_1400 : decode code 1400 = .ok (.iconst 0, 1) := by decide +kernel
theorem dW_1401 : decode code 1401 = .ok (.ireturn, 1) := by decide +kernel
theorem dW_1402 : decode code 1402 = .ok (.iload 5, 2) := by decide +kernel
theorem dW_1404 : decode code 1404 = .ok (.ifCond .ne 15, 3) := by decide +kernel
theorem dW_1407 : decode code 1407 = .ok (.aload_n 3, 1) := by decide +kernel
theorem dW_1408 : decode code 1408 = .ok (.iconst 0, 1) := by decide +kernel
theorem dW_1409 : decode code 1409 = .ok (.laload, 1) := by decide +kernel
theorem dW_1410 : decode code 1410 = .ok (.iload 6, 2) := by decide +kernel
theorem dW_1412 : decode code 1412 = .ok (.i2l, 1) := by decide +kernel
theorem dW_1413 : decode code 1413 = .ok (.lcmp, 1) := by decide +kernel
theorem dW_1414 : decode code 1414 = .ok (.ifCond .eq 5, 3) := by decide +kernel
theorem dW_1417 : decode code 1417 = .ok (.iconst 0, 1) := by decide +kernel
theorem dW_1418 : decode code 1418 = .ok (.ireturn, 1) := by decide +kernel
theorem dW_1419 : decode code 1419 = .ok (.goto 668, 3) := by decide +kernel
theorem dW_1422 : decode code 1422 = .ok (.aload_n 1, 1) := by decide +kernel
theorem dW_1423 : decode code 1423 = .ok (.aload_n 3, 1) := by decide +kernel
theorem dW_1424 : decode code 1424 = .ok (.invokestatic 185, 3) := by decide +kernel
theorem dW_1427 : decode code 1427 = .ok (.istore 5, 2) := by decide +kernel
theorem dW_1429 : decode code 1429 = .ok (.aload_n 2, 1) := by decide +kernel
theorem dW_1430 : decode code 1430 = .ok (.invokevirtual 187, 3) := by decide +kernel
theorem dW_1433 : decode code 1433 = .ok (.istore 6, 2) := by decide +kernel
theorem dW_1435 : decode code 1435 = .ok (.aload_n 2, 1) := by decide +kernel
theorem dW_1436 : decode code 1436 = .ok (.invokevirtual 116, 3) := by decide +kernel
theorem dW_1439 : decode code 1439 = .ok (.iload 5, 2) := by decide +kernel
theorem dW_1441 : decode code 1441 = .ok (.if_icmp .eq 5, 3) := by decide +kernel
theorem dW_1444 : decode code 1444 = .ok (.iconst 0, 1) := by decide +kernel
theorem dW_1445 : decode code 1445 = .ok (.ireturn, 1) := by decide +kernel
theorem dW_1446 : decode code 1446 = .ok (.iload 5, 2) := by decide +kernel
theorem dW_1448 : decode code 1448 = .ok (.ifCond .ne 15, 3) := by decide +kernel
theorem dW_1451 : decode code 1451 = .ok (.aload_n 3, 1) := by decide +kernel
theorem dW_1452 : decode code 1452 = .ok (.iconst 0, 1) := by decide +kernel
theorem dW_1453 : decode code 1453 = .ok (.laload, 1) := by decide +kernel
theorem dW_1454 : decode code 1454 = .ok (.iload 6, 2) := by decide +kernel
theorem dW_1456 : decode code 1456 = .ok (.i2l, 1) := by decide +kernel
theorem dW_1457 : decode code 1457 = .ok (.lcmp, 1) := by decide +kernel
theorem dW_1458 : decode code 1458 = .ok (.ifCond .eq 5, 3) := by decide +kernel
theorem dW_1461 : decode code 1461 = .ok (.iconst 0, 1) := by decide +kernel
theorem dW_1462 : decode code 1462 = .ok (.ireturn, 1) := by decide +kernel
theorem dW_1463 : decode code 1463 = .ok (.goto 624, 3) := by decide +kernel
theorem dW_1466 : decode code 1466 = .ok (.aload_n 1, 1) := by decide +kernel
theorem dW_1467 : decode code 1467 = .ok (.aload_n 0, 1) := by decide +kernel
theorem dW_1468 : decode code 1468 = .ok (.iload 4, 2) := by decide +kernel
theorem dW_1470 : decode code 1470 = .ok (.iconst 1, 1) := by decide +kernel
theorem dW_1471 : decode code 1471 = .ok (.iadd, 1) := by decide +kernel
theorem dW_1472 : decode code 1472 = .ok (.iaload, 1) := by decide +kernel
theorem dW_1473 : decode code 1473 = .ok (.aload_n 3, 1) := by decide +kernel
theorem dW_1474 : decode code 1474 = .ok (.invokestatic 188, 3) := by decide +kernel
theorem dW_1477 : decode code 1477 = .ok (.istore 5, 2) := by decide +kernel
theorem dW_1479 : decode code 1479 = .ok (.aload_n 2, 1) := by decide +kernel
theorem dW_1480 : decode code 1480 = .ok (.aload_n 0, 1) := by decide +kernel
theorem dW_1481 : decode code 1481 = .ok (.iload 4, 2) := by decide +kernel
theorem dW_1483 : decode code 1483 = .ok (.iconst 1, 1) := by decide +kernel
theorem dW_1484 : decode code 1484 = .ok (.iadd, 1) := by decide +kernel
theorem dW_1485 : decode code 1485 = .ok (.iaload, 1) := by decide +kernel
theorem dW_1486 : decode code 1486 = .ok (.invokevirtual 190, 3) := by decide +kernel
theorem dW_1489 : decode code 1489 = .ok (.istore 6, 2) := by decide +kernel
theorem dW_1491 : decode code 1491 = .ok (.aload_n 2, 1) := by decide +kernel
theorem dW_1492 : decode code 1492 = .ok (.invokevirtual 116, 3) := by decide +kernel
theorem dW_1495 : decode code 1495 = .ok (.iload 5, 2) := by decide +kernel
theorem dW_1497 : decode code 1497 = .ok (.if_icmp .eq 5, 3) := by decide +kernel
theorem dW_1500 : decode code 1500 = .ok (.iconst 0, 1) := by decide +kernel
theorem dW_1501 : decode code 1501 = .ok (.ireturn, 1) := by decide +kernel
theorem dW_1502 : decode code 1502 = .ok (.iload 5, 2) := by decide +kernel
theorem dW_1504 : decode code 1504 = .ok (.ifCond .ne 15, 3) := by decide +kernel
theorem dW_1507 : decode code 1507 = .ok (.aload_n 3, 1) := by decide +kernel
theorem dW_1508 : decode code 1508 = .ok (.iconst 0, 1) := by decide +kernel
theorem dW_1509 : decode code 1509 = .ok (.laload, 1) := by decide +kernel
theorem dW_1510 : decode code 1510 = .ok (.iload 6, 2) := by decide +kernel
theorem dW_1512 : decode code 1512 = .ok (.i2l, 1) := by decide +kernel
theorem dW_1513 : decode code 1513 = .ok (.lcmp, 1) := by decide +kernel
theorem dW_1514 : decode code 1514 = .ok (.ifCond .eq 5, 3) := by decide +kernel
theorem dW_1517 : decode code 1517 = .ok (.iconst 0, 1) := by decide +kernel
theorem dW_1518 : decode code 1518 = .ok (.ireturn, 1) := by decide +kernel
theorem dW_1519 : decode code 1519 = .ok (.goto 568, 3) := by decide +kernel
theorem dW_1522 : decode code 1522 = .ok (.aload_n 1, 1) := by decide +kernel
theorem dW_1523 : decode code 1523 = .ok (.aload_n 0, 1) := by decide +kernel
theorem dW_1524 : decode code 1524 = .ok (.iload 4, 2) := by decide +kernel
theorem dW_1526 : decode code 1526 = .ok (.iconst 1, 1) := by decide +kernel
theorem dW_1527 : decode code 1527 = .ok (.iadd, 1) := by decide +kernel
theorem dW_1528 : decode code 1528 = .ok (.iaload, 1) := by decide +kernel
theorem dW_1529 : decode code 1529 = .ok (.aload_n 0, 1) := by decide +kernel
theorem dW_1530 : decode code 1530 = .ok (.iload 4, 2) := by decide +kernel
theorem dW_1532 : decode code 1532 = .ok (.iconst 2, 1) := by decide +kernel
theorem dW_1533 : decode code 1533 = .ok (.iadd, 1) := by decide +kernel
theorem dW_1534 : decode code 1534 = .ok (.iaload, 1) := by decide +kernel
theorem dW_1535 : decode code 1535 = .ok (.aload_n 3, 1) := by decide +kernel
theorem dW_1536 : decode code 1536 = .ok (.invokestatic 191, 3) := by decide +kernel
theorem dW_1539 : decode code 1539 = .ok (.istore 5, 2) := by decide +kernel
theorem dW_1541 : decode code 1541 = .ok (.aload_n 2, 1) := by decide +kernel
theorem dW_1542 : decode code 1542 = .ok (.aload_n 0, 1) := by decide +kernel
theorem dW_1543 : decode code 1543 = .ok (.iload 4, 2) := by decide +kernel
theorem dW_1545 : decode code 1545 = .ok (.iconst 1, 1) := by decide +kernel
theorem dW_1546 : decode code 1546 = .ok (.iadd, 1) := by decide +kernel
theorem dW_1547 : decode code 1547 = .ok (.iaload, 1) := by decide +kernel
theorem dW_1548 : decode code 1548 = .ok (.aload_n 0, 1) := by decide +kernel
theorem dW_1549 : decode code 1549 = .ok (.iload 4, 2) := by decide +kernel
theorem dW_1551 : decode code 1551 = .ok (.iconst 2, 1) := by decide +kernel
theorem dW_1552 : decode code 1552 = .ok (.iadd, 1) := by decide +kernel
theorem dW_1553 : decode code 1553 = .ok (.iaload, 1) := by decide +kernel
theorem dW_1554 : decode code 1554 = .ok (.invokevirtual 193, 3) := by decide +kernel
theorem dW_1557 : decode code 1557 = .ok (.istore 6, 2) := by decide +kernel
theorem dW_1559 : decode code 1559 = .ok (.aload_n 2, 1) := by decide +kernel
theorem dW_1560 : decode code 1560 = .ok (.invokevirtual 116, 3) := by decide +kernel
theorem dW_1563 : decode code 1563 = .ok (.iload 5, 2) := by decide +kernel
theorem dW_1565 : decode code 1565 = .ok (.if_icmp .eq 5, 3) := by decide +kernel
theorem dW_1568 : decode code 1568 = .ok (.iconst 0, 1) := by decide +kernel
theorem dW_1569 : decode code 1569 = .ok (.ireturn, 1) := by decide +kernel
theorem dW_1570 : decode code 1570 = .ok (.iload 5, 2) := by decide +kernel
theorem dW_1572 : decode code 1572 = .ok (.ifCond .ne 15, 3) := by decide +kernel
theorem dW_1575 : decode code 1575 = .ok (.aload_n 3, 1) := by decide +kernel
theorem dW_1576 : decode code 1576 = .ok (.iconst 0, 1) := by decide +kernel
theorem dW_1577 : decode code 1577 = .ok (.laload, 1) := by decide +kernel
theorem dW_1578 : decode code 1578 = .ok (.iload 6, 2) := by decide +kernel
theorem dW_1580 : decode code 1580 = .ok (.i2l, 1) := by decide +kernel
theorem dW_1581 : decode code 1581 = .ok (.lcmp, 1) := by decide +kernel
theorem dW_1582 : decode code 1582 = .ok (.ifCond .eq 5, 3) := by decide +kernel
theorem dW_1585 : decode code 1585 = .ok (.iconst 0, 1) := by decide +kernel
theorem dW_1586 : decode code 1586 = .ok (.ireturn, 1) := by decide +kernel
theorem dW_1587 : decode code 1587 = .ok (.goto 500, 3) := by decide +kernel
theorem dW_1590 : decode code 1590 = .ok (.aload_n 1, 1) := by decide +kernel
theorem dW_1591 : decode code 1591 = .ok (.invokevirtual 194, 3) := by decide +kernel
theorem dW_1594 : decode code 1594 = .ok (.aload_n 2, 1) := by decide +kernel
theorem dW_1595 : decode code 1595 = .ok (.invokevirtual 197, 3) := by decide +kernel
theorem dW_1598 : decode code 1598 = .ok (.if_icmp .eq 489, 3) := by decide +kernel
theorem dW_1601 : decode code 1601 = .ok (.iconst 0, 1) := by decide +kernel
theorem dW_1602 : decode code 1602 = .ok (.ireturn, 1) := by decide +kernel
theorem dW_1603 : decode code 1603 = .ok (.aload_n 1, 1) := by decide +kernel
theorem dW_1604 : decode code 1604 = .ok (.aload_n 0, 1) := by decide +kernel
theorem dW_1605 : decode code 1605 = .ok (.iload 4, 2) := by decide +kernel
theorem dW_1607 : decode code 1607 = .ok (.iconst 1, 1) := by decide +kernel
theorem dW_1608 : decode code 1608 = .ok (.iadd, 1) := by decide +kernel
theorem dW_1609 : decode code 1609 = .ok (.iaload, 1) := by decide +kernel
theorem dW_1610 : decode code 1610 = .ok (.aload_n 0, 1) := by decide +kernel
theorem dW_1611 : decode code 1611 = .ok (.iload 4, 2) := by decide +kernel
theorem dW_1613 : decode code 1613 = .ok (.iconst 2, 1) := by decide +kernel
theorem dW_1614 : decode code 1614 = .ok (.iadd, 1) := by decide +kernel
theorem dW_1615 : decode code 1615 = .ok (.iaload, 1) := by decide +kernel
theorem dW_1616 : decode code 1616 = .ok (.aload_n 0, 1) := by decide +kernel
theorem dW_1617 : decode code 1617 = .ok (.iload 4, 2) := by decide +kernel
theorem dW_1619 : decode code 1619 = .ok (.iconst 3, 1) := by decide +kernel
theorem dW_1620 : decode code 1620 = .ok (.iadd, 1) := by decide +kernel
theorem dW_1621 : decode code 1621 = .ok (.iaload, 1) := by decide +kernel
theorem dW_1622 : decode code 1622 = .ok (.aload_n 3, 1) := by decide +kernel
theorem dW_1623 : decode code 1623 = .ok (.invokestatic 198, 3) := by decide +kernel
theorem dW_1626 : decode code 1626 = .ok (.istore 5, 2) := by decide +kernel
theorem dW_1628 : decode code 1628 = .ok (.aload_n 2, 1) := by decide +kernel
theorem dW_1629 : decode code 1629 = .ok (.aload_n 0, 1) := by decide +kernel
theorem dW_1630 : decode code 1630 = .ok (.iload 4, 2) := by decide +kernel
theorem dW_1632 : decode code 1632 = .ok (.iconst 1, 1) := by decide +kernel
theorem dW_1633 : decode code 1633 = .ok (.iadd, 1) := by decide +kernel
theorem dW_1634 : decode code 1634 = .ok (.iaload, 1) := by decide +kernel
theorem dW_1635 : decode code 1635 = .ok (.aload_n 0, 1) := by decide +kernel
theorem dW_1636 : decode code 1636 = .ok (.iload 4, 2) := by decide +kernel
theorem dW_1638 : decode code 1638 = .ok (.iconst 2, 1) := by decide +kernel
theorem dW_1639 : decode code 1639 = .ok (.iadd, 1) := by decide +kernel
theorem dW_1640 : decode code 1640 = .ok (.iaload, 1) := by decide +kernel
theorem dW_1641 : decode code 1641 = .ok (.aload_n 0, 1) := by decide +kernel
theorem dW_1642 : decode code 1642 = .ok (.iload 4, 2) := by decide +kernel
theorem dW_1644 : decode code 1644 = .ok (.iconst 3, 1) := by decide +kernel
theorem dW_1645 : decode code 1645 = .ok (.iadd, 1) := by decide +kernel
theorem dW_1646 : decode code 1646 = .ok (.iaload, 1) := by decide +kernel
theorem dW_1647 : decode code 1647 = .ok (.invokevirtual 200, 3) := by decide +kernel
theorem dW_1650 : decode code 1650 = .ok (.istore 6, 2) := by decide +kernel
theorem dW_1652 : decode code 1652 = .ok (.aload_n 2, 1) := by decide +kernel
theorem dW_1653 : decode code 1653 = .ok (.invokevirtual 116, 3) := by decide +kernel
theorem dW_1656 : decode code 1656 = .ok (.iload 5, 2) := by decide +kernel
theorem dW_1658 : decode code 1658 = .ok (.if_icmp .eq 5, 3) := by decide +kernel
theorem dW_1661 : decode code 1661 = .ok (.iconst 0, 1) := by decide +kernel
theorem dW_1662 : decode code 1662 = .ok (.ireturn, 1) := by decide +kernel
theorem dW_1663 : decode code 1663 = .ok (.iload 5, 2) := by decide +kernel
theorem dW_1665 : decode code 1665 = .ok (.ifCond .ne 15, 3) := by decide +kernel
theorem dW_1668 : decode code 1668 = .ok (.aload_n 3, 1) := by decide +kernel
theorem dW_1669 : decode code 1669 = .ok (.iconst 0, 1) := by decide +kernel
theorem dW_1670 : decode code 1670 = .ok (.laload, 1) := by decide +kernel
theorem dW_1671 : decode code 1671 = .ok (.iload 6, 2) := by decide +kernel
theorem dW_1673 : decode code 1673 = .ok (.i2l, 1) := by decide +kernel
theorem dW_1674 : decode code 1674 = .ok (.lcmp, 1) := by decide +kernel
theorem dW_1675 : decode code 1675 = .ok (.ifCond .eq 5, 3) := by decide +kernel
theorem dW_1678 : decode code 1678 = .ok (.iconst 0, 1) := by decide +kernel
theorem dW_1679 : decode code 1679 = .ok (.ireturn, 1) := by decide +kernel
theorem dW_1680 : decode code 1680 = .ok (.goto 407, 3) := by decide +kernel
theorem dW_1683 : decode code 1683 = .ok (.aload_n 1, 1) := by decide +kernel
theorem dW_1684 : decode code 1684 = .ok (.aload_n 0, 1) := by decide +kernel
theorem dW_1685 : decode code 1685 = .ok (.iload 4, 2) := by decide +kernel
theorem dW_1687 : decode code 1687 = .ok (.iconst 1, 1) := by decide +kernel
theorem dW_1688 : decode code 1688 = .ok (.iadd, 1) := by decide +kernel
theorem dW_1689 : decode code 1689 = .ok (.iaload, 1) := by decide +kernel
theorem dW_1690 : decode code 1690 = .ok (.aload_n 0, 1) := by decide +kernel
theorem dW_1691 : decode code 1691 = .ok (.iload 4, 2) := by decide +kernel
theorem dW_1693 : decode code 1693 = .ok (.iconst 2, 1) := by decide +kernel
theorem dW_1694 : decode code 1694 = .ok (.iadd, 1) := by decide +kernel
theorem dW_1695 : decode code 1695 = .ok (.iaload, 1) := by decide +kernel
theorem dW_1696 : decode code 1696 = .ok (.aload_n 0, 1) := by decide +kernel
theorem dW_1697 : decode code 1697 = .ok (.iload 4, 2) := by decide +kernel
theorem dW_1699 : decode code 1699 = .ok (.iconst 3, 1) := by decide +kernel
theorem dW_1700 : decode code 1700 = .ok (.iadd, 1) := by decide +kernel
theorem dW_1701 : decode code 1701 = .ok (.iaload, 1) := by decide +kernel
theorem dW_1702 : decode code 1702 = .ok (.aload_n 0, 1) := by decide +kernel
theorem dW_1703 : decode code 1703 = .ok (.iload 4, 2) := by decide +kernel
theorem dW_1705 : decode code 1705 = .ok (.iconst 4, 1) := by decide +kernel
theorem dW_1706 : decode code 1706 = .ok (.iadd, 1) := by decide +kernel
theorem dW_1707 : decode code 1707 = .ok (.iaload, 1) := by decide +kernel
theorem dW_1708 : decode code 1708 = .ok (.aload_n 3, 1) := by decide +kernel
theorem dW_1709 : decode code 1709 = .ok (.invokestatic 201, 3) := by decide +kernel
theorem dW_1712 : decode code 1712 = .ok (.istore 5, 2) := by decide +kernel
theorem dW_1714 : decode code 1714 = .ok (.aload_n 2, 1) := by decide +kernel
theorem dW_1715 : decode code 1715 = .ok (.aload_n 0, 1) := by decide +kernel
theorem dW_1716 : decode code 1716 = .ok (.iload 4, 2) := by decide +kernel
theorem dW_1718 : decode code 1718 = .ok (.iconst 1, 1) := by decide +kernel
theorem dW_1719 : decode code 1719 = .ok (.iadd, 1) := by decide +kernel
theorem dW_1720 : decode code 1720 = .ok (.iaload, 1) := by decide +kernel
theorem dW_1721 : decode code 1721 = .ok (.aload_n 0, 1) := by decide +kernel
theorem dW_1722 : decode code 1722 = .ok (.iload 4, 2) := by decide +kernel
theorem dW_1724 : decode code 1724 = .ok (.iconst 2, 1) := by decide +kernel
theorem dW_1725 : decode code 1725 = .ok (.iadd, 1) := by decide +kernel
theorem dW_1726 : decode code 1726 = .ok (.iaload, 1) := by decide +kernel
theorem dW_1727 : decode code 1727 = .ok (.aload_n 0, 1) := by decide +kernel
theorem dW_1728 : decode code 1728 = .ok (.iload 4, 2) := by decide +kernel
theorem dW_1730 : decode code 1730 = .ok (.iconst 3, 1) := by decide +kernel
theorem dW_1731 : decode code 1731 = .ok (.iadd, 1) := by decide +kernel
theorem dW_1732 : decode code 1732 = .ok (.iaload, 1) := by decide +kernel
theorem dW_1733 : decode code 1733 = .ok (.aload_n 0, 1) := by decide +kernel
theorem dW_1734 : decode code 1734 = .ok (.iload 4, 2) := by decide +kernel
theorem dW_1736 : decode code 1736 = .ok (.iconst 4, 1) := by decide +kernel
theorem dW_1737 : decode code 1737 = .ok (.iadd, 1) := by decide +kernel
theorem dW_1738 : decode code 1738 = .ok (.iaload, 1) := by decide +kernel
theorem dW_1739 : decode code 1739 = .ok (.invokevirtual 203, 3) := by decide +kernel
theorem dW_1742 : decode code 1742 = .ok (.istore 6, 2) := by decide +kernel
theorem dW_1744 : decode code 1744 = .ok (.aload_n 2, 1) := by decide +kernel
theorem dW_1745 : decode code 1745 = .ok (.invokevirtual 116, 3) := by decide +kernel
theorem dW_1748 : decode code 1748 = .ok (.iload 5, 2) := by decide +kernel
theorem dW_1750 : decode code 1750 = .ok (.if_icmp .eq 5, 3) := by decide +kernel
theorem dW_1753 : decode code 1753 = .ok (.iconst 0, 1) := by decide +kernel
theorem dW_1754 : decode code 1754 = .ok (.ireturn, 1) := by decide +kernel
theorem dW_1755 : decode code 1755 = .ok (.iload 5, 2) := by decide +kernel
theorem dW_1757 : decode code 1757 = .ok (.ifCond .ne 15, 3) := by decide +kernel
theorem dW_1760 : decode code 1760 = .ok (.aload_n 3, 1) := by decide +kernel
theorem dW_1761 : decode code 1761 = .ok (.iconst 0, 1) := by decide +kernel
theorem dW_1762 : decode code 1762 = .ok (.laload, 1) := by decide +kernel
theorem dW_1763 : decode code 1763 = .ok (.iload 6, 2) := by decide +kernel
theorem dW_1765 : decode code 1765 = .ok (.i2l, 1) := by decide +kernel
theorem dW_1766 : decode code 1766 = .ok (.lcmp, 1) := by decide +kernel
theorem dW_1767 : decode code 1767 = .ok (.ifCond .eq 5, 3) := by decide +kernel
theorem dW_1770 : decode code 1770 = .ok (.iconst 0, 1) := by decide +kernel
theorem dW_1771 : decode code 1771 = .ok (.ireturn, 1) := by decide +kernel
theorem dW_1772 : decode code 1772 = .ok (.goto 315, 3) := by decide +kernel
theorem dW_1775 : decode code 1775 = .ok (.aload_n 1, 1) := by decide +kernel
theorem dW_1776 : decode code 1776 = .ok (.aload_n 0, 1) := by decide +kernel
theorem dW_1777 : decode code 1777 = .ok (.iload 4, 2) := by decide +kernel
theorem dW_1779 : decode code 1779 = .ok (.iconst 1, 1) := by decide +kernel
theorem dW_1780 : decode code 1780 = .ok (.iadd, 1) := by decide +kernel
theorem dW_1781 : decode code 1781 = .ok (.iaload, 1) := by decide +kernel
theorem dW_1782 : decode code 1782 = .ok (.aload_n 0, 1) := by decide +kernel
theorem dW_1783 : decode code 1783 = .ok (.iload 4, 2) := by decide +kernel
theorem dW_1785 : decode code 1785 = .ok (.iconst 2, 1) := by decide +kernel
theorem dW_1786 : decode code 1786 = .ok (.iadd, 1) := by decide +kernel
theorem dW_1787 : decode code 1787 = .ok (.iaload, 1) := by decide +kernel
theorem dW_1788 : decode code 1788 = .ok (.i2l, 1) := by decide +kernel
theorem dW_1789 : decode code 1789 = .ok (.bipush 32, 2) := by decide +kernel
theorem dW_1791 : decode code 1791 = .ok (.lshl, 1) := by decide +kernel
theorem dW_1792 : decode code 1792 = .ok (.aload_n 0, 1) := by decide +kernel
theorem dW_1793 : decode code 1793 = .ok (.iload 4, 2) := by decide +kernel
theorem dW_1795 : decode code 1795 = .ok (.iconst 3, 1) := by decide +kernel
theorem dW_1796 : decode code 1796 = .ok (.iadd, 1) := by decide +kernel
theorem dW_1797 : decode code 1797 = .ok (.iaload, 1) := by decide +kernel
theorem dW_1798 : decode code 1798 = .ok (.i2l, 1) := by decide +kernel
theorem dW_1799 : decode code 1799 = .ok (.ldc2_w 204, 3) := by decide +kernel
theorem dW_1802 : decode code 1802 = .ok (.land, 1) := by decide +kernel
theorem dW_1803 : decode code 1803 = .ok (.lor, 1) := by decide +kernel
theorem dW_1804 : decode code 1804 = .ok (.aload_n 3, 1) := by decide +kernel
theorem dW_1805 : decode code 1805 = .ok (.invokestatic 206, 3) := by decide +kernel
theorem dW_1808 : decode code 1808 = .ok (.istore 5, 2) := by decide +kernel
theorem dW_1810 : decode code 1810 = .ok (.aload_n 2, 1) := by decide +kernel
theorem dW_1811 : decode code 1811 = .ok (.aload_n 0, 1) := by decide +kernel
theorem dW_1812 : decode code 1812 = .ok (.iload 4, 2) := by decide +kernel
theorem dW_1814 : decode code 1814 = .ok (.iconst 1, 1) := by decide +kernel
theorem dW_1815 : decode code 1815 = .ok (.iadd, 1) := by decide +kernel
theorem dW_1816 : decode code 1816 = .ok (.iaload, 1) := by decide +kernel
theorem dW_1817 : decode code 1817 = .ok (.aload_n 0, 1) := by decide +kernel
theorem dW_1818 : decode code 1818 = .ok (.iload 4, 2) := by decide +kernel
theorem dW_1820 : decode code 1820 = .ok (.iconst 2, 1) := by decide +kernel
theorem dW_1821 : decode code 1821 = .ok (.iadd, 1) := by decide +kernel
theorem dW_1822 : decode code 1822 = .ok (.iaload, 1) := by decide +kernel
theorem dW_1823 : decode code 1823 = .ok (.i2l, 1) := by decide +kernel
theorem dW_1824 : decode code 1824 = .ok (.bipush 32, 2) := by decide +kernel
theorem dW_1826 : decode code 1826 = .ok (.lshl, 1) := by decide +kernel
theorem dW_1827 : decode code 1827 = .ok (.aload_n 0, 1) := by decide +kernel
theorem dW_1828 : decode code 1828 = .ok (.iload 4, 2) := by decide +kernel
theorem dW_1830 : decode code 1830 = .ok (.iconst 3, 1) := by decide +kernel
theorem dW_1831 : decode code 1831 = .ok (.iadd, 1) := by decide +kernel
theorem dW_1832 : decode code 1832 = .ok (.iaload, 1) := by decide +kernel
theorem dW_1833 : decode code 1833 = .ok (.i2l, 1) := by decide +kernel
theorem dW_1834 : decode code 1834 = .ok (.ldc2_w 204, 3) := by decide +kernel
theorem dW_1837 : decode code 1837 = .ok (.land, 1) := by decide +kernel
theorem dW_1838 : decode code 1838 = .ok (.lor, 1) := by decide +kernel
theorem dW_1839 : decode code 1839 = .ok (.invokevirtual 209, 3) := by decide +kernel
theorem dW_1842 : decode code 1842 = .ok (.istore 6, 2) := by decide +kernel
theorem dW_1844 : decode code 1844 = .ok (.aload_n 2, 1) := by decide +kernel
theorem dW_1845 : decode code 1845 = .ok (.invokevirtual 116, 3) := by decide +kernel
theorem dW_1848 : decode code 1848 = .ok (.iload 5, 2) := by decide +kernel
theorem dW_1850 : decode code 1850 = .ok (.if_icmp .eq 5, 3) := by decide +kernel
theorem dW_1853 : decode code 1853 = .ok (.iconst 0, 1) := by decide +kernel
theorem dW_1854 : decode code 1854 = .ok (.ireturn, 1) := by decide +kernel
theorem dW_1855 : decode code 1855 = .ok (.iload 5, 2) := by decide +kernel
theorem dW_1857 : decode code 1857 = .ok (.ifCond .ne 15, 3) := by decide +kernel
theorem dW_1860 : decode code 1860 = .ok (.aload_n 3, 1) := by decide +kernel
theorem dW_1861 : decode code 1861 = .ok (.iconst 0, 1) := by decide +kernel
theorem dW_1862 : decode code 1862 = .ok (.laload, 1) := by decide +kernel
theorem dW_1863 : decode code 1863 = .ok (.iload 6, 2) := by decide +kernel
theorem dW_1865 : decode code 1865 = .ok (.i2l, 1) := by decide +kernel
theorem dW_1866 : decode code 1866 = .ok (.lcmp, 1) := by decide +kernel
theorem dW_1867 : decode code 1867 = .ok (.ifCond .eq 5, 3) := by decide +kernel
theorem dW_1870 : decode code 1870 = .ok (.iconst 0, 1) := by decide +kernel
theorem dW_1871 : decode code 1871 = .ok (.ireturn, 1) := by decide +kernel
theorem dW_1872 : decode code 1872 = .ok (.goto 215, 3) := by decide +kernel
theorem dW_1875 : decode code 1875 = .ok (.aload_n 1, 1) := by decide +kernel
theorem dW_1876 : decode code 1876 = .ok (.aload_n 0, 1) := by decide +kernel
theorem dW_1877 : decode code 1877 = .ok (.iload 4, 2) := by decide +kernel
theorem dW_1879 : decode code 1879 = .ok (.iconst 1, 1) := by decide +kernel
theorem dW_1880 : decode code 1880 = .ok (.iadd, 1) := by decide +kernel
theorem dW_1881 : decode code 1881 = .ok (.iaload, 1) := by decide +kernel
theorem dW_1882 : decode code 1882 = .ok (.i2l, 1) := by decide +kernel
theorem dW_1883 : decode code 1883 = .ok (.bipush 32, 2) := by decide +kernel
theorem dW_1885 : decode code 1885 = .ok (.lshl, 1) := by decide +kernel
theorem dW_1886 : decode code 1886 = .ok (.aload_n 0, 1) := by decide +kernel
theorem dW_1887 : decode code 1887 = .ok (.iload 4, 2) := by decide +kernel
theorem dW_1889 : decode code 1889 = .ok (.iconst 2, 1) := by decide +kernel
theorem dW_1890 : decode code 1890 = .ok (.iadd, 1) := by decide +kernel
theorem dW_1891 : decode code 1891 = .ok (.iaload, 1) := by decide +kernel
theorem dW_1892 : decode code 1892 = .ok (.i2l, 1) := by decide +kernel
theorem dW_1893 : decode code 1893 = .ok (.ldc2_w 204, 3) := by decide +kernel
theorem dW_1896 : decode code 1896 = .ok (.land, 1) := by decide +kernel
theorem dW_1897 : decode code 1897 = .ok (.lor, 1) := by decide +kernel
theorem dW_1898 : decode code 1898 = .ok (.aload_n 0, 1) := by decide +kernel
theorem dW_1899 : decode code 1899 = .ok (.iload 4, 2) := by decide +kernel
theorem dW_1901 : decode code 1901 = .ok (.iconst 3, 1) := by decide +kernel
theorem dW_1902 : decode code 1902 = .ok (.iadd, 1) := by decide +kernel
theorem dW_1903 : decode code 1903 = .ok (.iaload, 1) := by decide +kernel
theorem dW_1904 : decode code 1904 = .ok (.aload_n 3, 1) := by decide +kernel
theorem dW_1905 : decode code 1905 = .ok (.invokestatic 210, 3) := by decide +kernel
theorem dW_1908 : decode code 1908 = .ok (.istore 5, 2) := by decide +kernel
theorem dW_1910 : decode code 1910 = .ok (.aload_n 2, 1) := by decide +kernel
theorem dW_1911 : decode code 1911 = .ok (.aload_n 0, 1) := by decide +kernel
theorem dW_1912 : decode code 1912 = .ok (.iload 4, 2) := by decide +kernel
theorem dW_1914 : decode code 1914 = .ok (.iconst 1, 1) := by decide +kernel
theorem dW_1915 : decode code 1915 = .ok (.iadd, 1) := by decide +kernel
theorem dW_1916 : decode code 1916 = .ok (.iaload, 1) := by decide +kernel
theorem dW_1917 : decode code 1917 = .ok (.i2l, 1) := by decide +kernel
theorem dW_1918 : decode code 1918 = .ok (.bipush 32, 2) := by decide +kernel
theorem dW_1920 : decode code 1920 = .ok (.lshl, 1) := by decide +kernel
theorem dW_1921 : decode code 1921 = .ok (.aload_n 0, 1) := by decide +kernel
theorem dW_1922 : decode code 1922 = .ok (.iload 4, 2) := by decide +kernel
theorem dW_1924 : decode code 1924 = .ok (.iconst 2, 1) := by decide +kernel
theorem dW_1925 : decode code 1925 = .ok (.iadd, 1) := by decide +kernel
theorem dW_1926 : decode code 1926 = .ok (.iaload, 1) := by decide +kernel
theorem dW_1927 : decode code 1927 = .ok (.i2l, 1) := by decide +kernel
theorem dW_1928 : decode code 1928 = .ok (.ldc2_w 204, 3) := by decide +kernel
theorem dW_1931 : decode code 1931 = .ok (.land, 1) := by decide +kernel
theorem dW_1932 : decode code 1932 = .ok (.lor, 1) := by decide +kernel
theorem dW_1933 : decode code 1933 = .ok (.aload_n 0, 1) := by decide +kernel
theorem dW_1934 : decode code 1934 = .ok (.iload 4, 2) := by decide +kernel
theorem dW_1936 : decode code 1936 = .ok (.iconst 3, 1) := by decide +kernel
theorem dW_1937 : decode code 1937 = .ok (.iadd, 1) := by decide +kernel
theorem dW_1938 : decode code 1938 = .ok (.iaload, 1) := by decide +kernel
theorem dW_1939 : decode code 1939 = .ok (.invokevirtual 213, 3) := by decide +kernel
theorem dW_1942 : decode code 1942 = .ok (.istore 6, 2) := by decide +kernel
theorem dW_1944 : decode code 1944 = .ok (.aload_n 2, 1) := by decide +kernel
theorem dW_1945 : decode code 1945 = .ok (.invokevirtual 116, 3) := by decide +kernel
theorem dW_1948 : decode code 1948 = .ok (.iload 5, 2) := by decide +kernel
theorem dW_1950 : decode code 1950 = .ok (.if_icmp .eq 5, 3) := by decide +kernel
theorem dW_1953 : decode code 1953 = .ok (.iconst 0, 1) := by decide +kernel
theorem dW_1954 : decode code 1954 = .ok (.ireturn, 1) := by decide +kernel
theorem dW_1955 : decode code 1955 = .ok (.iload 5, 2) := by decide +kernel
theorem dW_1957 : decode code 1957 = .ok (.ifCond .ne 15, 3) := by decide +kernel
theorem dW_1960 : decode code 1960 = .ok (.aload_n 3, 1) := by decide +kernel
theorem dW_1961 : decode code 1961 = .ok (.iconst 0, 1) := by decide +kernel
theorem dW_1962 : decode code 1962 = .ok (.laload, 1) := by decide +kernel
theorem dW_1963 : decode code 1963 = .ok (.iload 6, 2) := by decide +kernel
theorem dW_1965 : decode code 1965 = .ok (.i2l, 1) := by decide +kernel
theorem dW_1966 : decode code 1966 = .ok (.lcmp, 1) := by decide +kernel
theorem dW_1967 : decode code 1967 = .ok (.ifCond .eq 5, 3) := by decide +kernel
theorem dW_1970 : decode code 1970 = .ok (.iconst 0, 1) := by decide +kernel
theorem dW_1971 : decode code 1971 = .ok (.ireturn, 1) := by decide +kernel
theorem dW_1972 : decode code 1972 = .ok (.goto 115, 3) := by decide +kernel
theorem dW_1975 : decode code 1975 = .ok (.aload_n 1, 1) := by decide +kernel
theorem dW_1976 : decode code 1976 = .ok (.aload_n 0, 1) := by decide +kernel
theorem dW_1977 : decode code 1977 = .ok (.iload 4, 2) := by decide +kernel
theorem dW_1979 : decode code 1979 = .ok (.iconst 1, 1) := by decide +kernel
theorem dW_1980 : decode code 1980 = .ok (.iadd, 1) := by decide +kernel
theorem dW_1981 : decode code 1981 = .ok (.iaload, 1) := by decide +kernel
theorem dW_1982 : decode code 1982 = .ok (.aload_n 3, 1) := by decide +kernel
theorem dW_1983 : decode code 1983 = .ok (.invokestatic 214, 3) := by decide +kernel
theorem dW_1986 : decode code 1986 = .ok (.istore 5, 2) := by decide +kernel
theorem dW_1988 : decode code 1988 = .ok (.aload_n 2, 1) := by decide +kernel
theorem dW_1989 : decode code 1989 = .ok (.aload_n 0, 1) := by decide +kernel
theorem dW_1990 : decode code 1990 = .ok (.iload 4, 2) := by decide +kernel
theorem dW_1992 : decode code 1992 = .ok (.iconst 1, 1) := by decide +kernel
theorem dW_1993 : decode code 1993 = .ok (.iadd, 1) := by decide +kernel
theorem dW_1994 : decode code 1994 = .ok (.iaload, 1) := by decide +kernel
theorem dW_1995 : decode code 1995 = .ok (.invokevirtual 216, 3) := by decide +kernel
theorem dW_1998 : decode code 1998 = .ok (.istore 6, 2) := by decide +kernel
theorem dW_2000 : decode code 2000 = .ok (.aload_n 2, 1) := by decide +kernel
theorem dW_2001 : decode code 2001 = .ok (.invokevirtual 116, 3) := by decide +kernel
theorem dW_2004 : decode code 2004 = .ok (.iload 5, 2) := by decide +kernel
theorem dW_2006 : decode code 2006 = .ok (.if_icmp .eq 5, 3) := by decide +kernel
theorem dW_2009 : decode code 2009 = .ok (.iconst 0, 1) := by decide +kernel
theorem dW_2010 : decode code 2010 = .ok (.ireturn, 1) := by decide +kernel
theorem dW_2011 : decode code 2011 = .ok (.iload 5, 2) := by decide +kernel
theorem dW_2013 : decode code 2013 = .ok (.ifCond .ne 15, 3) := by decide +kernel
theorem dW_2016 : decode code 2016 = .ok (.aload_n 3, 1) := by decide +kernel
theorem dW_2017 : decode code 2017 = .ok (.iconst 0, 1) := by decide +kernel
theorem dW_2018 : decode code 2018 = .ok (.laload, 1) := by decide +kernel
theorem dW_2019 : decode code 2019 = .ok (.iload 6, 2) := by decide +kernel
theorem dW_2021 : decode code 2021 = .ok (.i2l, 1) := by decide +kernel
theorem dW_2022 : decode code 2022 = .ok (.lcmp, 1) := by decide +kernel
theorem dW_2023 : decode code 2023 = .ok (.ifCond .eq 5, 3) := by decide +kernel
theorem dW_2026 : decode code 2026 = .ok (.iconst 0, 1) := by decide +kernel
theorem dW_2027 : decode code 2027 = .ok (.ireturn, 1) := by decide +kernel
theorem dW_2028 : decode code 2028 = .ok (.goto 59, 3) := by decide +kernel
theorem dW_2031 : decode code 2031 = .ok (.aload_n 1, 1) := by decide +kernel
theorem dW_2032 : decode code 2032 = .ok (.aload_n 0, 1) := by decide +kernel
theorem dW_2033 : decode code 2033 = .ok (.iload 4, 2) := by decide +kernel
theorem dW_2035 : decode code 2035 = .ok (.iconst 1, 1) := by decide +kernel
theorem dW_2036 : decode code 2036 = .ok (.iadd, 1) := by decide +kernel
theorem dW_2037 : decode code 2037 = .ok (.iaload, 1) := by decide +kernel
theorem dW_2038 : decode code 2038 = .ok (.aload_n 3, 1) := by decide +kernel
theorem dW_2039 : decode code 2039 = .ok (.invokestatic 217, 3) := by decide +kernel
theorem dW_2042 : decode code 2042 = .ok (.istore 5, 2) := by decide +kernel
theorem dW_2044 : decode code 2044 = .ok (.aload_n 2, 1) := by decide +kernel
theorem dW_2045 : decode code 2045 = .ok (.aload_n 0, 1) := by decide +kernel
theorem dW_2046 : decode code 2046 = .ok (.iload 4, 2) := by decide +kernel
theorem dW_2048 : decode code 2048 = .ok (.iconst 1, 1) := by decide +kernel
theorem dW_2049 : decode code 2049 = .ok (.iadd, 1) := by decide +kernel
theorem dW_2050 : decode code 2050 = .ok (.iaload, 1) := by decide +kernel
theorem dW_2051 : decode code 2051 = .ok (.invokevirtual 219, 3) := by decide +kernel
theorem dW_2054 : decode code 2054 = .ok (.istore 6, 2) := by decide +kernel
theorem dW_2056 : decode code 2056 = .ok (.aload_n 2, 1) := by decide +kernel
theorem dW_2057 : decode code 2057 = .ok (.invokevirtual 116, 3) := by decide +kernel
theorem dW_2060 : decode code 2060 = .ok (.iload 5, 2) := by decide +kernel
theorem dW_2062 : decode code 2062 = .ok (.if_icmp .eq 5, 3) := by decide +kernel
theorem dW_2065 : decode code 2065 = .ok (.iconst 0, 1) := by decide +kernel
theorem dW_2066 : decode code 2066 = .ok (.ireturn, 1) := by decide +kernel
theorem dW_2067 : decode code 2067 = .ok (.iload 5, 2) := by decide +kernel
theorem dW_2069 : decode code 2069 = .ok (.ifCond .ne 15, 3) := by decide +kernel
theorem dW_2072 : decode code 2072 = .ok (.aload_n 3, 1) := by decide +kernel
theorem dW_2073 : decode code 2073 = .ok (.iconst 0, 1) := by decide +kernel
theorem dW_2074 : decode code 2074 = .ok (.laload, 1) := by decide +kernel
theorem dW_2075 : decode code 2075 = .ok (.iload 6, 2) := by decide +kernel
theorem dW_2077 : decode code 2077 = .ok (.i2l, 1) := by decide +kernel
theorem dW_2078 : decode code 2078 = .ok (.lcmp, 1) := by decide +kernel
theorem dW_2079 : decode code 2079 = .ok (.ifCond .eq 5, 3) := by decide +kernel
theorem dW_2082 : decode code 2082 = .ok (.iconst 0, 1) := by decide +kernel
theorem dW_2083 : decode code 2083 = .ok (.ireturn, 1) := by decide +kernel
theorem dW_2084 : decode code 2084 = .ok (.goto 3, 3) := by decide +kernel
theorem dW_2087 : decode code 2087 = .ok (.iinc 4 5, 3) := by decide +kernel
theorem dW_2090 : decode code 2090 = .ok (.goto (-2067), 3) := by decide +kernel
theorem dW_2093 : decode code 2093 = .ok (.iconst 1, 1) := by decide +kernel
theorem dW_2094 : decode code 2094 = .ok (.ireturn, 1) := by decide +kernel
def tl_cH (M N : tl_M) (hh : tl_hs) (i cnt : Nat) : Prop := tl_w9 N hh ∈ tl_GW ∧ Cond.methodLink M.1.cls i N.1 ∈ tl_GW ∧ Cond.static N.1 ∈ tl_GW ∧ Cond.initialized N.1.cls ∈ tl_GW ∧ tl_cR M N cnt
theorem cI_X9 {nm : String} : tl_cI (mW nm) mX9_init 106 0 := ⟨cd_X9_init, ml_L_106, im_X9_init, in_X9, rfl, rfl, ⟨by decide, by decide, by decide +kernel⟩, Nat.le_of_ble_eq_true rfl, Nat.le_of_ble_eq_true rfl⟩
theorem cI_X10 {nm : String} : tl_cI (mW nm) mX10_init 109 0 := ⟨cd_X10_init, ml_L_109, im_X10_init, in_X10, rfl, rfl, ⟨by decide, by decide, by decide +kernel⟩, Nat.le_of_ble_eq_true rfl, Nat.le_of_ble_eq_true rfl⟩
theorem cH_append {nm : String} : tl_cH (mW nm) mL_append hL_append 110 3 := ⟨cw_L_append, ml_L_110, sm_L_append, in_L, ⟨by decide, by decide, by decide +kernel⟩, Nat.le_of_ble_eq_true rfl, Nat.le_of_ble_eq_true rfl⟩
theorem cV_X10_append {nm : String} : tl_cV (mW nm) mX10_append 115 1 := ⟨cd_X10_append, ml_L_115, im_X10_append, se_X10_append, in_X10, ⟨by decide, by decide, by decide +kernel⟩, Nat.le_of_ble_eq_true rfl, Nat.le_of_ble_eq_true rfl⟩
theorem cV_X10_thrown {nm : String} : tl_cV (mW nm) mX10_thrown 116 0 := ⟨cd_X10_thrown, ml_L_116, im_X10_thrown, se_X10_thrown, in_X10, ⟨by decide, by decide, by decide +kernel⟩, Nat.le_of_ble_eq_true rfl, Nat.le_of_ble_eq_true rfl⟩
theorem cV_X9_clearText {nm : String} : tl_cV (mW nm) mX9_clearText 119 0 := ⟨cd_X9_clearText, ml_L_119, im_X9_clearText, se_X9_clearText, in_X9, ⟨by decide, by decide, by decide +kernel⟩, Nat.le_of_ble_eq_true rfl, Nat.le_of_ble_eq_true rfl⟩
theorem cV_X10_clearText {nm : String} : tl_cV (mW nm) mX10_clearText 122 0 := ⟨cd_X10_clearText, ml_L_122, im_X10_clearText, se_X10_clearText, in_X10, ⟨by decide, by decide, by decide +kernel⟩, Nat.le_of_ble_eq_true rfl, Nat.le_of_ble_eq_true rfl⟩
theorem cV_X9_errorPosition {nm : String} : tl_cV (mW nm) mX9_errorPosition 123 0 := ⟨cd_X9_errorPosition, ml_L_123, im_X9_errorPosition, se_X9_errorPosition, in_X9, ⟨by decide, by decide, by decide +kernel⟩, Nat.le_of_ble_eq_true rfl, Nat.le_of_ble_eq_true rfl⟩
theorem cV_X10_errorPosition {nm : String} : tl_cV (mW nm) mX10_errorPosition 126 0 := ⟨cd_X10_errorPosition, ml_L_126, im_X10_errorPosition, se_X10_errorPosition, in_X10, ⟨by decide, by decide, by decide +kernel⟩, Nat.le_of_ble_eq_true rfl, Nat.le_of_ble_eq_true rfl⟩
theorem cH_load {nm : String} : tl_cH (mW nm) mL_load hL_load 127 2 := ⟨cw_L_load, ml_L_127, sm_L_load, in_L, ⟨by decide, by decide, by decide +kernel⟩, Nat.le_of_ble_eq_true rfl, Nat.le_of_ble_eq_true rfl⟩
theorem cV_X10_load {nm : String} : tl_cV (mW nm) mX10_load 130 0 := ⟨cd_X10_load, ml_L_130, im_X10_load, se_X10_load, in_X10, ⟨by decide, by decide, by decide +kernel⟩, Nat.le_of_ble_eq_true rfl, Nat.le_of_ble_eq_true rfl⟩
theorem cH_about {nm : String} : tl_cH (mW nm) mL_about hL_about 131 3 := ⟨cw_L_about, ml_L_131, sm_L_about, in_L, ⟨by decide, by decide, by decide +kernel⟩, Nat.le_of_ble_eq_true rfl, Nat.le_of_ble_eq_true rfl⟩
theorem cV_X10_about {nm : String} : tl_cV (mW nm) mX10_about 133 1 := ⟨cd_X10_about, ml_L_133, im_X10_about, se_X10_about, in_X10, ⟨by decide, by decide, by decide +kernel⟩, Nat.le_of_ble_eq_true rfl, Nat.le_of_ble_eq_true rfl⟩
theorem cH_galleryOf {nm : String} : tl_cH (mW nm) mL_galleryOf hL_galleryOf 134 4 := ⟨cw_L_galleryOf, ml_L_134, sm_L_galleryOf, in_L, ⟨by decide, by decide, by decide +kernel⟩, Nat.le_of_ble_eq_true rfl, Nat.le_of_ble_eq_true rfl⟩
theorem cV_X10_galleryOf {nm : String} : tl_cV (mW nm) mX10_galleryOf 137 2 := ⟨cd_X10_galleryOf, ml_L_137, im_X10_galleryOf, se_X10_galleryOf, in_X10, ⟨by decide, by decide, by decide +kernel⟩, Nat.le_of_ble_eq_true rfl, Nat.le_of_ble_eq_true rfl⟩
theorem cH_minerOf {nm : String} : tl_cH (mW nm) mL_minerOf hL_minerOf 138 4 := ⟨cw_L_minerOf, ml_L_138, sm_L_minerOf, in_L, ⟨by decide, by decide, by decide +kernel⟩, Nat.le_of_ble_eq_true rfl, Nat.le_of_ble_eq_true rfl⟩
theorem cV_X10_minerOf {nm : String} : tl_cV (mW nm) mX10_minerOf 140 2 := ⟨cd_X10_minerOf, ml_L_140, im_X10_minerOf, se_X10_minerOf, in_X10, ⟨by decide, by decide, by decide +kernel⟩, Nat.le_of_ble_eq_true rfl, Nat.le_of_ble_eq_true rfl⟩
theorem cH_lampOf {nm : String} : tl_cH (mW nm) mL_lampOf hL_lampOf 141 4 := ⟨cw_L_lampOf, ml_L_141, sm_L_lampOf, in_L, ⟨by decide, by decide, by decide +kernel⟩, Nat.le_of_ble_eq_true rfl, Nat.le_of_ble_eq_true rfl⟩
theorem cV_X10_lampOf {nm : String} : tl_cV (mW nm) mX10_lampOf 143 2 := ⟨cd_X10_lampOf, ml_L_143, im_X10_lampOf, se_X10_lampOf, in_X10, ⟨by decide, by decide, by decide +kernel⟩, Nat.le_of_ble_eq_true rfl, Nat.le_of_ble_eq_true rfl⟩
theorem cH_lad {nm : String} : tl_cH (mW nm) mL_lad hL_lad 144 3 := ⟨cw_L_lad, ml_L_144, sm_L_lad, in_L, ⟨by decide, by decide, by decide +kernel⟩, Nat.le_of_ble_eq_true rfl, Nat.le_of_ble_eq_true rfl⟩
theorem cV_X10_lad {nm : String} : tl_cV (mW nm) mX10_lad 146 1 := ⟨cd_X10_lad, ml_L_146, im_X10_lad, se_X10_lad, in_X10, ⟨by decide, by decide, by decide +kernel⟩, Nat.le_of_ble_eq_true rfl, Nat.le_of_ble_eq_true rfl⟩
theorem cH_orderOf {nm : String} : tl_cH (mW nm) mL_orderOf hL_orderOf 147 4 := ⟨cw_L_orderOf, ml_L_147, sm_L_orderOf, in_L, ⟨by decide, by decide, by decide +kernel⟩, Nat.le_of_ble_eq_true rfl, Nat.le_of_ble_eq_true rfl⟩
theorem cV_X10_orderOf {nm : String} : tl_cV (mW nm) mX10_orderOf 149 2 := ⟨cd_X10_orderOf, ml_L_149, im_X10_orderOf, se_X10_orderOf, in_X10, ⟨by decide, by decide, by decide +kernel⟩, Nat.le_of_ble_eq_true rfl, Nat.le_of_ble_eq_true rfl⟩
theorem cH_lit {nm : String} : tl_cH (mW nm) mL_lit hL_lit 150 4 := ⟨cw_L_lit, ml_L_150, sm_L_lit, in_L, ⟨by decide, by decide, by decide +kernel⟩, Nat.le_of_ble_eq_true rfl, Nat.le_of_ble_eq_true rfl⟩
theorem cV_X10_lit {nm : String} : tl_cV (mW nm) mX10_lit 152 2 := ⟨cd_X10_lit, ml_L_152, im_X10_lit, se_X10_lit, in_X10, ⟨by decide, by decide, by decide +kernel⟩, Nat.le_of_ble_eq_true rfl, Nat.le_of_ble_eq_true rfl⟩
theorem cH_gallery {nm : String} : tl_cH (mW nm) mL_gallery hL_gallery 153 3 := ⟨cw_L_gallery, ml_L_153, sm_L_gallery, in_L, ⟨by decide, by decide, by decide +kernel⟩, Nat.le_of_ble_eq_true rfl, Nat.le_of_ble_eq_true rfl⟩
theorem cV_X10_gallery {nm : String} : tl_cV (mW nm) mX10_gallery 155 1 := ⟨cd_X10_gallery, ml_L_155, im_X10_gallery, se_X10_gallery, in_X10, ⟨by decide, by decide, by decide +kernel⟩, Nat.le_of_ble_eq_true rfl, Nat.le_of_ble_eq_true rfl⟩
theorem cH_miner {nm : String} : tl_cH (mW nm) mL_miner hL_miner 156 4 := ⟨cw_L_miner, ml_L_156, sm_L_miner, in_L, ⟨by decide, by decide, by decide +kernel⟩, Nat.le_of_ble_eq_true rfl, Nat.le_of_ble_eq_true rfl⟩
theorem cV_X10_miner {nm : String} : tl_cV (mW nm) mX10_miner 158 2 := ⟨cd_X10_miner, ml_L_158, im_X10_miner, se_X10_miner, in_X10, ⟨by decide, by decide, by decide +kernel⟩, Nat.le_of_ble_eq_true rfl, Nat.le_of_ble_eq_true rfl⟩
theorem cH_send {nm : String} : tl_cH (mW nm) mL_send hL_send 159 4 := ⟨cw_L_send, ml_L_159, sm_L_send, in_L, ⟨by decide, by decide, by decide +kernel⟩, Nat.le_of_ble_eq_true rfl, Nat.le_of_ble_eq_true rfl⟩
theorem cV_X10_send {nm : String} : tl_cV (mW nm) mX10_send 161 2 := ⟨cd_X10_send, ml_L_161, im_X10_send, se_X10_send, in_X10, ⟨by decide, by decide, by decide +kernel⟩, Nat.le_of_ble_eq_true rfl, Nat.le_of_ble_eq_true rfl⟩
theorem cH_lamp {nm : String} : tl_cH (mW nm) mL_lamp hL_lamp 162 6 := ⟨cw_L_lamp, ml_L_162, sm_L_lamp, in_L, ⟨by decide, by decide, by decide +kernel⟩, Nat.le_of_ble_eq_true rfl, Nat.le_of_ble_eq_true rfl⟩
theorem cV_X10_lamp {nm : String} : tl_cV (mW nm) mX10_lamp 165 4 := ⟨cd_X10_lamp, ml_L_165, im_X10_lamp, se_X10_lamp, in_X10, ⟨by decide, by decide, by decide +kernel⟩, Nat.le_of_ble_eq_true rfl, Nat.le_of_ble_eq_true rfl⟩
theorem cH_store {nm : String} : tl_cH (mW nm) mL_store hL_store 166 3 := ⟨cw_L_store, ml_L_166, sm_L_store, in_L, ⟨by decide, by decide, by decide +kernel⟩, Nat.le_of_ble_eq_true rfl, Nat.le_of_ble_eq_true rfl⟩
theorem cV_X10_store {nm : String} : tl_cV (mW nm) mX10_store 168 1 := ⟨cd_X10_store, ml_L_168, im_X10_store, se_X10_store, in_X10, ⟨by decide, by decide, by decide +kernel⟩, Nat.le_of_ble_eq_true rfl, Nat.le_of_ble_eq_true rfl⟩
theorem cH_hang {nm : String} : tl_cH (mW nm) mL_hang hL_hang 169 5 := ⟨cw_L_hang, ml_L_169, sm_L_hang, in_L, ⟨by decide, by decide, by decide +kernel⟩, Nat.le_of_ble_eq_true rfl, Nat.le_of_ble_eq_true rfl⟩
theorem cV_X10_hang {nm : String} : tl_cV (mW nm) mX10_hang 172 3 := ⟨cd_X10_hang, ml_L_172, im_X10_hang, se_X10_hang, in_X10, ⟨by decide, by decide, by decide +kernel⟩, Nat.le_of_ble_eq_true rfl, Nat.le_of_ble_eq_true rfl⟩
theorem cH_fill {nm : String} : tl_cH (mW nm) mL_fill hL_fill 173 4 := ⟨cw_L_fill, ml_L_173, sm_L_fill, in_L, ⟨by decide, by decide, by decide +kernel⟩, Nat.le_of_ble_eq_true rfl, Nat.le_of_ble_eq_true rfl⟩
theorem cV_X10_fill {nm : String} : tl_cV (mW nm) mX10_fill 175 2 := ⟨cd_X10_fill, ml_L_175, im_X10_fill, se_X10_fill, in_X10, ⟨by decide, by decide, by decide +kernel⟩, Nat.le_of_ble_eq_true rfl, Nat.le_of_ble_eq_true rfl⟩
theorem cH_drop {nm : String} : tl_cH (mW nm) mL_drop hL_drop 176 3 := ⟨cw_L_drop, ml_L_176, sm_L_drop, in_L, ⟨by decide, by decide, by decide +kernel⟩, Nat.le_of_ble_eq_true rfl, Nat.le_of_ble_eq_true rfl⟩
theorem cV_X10_drop {nm : String} : tl_cV (mW nm) mX10_drop 178 1 := ⟨cd_X10_drop, ml_L_178, im_X10_drop, se_X10_drop, in_X10, ⟨by decide, by decide, by decide +kernel⟩, Nat.le_of_ble_eq_true rfl, Nat.le_of_ble_eq_true rfl⟩
theorem cH_set {nm : String} : tl_cH (mW nm) mL_set hL_set 179 4 := ⟨cw_L_set, ml_L_179, sm_L_set, in_L, ⟨by decide, by decide, by decide +kernel⟩, Nat.le_of_ble_eq_true rfl, Nat.le_of_ble_eq_true rfl⟩
theorem cV_X10_set {nm : String} : tl_cV (mW nm) mX10_set 181 2 := ⟨cd_X10_set, ml_L_181, im_X10_set, se_X10_set, in_X10, ⟨by decide, by decide, by decide +kernel⟩, Nat.le_of_ble_eq_true rfl, Nat.le_of_ble_eq_true rfl⟩
theorem cH_hours {nm : String} : tl_cH (mW nm) mL_hours hL_hours 182 3 := ⟨cw_L_hours, ml_L_182, sm_L_hours, in_L, ⟨by decide, by decide, by decide +kernel⟩, Nat.le_of_ble_eq_true rfl, Nat.le_of_ble_eq_true rfl⟩
theorem cV_X10_hours {nm : String} : tl_cV (mW nm) mX10_hours 184 1 := ⟨cd_X10_hours, ml_L_184, im_X10_hours, se_X10_hours, in_X10, ⟨by decide, by decide, by decide +kernel⟩, Nat.le_of_ble_eq_true rfl, Nat.le_of_ble_eq_true rfl⟩
theorem cH_undo {nm : String} : tl_cH (mW nm) mL_undo hL_undo 185 2 := ⟨cw_L_undo, ml_L_185, sm_L_undo, in_L, ⟨by decide, by decide, by decide +kernel⟩, Nat.le_of_ble_eq_true rfl, Nat.le_of_ble_eq_true rfl⟩
theorem cV_X10_undo {nm : String} : tl_cV (mW nm) mX10_undo 187 0 := ⟨cd_X10_undo, ml_L_187, im_X10_undo, se_X10_undo, in_X10, ⟨by decide, by decide, by decide +kernel⟩, Nat.le_of_ble_eq_true rfl, Nat.le_of_ble_eq_true rfl⟩
theorem cH_darkIn {nm : String} : tl_cH (mW nm) mL_darkIn hL_darkIn 188 3 := ⟨cw_L_darkIn, ml_L_188, sm_L_darkIn, in_L, ⟨by decide, by decide, by decide +kernel⟩, Nat.le_of_ble_eq_true rfl, Nat.le_of_ble_eq_true rfl⟩
theorem cV_X10_darkIn {nm : String} : tl_cV (mW nm) mX10_darkIn 190 1 := ⟨cd_X10_darkIn, ml_L_190, im_X10_darkIn, se_X10_darkIn, in_X10, ⟨by decide, by decide, by decide +kernel⟩, Nat.le_of_ble_eq_true rfl, Nat.le_of_ble_eq_true rfl⟩
theorem cH_depthIn {nm : String} : tl_cH (mW nm) mL_depthIn hL_depthIn 191 4 := ⟨cw_L_depthIn, ml_L_191, sm_L_depthIn, in_L, ⟨by decide, by decide, by decide +kernel⟩, Nat.le_of_ble_eq_true rfl, Nat.le_of_ble_eq_true rfl⟩
theorem cV_X10_depthIn {nm : String} : tl_cV (mW nm) mX10_depthIn 193 2 := ⟨cd_X10_depthIn, ml_L_193, im_X10_depthIn, se_X10_depthIn, in_X10, ⟨by decide, by decide, by decide +kernel⟩, Nat.le_of_ble_eq_true rfl, Nat.le_of_ble_eq_true rfl⟩
theorem cV_X9_doneIn {nm : String} : tl_cV (mW nm) mX9_doneIn 194 0 := ⟨cd_X9_doneIn, ml_L_194, im_X9_doneIn, se_X9_doneIn, in_X9, ⟨by decide, by decide, by decide +kernel⟩, Nat.le_of_ble_eq_true rfl, Nat.le_of_ble_eq_true rfl⟩
theorem cV_X10_doneIn {nm : String} : tl_cV (mW nm) mX10_doneIn 197 0 := ⟨cd_X10_doneIn, ml_L_197, im_X10_doneIn, se_X10_doneIn, in_X10, ⟨by decide, by decide, by decide +kernel⟩, Nat.le_of_ble_eq_true rfl, Nat.le_of_ble_eq_true rfl⟩
theorem cH_bestCell {nm : String} : tl_cH (mW nm) mL_bestCell hL_bestCell 198 5 := ⟨cw_L_bestCell, ml_L_198, sm_L_bestCell, in_L, ⟨by decide, by decide, by decide +kernel⟩, Nat.le_of_ble_eq_true rfl, Nat.le_of_ble_eq_true rfl⟩
theorem cV_X10_bestCell {nm : String} : tl_cV (mW nm) mX10_bestCell 200 3 := ⟨cd_X10_bestCell, ml_L_200, im_X10_bestCell, se_X10_bestCell, in_X10, ⟨by decide, by decide, by decide +kernel⟩, Nat.le_of_ble_eq_true rfl, Nat.le_of_ble_eq_true rfl⟩
theorem cH_steps {nm : String} : tl_cH (mW nm) mL_steps hL_steps 201 6 := ⟨cw_L_steps, ml_L_201, sm_L_steps, in_L, ⟨by decide, by decide, by decide +kernel⟩, Nat.le_of_ble_eq_true rfl, Nat.le_of_ble_eq_true rfl⟩
theorem cV_X10_steps {nm : String} : tl_cV (mW nm) mX10_steps 203 4 := ⟨cd_X10_steps, ml_L_203, im_X10_steps, se_X10_steps, in_X10, ⟨by decide, by decide, by decide +kernel⟩, Nat.le_of_ble_eq_true rfl, Nat.le_of_ble_eq_true rfl⟩
theorem cH_runScript {nm : String} : tl_cH (mW nm) mL_runScript hL_runScript 206 4 := ⟨cw_L_runScript, ml_L_206, sm_L_runScript, in_L, ⟨by decide, by decide, by decide +kernel⟩, Nat.le_of_ble_eq_true rfl, Nat.le_of_ble_eq_true rfl⟩
theorem cV_X10_runScript {nm : String} : tl_cV (mW nm) mX10_runScript 209 2 := ⟨cd_X10_runScript, ml_L_209, im_X10_runScript, se_X10_runScript, in_X10, ⟨by decide, by decide, by decide +kernel⟩, Nat.le_of_ble_eq_true rfl, Nat.le_of_ble_eq_true rfl⟩
theorem cH_simulate {nm : String} : tl_cH (mW nm) mL_simulate hL_simulate 210 4 := ⟨cw_L_simulate, ml_L_210, sm_L_simulate, in_L, ⟨by decide, by decide, by decide +kernel⟩, Nat.le_of_ble_eq_true rfl, Nat.le_of_ble_eq_true rfl⟩
theorem cV_X10_simulate {nm : String} : tl_cV (mW nm) mX10_simulate 213 2 := ⟨cd_X10_simulate, ml_L_213, im_X10_simulate, se_X10_simulate, in_X10, ⟨by decide, by decide, by decide +kernel⟩, Nat.le_of_ble_eq_true rfl, Nat.le_of_ble_eq_true rfl⟩
theorem cH_save {nm : String} : tl_cH (mW nm) mL_save hL_save 214 3 := ⟨cw_L_save, ml_L_214, sm_L_save, in_L, ⟨by decide, by decide, by decide +kernel⟩, Nat.le_of_ble_eq_true rfl, Nat.le_of_ble_eq_true rfl⟩
theorem cV_X10_save {nm : String} : tl_cV (mW nm) mX10_save 216 1 := ⟨cd_X10_save, ml_L_216, im_X10_save, se_X10_save, in_X10, ⟨by decide, by decide, by decide +kernel⟩, Nat.le_of_ble_eq_true rfl, Nat.le_of_ble_eq_true rfl⟩
theorem cH_restore {nm : String} : tl_cH (mW nm) mL_restore hL_restore 217 3 := ⟨cw_L_restore, ml_L_217, sm_L_restore, in_L, ⟨by decide, by decide, by decide +kernel⟩, Nat.le_of_ble_eq_true rfl, Nat.le_of_ble_eq_true rfl⟩
theorem cV_X10_restore {nm : String} : tl_cV (mW nm) mX10_restore 219 1 := ⟨cd_X10_restore, ml_L_219, im_X10_restore, se_X10_restore, in_X10, ⟨by decide, by decide, by decide +kernel⟩, Nat.le_of_ble_eq_true rfl, Nat.le_of_ble_eq_true rfl⟩
