theorem dX8_grow_158 : decode cX8_grow 158 = .ok (.ifCond .lt 27, 3) := by decide +kernel
theorem dX8_grow_161 : decode cX8_grow 161 = .ok (.aload_n 0, 1) := by decide +kernel
theorem dX8_grow_162 : decode cX8_grow 162 = .ok (.getfield 44, 3) := by decide +kernel
theorem dX8_grow_165 : decode cX8_grow 165 = .ok (.aload_n 0, 1) := by decide +kernel
theorem dX8_grow_166 : decode cX8_grow 166 = .ok (.getfield 180, 3) := by decide +kernel
theorem dX8_grow_169 : decode cX8_grow 169 = .ok (.baload, 1) := by decide +kernel
theorem dX8_grow_170 : decode cX8_grow 170 = .ok (.ifCond .eq 15, 3) := by decide +kernel
theorem dX8_grow_173 : decode cX8_grow 173 = .ok (.aload_n 0, 1) := by decide +kernel
theorem dX8_grow_174 : decode cX8_grow 174 = .ok (.getfield 72, 3) := by decide +kernel
theorem dX8_grow_177 : decode cX8_grow 177 = .ok (.iload 4, 2) := by decide +kernel
theorem dX8_grow_179 : decode cX8_grow 179 = .ok (.iload 5, 2) := by decide +kernel
theorem dX8_grow_181 : decode cX8_grow 181 = .ok (.iastore, 1) := by decide +kernel
theorem dX8_grow_182 : decode cX8_grow 182 = .ok (.goto 34, 3) := by decide +kernel
theorem dX8_grow_185 : decode cX8_grow 185 = .ok (.iload_n 2, 1) := by decide +kernel
theorem dX8_grow_186 : decode cX8_grow 186 = .ok (.ifCond .eq 20, 3) := by decide +kernel
theorem dX8_grow_189 : decode cX8_grow 189 = .ok (.iload 4, 2) := by decide +kernel
theorem dX8_grow_191 : decode cX8_grow 191 = .ok (.ifCond .lt 15, 3) := by decide +kernel
theorem dX8_grow_194 : decode cX8_grow 194 = .ok (.aload_n 0, 1) := by decide +kernel
theorem dX8_grow_195 : decode cX8_grow 195 = .ok (.getfield 75, 3) := by decide +kernel
theorem dX8_grow_198 : decode cX8_grow 198 = .ok (.iload 4, 2) := by decide +kernel
theorem dX8_grow_200 : decode cX8_grow 200 = .ok (.iload 5, 2) := by decide +kernel
theorem dX8_grow_202 : decode cX8_grow 202 = .ok (.iastore, 1) := by decide +kernel
theorem dX8_grow_203 : decode cX8_grow 203 = .ok (.goto 13, 3) := by decide +kernel
theorem dX8_grow_206 : decode cX8_grow 206 = .ok (.iload_n 2, 1) := by decide +kernel
theorem dX8_grow_207 : decode cX8_grow 207 = .ok (.ifCond .eq 9, 3) := by decide +kernel
theorem dX8_grow_210 : decode cX8_grow 210 = .ok (.aload_n 0, 1) := by decide +kernel
theorem dX8_grow_211 : decode cX8_grow 211 = .ok (.iload 5, 2) := by decide +kernel
theorem dX8_grow_213 : decode cX8_grow 213 = .ok (.putfield 198, 3) := by decide +kernel
theorem dX8_grow_216 : decode cX8_grow 216 = .ok (.iload_n 3, 1) := by decide +kernel
theorem dX8_grow_217 : decode cX8_grow 217 = .ok (.aload_n 0, 1) := by decide +kernel
theorem dX8_grow_218 : decode cX8_grow 218 = .ok (.getfield 177, 3) := by decide +kernel
theorem dX8_grow_221 : decode cX8_grow 221 = .ok (.if_icmp .ne 6, 3) := by decide +kernel
theorem dX8_grow_224 : decode cX8_grow 224 = .ok (.goto (-167), 3) := by decide +kernel
theorem dX8_grow_227 : decode cX8_grow 227 = .ok (.aload_n 0, 1) := by decide +kernel
theorem dX8_grow_228 : decode cX8_grow 228 = .ok (.getfield 22, 3) := by decide +kernel
theorem dX8_grow_231 : decode cX8_grow 231 = .ok (.aload_n 0, 1) := by decide +kernel
theorem dX8_grow_232 : decode cX8_grow 232 = .ok (.iload_n 1, 1) := by decide +kernel
theorem dX8_grow_233 : decode cX8_grow 233 = .ok (.iload_n 3, 1) := by decide +kernel
theorem dX8_grow_234 : decode cX8_grow 234 = .ok (.aload_n 0, 1) := by decide +kernel
theorem dX8_grow_235 : decode cX8_grow 235 = .ok (.getfield 177, 3) := by decide +kernel
theorem dX8_grow_238 : decode cX8_grow 238 = .ok (.invokevirtual 201, 3) := by decide +kernel
theorem dX8_grow_241 : decode cX8_grow 241 = .ok (.iaload, 1) := by decide +kernel
theorem dX8_grow_242 : decode cX8_grow 242 = .ok (.istore 6, 2) := by decide +kernel
theorem dX8_grow_244 : decode cX8_grow 244 = .ok (.iconst 0, 1) := by decide +kernel
theorem dX8_grow_245 : decode cX8_grow 245 = .ok (.istore 7, 2) := by decide +kernel
theorem dX8_grow_247 : decode cX8_grow 247 = .ok (.iconst 0, 1) := by decide +kernel
theorem dX8_grow_248 : decode cX8_grow 248 = .ok (.istore 8, 2) := by decide +kernel
theorem dX8_grow_250 : decode cX8_grow 250 = .ok (.iload_n 2, 1) := by decide +kernel
theorem dX8_grow_251 : decode cX8_grow 251 = .ok (.ifCond .eq 40, 3) := by decide +kernel
theorem dX8_grow_254 : decode cX8_grow 254 = .ok (.aload_n 0, 1) := by decide +kernel
theorem dX8_grow_255 : decode cX8_grow 255 = .ok (.getfield 63, 3) := by decide +kernel
theorem dX8_grow_258 : decode cX8_grow 258 = .ok (.iload 5, 2) := by decide +kernel
theorem dX8_grow_260 : decode cX8_grow 260 = .ok (.iload 6, 2) := by decide +kernel
theorem dX8_grow_262 : decode cX8_grow 262 = .ok (.iastore, 1) := by decide +kernel
theorem dX8_grow_263 : decode cX8_grow 263 = .ok (.aload_n 0, 1) := by decide +kernel
theorem dX8_grow_264 : decode cX8_grow 264 = .ok (.getfield 78, 3) := by decide +kernel
theorem dX8_grow_267 : decode cX8_grow 267 = .ok (.iload 5, 2) := by decide +kernel
theorem dX8_grow_269 : decode cX8_grow 269 = .ok (.iload 4, 2) := by decide +kernel
theorem dX8_grow_271 : decode cX8_grow 271 = .ok (.iastore, 1) := by decide +kernel
theorem dX8_grow_272 : decode cX8_grow 272 = .ok (.aload_n 0, 1) := by decide +kernel
theorem dX8_grow_273 : decode cX8_grow 273 = .ok (.getfield 69, 3) := by decide +kernel
theorem dX8_grow_276 : decode cX8_grow 276 = .ok (.iload 5, 2) := by decide +kernel
theorem dX8_grow_278 : decode cX8_grow 278 = .ok (.aload_n 0, 1) := by decide +kernel
theorem dX8_grow_279 : decode cX8_grow 279 = .ok (.getfield 147, 3) := by decide +kernel
theorem dX8_grow_282 : decode cX8_grow 282 = .ok (.iastore, 1) := by decide +kernel
theorem dX8_grow_283 : decode cX8_grow 283 = .ok (.aload_n 0, 1) := by decide +kernel
theorem dX8_grow_284 : decode cX8_grow 284 = .ok (.getfield 66, 3) := by decide +kernel
theorem dX8_grow_287 : decode cX8_grow 287 = .ok (.iload 5, 2) := by decide +kernel
theorem dX8_grow_289 : decode cX8_grow 289 = .ok (.iconst 0, 1) := by decide +kernel
theorem dX8_grow_290 : decode cX8_grow 290 = .ok (.iastore, 1) := by decide +kernel
theorem dX8_grow_291 : decode cX8_grow 291 = .ok (.iload_n 3, 1) := by decide +kernel
theorem dX8_grow_292 : decode cX8_grow 292 = .ok (.istore 9, 2) := by decide +kernel
theorem dX8_grow_294 : decode cX8_grow 294 = .ok (.iload 9, 2) := by decide +kernel
theorem dX8_grow_296 : decode cX8_grow 296 = .ok (.aload_n 0, 1) := by decide +kernel
theorem dX8_grow_297 : decode cX8_grow 297 = .ok (.getfield 177, 3) := by decide +kernel
theorem dX8_grow_300 : decode cX8_grow 300 = .ok (.if_icmp .ge 298, 3) := by decide +kernel
theorem dX8_grow_303 : decode cX8_grow 303 = .ok (.aload_n 0, 1) := by decide +kernel
theorem dX8_grow_304 : decode cX8_grow 304 = .ok (.iload 6, 2) := by decide +kernel
theorem dX8_grow_306 : decode cX8_grow 306 = .ok (.iload 9, 2) := by decide +kernel
theorem dX8_grow_308 : decode cX8_grow 308 = .ok (.invokevirtual 173, 3) := by decide +kernel
theorem dX8_grow_311 : decode cX8_grow 311 = .ok (.istore 10, 2) := by decide +kernel
theorem dX8_grow_313 : decode cX8_grow 313 = .ok (.aload_n 0, 1) := by decide +kernel
theorem dX8_grow_314 : decode cX8_grow 314 = .ok (.getfield 22, 3) := by decide +kernel
theorem dX8_grow_317 : decode cX8_grow 317 = .ok (.iload 9, 2) := by decide +kernel
theorem dX8_grow_319 : decode cX8_grow 319 = .ok (.iaload, 1) := by decide +kernel
theorem dX8_grow_320 : decode cX8_grow 320 = .ok (.istore 11, 2) := by decide +kernel
theorem dX8_grow_322 : decode cX8_grow 322 = .ok (.iload 10, 2) := by decide +kernel
theorem dX8_grow_324 : decode cX8_grow 324 = .ok (.ifCond .ne 28, 3) := by decide +kernel
theorem dX8_grow_327 : decode cX8_grow 327 = .ok (.aload_n 0, 1) := by decide +kernel
theorem dX8_grow_328 : decode cX8_grow 328 = .ok (.dup, 1) := by decide +kernel
theorem dX8_grow_329 : decode cX8_grow 329 = .ok (.getfield 183, 3) := by decide +kernel
theorem dX8_grow_332 : decode cX8_grow 332 = .ok (.iconst 1, 1) := by decide +kernel
theorem dX8_grow_333 : decode cX8_grow 333 = .ok (.iadd, 1) := by decide +kernel
theorem dX8_grow_334 : decode cX8_grow 334 = .ok (.putfield 183, 3) := by decide +kernel
theorem dX8_grow_337 : decode cX8_grow 337 = .ok (.iload_n 2, 1) := by decide +kernel
theorem dX8_grow_338 : decode cX8_grow 338 = .ok (.ifCond .eq 254, 3) := by decide +kernel
theorem dX8_grow_341 : decode cX8_grow 341 = .ok (.aload_n 0, 1) := by decide +kernel
theorem dX8_grow_342 : decode cX8_grow 342 = .ok (.iload 5, 2) := by decide +kernel
theorem dX8_grow_344 : decode cX8_grow 344 = .ok (.iload 9, 2) := by decide +kernel
theorem dX8_grow_346 : decode cX8_grow 346 = .ok (.invokevirtual 205, 3) := by decide +kernel
theorem dX8_grow_349 : decode cX8_grow 349 = .ok (.goto 243, 3) := by decide +kernel
theorem dX8_grow_352 : decode cX8_grow 352 = .ok (.aload_n 0, 1) := by decide +kernel
theorem dX8_grow_353 : decode cX8_grow 353 = .ok (.iload 6, 2) := by decide +kernel
theorem dX8_grow_355 : decode cX8_grow 355 = .ok (.aload_n 0, 1) := by decide +kernel
theorem dX8_grow_356 : decode cX8_grow 356 = .ok (.getfield 7, 3) := by decide +kernel
theorem dX8_grow_359 : decode cX8_grow 359 = .ok (.iload 11, 2) := by decide +kernel
theorem dX8_grow_361 : decode cX8_grow 361 = .ok (.iaload, 1) := by decide +kernel
theorem dX8_grow_362 : decode cX8_grow 362 = .ok (.i2l, 1) := by decide +kernel
theorem dX8_grow_363 : decode cX8_grow 363 = .ok (.aload_n 0, 1) := by decide +kernel
theorem dX8_grow_364 : decode cX8_grow 364 = .ok (.getfield 13, 3) := by decide +kernel
theorem dX8_grow_367 : decode cX8_grow 367 = .ok (.iload 11, 2) := by decide +kernel
theorem dX8_grow_369 : decode cX8_grow 369 = .ok (.iaload, 1) := by decide +kernel
theorem dX8_grow_370 : decode cX8_grow 370 = .ok (.i2l, 1) := by decide +kernel
theorem dX8_grow_371 : decode cX8_grow 371 = .ok (.invokevirtual 153, 3) := by decide +kernel
theorem dX8_grow_374 : decode cX8_grow 374 = .ok (.lneg, 1) := by decide +kernel
theorem dX8_grow_375 : decode cX8_grow 375 = .ok (.lstore 12, 2) := by decide +kernel
theorem dX8_grow_377 : decode cX8_grow 377 = .ok (.aload_n 0, 1) := by decide +kernel
theorem dX8_grow_378 : decode cX8_grow 378 = .ok (.iload 6, 2) := by decide +kernel
theorem dX8_grow_380 : decode cX8_grow 380 = .ok (.iload 11, 2) := by decide +kernel
theorem dX8_grow_382 : decode cX8_grow 382 = .ok (.invokevirtual 157, 3) := by decide +kernel
theorem dX8_grow_385 : decode cX8_grow 385 = .ok (.lstore 14, 2) := by decide +kernel
theorem dX8_grow_387 : decode cX8_grow 387 = .ok (.lload 14, 2) := by decide +kernel
theorem dX8_grow_389 : decode cX8_grow 389 = .ok (.lconst 0, 1) := by decide +kernel
theorem dX8_grow_390 : decode cX8_grow 390 = .ok (.lcmp, 1) := by decide +kernel
theorem dX8_grow_391 : decode cX8_grow 391 = .ok (.ifCond .ge 13, 3) := by decide +kernel
theorem dX8_grow_394 : decode cX8_grow 394 = .ok (.lload 12, 2) := by decide +kernel
theorem dX8_grow_396 : decode cX8_grow 396 = .ok (.lneg, 1) := by decide +kernel
theorem dX8_grow_397 : decode cX8_grow 397 = .ok (.lstore 12, 2) := by decide +kernel
theorem dX8_grow_399 : decode cX8_grow 399 = .ok (.lload 14, 2) := by decide +kernel
theorem dX8_grow_401 : decode cX8_grow 401 = .ok (.lneg, 1) := by decide +kernel
theorem dX8_grow_402 : decode cX8_grow 402 = .ok (.lstore 14, 2) := by decide +kernel
theorem dX8_grow_404 : decode cX8_grow 404 = .ok (.iload 10, 2) := by decide +kernel
theorem dX8_grow_406 : decode cX8_grow 406 = .ok (.iconst 1, 1) := by decide +kernel
theorem dX8_grow_407 : decode cX8_grow 407 = .ok (.if_icmp .ne 45, 3) := by decide +kernel
theorem dX8_grow_410 : decode cX8_grow 410 = .ok (.aload_n 0, 1) := by decide +kernel
theorem dX8_grow_411 : decode cX8_grow 411 = .ok (.iload 7, 2) := by decide +kernel
theorem dX8_grow_413 : decode cX8_grow 413 = .ok (.iload 11, 2) := by decide +kernel
theorem dX8_grow_415 : decode cX8_grow 415 = .ok (.aload_n 0, 1) := by decide +kernel
theorem dX8_grow_416 : decode cX8_grow 416 = .ok (.getfield 25, 3) := by decide +kernel
theorem dX8_grow_419 : decode cX8_grow 419 = .ok (.iload 9, 2) := by decide +kernel
theorem dX8_grow_421 : decode cX8_grow 421 = .ok (.laload, 1) := by decide +kernel
theorem dX8_grow_422 : decode cX8_grow 422 = .ok (.aload_n 0, 1) := by decide +kernel
theorem dX8_grow_423 : decode cX8_grow 423 = .ok (.getfield 29, 3) := by decide +kernel
theorem dX8_grow_426 : decode cX8_grow 426 = .ok (.iload 9, 2) := by decide +kernel
theorem dX8_grow_428 : decode cX8_grow 428 = .ok (.laload, 1) := by decide +kernel
theorem dX8_grow_429 : decode cX8_grow 429 = .ok (.aload_n 0, 1) := by decide +kernel
theorem dX8_grow_430 : decode cX8_grow 430 = .ok (.getfield 32, 3) := by decide +kernel
theorem dX8_grow_433 : decode cX8_grow 433 = .ok (.iload 9, 2) := by decide +kernel
theorem dX8_grow_435 : decode cX8_grow 435 = .ok (.laload, 1) := by decide +kernel
theorem dX8_grow_436 : decode cX8_grow 436 = .ok (.aload_n 0, 1) := by decide +kernel
theorem dX8_grow_437 : decode cX8_grow 437 = .ok (.getfield 35, 3) := by decide +kernel
theorem dX8_grow_440 : decode cX8_grow 440 = .ok (.iload 9, 2) := by decide +kernel
theorem dX8_grow_442 : decode cX8_grow 442 = .ok (.laload, 1) := by decide +kernel
theorem dX8_grow_443 : decode cX8_grow 443 = .ok (.invokevirtual 190, 3) := by decide +kernel
theorem dX8_grow_446 : decode cX8_grow 446 = .ok (.iinc 7 1, 3) := by decide +kernel
theorem dX8_grow_449 : decode cX8_grow 449 = .ok (.goto 143, 3) := by decide +kernel
theorem dX8_grow_452 : decode cX8_grow 452 = .ok (.iload 10, 2) := by decide +kernel
theorem dX8_grow_454 : decode cX8_grow 454 = .ok (.iconst 2, 1) := by decide +kernel
theorem dX8_grow_455 : decode cX8_grow 455 = .ok (.if_icmp .ne 49, 3) := by decide +kernel
theorem dX8_grow_458 : decode cX8_grow 458 = .ok (.aload_n 0, 1) := by decide +kernel
theorem dX8_grow_459 : decode cX8_grow 459 = .ok (.sipush 700, 3) := by decide +kernel
theorem dX8_grow_462 : decode cX8_grow 462 = .ok (.iload 8, 2) := by decide +kernel
theorem dX8_grow_464 : decode cX8_grow 464 = .ok (.iadd, 1) := by decide +kernel
theorem dX8_grow_465 : decode cX8_grow 465 = .ok (.iload 11, 2) := by decide +kernel
theorem dX8_grow_467 : decode cX8_grow 467 = .ok (.aload_n 0, 1) := by decide +kernel
theorem dX8_grow_468 : decode cX8_grow 468 = .ok (.getfield 25, 3) := by decide +kernel
theorem dX8_grow_471 : decode cX8_grow 471 = .ok (.iload 9, 2) := by decide +kernel
theorem dX8_grow_473 : decode cX8_grow 473 = .ok (.laload, 1) := by decide +kernel
theorem dX8_grow_474 : decode cX8_grow 474 = .ok (.aload_n 0, 1) := by decide +kernel
theorem dX8_grow_475 : decode cX8_grow 475 = .ok (.getfield 29, 3) := by decide +kernel
theorem dX8_grow_478 : decode cX8_grow 478 = .ok (.iload 9, 2) := by decide +kernel
theorem dX8_grow_480 : decode cX8_grow 480 = .ok (.laload, 1) := by decide +kernel
theorem dX8_grow_481 : decode cX8_grow 481 = .ok (.aload_n 0, 1) := by decide +kernel
theorem dX8_grow_482 : decode cX8_grow 482 = .ok (.getfield 32, 3) := by decide +kernel
theorem dX8_grow_485 : decode cX8_grow 485 = .ok (.iload 9, 2) := by decide +kernel
theorem dX8_grow_487 : decode cX8_grow 487 = .ok (.laload, 1) := by decide +kernel
theorem dX8_grow_488 : decode cX8_grow 488 = .ok (.aload_n 0, 1) := by decide +kernel
theorem dX8_grow_489 : decode cX8_grow 489 = .ok (.getfield 35, 3) := by decide +kernel
theorem dX8_grow_492 : decode cX8_grow 492 = .ok (.iload 9, 2) := by decide +kernel
theorem dX8_grow_494 : decode cX8_grow 494 = .ok (.laload, 1) := by decide +kernel
theorem dX8_grow_495 : decode cX8_grow 495 = .ok (.invokevirtual 190, 3) := by decide +kernel
theorem dX8_grow_498 : decode cX8_grow 498 = .ok (.iinc 8 1, 3) := by decide +kernel
theorem dX8_grow_501 : decode cX8_grow 501 = .ok (.goto 91, 3) := by decide +kernel
theorem dX8_grow_504 : decode cX8_grow 504 = .ok (.aload_n 0, 1) := by decide +kernel
theorem dX8_grow_505 : decode cX8_grow 505 = .ok (.iload 10, 2) := by decide +kernel
theorem dX8_grow_507 : decode cX8_grow 507 = .ok (.iconst 3, 1) := by decide +kernel
theorem dX8_grow_508 : decode cX8_grow 508 = .ok (.if_icmp .ne 8, 3) := by decide +kernel
theorem dX8_grow_511 : decode cX8_grow 511 = .ok (.iload 7, 2) := by decide +kernel
theorem dX8_grow_513 : decode cX8_grow 513 = .ok (.goto 9, 3) := by decide +kernel
theorem dX8_grow_516 : decode cX8_grow 516 = .ok (.sipush 700, 3) := by decide +kernel
theorem dX8_grow_519 : decode cX8_grow 519 = .ok (.iload 8, 2) := by decide +kernel
theorem dX8_grow_521 : decode cX8_grow 521 = .ok (.iadd, 1) := by decide +kernel
theorem dX8_grow_522 : decode cX8_grow 522 = .ok (.iload 11, 2) := by decide +kernel
theorem dX8_grow_524 : decode cX8_grow 524 = .ok (.aload_n 0, 1) := by decide +kernel
theorem dX8_grow_525 : decode cX8_grow 525 = .ok (.getfield 25, 3) := by decide +kernel
theorem dX8_grow_528 : decode cX8_grow 528 = .ok (.iload 9, 2) := by decide +kernel
theorem dX8_grow_530 : decode cX8_grow 530 = .ok (.laload, 1) := by decide +kernel
theorem dX8_grow_531 : decode cX8_grow 531 = .ok (.aload_n 0, 1) := by decide +kernel
theorem dX8_grow_532 : decode cX8_grow 532 = .ok (.getfield 29, 3) := by decide +kernel
theorem dX8_grow_535 : decode cX8_grow 535 = .ok (.iload 9, 2) := by decide +kernel
theorem dX8_grow_537 : decode cX8_grow 537 = .ok (.laload, 1) := by decide +kernel
theorem dX8_grow_538 : decode cX8_grow 538 = .ok (.lload 12, 2) := by decide +kernel
theorem dX8_grow_540 : decode cX8_grow 540 = .ok (.lload 14, 2) := by decide +kernel
theorem dX8_grow_542 : decode cX8_grow 542 = .ok (.invokevirtual 190, 3) := by decide +kernel
theorem dX8_grow_545 : decode cX8_grow 545 = .ok (.aload_n 0, 1) := by decide +kernel
theorem dX8_grow_546 : decode cX8_grow 546 = .ok (.iload 10, 2) := by decide +kernel
theorem dX8_grow_548 : decode cX8_grow 548 = .ok (.iconst 3, 1) := by decide +kernel
theorem dX8_grow_549 : decode cX8_grow 549 = .ok (.if_icmp .ne 12, 3) := by decide +kernel
theorem dX8_grow_552 : decode cX8_grow 552 = .ok (.sipush 700, 3) := by decide +kernel
theorem dX8_grow_555 : decode cX8_grow 555 = .ok (.iload 8, 2) := by decide +kernel
theorem dX8_grow_557 : decode cX8_grow 557 = .ok (.iadd, 1) := by decide +kernel
theorem dX8_grow_558 : decode cX8_grow 558 = .ok (.goto 5, 3) := by decide +kernel
theorem dX8_grow_561 : decode cX8_grow 561 = .ok (.iload 7, 2) := by decide +kernel
theorem dX8_grow_563 : decode cX8_grow 563 = .ok (.iload 11, 2) := by decide +kernel
theorem dX8_grow_565 : decode cX8_grow 565 = .ok (.lload 12, 2) := by decide +kernel
theorem dX8_grow_567 : decode cX8_grow 567 = .ok (.lload 14, 2) := by decide +kernel
theorem dX8_grow_569 : decode cX8_grow 569 = .ok (.aload_n 0, 1) := by decide +kernel
theorem dX8_grow_570 : decode cX8_grow 570 = .ok (.getfield 32, 3) := by decide +kernel
theorem dX8_grow_573 : decode cX8_grow 573 = .ok (.iload 9, 2) := by decide +kernel
theorem dX8_grow_575 : decode cX8_grow 575 = .ok (.laload, 1) := by decide +kernel
theorem dX8_grow_576 : decode cX8_grow 576 = .ok (.aload_n 0, 1) := by decide +kernel
theorem dX8_grow_577 : decode cX8_grow 577 = .ok (.getfield 35, 3) := by decide +kernel
theorem dX8_grow_580 : decode cX8_grow 580 = .ok (.iload 9, 2) := by decide +kernel
theorem dX8_grow_582 : decode cX8_grow 582 = .ok (.laload, 1) := by decide +kernel
theorem dX8_grow_583 : decode cX8_grow 583 = .ok (.invokevirtual 190, 3) := by decide +kernel
theorem dX8_grow_586 : decode cX8_grow 586 = .ok (.iinc 7 1, 3) := by decide +kernel
theorem dX8_grow_589 : decode cX8_grow 589 = .ok (.iinc 8 1, 3) := by decide +kernel
theorem dX8_grow_592 : decode cX8_grow 592 = .ok (.iinc 9 1, 3) := by decide +kernel
theorem dX8_grow_595 : decode cX8_grow 595 = .ok (.goto (-301), 3) := by decide +kernel
theorem dX8_grow_598 : decode cX8_grow 598 = .ok (.aload_n 0, 1) := by decide +kernel
theorem dX8_grow_599 : decode cX8_grow 599 = .ok (.iload_n 3, 1) := by decide +kernel
theorem dX8_grow_600 : decode cX8_grow 600 = .ok (.putfield 177, 3) := by decide +kernel
theorem dX8_grow_603 : decode cX8_grow 603 = .ok (.aload_n 0, 1) := by decide +kernel
theorem dX8_grow_604 : decode cX8_grow 604 = .ok (.iload 5, 2) := by decide +kernel
theorem dX8_grow_606 : decode cX8_grow 606 = .ok (.iconst 0, 1) := by decide +kernel
theorem dX8_grow_607 : decode cX8_grow 607 = .ok (.invokevirtual 186, 3) := by decide +kernel
theorem dX8_grow_610 : decode cX8_grow 610 = .ok (.iconst 0, 1) := by decide +kernel
theorem dX8_grow_611 : decode cX8_grow 611 = .ok (.istore 9, 2) := by decide +kernel
theorem dX8_grow_613 : decode cX8_grow 613 = .ok (.iload 9, 2) := by decide +kernel
theorem dX8_grow_615 : decode cX8_grow 615 = .ok (.iload 8, 2) := by decide +kernel
theorem dX8_grow_617 : decode cX8_grow 617 = .ok (.if_icmp .ge 19, 3) := by decide +kernel
theorem dX8_grow_620 : decode cX8_grow 620 = .ok (.aload_n 0, 1) := by decide +kernel
theorem dX8_grow_621 : decode cX8_grow 621 = .ok (.sipush 700, 3) := by decide +kernel
theorem dX8_grow_624 : decode cX8_grow 624 = .ok (.iload 9, 2) := by decide +kernel
theorem dX8_grow_626 : decode cX8_grow 626 = .ok (.iadd, 1) := by decide +kernel
theorem dX8_grow_627 : decode cX8_grow 627 = .ok (.invokevirtual 194, 3) := by decide +kernel
theorem dX8_grow_630 : decode cX8_grow 630 = .ok (.iinc 9 1, 3) := by decide +kernel
theorem dX8_grow_633 : decode cX8_grow 633 = .ok (.goto (-20), 3) := by decide +kernel
theorem dX8_grow_636 : decode cX8_grow 636 = .ok (.aload_n 0, 1) := by decide +kernel
theorem dX8_grow_637 : decode cX8_grow 637 = .ok (.iload 5, 2) := by decide +kernel
theorem dX8_grow_639 : decode cX8_grow 639 = .ok (.iconst 1, 1) := by decide +kernel
theorem dX8_grow_640 : decode cX8_grow 640 = .ok (.invokevirtual 186, 3) := by decide +kernel
theorem dX8_grow_643 : decode cX8_grow 643 = .ok (.iconst 0, 1) := by decide +kernel
theorem dX8_grow_644 : decode cX8_grow 644 = .ok (.istore 9, 2) := by decide +kernel
theorem dX8_grow_646 : decode cX8_grow 646 = .ok (.iload 9, 2) := by decide +kernel
theorem dX8_grow_648 : decode cX8_grow 648 = .ok (.iload 7, 2) := by decide +kernel
theorem dX8_grow_650 : decode cX8_grow 650 = .ok (.if_icmp .ge 15, 3) := by decide +kernel
theorem dX8_grow_653 : decode cX8_grow 653 = .ok (.aload_n 0, 1) := by decide +kernel
theorem dX8_grow_654 : decode cX8_grow 654 = .ok (.iload 9, 2) := by decide +kernel
theorem dX8_grow_656 : decode cX8_grow 656 = .ok (.invokevirtual 194, 3) := by decide +kernel
theorem dX8_grow_659 : decode cX8_grow 659 = .ok (.iinc 9 1, 3) := by decide +kernel
theorem dX8_grow_662 : decode cX8_grow 662 = .ok (.goto (-16), 3) := by decide +kernel
theorem dX8_grow_665 : decode cX8_grow 665 = .ok (.goto (-608), 3) := by decide +kernel
theorem dX8_grow_668 : decode cX8_grow 668 = .ok (.return_, 1) := by decide +kernel
theorem dX8_keep_0 : decode cX8_keep 0 = .ok (.aload_n 0, 1) := by decide +kernel
theorem dX8_keep_1 : decode cX8_keep 1 = .ok (.getfield 81, 3) := by decide +kernel
theorem dX8_keep_4 : decode cX8_keep 4 = .ok (.aload_n 0, 1) := by decide +kernel
theorem dX8_keep_5 : decode cX8_keep 5 = .ok (.getfield 147, 3) := by decide +kernel
theorem dX8_keep_8 : decode cX8_keep 8 = .ok (.aload_n 0, 1) := by decide +kernel
theorem dX8_keep_9 : decode cX8_keep 9 = .ok (.getfield 22, 3) := by decide +kernel
theorem dX8_keep_12 : decode cX8_keep 12 = .ok (.iload_n 2, 1) := by decide +kernel
theorem dX8_keep_13 : decode cX8_keep 13 = .ok (.iaload, 1) := by decide +kernel
theorem dX8_keep_14 : decode cX8_keep 14 = .ok (.iastore, 1) := by decide +kernel
theorem dX8_keep_15 : decode cX8_keep 15 = .ok (.aload_n 0, 1) := by decide +kernel
theorem dX8_keep_16 : decode cX8_keep 16 = .ok (.getfield 84, 3) := by decide +kernel
theorem dX8_keep_19 : decode cX8_keep 19 = .ok (.aload_n 0, 1) := by decide +kernel
theorem dX8_keep_20 : decode cX8_keep 20 = .ok (.getfield 147, 3) := by decide +kernel
theorem dX8_keep_23 : decode cX8_keep 23 = .ok (.iload_n 1, 1) := by decide +kernel
theorem dX8_keep_24 : decode cX8_keep 24 = .ok (.iastore, 1) := by decide +kernel
theorem dX8_keep_25 : decode cX8_keep 25 = .ok (.aload_n 0, 1) := by decide +kernel
theorem dX8_keep_26 : decode cX8_keep 26 = .ok (.getfield 87, 3) := by decide +kernel
theorem dX8_keep_29 : decode cX8_keep 29 = .ok (.aload_n 0, 1) := by decide +kernel
theorem dX8_keep_30 : decode cX8_keep 30 = .ok (.getfield 147, 3) := by decide +kernel
theorem dX8_keep_33 : decode cX8_keep 33 = .ok (.aload_n 0, 1) := by decide +kernel
theorem dX8_keep_34 : decode cX8_keep 34 = .ok (.getfield 25, 3) := by decide +kernel
theorem dX8_keep_37 : decode cX8_keep 37 = .ok (.iload_n 2, 1) := by decide +kernel
theorem dX8_keep_38 : decode cX8_keep 38 = .ok (.laload, 1) := by decide +kernel
theorem dX8_keep_39 : decode cX8_keep 39 = .ok (.lastore, 1) := by decide +kernel
theorem dX8_keep_40 : decode cX8_keep 40 = .ok (.aload_n 0, 1) := by decide +kernel
theorem dX8_keep_41 : decode cX8_keep 41 = .ok (.getfield 90, 3) := by decide +kernel
theorem dX8_keep_44 : decode cX8_keep 44 = .ok (.aload_n 0, 1) := by decide +kernel
theorem dX8_keep_45 : decode cX8_keep 45 = .ok (.getfield 147, 3) := by decide +kernel
theorem dX8_keep_48 : decode cX8_keep 48 = .ok (.aload_n 0, 1) := by decide +kernel
theorem dX8_keep_49 : decode cX8_keep 49 = .ok (.getfield 29, 3) := by decide +kernel
theorem dX8_keep_52 : decode cX8_keep 52 = .ok (.iload_n 2, 1) := by decide +kernel
theorem dX8_keep_53 : decode cX8_keep 53 = .ok (.laload, 1) := by decide +kernel
theorem dX8_keep_54 : decode cX8_keep 54 = .ok (.lastore, 1) := by decide +kernel
theorem dX8_keep_55 : decode cX8_keep 55 = .ok (.aload_n 0, 1) := by decide +kernel
theorem dX8_keep_56 : decode cX8_keep 56 = .ok (.getfield 93, 3) := by decide +kernel
theorem dX8_keep_59 : decode cX8_keep 59 = .ok (.aload_n 0, 1) := by decide +kernel
theorem dX8_keep_60 : decode cX8_keep 60 = .ok (.getfield 147, 3) := by decide +kernel
theorem dX8_keep_63 : decode cX8_keep 63 = .ok (.aload_n 0, 1) := by decide +kernel
theorem dX8_keep_64 : decode cX8_keep 64 = .ok (.getfield 32, 3) := by decide +kernel
theorem dX8_keep_67 : decode cX8_keep 67 = .ok (.iload_n 2, 1) := by decide +kernel
theorem dX8_keep_68 : decode cX8_keep 68 = .ok (.laload, 1) := by decide +kernel
theorem dX8_keep_69 : decode cX8_keep 69 = .ok (.lastore, 1) := by decide +kernel
theorem dX8_keep_70 : decode cX8_keep 70 = .ok (.aload_n 0, 1) := by decide +kernel
theorem dX8_keep_71 : decode cX8_keep 71 = .ok (.getfield 96, 3) := by decide +kernel
theorem dX8_keep_74 : decode cX8_keep 74 = .ok (.aload_n 0, 1) := by decide +kernel
theorem dX8_keep_75 : decode cX8_keep 75 = .ok (.getfield 147, 3) := by decide +kernel
theorem dX8_keep_78 : decode cX8_keep 78 = .ok (.aload_n 0, 1) := by decide +kernel
theorem dX8_keep_79 : decode cX8_keep 79 = .ok (.getfield 35, 3) := by decide +kernel
theorem dX8_keep_82 : decode cX8_keep 82 = .ok (.iload_n 2, 1) := by decide +kernel
theorem dX8_keep_83 : decode cX8_keep 83 = .ok (.laload, 1) := by decide +kernel
theorem dX8_keep_84 : decode cX8_keep 84 = .ok (.lastore, 1) := by decide +kernel
theorem dX8_keep_85 : decode cX8_keep 85 = .ok (.aload_n 0, 1) := by decide +kernel
theorem dX8_keep_86 : decode cX8_keep 86 = .ok (.dup, 1) := by decide +kernel
theorem dX8_keep_87 : decode cX8_keep 87 = .ok (.getfield 147, 3) := by decide +kernel
theorem dX8_keep_90 : decode cX8_keep 90 = .ok (.iconst 1, 1) := by decide +kernel
theorem dX8_keep_91 : decode cX8_keep 91 = .ok (.iadd, 1) := by decide +kernel
theorem dX8_keep_92 : decode cX8_keep 92 = .ok (.putfield 147, 3) := by decide +kernel
theorem dX8_keep_95 : decode cX8_keep 95 = .ok (.aload_n 0, 1) := by decide +kernel
theorem dX8_keep_96 : decode cX8_keep 96 = .ok (.getfield 66, 3) := by decide +kernel
theorem dX8_keep_99 : decode cX8_keep 99 = .ok (.iload_n 1, 1) := by decide +kernel
theorem dX8_keep_100 : decode cX8_keep 100 = .ok (.dup2, 1) := by decide +kernel
theorem dX8_keep_101 : decode cX8_keep 101 = .ok (.iaload, 1) := by decide +kernel
theorem dX8_keep_102 : decode cX8_keep 102 = .ok (.iconst 1, 1) := by decide +kernel
theorem dX8_keep_103 : decode cX8_keep 103 = .ok (.iadd, 1) := by decide +kernel
theorem dX8_keep_104 : decode cX8_keep 104 = .ok (.iastore, 1) := by decide +kernel
theorem dX8_keep_105 : decode cX8_keep 105 = .ok (.return_, 1) := by decide +kernel
theorem dX8_build_0 : decode cX8_build 0 = .ok (.aload_n 0, 1) := by decide +kernel
theorem dX8_build_1 : decode cX8_build 1 = .ok (.iconst 0, 1) := by decide +kernel
theorem dX8_build_2 : decode cX8_build 2 = .ok (.putfield 123, 3) := by decide +kernel
theorem dX8_build_5 : decode cX8_build 5 = .ok (.iload_n 1, 1) := by decide +kernel
theorem dX8_build_6 : decode cX8_build 6 = .ok (.ifCond .lt 8, 3) := by decide +kernel
theorem dX8_build_9 : decode cX8_build 9 = .ok (.iload_n 1, 1) := by decide +kernel
theorem dX8_build_10 : decode cX8_build 10 = .ok (.iconst 3, 1) := by decide +kernel
theorem dX8_build_11 : decode cX8_build 11 = .ok (.if_icmp .le 5, 3) := by decide +kernel
theorem dX8_build_14 : decode cX8_build 14 = .ok (.iconst (-1), 1) := by decide +kernel
theorem dX8_build_15 : decode cX8_build 15 = .ok (.ireturn, 1) := by decide +kernel
theorem dX8_build_16 : decode cX8_build 16 = .ok (.aload_n 0, 1) := by decide +kernel
theorem dX8_build_17 : decode cX8_build 17 = .ok (.invokevirtual 134, 3) := by decide +kernel
theorem dX8_build_20 : decode cX8_build 20 = .ok (.aload_n 0, 1) := by decide +kernel
theorem dX8_build_21 : decode cX8_build 21 = .ok (.iconst 1, 1) := by decide +kernel
theorem dX8_build_22 : decode cX8_build 22 = .ok (.putfield 137, 3) := by decide +kernel
theorem dX8_build_25 : decode cX8_build 25 = .ok (.aload_n 0, 1) := by decide +kernel
theorem dX8_build_26 : decode cX8_build 26 = .ok (.iload_n 2, 1) := by decide +kernel
theorem dX8_build_27 : decode cX8_build 27 = .ok (.putfield 170, 3) := by decide +kernel
theorem dX8_build_30 : decode cX8_build 30 = .ok (.iconst 0, 1) := by decide +kernel
theorem dX8_build_31 : decode cX8_build 31 = .ok (.istore_n 3, 1) := by decide +kernel
theorem dX8_build_32 : decode cX8_build 32 = .ok (.iload_n 3, 1) := by decide +kernel
theorem dX8_build_33 : decode cX8_build 33 = .ok (.bipush 24, 2) := by decide +kernel
theorem dX8_build_35 : decode cX8_build 35 = .ok (.if_icmp .ge 16, 3) := by decide +kernel
theorem dX8_build_38 : decode cX8_build 38 = .ok (.aload_n 0, 1) := by decide +kernel
theorem dX8_build_39 : decode cX8_build 39 = .ok (.getfield 99, 3) := by decide +kernel
theorem dX8_build_42 : decode cX8_build 42 = .ok (.iload_n 3, 1) := by decide +kernel
theorem dX8_build_43 : decode cX8_build 43 = .ok (.iload_n 3, 1) := by decide +kernel
theorem dX8_build_44 : decode cX8_build 44 = .ok (.iastore, 1) := by decide +kernel
theorem dX8_build_45 : decode cX8_build 45 = .ok (.iinc 3 1, 3) := by decide +kernel
theorem dX8_build_48 : decode cX8_build 48 = .ok (.goto (-16), 3) := by decide +kernel
theorem dX8_build_51 : decode cX8_build 51 = .ok (.aload_n 0, 1) := by decide +kernel
theorem dX8_build_52 : decode cX8_build 52 = .ok (.iload_n 1, 1) := by decide +kernel
theorem dX8_build_53 : decode cX8_build 53 = .ok (.iconst 1, 1) := by decide +kernel
theorem dX8_build_54 : decode cX8_build 54 = .ok (.invokevirtual 209, 3) := by decide +kernel
theorem dX8_build_57 : decode cX8_build 57 = .ok (.aload_n 0, 1) := by decide +kernel
theorem dX8_build_58 : decode cX8_build 58 = .ok (.getfield 141, 3) := by decide +kernel
theorem dX8_build_61 : decode cX8_build 61 = .ok (.ireturn, 1) := by decide +kernel
theorem dX8_fails_0 : decode cX8_fails 0 = .ok (.aload_n 0, 1) := by decide +kernel
theorem dX8_fails_1 : decode cX8_fails 1 = .ok (.iload_n 1, 1) := by decide +kernel
theorem dX8_fails_2 : decode cX8_fails 2 = .ok (.putfield 123, 3) := by decide +kernel
theorem dX8_fails_5 : decode cX8_fails 5 = .ok (.iconst 0, 1) := by decide +kernel
theorem dX8_fails_6 : decode cX8_fails 6 = .ok (.ireturn, 1) := by decide +kernel
theorem dX8_look_0 : decode cX8_look 0 = .ok (.aload_n 0, 1) := by decide +kernel
theorem dX8_look_1 : decode cX8_look 1 = .ok (.iconst 0, 1) := by decide +kernel
theorem dX8_look_2 : decode cX8_look 2 = .ok (.putfield 123, 3) := by decide +kernel
theorem dX8_look_5 : decode cX8_look 5 = .ok (.iload_n 1, 1) := by decide +kernel
theorem dX8_look_6 : decode cX8_look 6 = .ok (.ifCond .lt 11, 3) := by decide +kernel
theorem dX8_look_9 : decode cX8_look 9 = .ok (.iload_n 1, 1) := by decide +kernel
theorem dX8_look_10 : decode cX8_look 10 = .ok (.aload_n 0, 1) := by decide +kernel
theorem dX8_look_11 : decode cX8_look 11 = .ok (.getfield 127, 3) := by decide +kernel
theorem dX8_look_14 : decode cX8_look 14 = .ok (.if_icmp .lt 9, 3) := by decide +kernel
theorem dX8_look_17 : decode cX8_look 17 = .ok (.aload_n 0, 1) := by decide +kernel
theorem dX8_look_18 : decode cX8_look 18 = .ok (.iconst 1, 1) := by decide +kernel
theorem dX8_look_19 : decode cX8_look 19 = .ok (.invokevirtual 212, 3) := by decide +kernel
theorem dX8_look_22 : decode cX8_look 22 = .ok (.ireturn, 1) := by decide +kernel
theorem dX8_look_23 : decode cX8_look 23 = .ok (.iload_n 2, 1) := by decide +kernel
theorem dX8_look_24 : decode cX8_look 24 = .ok (.tableswitch 119 0 4 #[36, 43, 50, 64, 78], 36) := by decide +kernel
theorem dX8_look_60 : decode cX8_look 60 = .ok (.aload_n 0, 1) := by decide +kernel
theorem dX8_look_61 : decode cX8_look 61 = .ok (.getfield 7, 3) := by decide +kernel
theorem dX8_look_64 : decode cX8_look 64 = .ok (.iload_n 1, 1) := by decide +kernel
theorem dX8_look_65 : decode cX8_look 65 = .ok (.iaload, 1) := by decide +kernel
theorem dX8_look_66 : decode cX8_look 66 = .ok (.ireturn, 1) := by decide +kernel
theorem dX8_look_67 : decode cX8_look 67 = .ok (.aload_n 0, 1) := by decide +kernel
theorem dX8_look_68 : decode cX8_look 68 = .ok (.getfield 13, 3) := by decide +kernel
theorem dX8_look_71 : decode cX8_look 71 = .ok (.iload_n 1, 1) := by decide +kernel
theorem dX8_look_72 : decode cX8_look 72 = .ok (.iaload, 1) := by decide +kernel
theorem dX8_look_73 : decode cX8_look 73 = .ok (.ireturn, 1) := by decide +kernel
theorem dX8_look_74 : decode cX8_look 74 = .ok (.aload_n 0, 1) := by decide +kernel
theorem dX8_look_75 : decode cX8_look 75 = .ok (.getfield 7, 3) := by decide +kernel
theorem dX8_look_78 : decode cX8_look 78 = .ok (.iload_n 1, 1) := by decide +kernel
theorem dX8_look_79 : decode cX8_look 79 = .ok (.iaload, 1) := by decide +kernel
theorem dX8_look_80 : decode cX8_look 80 = .ok (.aload_n 0, 1) := by decide +kernel
theorem dX8_look_81 : decode cX8_look 81 = .ok (.getfield 16, 3) := by decide +kernel
theorem dX8_look_84 : decode cX8_look 84 = .ok (.iload_n 1, 1) := by decide +kernel
theorem dX8_look_85 : decode cX8_look 85 = .ok (.iaload, 1) := by decide +kernel
theorem dX8_look_86 : decode cX8_look 86 = .ok (.iadd, 1) := by decide +kernel
theorem dX8_look_87 : decode cX8_look 87 = .ok (.ireturn, 1) := by decide +kernel
theorem dX8_look_88 : decode cX8_look 88 = .ok (.aload_n 0, 1) := by decide +kernel
theorem dX8_look_89 : decode cX8_look 89 = .ok (.getfield 13, 3) := by decide +kernel
theorem dX8_look_92 : decode cX8_look 92 = .ok (.iload_n 1, 1) := by decide +kernel
theorem dX8_look_93 : decode cX8_look 93 = .ok (.iaload, 1) := by decide +kernel
theorem dX8_look_94 : decode cX8_look 94 = .ok (.aload_n 0, 1) := by decide +kernel
theorem dX8_look_95 : decode cX8_look 95 = .ok (.getfield 19, 3) := by decide +kernel
theorem dX8_look_98 : decode cX8_look 98 = .ok (.iload_n 1, 1) := by decide +kernel
theorem dX8_look_99 : decode cX8_look 99 = .ok (.iaload, 1) := by decide +kernel
theorem dX8_look_100 : decode cX8_look 100 = .ok (.iadd, 1) := by decide +kernel
theorem dX8_look_101 : decode cX8_look 101 = .ok (.ireturn, 1) := by decide +kernel
theorem dX8_look_102 : decode cX8_look 102 = .ok (.iconst 0, 1) := by decide +kernel
theorem dX8_look_103 : decode cX8_look 103 = .ok (.istore_n 3, 1) := by decide +kernel
theorem dX8_look_104 : decode cX8_look 104 = .ok (.iconst 0, 1) := by decide +kernel
theorem dX8_look_105 : decode cX8_look 105 = .ok (.istore 4, 2) := by decide +kernel
theorem dX8_look_107 : decode cX8_look 107 = .ok (.iload 4, 2) := by decide +kernel
theorem dX8_look_109 : decode cX8_look 109 = .ok (.aload_n 0, 1) := by decide +kernel
theorem dX8_look_110 : decode cX8_look 110 = .ok (.getfield 147, 3) := by decide +kernel
theorem dX8_look_113 : decode cX8_look 113 = .ok (.if_icmp .ge 28, 3) := by decide +kernel
theorem dX8_look_116 : decode cX8_look 116 = .ok (.iload_n 3, 1) := by decide +kernel
theorem dX8_look_117 : decode cX8_look 117 = .ok (.aload_n 0, 1) := by decide +kernel
theorem dX8_look_118 : decode cX8_look 118 = .ok (.getfield 81, 3) := by decide +kernel
theorem dX8_look_121 : decode cX8_look 121 = .ok (.iload 4, 2) := by decide +kernel
theorem dX8_look_123 : decode cX8_look 123 = .ok (.iaload, 1) := by decide +kernel
theorem dX8_look_124 : decode cX8_look 124 = .ok (.iload_n 1, 1) := by decide +kernel
theorem dX8_look_125 : decode cX8_look 125 = .ok (.if_icmp .ne 7, 3) := by decide +kernel
theorem dX8_look_128 : decode cX8_look 128 = .ok (.iconst 1, 1) := by decide +kernel
theorem dX8_look_129 : decode cX8_look 129 = .ok (.goto 4, 3) := by decide +kernel
theorem dX8_look_132 : decode cX8_look 132 = .ok (.iconst 0, 1) := by decide +kernel
theorem dX8_look_133 : decode cX8_look 133 = .ok (.iadd, 1) := by decide +kernel
theorem dX8_look_134 : decode cX8_look 134 = .ok (.istore_n 3, 1) := by decide +kernel
theorem dX8_look_135 : decode cX8_look 135 = .ok (.iinc 4 1, 3) := by decide +kernel
theorem dX8_look_138 : decode cX8_look 138 = .ok (.goto (-31), 3) := by decide +kernel
theorem dX8_look_141 : decode cX8_look 141 = .ok (.iload_n 3, 1) := by decide +kernel
theorem dX8_look_142 : decode cX8_look 142 = .ok (.ireturn, 1) := by decide +kernel
theorem dX8_look_143 : decode cX8_look 143 = .ok (.aload_n 0, 1) := by decide +kernel
theorem dX8_look_144 : decode cX8_look 144 = .ok (.iconst 2, 1) := by decide +kernel
theorem dX8_look_145 : decode cX8_look 145 = .ok (.invokevirtual 212, 3) := by decide +kernel
theorem dX8_look_148 : decode cX8_look 148 = .ok (.ireturn, 1) := by decide +kernel
theorem dX8_deepest_0 : decode cX8_deepest 0 = .ok (.iconst 0, 1) := by decide +kernel
theorem dX8_deepest_1 : decode cX8_deepest 1 = .ok (.istore_n 1, 1) := by decide +kernel
theorem dX8_deepest_2 : decode cX8_deepest 2 = .ok (.iconst 0, 1) := by decide +kernel
theorem dX8_deepest_3 : decode cX8_deepest 3 = .ok (.istore_n 2, 1) := by decide +kernel
theorem dX8_deepest_4 : decode cX8_deepest 4 = .ok (.iload_n 2, 1) := by decide +kernel
theorem dX8_deepest_5 : decode cX8_deepest 5 = .ok (.aload_n 0, 1) := by decide +kernel
theorem dX8_deepest_6 : decode cX8_deepest 6 = .ok (.getfield 141, 3) := by decide +kernel
theorem dX8_deepest_9 : decode cX8_deepest 9 = .ok (.if_icmp .ge 45, 3) := by decide +kernel
theorem dX8_deepest_12 : decode cX8_deepest 12 = .ok (.iconst 0, 1) := by decide +kernel
theorem dX8_deepest_13 : decode cX8_deepest 13 = .ok (.istore_n 3, 1) := by decide +kernel
theorem dX8_deepest_14 : decode cX8_deepest 14 = .ok (.iload_n 2, 1) := by decide +kernel
theorem dX8_deepest_15 : decode cX8_deepest 15 = .ok (.istore 4, 2) := by decide +kernel
theorem dX8_deepest_17 : decode cX8_deepest 17 = .ok (.iload 4, 2) := by decide +kernel
theorem dX8_deepest_19 : decode cX8_deepest 19 = .ok (.ifCond .lt 18, 3) := by decide +kernel
theorem dX8_deepest_22 : decode cX8_deepest 22 = .ok (.iinc 3 1, 3) := by decide +kernel
theorem dX8_deepest_25 : decode cX8_deepest 25 = .ok (.aload_n 0, 1) := by decide +kernel
theorem dX8_deepest_26 : decode cX8_deepest 26 = .ok (.getfield 78, 3) := by decide +kernel
theorem dX8_deepest_29 : decode cX8_deepest 29 = .ok (.iload 4, 2) := by decide +kernel
theorem dX8_deepest_31 : decode cX8_deepest 31 = .ok (.iaload, 1) := by decide +kernel
theorem dX8_deepest_32 : decode cX8_deepest 32 = .ok (.istore 4, 2) := by decide +kernel
theorem dX8_deepest_34 : decode cX8_deepest 34 = .ok (.goto (-17), 3) := by decide +kernel
theorem dX8_deepest_37 : decode cX8_deepest 37 = .ok (.iload_n 3, 1) := by decide +kernel
theorem dX8_deepest_38 : decode cX8_deepest 38 = .ok (.iload_n 1, 1) := by decide +kernel
theorem dX8_deepest_39 : decode cX8_deepest 39 = .ok (.if_icmp .le 7, 3) := by decide +kernel
theorem dX8_deepest_42 : decode cX8_deepest 42 = .ok (.iload_n 3, 1) := by decide +kernel
theorem dX8_deepest_43 : decode cX8_deepest 43 = .ok (.goto 4, 3) := by decide +kernel
theorem dX8_deepest_46 : decode cX8_deepest 46 = .ok (.iload_n 1, 1) := by decide +kernel
theorem dX8_deepest_47 : decode cX8_deepest 47 = .ok (.istore_n 1, 1) := by decide +kernel
theorem dX8_deepest_48 : decode cX8_deepest 48 = .ok (.iinc 2 1, 3) := by decide +kernel
theorem dX8_deepest_51 : decode cX8_deepest 51 = .ok (.goto (-47), 3) := by decide +kernel
theorem dX8_deepest_54 : decode cX8_deepest 54 = .ok (.iload_n 1, 1) := by decide +kernel
theorem dX8_deepest_55 : decode cX8_deepest 55 = .ok (.ireturn, 1) := by decide +kernel
theorem dX8_count_0 : decode cX8_count 0 = .ok (.aload_n 0, 1) := by decide +kernel
theorem dX8_count_1 : decode cX8_count 1 = .ok (.iconst 0, 1) := by decide +kernel
theorem dX8_count_2 : decode cX8_count 2 = .ok (.putfield 123, 3) := by decide +kernel
theorem dX8_count_5 : decode cX8_count 5 = .ok (.iload_n 1, 1) := by decide +kernel
theorem dX8_count_6 : decode cX8_count 6 = .ok (.tableswitch 84 0 5 #[38, 43, 48, 53, 58, 63], 38) := by decide +kernel
theorem dX8_count_44 : decode cX8_count 44 = .ok (.aload_n 0, 1) := by decide +kernel
theorem dX8_count_45 : decode cX8_count 45 = .ok (.getfield 127, 3) := by decide +kernel
theorem dX8_count_48 : decode cX8_count 48 = .ok (.ireturn, 1) := by decide +kernel
theorem dX8_count_49 : decode cX8_count 49 = .ok (.aload_n 0, 1) := by decide +kernel
theorem dX8_count_50 : decode cX8_count 50 = .ok (.getfield 141, 3) := by decide +kernel
theorem dX8_count_53 : decode cX8_count 53 = .ok (.ireturn, 1) := by decide +kernel
theorem dX8_count_54 : decode cX8_count 54 = .ok (.aload_n 0, 1) := by decide +kernel
theorem dX8_count_55 : decode cX8_count 55 = .ok (.getfield 147, 3) := by decide +kernel
theorem dX8_count_58 : decode cX8_count 58 = .ok (.ireturn, 1) := by decide +kernel
theorem dX8_count_59 : decode cX8_count 59 = .ok (.aload_n 0, 1) := by decide +kernel
theorem dX8_count_60 : decode cX8_count 60 = .ok (.getfield 144, 3) := by decide +kernel
theorem dX8_count_63 : decode cX8_count 63 = .ok (.ireturn, 1) := by decide +kernel
theorem dX8_count_64 : decode cX8_count 64 = .ok (.aload_n 0, 1) := by decide +kernel
theorem dX8_count_65 : decode cX8_count 65 = .ok (.invokevirtual 216, 3) := by decide +kernel
theorem dX8_count_68 : decode cX8_count 68 = .ok (.ireturn, 1) := by decide +kernel
theorem dX8_count_69 : decode cX8_count 69 = .ok (.aload_n 0, 1) := by decide +kernel
theorem dX8_count_70 : decode cX8_count 70 = .ok (.getfield 137, 3) := by decide +kernel
theorem dX8_count_73 : decode cX8_count 73 = .ok (.ifCond .eq 15, 3) := by decide +kernel
theorem dX8_count_76 : decode cX8_count 76 = .ok (.aload_n 0, 1) := by decide +kernel
theorem dX8_count_77 : decode cX8_count 77 = .ok (.getfield 147, 3) := by decide +kernel
theorem dX8_count_80 : decode cX8_count 80 = .ok (.aload_n 0, 1) := by decide +kernel
theorem dX8_count_81 : decode cX8_count 81 = .ok (.getfield 127, 3) := by decide +kernel
theorem dX8_count_84 : decode cX8_count 84 = .ok (.isub, 1) := by decide +kernel
theorem dX8_count_85 : decode cX8_count 85 = .ok (.goto 4, 3) := by decide +kernel
theorem dX8_count_88 : decode cX8_count 88 = .ok (.iconst 0, 1) := by decide +kernel
theorem dX8_count_89 : decode cX8_count 89 = .ok (.ireturn, 1) := by decide +kernel
theorem dX8_count_90 : decode cX8_count 90 = .ok (.iconst (-1), 1) := by decide +kernel
theorem dX8_count_91 : decode cX8_count 91 = .ok (.ireturn, 1) := by decide +kernel
theorem dX8_knot_0 : decode cX8_knot 0 = .ok (.aload_n 0, 1) := by decide +kernel
theorem dX8_knot_1 : decode cX8_knot 1 = .ok (.iconst 0, 1) := by decide +kernel
theorem dX8_knot_2 : decode cX8_knot 2 = .ok (.putfield 123, 3) := by decide +kernel
theorem dX8_knot_5 : decode cX8_knot 5 = .ok (.iload_n 1, 1) := by decide +kernel
theorem dX8_knot_6 : decode cX8_knot 6 = .ok (.ifCond .lt 11, 3) := by decide +kernel
theorem dX8_knot_9 : decode cX8_knot 9 = .ok (.iload_n 1, 1) := by decide +kernel
theorem dX8_knot_10 : decode cX8_knot 10 = .ok (.aload_n 0, 1) := by decide +kernel
theorem dX8_knot_11 : decode cX8_knot 11 = .ok (.getfield 141, 3) := by decide +kernel
theorem dX8_knot_14 : decode cX8_knot 14 = .ok (.if_icmp .lt 9, 3) := by decide +kernel
theorem dX8_knot_17 : decode cX8_knot 17 = .ok (.aload_n 0, 1) := by decide +kernel
theorem dX8_knot_18 : decode cX8_knot 18 = .ok (.iconst 1, 1) := by decide +kernel
theorem dX8_knot_19 : decode cX8_knot 19 = .ok (.invokevirtual 212, 3) := by decide +kernel
theorem dX8_knot_22 : decode cX8_knot 22 = .ok (.ireturn, 1) := by decide +kernel
theorem dX8_knot_23 : decode cX8_knot 23 = .ok (.iload_n 2, 1) := by decide +kernel
theorem dX8_knot_24 : decode cX8_knot 24 = .ok (.tableswitch 82 0 5 #[40, 47, 54, 61, 68, 75], 40) := by decide +kernel
theorem dX8_knot_64 : decode cX8_knot 64 = .ok (.aload_n 0, 1) := by decide +kernel
theorem dX8_knot_65 : decode cX8_knot 65 = .ok (.getfield 63, 3) := by decide +kernel
theorem dX8_knot_68 : decode cX8_knot 68 = .ok (.iload_n 1, 1) := by decide +kernel
theorem dX8_knot_69 : decode cX8_knot 69 = .ok (.iaload, 1) := by decide +kernel
theorem dX8_knot_70 : decode cX8_knot 70 = .ok (.ireturn, 1) := by decide +kernel
theorem dX8_knot_71 : decode cX8_knot 71 = .ok (.aload_n 0, 1) := by decide +kernel
theorem dX8_knot_72 : decode cX8_knot 72 = .ok (.getfield 66, 3) := by decide +kernel
theorem dX8_knot_75 : decode cX8_knot 75 = .ok (.iload_n 1, 1) := by decide +kernel
theorem dX8_knot_76 : decode cX8_knot 76 = .ok (.iaload, 1) := by decide +kernel
theorem dX8_knot_77 : decode cX8_knot 77 = .ok (.ireturn, 1) := by decide +kernel
theorem dX8_knot_78 : decode cX8_knot 78 = .ok (.aload_n 0, 1) := by decide +kernel
theorem dX8_knot_79 : decode cX8_knot 79 = .ok (.getfield 69, 3) := by decide +kernel
theorem dX8_knot_82 : decode cX8_knot 82 = .ok (.iload_n 1, 1) := by decide +kernel
theorem dX8_knot_83 : decode cX8_knot 83 = .ok (.iaload, 1) := by decide +kernel
theorem dX8_knot_84 : decode cX8_knot 84 = .ok (.ireturn, 1) := by decide +kernel
theorem dX8_knot_85 : decode cX8_knot 85 = .ok (.aload_n 0, 1) := by decide +kernel
theorem dX8_knot_86 : decode cX8_knot 86 = .ok (.getfield 72, 3) := by decide +kernel
theorem dX8_knot_89 : decode cX8_knot 89 = .ok (.iload_n 1, 1) := by decide +kernel
theorem dX8_knot_90 : decode cX8_knot 90 = .ok (.iaload, 1) := by decide +kernel
theorem dX8_knot_91 : decode cX8_knot 91 = .ok (.ireturn, 1) := by decide +kernel
theorem dX8_knot_92 : decode cX8_knot 92 = .ok (.aload_n 0, 1) := by decide +kernel
theorem dX8_knot_93 : decode cX8_knot 93 = .ok (.getfield 75, 3) := by decide +kernel
theorem dX8_knot_96 : decode cX8_knot 96 = .ok (.iload_n 1, 1) := by decide +kernel
theorem dX8_knot_97 : decode cX8_knot 97 = .ok (.iaload, 1) := by decide +kernel
theorem dX8_knot_98 : decode cX8_knot 98 = .ok (.ireturn, 1) := by decide +kernel
theorem dX8_knot_99 : decode cX8_knot 99 = .ok (.aload_n 0, 1) := by decide +kernel
theorem dX8_knot_100 : decode cX8_knot 100 = .ok (.getfield 78, 3) := by decide +kernel
theorem dX8_knot_103 : decode cX8_knot 103 = .ok (.iload_n 1, 1) := by decide +kernel
theorem dX8_knot_104 : decode cX8_knot 104 = .ok (.iaload, 1) := by decide +kernel
theorem dX8_knot_105 : decode cX8_knot 105 = .ok (.ireturn, 1) := by decide +kernel
theorem dX8_knot_106 : decode cX8_knot 106 = .ok (.aload_n 0, 1) := by decide +kernel
theorem dX8_knot_107 : decode cX8_knot 107 = .ok (.iconst 2, 1) := by decide +kernel
theorem dX8_knot_108 : decode cX8_knot 108 = .ok (.invokevirtual 212, 3) := by decide +kernel
theorem dX8_knot_111 : decode cX8_knot 111 = .ok (.ireturn, 1) := by decide +kernel
theorem dX8_divisor_0 : decode cX8_divisor 0 = .ok (.lload_n 0, 1) := by decide +kernel
theorem dX8_divisor_1 : decode cX8_divisor 1 = .ok (.lconst 0, 1) := by decide +kernel
theorem dX8_divisor_2 : decode cX8_divisor 2 = .ok (.lcmp, 1) := by decide +kernel
theorem dX8_divisor_3 : decode cX8_divisor 3 = .ok (.ifCond .ge 8, 3) := by decide +kernel
theorem dX8_divisor_6 : decode cX8_divisor 6 = .ok (.lload_n 0, 1) := by decide +kernel
theorem dX8_divisor_7 : decode cX8_divisor 7 = .ok (.lneg, 1) := by decide +kernel
theorem dX8_divisor_8 : decode cX8_divisor 8 = .ok (.goto 4, 3) := by decide +kernel
theorem dX8_divisor_11 : decode cX8_divisor 11 = .ok (.lload_n 0, 1) := by decide +kernel
theorem dX8_divisor_12 : decode cX8_divisor 12 = .ok (.lstore 4, 2) := by decide +kernel
theorem dX8_divisor_14 : decode cX8_divisor 14 = .ok (.lload_n 2, 1) := by decide +kernel
theorem dX8_divisor_15 : decode cX8_divisor 15 = .ok (.lconst 0, 1) := by decide +kernel
theorem dX8_divisor_16 : decode cX8_divisor 16 = .ok (.lcmp, 1) := by decide +kernel
theorem dX8_divisor_17 : decode cX8_divisor 17 = .ok (.ifCond .ge 8, 3) := by decide +kernel
theorem dX8_divisor_20 : decode cX8_divisor 20 = .ok (.lload_n 2, 1) := by decide +kernel
theorem dX8_divisor_21 : decode cX8_divisor 21 = .ok (.lneg, 1) := by decide +kernel
theorem dX8_divisor_22 : decode cX8_divisor 22 = .ok (.goto 4, 3) := by decide +kernel
theorem dX8_divisor_25 : decode cX8_divisor 25 = .ok (.lload_n 2, 1) := by decide +kernel
theorem dX8_divisor_26 : decode cX8_divisor 26 = .ok (.lstore 6, 2) := by decide +kernel
theorem dX8_divisor_28 : decode cX8_divisor 28 = .ok (.lload 6, 2) := by decide +kernel
theorem dX8_divisor_30 : decode cX8_divisor 30 = .ok (.lconst 0, 1) := by decide +kernel
theorem dX8_divisor_31 : decode cX8_divisor 31 = .ok (.lcmp, 1) := by decide +kernel
theorem dX8_divisor_32 : decode cX8_divisor 32 = .ok (.ifCond .eq 21, 3) := by decide +kernel
theorem dX8_divisor_35 : decode cX8_divisor 35 = .ok (.lload 4, 2) := by decide +kernel
theorem dX8_divisor_37 : decode cX8_divisor 37 = .ok (.lload 6, 2) := by decide +kernel
theorem dX8_divisor_39 : decode cX8_divisor 39 = .ok (.lrem, 1) := by decide +kernel
theorem dX8_divisor_40 : decode cX8_divisor 40 = .ok (.lstore 8, 2) := by decide +kernel
theorem dX8_divisor_42 : decode cX8_divisor 42 = .ok (.lload 6, 2) := by decide +kernel
theorem dX8_divisor_44 : decode cX8_divisor 44 = .ok (.lstore 4, 2) := by decide +kernel
theorem dX8_divisor_46 : decode cX8_divisor 46 = .ok (.lload 8, 2) := by decide +kernel
theorem dX8_divisor_48 : decode cX8_divisor 48 = .ok (.lstore 6, 2) := by decide +kernel
theorem dX8_divisor_50 : decode cX8_divisor 50 = .ok (.goto (-22), 3) := by decide +kernel
theorem dX8_divisor_53 : decode cX8_divisor 53 = .ok (.lload 4, 2) := by decide +kernel
theorem dX8_divisor_55 : decode cX8_divisor 55 = .ok (.lreturn, 1) := by decide +kernel
theorem dX8_end_0 : decode cX8_end 0 = .ok (.aload_n 0, 1) := by decide +kernel
theorem dX8_end_1 : decode cX8_end 1 = .ok (.getfield 7, 3) := by decide +kernel
theorem dX8_end_4 : decode cX8_end 4 = .ok (.iload_n 1, 1) := by decide +kernel
theorem dX8_end_5 : decode cX8_end 5 = .ok (.iaload, 1) := by decide +kernel
theorem dX8_end_6 : decode cX8_end 6 = .ok (.i2l, 1) := by decide +kernel
theorem dX8_end_7 : decode cX8_end 7 = .ok (.lload 4, 2) := by decide +kernel
theorem dX8_end_9 : decode cX8_end 9 = .ok (.lmul, 1) := by decide +kernel
theorem dX8_end_10 : decode cX8_end 10 = .ok (.aload_n 0, 1) := by decide +kernel
theorem dX8_end_11 : decode cX8_end 11 = .ok (.getfield 16, 3) := by decide +kernel
theorem dX8_end_14 : decode cX8_end 14 = .ok (.iload_n 1, 1) := by decide +kernel
theorem dX8_end_15 : decode cX8_end 15 = .ok (.iaload, 1) := by decide +kernel
theorem dX8_end_16 : decode cX8_end 16 = .ok (.i2l, 1) := by decide +kernel
theorem dX8_end_17 : decode cX8_end 17 = .ok (.lload_n 2, 1) := by decide +kernel
theorem dX8_end_18 : decode cX8_end 18 = .ok (.lmul, 1) := by decide +kernel
theorem dX8_end_19 : decode cX8_end 19 = .ok (.ladd, 1) := by decide +kernel
theorem dX8_end_20 : decode cX8_end 20 = .ok (.lstore 7, 2) := by decide +kernel
theorem dX8_end_22 : decode cX8_end 22 = .ok (.aload_n 0, 1) := by decide +kernel
theorem dX8_end_23 : decode cX8_end 23 = .ok (.getfield 13, 3) := by decide +kernel
theorem dX8_end_26 : decode cX8_end 26 = .ok (.iload_n 1, 1) := by decide +kernel
theorem dX8_end_27 : decode cX8_end 27 = .ok (.iaload, 1) := by decide +kernel
theorem dX8_end_28 : decode cX8_end 28 = .ok (.i2l, 1) := by decide +kernel
theorem dX8_end_29 : decode cX8_end 29 = .ok (.lload 4, 2) := by decide +kernel
theorem dX8_end_31 : decode cX8_end 31 = .ok (.lmul, 1) := by decide +kernel
theorem dX8_end_32 : decode cX8_end 32 = .ok (.aload_n 0, 1) := by decide +kernel
theorem dX8_end_33 : decode cX8_end 33 = .ok (.getfield 19, 3) := by decide +kernel
theorem dX8_end_36 : decode cX8_end 36 = .ok (.iload_n 1, 1) := by decide +kernel
theorem dX8_end_37 : decode cX8_end 37 = .ok (.iaload, 1) := by decide +kernel
theorem dX8_end_38 : decode cX8_end 38 = .ok (.i2l, 1) := by decide +kernel
theorem dX8_end_39 : decode cX8_end 39 = .ok (.lload_n 2, 1) := by decide +kernel
theorem dX8_end_40 : decode cX8_end 40 = .ok (.lmul, 1) := by decide +kernel
theorem dX8_end_41 : decode cX8_end 41 = .ok (.ladd, 1) := by decide +kernel
theorem dX8_end_42 : decode cX8_end 42 = .ok (.lstore 9, 2) := by decide +kernel
theorem dX8_end_44 : decode cX8_end 44 = .ok (.lload 4, 2) := by decide +kernel
theorem dX8_end_46 : decode cX8_end 46 = .ok (.lload 7, 2) := by decide +kernel
theorem dX8_end_48 : decode cX8_end 48 = .ok (.lload 9, 2) := by decide +kernel
theorem dX8_end_50 : decode cX8_end 50 = .ok (.invokestatic 220, 3) := by decide +kernel
theorem dX8_end_53 : decode cX8_end 53 = .ok (.invokestatic 220, 3) := by decide +kernel
theorem dX8_end_56 : decode cX8_end 56 = .ok (.lstore 11, 2) := by decide +kernel
theorem dX8_end_58 : decode cX8_end 58 = .ok (.iload 6, 2) := by decide +kernel
theorem dX8_end_60 : decode cX8_end 60 = .ok (.ifCond .ne 8, 3) := by decide +kernel
theorem dX8_end_63 : decode cX8_end 63 = .ok (.lload 7, 2) := by decide +kernel
theorem dX8_end_65 : decode cX8_end 65 = .ok (.goto 16, 3) := by decide +kernel
theorem dX8_end_68 : decode cX8_end 68 = .ok (.iload 6, 2) := by decide +kernel
theorem dX8_end_70 : decode cX8_end 70 = .ok (.iconst 1, 1) := by decide +kernel
theorem dX8_end_71 : decode cX8_end 71 = .ok (.if_icmp .ne 8, 3) := by decide +kernel
theorem dX8_end_74 : decode cX8_end 74 = .ok (.lload 9, 2) := by decide +kernel
theorem dX8_end_76 : decode cX8_end 76 = .ok (.goto 5, 3) := by decide +kernel
theorem dX8_end_79 : decode cX8_end 79 = .ok (.lload 4, 2) := by decide +kernel
theorem dX8_end_81 : decode cX8_end 81 = .ok (.lload 11, 2) := by decide +kernel
theorem dX8_end_83 : decode cX8_end 83 = .ok (.ldiv, 1) := by decide +kernel
theorem dX8_end_84 : decode cX8_end 84 = .ok (.lreturn, 1) := by decide +kernel
theorem dX8_part_0 : decode cX8_part 0 = .ok (.aload_n 0, 1) := by decide +kernel
theorem dX8_part_1 : decode cX8_part 1 = .ok (.iconst 0, 1) := by decide +kernel
theorem dX8_part_2 : decode cX8_part 2 = .ok (.putfield 123, 3) := by decide +kernel
theorem dX8_part_5 : decode cX8_part 5 = .ok (.iload_n 1, 1) := by decide +kernel
theorem dX8_part_6 : decode cX8_part 6 = .ok (.ifCond .lt 11, 3) := by decide +kernel
theorem dX8_part_9 : decode cX8_part 9 = .ok (.iload_n 1, 1) := by decide +kernel
theorem dX8_part_10 : decode cX8_part 10 = .ok (.aload_n 0, 1) := by decide +kernel
theorem dX8_part_11 : decode cX8_part 11 = .ok (.getfield 147, 3) := by decide +kernel
theorem dX8_part_14 : decode cX8_part 14 = .ok (.if_icmp .lt 10, 3) := by decide +kernel
theorem dX8_part_17 : decode cX8_part 17 = .ok (.aload_n 0, 1) := by decide +kernel
theorem dX8_part_18 : decode cX8_part 18 = .ok (.iconst 1, 1) := by decide +kernel
theorem dX8_part_19 : decode cX8_part 19 = .ok (.invokevirtual 212, 3) := by decide +kernel
theorem dX8_part_22 : decode cX8_part 22 = .ok (.i2l, 1) := by decide +kernel
theorem dX8_part_23 : decode cX8_part 23 = .ok (.lreturn, 1) := by decide +kernel
theorem dX8_part_24 : decode cX8_part 24 = .ok (.iload_n 2, 1) := by decide +kernel
theorem dX8_part_25 : decode cX8_part 25 = .ok (.tableswitch 115 0 7 #[47, 55, 55, 55, 81, 81, 81, 107], 47) := by decide +kernel
theorem dX8_part_72 : decode cX8_part 72 = .ok (.aload_n 0, 1) := by decide +kernel
theorem dX8_part_73 : decode cX8_part 73 = .ok (.getfield 81, 3) := by decide +kernel
theorem dX8_part_76 : decode cX8_part 76 = .ok (.iload_n 1, 1) := by decide +kernel
theorem dX8_part_77 : decode cX8_part 77 = .ok (.iaload, 1) := by decide +kernel
theorem dX8_part_78 : decode cX8_part 78 = .ok (.i2l, 1) := by decide +kernel
theorem dX8_part_79 : decode cX8_part 79 = .ok (.lreturn, 1) := by decide +kernel
theorem dX8_part_80 : decode cX8_part 80 = .ok (.aload_n 0, 1) := by decide +kernel
theorem dX8_part_81 : decode cX8_part 81 = .ok (.aload_n 0, 1) := by decide +kernel
theorem dX8_part_82 : decode cX8_part 82 = .ok (.getfield 81, 3) := by decide +kernel
theorem dX8_part_85 : decode cX8_part 85 = .ok (.iload_n 1, 1) := by decide +kernel
theorem dX8_part_86 : decode cX8_part 86 = .ok (.iaload, 1) := by decide +kernel
theorem dX8_part_87 : decode cX8_part 87 = .ok (.aload_n 0, 1) := by decide +kernel
theorem dX8_part_88 : decode cX8_part 88 = .ok (.getfield 87, 3) := by decide +kernel
theorem dX8_part_91 : decode cX8_part 91 = .ok (.iload_n 1, 1) := by decide +kernel
theorem dX8_part_92 : decode cX8_part 92 = .ok (.laload, 1) := by decide +kernel
theorem dX8_part_93 : decode cX8_part 93 = .ok (.aload_n 0, 1) := by decide +kernel
theorem dX8_part_94 : decode cX8_part 94 = .ok (.getfield 90, 3) := by decide +kernel
theorem dX8_part_97 : decode cX8_part 97 = .ok (.iload_n 1, 1) := by decide +kernel
theorem dX8_part_98 : decode cX8_part 98 = .ok (.laload, 1) := by decide +kernel
theorem dX8_part_99 : decode cX8_part 99 = .ok (.iload_n 2, 1) := by decide +kernel
theorem dX8_part_100 : decode cX8_part 100 = .ok (.iconst 1, 1) := by decide +kernel
theorem dX8_part_101 : decode cX8_part 101 = .ok (.isub, 1) := by decide +kernel
theorem dX8_part_102 : decode cX8_part 102 = .ok (.invokevirtual 224, 3) := by decide +kernel
theorem dX8_part_105 : decode cX8_part 105 = .ok (.lreturn, 1) := by decide +kernel
theorem dX8_part_106 : decode cX8_part 106 = .ok (.aload_n 0, 1) := by decide +kernel
theorem dX8_part_107 : decode cX8_part 107 = .ok (.aload_n 0, 1) := by decide +kernel
theorem dX8_part_108 : decode cX8_part 108 = .ok (.getfield 81, 3) := by decide +kernel
theorem dX8_part_111 : decode cX8_part 111 = .ok (.iload_n 1, 1) := by decide +kernel
theorem dX8_part_112 : decode cX8_part 112 = .ok (.iaload, 1) := by decide +kernel
theorem dX8_part_113 : decode cX8_part 113 = .ok (.aload_n 0, 1) := by decide +kernel
theorem dX8_part_114 : decode cX8_part 114 = .ok (.getfield 93, 3) := by decide +kernel
theorem dX8_part_117 : decode cX8_part 117 = .ok (.iload_n 1, 1) := by decide +kernel
theorem dX8_part_118 : decode cX8_part 118 = .ok (.laload, 1) := by decide +kernel
theorem dX8_part_119 : decode cX8_part 119 = .ok (.aload_n 0, 1) := by decide +kernel
theorem dX8_part_120 : decode cX8_part 120 = .ok (.getfield 96, 3) := by decide +kernel
theorem dX8_part_123 : decode cX8_part 123 = .ok (.iload_n 1, 1) := by decide +kernel
theorem dX8_part_124 : decode cX8_part 124 = .ok (.laload, 1) := by decide +kernel
theorem dX8_part_125 : decode cX8_part 125 = .ok (.iload_n 2, 1) := by decide +kernel
theorem dX8_part_126 : decode cX8_part 126 = .ok (.iconst 4, 1) := by decide +kernel
theorem dX8_part_127 : decode cX8_part 127 = .ok (.isub, 1) := by decide +kernel
theorem dX8_part_128 : decode cX8_part 128 = .ok (.invokevirtual 224, 3) := by decide +kernel
theorem dX8_part_131 : decode cX8_part 131 = .ok (.lreturn, 1) := by decide +kernel
theorem dX8_part_132 : decode cX8_part 132 = .ok (.aload_n 0, 1) := by decide +kernel
theorem dX8_part_133 : decode cX8_part 133 = .ok (.getfield 84, 3) := by decide +kernel
theorem dX8_part_136 : decode cX8_part 136 = .ok (.iload_n 1, 1) := by decide +kernel
theorem dX8_part_137 : decode cX8_part 137 = .ok (.iaload, 1) := by decide +kernel
theorem dX8_part_138 : decode cX8_part 138 = .ok (.i2l, 1) := by decide +kernel
theorem dX8_part_139 : decode cX8_part 139 = .ok (.lreturn, 1) := by decide +kernel
theorem dX8_part_140 : decode cX8_part 140 = .ok (.aload_n 0, 1) := by decide +kernel
theorem dX8_part_141 : decode cX8_part 141 = .ok (.iconst 2, 1) := by decide +kernel
theorem dX8_part_142 : decode cX8_part 142 = .ok (.invokevirtual 212, 3) := by decide +kernel
theorem dX8_part_145 : decode cX8_part 145 = .ok (.i2l, 1) := by decide +kernel
theorem dX8_part_146 : decode cX8_part 146 = .ok (.lreturn, 1) := by decide +kernel
theorem dX8_where_0 : decode cX8_where 0 = .ok (.aload_n 0, 1) := by decide +kernel
theorem dX8_where_1 : decode cX8_where 1 = .ok (.iconst 0, 1) := by decide +kernel
theorem dX8_where_2 : decode cX8_where 2 = .ok (.putfield 123, 3) := by decide +kernel
theorem dX8_where_5 : decode cX8_where 5 = .ok (.aload_n 0, 1) := by decide +kernel
theorem dX8_where_6 : decode cX8_where 6 = .ok (.getfield 137, 3) := by decide +kernel
theorem dX8_where_9 : decode cX8_where 9 = .ok (.ifCond .eq 11, 3) := by decide +kernel
theorem dX8_where_12 : decode cX8_where 12 = .ok (.iload_n 1, 1) := by decide +kernel
theorem dX8_where_13 : decode cX8_where 13 = .ok (.iload_n 2, 1) := by decide +kernel
theorem dX8_where_14 : decode cX8_where 14 = .ok (.invokestatic 130, 3) := by decide +kernel
theorem dX8_where_17 : decode cX8_where 17 = .ok (.ifCond .ne 5, 3) := by decide +kernel
theorem dX8_where_20 : decode cX8_where 20 = .ok (.iconst (-1), 1) := by decide +kernel
theorem dX8_where_21 : decode cX8_where 21 = .ok (.ireturn, 1) := by decide +kernel
theorem dX8_where_22 : decode cX8_where 22 = .ok (.aload_n 0, 1) := by decide +kernel
theorem dX8_where_23 : decode cX8_where 23 = .ok (.getfield 198, 3) := by decide +kernel
theorem dX8_where_26 : decode cX8_where 26 = .ok (.istore_n 3, 1) := by decide +kernel
theorem dX8_where_27 : decode cX8_where 27 = .ok (.iload_n 3, 1) := by decide +kernel
theorem dX8_where_28 : decode cX8_where 28 = .ok (.ifCond .lt 57, 3) := by decide +kernel
theorem dX8_where_31 : decode cX8_where 31 = .ok (.aload_n 0, 1) := by decide +kernel
theorem dX8_where_32 : decode cX8_where 32 = .ok (.aload_n 0, 1) := by decide +kernel
theorem dX8_where_33 : decode cX8_where 33 = .ok (.getfield 63, 3) := by decide +kernel
theorem dX8_where_36 : decode cX8_where 36 = .ok (.iload_n 3, 1) := by decide +kernel
theorem dX8_where_37 : decode cX8_where 37 = .ok (.iaload, 1) := by decide +kernel
theorem dX8_where_38 : decode cX8_where 38 = .ok (.iload_n 1, 1) := by decide +kernel
theorem dX8_where_39 : decode cX8_where 39 = .ok (.i2l, 1) := by decide +kernel
theorem dX8_where_40 : decode cX8_where 40 = .ok (.iload_n 2, 1) := by decide +kernel
theorem dX8_where_41 : decode cX8_where 41 = .ok (.i2l, 1) := by decide +kernel
theorem dX8_where_42 : decode cX8_where 42 = .ok (.invokevirtual 153, 3) := by decide +kernel
theorem dX8_where_45 : decode cX8_where 45 = .ok (.lstore 4, 2) := by decide +kernel
theorem dX8_where_47 : decode cX8_where 47 = .ok (.lload 4, 2) := by decide +kernel
theorem dX8_where_49 : decode cX8_where 49 = .ok (.lconst 0, 1) := by decide +kernel
theorem dX8_where_50 : decode cX8_where 50 = .ok (.lcmp, 1) := by decide +kernel
theorem dX8_where_51 : decode cX8_where 51 = .ok (.ifCond .ne 8, 3) := by decide +kernel
theorem dX8_where_54 : decode cX8_where 54 = .ok (.bipush (-2), 2) := by decide +kernel
theorem dX8_where_56 : decode cX8_where 56 = .ok (.iload_n 3, 1) := by decide +kernel
theorem dX8_where_57 : decode cX8_where 57 = .ok (.isub, 1) := by decide +kernel
theorem dX8_where_58 : decode cX8_where 58 = .ok (.ireturn, 1) := by decide +kernel
theorem dX8_where_59 : decode cX8_where 59 = .ok (.lload 4, 2) := by decide +kernel
theorem dX8_where_61 : decode cX8_where 61 = .ok (.lconst 0, 1) := by decide +kernel
theorem dX8_where_62 : decode cX8_where 62 = .ok (.lcmp, 1) := by decide +kernel
theorem dX8_where_63 : decode cX8_where 63 = .ok (.ifCond .le 12, 3) := by decide +kernel
theorem dX8_where_66 : decode cX8_where 66 = .ok (.aload_n 0, 1) := by decide +kernel
theorem dX8_where_67 : decode cX8_where 67 = .ok (.getfield 72, 3) := by decide +kernel
theorem dX8_where_70 : decode cX8_where 70 = .ok (.iload_n 3, 1) := by decide +kernel
theorem dX8_where_71 : decode cX8_where 71 = .ok (.iaload, 1) := by decide +kernel
theorem dX8_where_72 : decode cX8_where 72 = .ok (.goto 9, 3) := by decide +kernel
theorem dX8_where_75 : decode cX8_where 75 = .ok (.aload_n 0, 1) := by decide +kernel
theorem dX8_where_76 : decode cX8_where 76 = .ok (.getfield 75, 3) := by decide +kernel
theorem dX8_where_79 : decode cX8_where 79 = .ok (.iload_n 3, 1) := by decide +kernel
theorem dX8_where_80 : decode cX8_where 80 = .ok (.iaload, 1) := by decide +kernel
theorem dX8_where_81 : decode cX8_where 81 = .ok (.istore_n 3, 1) := by decide +kernel
theorem dX8_where_82 : decode cX8_where 82 = .ok (.goto (-55), 3) := by decide +kernel
theorem dX8_where_85 : decode cX8_where 85 = .ok (.bipush (-2), 2) := by decide +kernel
theorem dX8_where_87 : decode cX8_where 87 = .ok (.iload_n 3, 1) := by decide +kernel
theorem dX8_where_88 : decode cX8_where 88 = .ok (.isub, 1) := by decide +kernel
theorem dX8_where_89 : decode cX8_where 89 = .ok (.ireturn, 1) := by decide +kernel
theorem dX8_order_0 : decode cX8_order 0 = .ok (.aload_n 0, 1) := by decide +kernel
theorem dX8_order_1 : decode cX8_order 1 = .ok (.iconst 0, 1) := by decide +kernel
theorem dX8_order_2 : decode cX8_order 2 = .ok (.putfield 123, 3) := by decide +kernel
theorem dX8_order_5 : decode cX8_order 5 = .ok (.aload_n 0, 1) := by decide +kernel
theorem dX8_order_6 : decode cX8_order 6 = .ok (.getfield 137, 3) := by decide +kernel
theorem dX8_order_9 : decode cX8_order 9 = .ok (.ifCond .eq 11, 3) := by decide +kernel
theorem dX8_order_12 : decode cX8_order 12 = .ok (.iload_n 1, 1) := by decide +kernel
theorem dX8_order_13 : decode cX8_order 13 = .ok (.iload_n 2, 1) := by decide +kernel
theorem dX8_order_14 : decode cX8_order 14 = .ok (.invokestatic 130, 3) := by decide +kernel
theorem dX8_order_17 : decode cX8_order 17 = .ok (.ifCond .ne 5, 3) := by decide +kernel
theorem dX8_order_20 : decode cX8_order 20 = .ok (.iconst (-1), 1) := by decide +kernel
theorem dX8_order_21 : decode cX8_order 21 = .ok (.ireturn, 1) := by decide +kernel
theorem dX8_order_22 : decode cX8_order 22 = .ok (.aload_n 0, 1) := by decide +kernel
theorem dX8_order_23 : decode cX8_order 23 = .ok (.iconst 0, 1) := by decide +kernel
theorem dX8_order_24 : decode cX8_order 24 = .ok (.putfield 150, 3) := by decide +kernel
theorem dX8_order_27 : decode cX8_order 27 = .ok (.iconst 1, 1) := by decide +kernel
theorem dX8_order_28 : decode cX8_order 28 = .ok (.istore_n 3, 1) := by decide +kernel
theorem dX8_order_29 : decode cX8_order 29 = .ok (.aload_n 0, 1) := by decide +kernel
theorem dX8_order_30 : decode cX8_order 30 = .ok (.getfield 105, 3) := by decide +kernel
theorem dX8_order_33 : decode cX8_order 33 = .ok (.iconst 0, 1) := by decide +kernel
theorem dX8_order_34 : decode cX8_order 34 = .ok (.aload_n 0, 1) := by decide +kernel
theorem dX8_order_35 : decode cX8_order 35 = .ok (.getfield 198, 3) := by decide +kernel
theorem dX8_order_38 : decode cX8_order 38 = .ok (.iastore, 1) := by decide +kernel
theorem dX8_order_39 : decode cX8_order 39 = .ok (.aload_n 0, 1) := by decide +kernel
theorem dX8_order_40 : decode cX8_order 40 = .ok (.getfield 108, 3) := by decide +kernel
theorem dX8_order_43 : decode cX8_order 43 = .ok (.iconst 0, 1) := by decide +kernel
theorem dX8_order_44 : decode cX8_order 44 = .ok (.iconst 0, 1) := by decide +kernel
theorem dX8_order_45 : decode cX8_order 45 = .ok (.bastore, 1) := by decide +kernel
theorem dX8_order_46 : decode cX8_order 46 = .ok (.iload_n 3, 1) := by decide +kernel
theorem dX8_order_47 : decode cX8_order 47 = .ok (.ifCond .le 210, 3) := by decide +kernel
theorem dX8_order_50 : decode cX8_order 50 = .ok (.iinc 3 (-1), 3) := by decide +kernel
theorem dX8_order_53 : decode cX8_order 53 = .ok (.aload_n 0, 1) := by decide +kernel
theorem dX8_order_54 : decode cX8_order 54 = .ok (.getfield 105, 3) := by decide +kernel
theorem dX8_order_57 : decode cX8_order 57 = .ok (.iload_n 3, 1) := by decide +kernel
theorem dX8_order_58 : decode cX8_order 58 = .ok (.iaload, 1) := by decide +kernel
theorem dX8_order_59 : decode cX8_order 59 = .ok (.istore 4, 2) := by decide +kernel
theorem dX8_order_61 : decode cX8_order 61 = .ok (.iload 4, 2) := by decide +kernel
theorem dX8_order_63 : decode cX8_order 63 = .ok (.ifCond .ge 6, 3) := by decide +kernel
theorem dX8_order_66 : decode cX8_order 66 = .ok (.goto (-20), 3) := by decide +kernel
theorem dX8_order_69 : decode cX8_order 69 = .ok (.aload_n 0, 1) := by decide +kernel
theorem dX8_order_70 : decode cX8_order 70 = .ok (.getfield 108, 3) := by decide +kernel
theorem dX8_order_73 : decode cX8_order 73 = .ok (.iload_n 3, 1) := by decide +kernel
theorem dX8_order_74 : decode cX8_order 74 = .ok (.baload, 1) := by decide +kernel
theorem dX8_order_75 : decode cX8_order 75 = .ok (.ifCond .eq 56, 3) := by decide +kernel
theorem dX8_order_78 : decode cX8_order 78 = .ok (.iconst 0, 1) := by decide +kernel
theorem dX8_order_79 : decode cX8_order 79 = .ok (.istore 5, 2) := by decide +kernel
theorem dX8_order_81 : decode cX8_order 81 = .ok (.iload 5, 2) := by decide +kernel
theorem dX8_order_83 : decode cX8_order 83 = .ok (.aload_n 0, 1) := by decide +kernel
theorem dX8_order_84 : decode cX8_order 84 = .ok (.getfield 66, 3) := by decide +kernel
theorem dX8_order_87 : decode cX8_order 87 = .ok (.iload 4, 2) := by decide +kernel
theorem dX8_order_89 : decode cX8_order 89 = .ok (.iaload, 1) := by decide +kernel
theorem dX8_order_90 : decode cX8_order 90 = .ok (.if_icmp .ge 38, 3) := by decide +kernel
theorem dX8_order_93 : decode cX8_order 93 = .ok (.aload_n 0, 1) := by decide +kernel
theorem dX8_order_94 : decode cX8_order 94 = .ok (.getfield 102, 3) := by decide +kernel
theorem dX8_order_97 : decode cX8_order 97 = .ok (.aload_n 0, 1) := by decide +kernel
theorem dX8_order_98 : decode cX8_order 98 = .ok (.getfield 150, 3) := by decide +kernel
theorem dX8_order_101 : decode cX8_order 101 = .ok (.aload_n 0, 1) := by decide +kernel
theorem dX8_order_102 : decode cX8_order 102 = .ok (.getfield 69, 3) := by decide +kernel
theorem dX8_order_105 : decode cX8_order 105 = .ok (.iload 4, 2) := by decide +kernel
theorem dX8_order_107 : decode cX8_order 107 = .ok (.iaload, 1) := by decide +kernel
theorem dX8_order_108 : decode cX8_order 108 = .ok (.iload 5, 2) := by decide +kernel
theorem dX8_order_110 : decode cX8_order 110 = .ok (.iadd, 1) := by decide +kernel
theorem dX8_order_111 : decode cX8_order 111 = .ok (.iastore, 1) := by decide +kernel
theorem dX8_order_112 : decode cX8_order 112 = .ok (.aload_n 0, 1) := by decide +kernel
theorem dX8_order_113 : decode cX8_order 113 = .ok (.dup, 1) := by decide +kernel
theorem dX8_order_114 : decode cX8_order 114 = .ok (.getfield 150, 3) := by decide +kernel
theorem dX8_order_117 : decode cX8_order 117 = .ok (.iconst 1, 1) := by decide +kernel
theorem dX8_order_118 : decode cX8_order 118 = .ok (.iadd, 1) := by decide +kernel
theorem dX8_order_119 : decode cX8_order 119 = .ok (.putfield 150, 3) := by decide +kernel
theorem dX8_order_122 : decode cX8_order 122 = .ok (.iinc 5 1, 3) := by decide +kernel
theorem dX8_order_125 : decode cX8_order 125 = .ok (.goto (-44), 3) := by decide +kernel
theorem dX8_order_128 : decode cX8_order 128 = .ok (.goto (-82), 3) := by decide +kernel
theorem dX8_order_131 : decode cX8_order 131 = .ok (.aload_n 0, 1) := by decide +kernel
theorem dX8_order_132 : decode cX8_order 132 = .ok (.aload_n 0, 1) := by decide +kernel
theorem dX8_order_133 : decode cX8_order 133 = .ok (.getfield 63, 3) := by decide +kernel
theorem dX8_order_136 : decode cX8_order 136 = .ok (.iload 4, 2) := by decide +kernel
theorem dX8_order_138 : decode cX8_order 138 = .ok (.iaload, 1) := by decide +kernel
theorem dX8_order_139 : decode cX8_order 139 = .ok (.iload_n 1, 1) := by decide +kernel
theorem dX8_order_140 : decode cX8_order 140 = .ok (.i2l, 1) := by decide +kernel
theorem dX8_order_141 : decode cX8_order 141 = .ok (.iload_n 2, 1) := by decide +kernel
theorem dX8_order_142 : decode cX8_order 142 = .ok (.i2l, 1) := by decide +kernel
theorem dX8_order_143 : decode cX8_order 143 = .ok (.invokevirtual 153, 3) := by decide +kernel
theorem dX8_order_146 : decode cX8_order 146 = .ok (.lconst 0, 1) := by decide +kernel
theorem dX8_order_147 : decode cX8_order 147 = .ok (.lcmp, 1) := by decide +kernel
theorem dX8_order_148 : decode cX8_order 148 = .ok (.ifCond .le 7, 3) := by decide +kernel
theorem dX8_order_151 : decode cX8_order 151 = .ok (.iconst 1, 1) := by decide +kernel
theorem dX8_order_152 : decode cX8_order 152 = .ok (.goto 4, 3) := by decide +kernel
theorem dX8_order_155 : decode cX8_order 155 = .ok (.iconst 0, 1) := by decide +kernel
theorem dX8_order_156 : decode cX8_order 156 = .ok (.istore 5, 2) := by decide +kernel
theorem dX8_order_158 : decode cX8_order 158 = .ok (.aload_n 0, 1) := by decide +kernel
theorem dX8_order_159 : decode cX8_order 159 = .ok (.getfield 105, 3) := by decide +kernel
theorem dX8_order_162 : decode cX8_order 162 = .ok (.iload_n 3, 1) := by decide +kernel
theorem dX8_order_163 : decode cX8_order 163 = .ok (.iload 5, 2) := by decide +kernel
theorem dX8_order_165 : decode cX8_order 165 = .ok (.ifCond .eq 13, 3) := by decide +kernel
theorem dX8_order_168 : decode cX8_order 168 = .ok (.aload_n 0, 1) := by decide +kernel
theorem dX8_order_169 : decode cX8_order 169 = .ok (.getfield 72, 3) := by decide +kernel
theorem dX8_order_172 : decode cX8_order 172 = .ok (.iload 4, 2) := by decide +kernel
theorem dX8_order_174 : decode cX8_order 174 = .ok (.iaload, 1) := by decide +kernel
theorem dX8_order_175 : decode cX8_order 175 = .ok (.goto 10, 3) := by decide +kernel
theorem dX8_order_178 : decode cX8_order 178 = .ok (.aload_n 0, 1) := by decide +kernel
theorem dX8_order_179 : decode cX8_order 179 = .ok (.getfield 75, 3) := by decide +kernel
theorem dX8_order_182 : decode cX8_order 182 = .ok (.iload 4, 2) := by decide +kernel
theorem dX8_order_184 : decode cX8_order 184 = .ok (.iaload, 1) := by decide +kernel
theorem dX8_order_185 : decode cX8_order 185 = .ok (.iastore, 1) := by decide +kernel
theorem dX8_order_186 : decode cX8_order 186 = .ok (.aload_n 0, 1) := by decide +kernel
theorem dX8_order_187 : decode cX8_order 187 = .ok (.getfield 108, 3) := by decide +kernel
theorem dX8_order_190 : decode cX8_order 190 = .ok (.iload_n 3, 1) := by decide +kernel
theorem dX8_order_191 : decode cX8_order 191 = .ok (.iconst 0, 1) := by decide +kernel
theorem dX8_order_192 : decode cX8_order 192 = .ok (.bastore, 1) := by decide +kernel
theorem dX8_order_193 : decode cX8_order 193 = .ok (.aload_n 0, 1) := by decide +kernel
theorem dX8_order_194 : decode cX8_order 194 = .ok (.getfield 105, 3) := by decide +kernel
theorem dX8_order_197 : decode cX8_order 197 = .ok (.iload_n 3, 1) := by decide +kernel
theorem dX8_order_198 : decode cX8_order 198 = .ok (.iconst 1, 1) := by decide +kernel
theorem dX8_order_199 : decode cX8_order 199 = .ok (.iadd, 1) := by decide +kernel
theorem dX8_order_200 : decode cX8_order 200 = .ok (.iload 4, 2) := by decide +kernel
theorem dX8_order_202 : decode cX8_order 202 = .ok (.iastore, 1) := by decide +kernel
theorem dX8_order_203 : decode cX8_order 203 = .ok (.aload_n 0, 1) := by decide +kernel
theorem dX8_order_204 : decode cX8_order 204 = .ok (.getfield 108, 3) := by decide +kernel
theorem dX8_order_207 : decode cX8_order 207 = .ok (.iload_n 3, 1) := by decide +kernel
theorem dX8_order_208 : decode cX8_order 208 = .ok (.iconst 1, 1) := by decide +kernel
theorem dX8_order_209 : decode cX8_order 209 = .ok (.iadd, 1) := by decide +kernel
theorem dX8_order_210 : decode cX8_order 210 = .ok (.iconst 1, 1) := by decide +kernel
theorem dX8_order_211 : decode cX8_order 211 = .ok (.bastore, 1) := by decide +kernel
theorem dX8_order_212 : decode cX8_order 212 = .ok (.aload_n 0, 1) := by decide +kernel
theorem dX8_order_213 : decode cX8_order 213 = .ok (.getfield 105, 3) := by decide +kernel
theorem dX8_order_216 : decode cX8_order 216 = .ok (.iload_n 3, 1) := by decide +kernel
theorem dX8_order_217 : decode cX8_order 217 = .ok (.iconst 2, 1) := by decide +kernel
theorem dX8_order_218 : decode cX8_order 218 = .ok (.iadd, 1) := by decide +kernel
theorem dX8_order_219 : decode cX8_order 219 = .ok (.iload 5, 2) := by decide +kernel
theorem dX8_order_221 : decode cX8_order 221 = .ok (.ifCond .eq 13, 3) := by decide +kernel
theorem dX8_order_224 : decode cX8_order 224 = .ok (.aload_n 0, 1) := by decide +kernel
theorem dX8_order_225 : decode cX8_order 225 = .ok (.getfield 75, 3) := by decide +kernel
theorem dX8_order_228 : decode cX8_order 228 = .ok (.iload 4, 2) := by decide +kernel
theorem dX8_order_230 : decode cX8_order 230 = .ok (.iaload, 1) := by decide +kernel
theorem dX8_order_231 : decode cX8_order 231 = .ok (.goto 10, 3) := by decide +kernel
theorem dX8_order_234 : decode cX8_order 234 = .ok (.aload_n 0, 1) := by decide +kernel
theorem dX8_order_235 : decode cX8_order 235 = .ok (.getfield 72, 3) := by decide +kernel
theorem dX8_order_238 : decode cX8_order 238 = .ok (.iload 4, 2) := by decide +kernel
theorem dX8_order_240 : decode cX8_order 240 = .ok (.iaload, 1) := by decide +kernel
theorem dX8_order_241 : decode cX8_order 241 = .ok (.iastore, 1) := by decide +kernel
theorem dX8_order_242 : decode cX8_order 242 = .ok (.aload_n 0, 1) := by decide +kernel
theorem dX8_order_243 : decode cX8_order 243 = .ok (.getfield 108, 3) := by decide +kernel
theorem dX8_order_246 : decode cX8_order 246 = .ok (.iload_n 3, 1) := by decide +kernel
theorem dX8_order_247 : decode cX8_order 247 = .ok (.iconst 2, 1) := by decide +kernel
theorem dX8_order_248 : decode cX8_order 248 = .ok (.iadd, 1) := by decide +kernel
theorem dX8_order_249 : decode cX8_order 249 = .ok (.iconst 0, 1) := by decide +kernel
theorem dX8_order_250 : decode cX8_order 250 = .ok (.bastore, 1) := by decide +kernel
theorem dX8_order_251 : decode cX8_order 251 = .ok (.iinc 3 3, 3) := by decide +kernel
theorem dX8_order_254 : decode cX8_order 254 = .ok (.goto (-208), 3) := by decide +kernel
theorem dX8_order_257 : decode cX8_order 257 = .ok (.aload_n 0, 1) := by decide +kernel
theorem dX8_order_258 : decode cX8_order 258 = .ok (.getfield 150, 3) := by decide +kernel
theorem dX8_order_261 : decode cX8_order 261 = .ok (.ireturn, 1) := by decide +kernel
theorem dX8_told_0 : decode cX8_told 0 = .ok (.aload_n 0, 1) := by decide +kernel
theorem dX8_told_1 : decode cX8_told 1 = .ok (.iconst 0, 1) := by decide +kernel
theorem dX8_told_2 : decode cX8_told 2 = .ok (.putfield 123, 3) := by decide +kernel
theorem dX8_told_5 : decode cX8_told 5 = .ok (.iload_n 1, 1) := by decide +kernel
theorem dX8_told_6 : decode cX8_told 6 = .ok (.ifCond .lt 11, 3) := by decide +kernel
theorem dX8_told_9 : decode cX8_told 9 = .ok (.iload_n 1, 1) := by decide +kernel
theorem dX8_told_10 : decode cX8_told 10 = .ok (.aload_n 0, 1) := by decide +kernel
theorem dX8_told_11 : decode cX8_told 11 = .ok (.getfield 150, 3) := by decide +kernel
theorem dX8_told_14 : decode cX8_told 14 = .ok (.if_icmp .lt 7, 3) := by decide +kernel
theorem dX8_told_17 : decode cX8_told 17 = .ok (.iconst (-1), 1) := by decide +kernel
theorem dX8_told_18 : decode cX8_told 18 = .ok (.goto 9, 3) := by decide +kernel
theorem dX8_told_21 : decode cX8_told 21 = .ok (.aload_n 0, 1) := by decide +kernel
theorem dX8_told_22 : decode cX8_told 22 = .ok (.getfield 102, 3) := by decide +kernel
theorem dX8_told_25 : decode cX8_told 25 = .ok (.iload_n 1, 1) := by decide +kernel
theorem dX8_told_26 : decode cX8_told 26 = .ok (.iaload, 1) := by decide +kernel
theorem dX8_told_27 : decode cX8_told 27 = .ok (.ireturn, 1) := by decide +kernel
theorem dX8_sign_0 : decode cX8_sign 0 = .ok (.lload_n 0, 1) := by decide +kernel
theorem dX8_sign_1 : decode cX8_sign 1 = .ok (.lconst 0, 1) := by decide +kernel
theorem dX8_sign_2 : decode cX8_sign 2 = .ok (.lcmp, 1) := by decide +kernel
theorem dX8_sign_3 : decode cX8_sign 3 = .ok (.ifCond .le 7, 3) := by decide +kernel
theorem dX8_sign_6 : decode cX8_sign 6 = .ok (.iconst 1, 1) := by decide +kernel
theorem dX8_sign_7 : decode cX8_sign 7 = .ok (.goto 14, 3) := by decide +kernel
theorem dX8_sign_10 : decode cX8_sign 10 = .ok (.lload_n 0, 1) := by decide +kernel
theorem dX8_sign_11 : decode cX8_sign 11 = .ok (.lconst 0, 1) := by decide +kernel
theorem dX8_sign_12 : decode cX8_sign 12 = .ok (.lcmp, 1) := by decide +kernel
theorem dX8_sign_13 : decode cX8_sign 13 = .ok (.ifCond .ge 7, 3) := by decide +kernel
theorem dX8_sign_16 : decode cX8_sign 16 = .ok (.iconst (-1), 1) := by decide +kernel
theorem dX8_sign_17 : decode cX8_sign 17 = .ok (.goto 4, 3) := by decide +kernel
theorem dX8_sign_20 : decode cX8_sign 20 = .ok (.iconst 0, 1) := by decide +kernel
theorem dX8_sign_21 : decode cX8_sign 21 = .ok (.ireturn, 1) := by decide +kernel
theorem dX8_within_0 : decode cX8_within 0 = .ok (.aload_n 0, 1) := by decide +kernel
theorem dX8_within_1 : decode cX8_within 1 = .ok (.getfield 7, 3) := by decide +kernel
theorem dX8_within_4 : decode cX8_within 4 = .ok (.iload_n 1, 1) := by decide +kernel
theorem dX8_within_5 : decode cX8_within 5 = .ok (.iaload, 1) := by decide +kernel
theorem dX8_within_6 : decode cX8_within 6 = .ok (.aload_n 0, 1) := by decide +kernel
theorem dX8_within_7 : decode cX8_within 7 = .ok (.getfield 16, 3) := by decide +kernel
theorem dX8_within_10 : decode cX8_within 10 = .ok (.iload_n 1, 1) := by decide +kernel
theorem dX8_within_11 : decode cX8_within 11 = .ok (.iaload, 1) := by decide +kernel
theorem dX8_within_12 : decode cX8_within 12 = .ok (.iadd, 1) := by decide +kernel
theorem dX8_within_13 : decode cX8_within 13 = .ok (.istore 4, 2) := by decide +kernel
theorem dX8_within_15 : decode cX8_within 15 = .ok (.aload_n 0, 1) := by decide +kernel
theorem dX8_within_16 : decode cX8_within 16 = .ok (.getfield 13, 3) := by decide +kernel
theorem dX8_within_19 : decode cX8_within 19 = .ok (.iload_n 1, 1) := by decide +kernel
theorem dX8_within_20 : decode cX8_within 20 = .ok (.iaload, 1) := by decide +kernel
theorem dX8_within_21 : decode cX8_within 21 = .ok (.aload_n 0, 1) := by decide +kernel
theorem dX8_within_22 : decode cX8_within 22 = .ok (.getfield 19, 3) := by decide +kernel
theorem dX8_within_25 : decode cX8_within 25 = .ok (.iload_n 1, 1) := by decide +kernel
theorem dX8_within_26 : decode cX8_within 26 = .ok (.iaload, 1) := by decide +kernel
theorem dX8_within_27 : decode cX8_within 27 = .ok (.iadd, 1) := by decide +kernel
theorem dX8_within_28 : decode cX8_within 28 = .ok (.istore 5, 2) := by decide +kernel
theorem dX8_within_30 : decode cX8_within 30 = .ok (.iload_n 2, 1) := by decide +kernel
theorem dX8_within_31 : decode cX8_within 31 = .ok (.aload_n 0, 1) := by decide +kernel
theorem dX8_within_32 : decode cX8_within 32 = .ok (.getfield 7, 3) := by decide +kernel
theorem dX8_within_35 : decode cX8_within 35 = .ok (.iload_n 1, 1) := by decide +kernel
theorem dX8_within_36 : decode cX8_within 36 = .ok (.iaload, 1) := by decide +kernel
theorem dX8_within_37 : decode cX8_within 37 = .ok (.iload 4, 2) := by decide +kernel
theorem dX8_within_39 : decode cX8_within 39 = .ok (.if_icmp .ge 12, 3) := by decide +kernel
theorem dX8_within_42 : decode cX8_within 42 = .ok (.aload_n 0, 1) := by decide +kernel
theorem dX8_within_43 : decode cX8_within 43 = .ok (.getfield 7, 3) := by decide +kernel
theorem dX8_within_46 : decode cX8_within 46 = .ok (.iload_n 1, 1) := by decide +kernel
theorem dX8_within_47 : decode cX8_within 47 = .ok (.iaload, 1) := by decide +kernel
theorem dX8_within_48 : decode cX8_within 48 = .ok (.goto 5, 3) := by decide +kernel
theorem dX8_within_51 : decode cX8_within 51 = .ok (.iload 4, 2) := by decide +kernel
theorem dX8_within_53 : decode cX8_within 53 = .ok (.if_icmp .lt 85, 3) := by decide +kernel
theorem dX8_within_56 : decode cX8_within 56 = .ok (.iload_n 2, 1) := by decide +kernel
theorem dX8_within_57 : decode cX8_within 57 = .ok (.aload_n 0, 1) := by decide +kernel
theorem dX8_within_58 : decode cX8_within 58 = .ok (.getfield 7, 3) := by decide +kernel
theorem dX8_within_61 : decode cX8_within 61 = .ok (.iload_n 1, 1) := by decide +kernel
theorem dX8_within_62 : decode cX8_within 62 = .ok (.iaload, 1) := by decide +kernel
theorem dX8_within_63 : decode cX8_within 63 = .ok (.iload 4, 2) := by decide +kernel
theorem dX8_within_65 : decode cX8_within 65 = .ok (.if_icmp .ge 8, 3) := by decide +kernel
theorem dX8_within_68 : decode cX8_within 68 = .ok (.iload 4, 2) := by decide +kernel
theorem dX8_within_70 : decode cX8_within 70 = .ok (.goto 9, 3) := by decide +kernel
theorem dX8_within_73 : decode cX8_within 73 = .ok (.aload_n 0, 1) := by decide +kernel
theorem dX8_within_74 : decode cX8_within 74 = .ok (.getfield 7, 3) := by decide +kernel
theorem dX8_within_77 : decode cX8_within 77 = .ok (.iload_n 1, 1) := by decide +kernel
theorem dX8_within_78 : decode cX8_within 78 = .ok (.iaload, 1) := by decide +kernel
theorem dX8_within_79 : decode cX8_within 79 = .ok (.if_icmp .gt 59, 3) := by decide +kernel
theorem dX8_within_82 : decode cX8_within 82 = .ok (.iload_n 3, 1) := by decide +kernel
theorem dX8_within_83 : decode cX8_within 83 = .ok (.aload_n 0, 1) := by decide +kernel
theorem dX8_within_84 : decode cX8_within 84 = .ok (.getfield 13, 3) := by decide +kernel
theorem dX8_within_87 : decode cX8_within 87 = .ok (.iload_n 1, 1) := by decide +kernel
theorem dX8_within_88 : decode cX8_within 88 = .ok (.iaload, 1) := by decide +kernel
theorem dX8_within_89 : decode cX8_within 89 = .ok (.iload 5, 2) := by decide +kernel
theorem dX8_within_91 : decode cX8_within 91 = .ok (.if_icmp .ge 12, 3) := by decide +kernel
theorem dX8_within_94 : decode cX8_within 94 = .ok (.aload_n 0, 1) := by decide +kernel
theorem dX8_within_95 : decode cX8_within 95 = .ok (.getfield 13, 3) := by decide +kernel
theorem dX8_within_98 : decode cX8_within 98 = .ok (.iload_n 1, 1) := by decide +kernel
theorem dX8_within_99 : decode cX8_within 99 = .ok (.iaload, 1) := by decide +kernel
theorem dX8_within_100 : decode cX8_within 100 = .ok (.goto 5, 3) := by decide +kernel
theorem dX8_within_103 : decode cX8_within 103 = .ok (.iload 5, 2) := by decide +kernel
theorem dX8_within_105 : decode cX8_within 105 = .ok (.if_icmp .lt 33, 3) := by decide +kernel
theorem dX8_within_108 : decode cX8_within 108 = .ok (.iload_n 3, 1) := by decide +kernel
theorem dX8_within_109 : decode cX8_within 109 = .ok (.aload_n 0, 1) := by decide +kernel
theorem dX8_within_110 : decode cX8_within 110 = .ok (.getfield 13, 3) := by decide +kernel
theorem dX8_within_113 : decode cX8_within 113 = .ok (.iload_n 1, 1) := by decide +kernel
theorem dX8_within_114 : decode cX8_within 114 = .ok (.iaload, 1) := by decide +kernel
theorem dX8_within_115 : decode cX8_within 115 = .ok (.iload 5, 2) := by decide +kernel
theorem dX8_within_117 : decode cX8_within 117 = .ok (.if_icmp .ge 8, 3) := by decide +kernel
theorem dX8_within_120 : decode cX8_within 120 = .ok (.iload 5, 2) := by decide +kernel
theorem dX8_within_122 : decode cX8_within 122 = .ok (.goto 9, 3) := by decide +kernel
theorem dX8_within_125 : decode cX8_within 125 = .ok (.aload_n 0, 1) := by decide +kernel
theorem dX8_within_126 : decode cX8_within 126 = .ok (.getfield 13, 3) := by decide +kernel
theorem dX8_within_129 : decode cX8_within 129 = .ok (.iload_n 1, 1) := by decide +kernel
theorem dX8_within_130 : decode cX8_within 130 = .ok (.iaload, 1) := by decide +kernel
theorem dX8_within_131 : decode cX8_within 131 = .ok (.if_icmp .gt 7, 3) := by decide +kernel
theorem dX8_within_134 : decode cX8_within 134 = .ok (.iconst 1, 1) := by decide +kernel
theorem dX8_within_135 : decode cX8_within 135 = .ok (.goto 4, 3) := by decide +kernel
theorem dX8_within_138 : decode cX8_within 138 = .ok (.iconst 0, 1) := by decide +kernel
theorem dX8_within_139 : decode cX8_within 139 = .ok (.ireturn, 1) := by decide +kernel
theorem dX8_turn_0 : decode cX8_turn 0 = .ok (.iload_n 2, 1) := by decide +kernel
theorem dX8_turn_1 : decode cX8_turn 1 = .ok (.iload_n 0, 1) := by decide +kernel
theorem dX8_turn_2 : decode cX8_turn 2 = .ok (.isub, 1) := by decide +kernel
theorem dX8_turn_3 : decode cX8_turn 3 = .ok (.i2l, 1) := by decide +kernel
theorem dX8_turn_4 : decode cX8_turn 4 = .ok (.iload 5, 2) := by decide +kernel
theorem dX8_turn_6 : decode cX8_turn 6 = .ok (.iload_n 1, 1) := by decide +kernel
theorem dX8_turn_7 : decode cX8_turn 7 = .ok (.isub, 1) := by decide +kernel
theorem dX8_turn_8 : decode cX8_turn 8 = .ok (.i2l, 1) := by decide +kernel
theorem dX8_turn_9 : decode cX8_turn 9 = .ok (.lmul, 1) := by decide +kernel
theorem dX8_turn_10 : decode cX8_turn 10 = .ok (.iload_n 3, 1) := by decide +kernel
theorem dX8_turn_11 : decode cX8_turn 11 = .ok (.iload_n 1, 1) := by decide +kernel
theorem dX8_turn_12 : decode cX8_turn 12 = .ok (.isub, 1) := by decide +kernel
theorem dX8_turn_13 : decode cX8_turn 13 = .ok (.i2l, 1) := by decide +kernel
theorem dX8_turn_14 : decode cX8_turn 14 = .ok (.iload 4, 2) := by decide +kernel
theorem dX8_turn_16 : decode cX8_turn 16 = .ok (.iload_n 0, 1) := by decide +kernel
theorem dX8_turn_17 : decode cX8_turn 17 = .ok (.isub, 1) := by decide +kernel
theorem dX8_turn_18 : decode cX8_turn 18 = .ok (.i2l, 1) := by decide +kernel
theorem dX8_turn_19 : decode cX8_turn 19 = .ok (.lmul, 1) := by decide +kernel
theorem dX8_turn_20 : decode cX8_turn 20 = .ok (.lsub, 1) := by decide +kernel
theorem dX8_turn_21 : decode cX8_turn 21 = .ok (.invokestatic 228, 3) := by decide +kernel
theorem dX8_turn_24 : decode cX8_turn 24 = .ok (.ireturn, 1) := by decide +kernel
theorem dX8_between_0 : decode cX8_between 0 = .ok (.iload 4, 2) := by decide +kernel
theorem dX8_between_2 : decode cX8_between 2 = .ok (.iload_n 0, 1) := by decide +kernel
theorem dX8_between_3 : decode cX8_between 3 = .ok (.iload_n 2, 1) := by decide +kernel
theorem dX8_between_4 : decode cX8_between 4 = .ok (.if_icmp .ge 7, 3) := by decide +kernel
theorem dX8_between_7 : decode cX8_between 7 = .ok (.iload_n 0, 1) := by decide +kernel
theorem dX8_between_8 : decode cX8_between 8 = .ok (.goto 4, 3) := by decide +kernel
theorem dX8_between_11 : decode cX8_between 11 = .ok (.iload_n 2, 1) := by decide +kernel
theorem dX8_between_12 : decode cX8_between 12 = .ok (.if_icmp .lt 52, 3) := by decide +kernel
theorem dX8_between_15 : decode cX8_between 15 = .ok (.iload 4, 2) := by decide +kernel
theorem dX8_between_17 : decode cX8_between 17 = .ok (.iload_n 0, 1) := by decide +kernel
theorem dX8_between_18 : decode cX8_between 18 = .ok (.iload_n 2, 1) := by decide +kernel
theorem dX8_between_19 : decode cX8_between 19 = .ok (.if_icmp .ge 7, 3) := by decide +kernel
theorem dX8_between_22 : decode cX8_between 22 = .ok (.iload_n 2, 1) := by decide +kernel
theorem dX8_between_23 : decode cX8_between 23 = .ok (.goto 4, 3) := by decide +kernel
theorem dX8_between_26 : decode cX8_between 26 = .ok (.iload_n 0, 1) := by decide +kernel
theorem dX8_between_27 : decode cX8_between 27 = .ok (.if_icmp .gt 37, 3) := by decide +kernel
theorem dX8_between_30 : decode cX8_between 30 = .ok (.iload 5, 2) := by decide +kernel
theorem dX8_between_32 : decode cX8_between 32 = .ok (.iload_n 1, 1) := by decide +kernel
theorem dX8_between_33 : decode cX8_between 33 = .ok (.iload_n 3, 1) := by decide +kernel
theorem dX8_between_34 : decode cX8_between 34 = .ok (.if_icmp .ge 7, 3) := by decide +kernel
theorem dX8_between_37 : decode cX8_between 37 = .ok (.iload_n 1, 1) := by decide +kernel
theorem dX8_between_38 : decode cX8_between 38 = .ok (.goto 4, 3) := by decide +kernel
theorem dX8_between_41 : decode cX8_between 41 = .ok (.iload_n 3, 1) := by decide +kernel
theorem dX8_between_42 : decode cX8_between 42 = .ok (.if_icmp .lt 22, 3) := by decide +kernel
theorem dX8_between_45 : decode cX8_between 45 = .ok (.iload 5, 2) := by decide +kernel
theorem dX8_between_47 : decode cX8_between 47 = .ok (.iload_n 1, 1) := by decide +kernel
theorem dX8_between_48 : decode cX8_between 48 = .ok (.iload_n 3, 1) := by decide +kernel
theorem dX8_between_49 : decode cX8_between 49 = .ok (.if_icmp .ge 7, 3) := by decide +kernel
theorem dX8_between_52 : decode cX8_between 52 = .ok (.iload_n 3, 1) := by decide +kernel
theorem dX8_between_53 : decode cX8_between 53 = .ok (.goto 4, 3) := by decide +kernel
theorem dX8_between_56 : decode cX8_between 56 = .ok (.iload_n 1, 1) := by decide +kernel
theorem dX8_between_57 : decode cX8_between 57 = .ok (.if_icmp .gt 7, 3) := by decide +kernel
theorem dX8_between_60 : decode cX8_between 60 = .ok (.iconst 1, 1) := by decide +kernel
theorem dX8_between_61 : decode cX8_between 61 = .ok (.goto 4, 3) := by decide +kernel
theorem dX8_between_64 : decode cX8_between 64 = .ok (.iconst 0, 1) := by decide +kernel
theorem dX8_between_65 : decode cX8_between 65 = .ok (.ireturn, 1) := by decide +kernel
theorem dX8_meets_0 : decode cX8_meets 0 = .ok (.aload_n 0, 1) := by decide +kernel
theorem dX8_meets_1 : decode cX8_meets 1 = .ok (.getfield 7, 3) := by decide +kernel
theorem dX8_meets_4 : decode cX8_meets 4 = .ok (.iload_n 1, 1) := by decide +kernel
theorem dX8_meets_5 : decode cX8_meets 5 = .ok (.iaload, 1) := by decide +kernel
theorem dX8_meets_6 : decode cX8_meets 6 = .ok (.istore 6, 2) := by decide +kernel
theorem dX8_meets_8 : decode cX8_meets 8 = .ok (.aload_n 0, 1) := by decide +kernel
theorem dX8_meets_9 : decode cX8_meets 9 = .ok (.getfield 13, 3) := by decide +kernel
theorem dX8_meets_12 : decode cX8_meets 12 = .ok (.iload_n 1, 1) := by decide +kernel
theorem dX8_meets_13 : decode cX8_meets 13 = .ok (.iaload, 1) := by decide +kernel
theorem dX8_meets_14 : decode cX8_meets 14 = .ok (.istore 7, 2) := by decide +kernel
theorem dX8_meets_16 : decode cX8_meets 16 = .ok (.iload 6, 2) := by decide +kernel
theorem dX8_meets_18 : decode cX8_meets 18 = .ok (.aload_n 0, 1) := by decide +kernel
theorem dX8_meets_19 : decode cX8_meets 19 = .ok (.getfield 16, 3) := by decide +kernel
theorem dX8_meets_22 : decode cX8_meets 22 = .ok (.iload_n 1, 1) := by decide +kernel
theorem dX8_meets_23 : decode cX8_meets 23 = .ok (.iaload, 1) := by decide +kernel
theorem dX8_meets_24 : decode cX8_meets 24 = .ok (.iadd, 1) := by decide +kernel
theorem dX8_meets_25 : decode cX8_meets 25 = .ok (.istore 8, 2) := by decide +kernel
theorem dX8_meets_27 : decode cX8_meets 27 = .ok (.iload 7, 2) := by decide +kernel
theorem dX8_meets_29 : decode cX8_meets 29 = .ok (.aload_n 0, 1) := by decide +kernel
theorem dX8_meets_30 : decode cX8_meets 30 = .ok (.getfield 19, 3) := by decide +kernel
theorem dX8_meets_33 : decode cX8_meets 33 = .ok (.iload_n 1, 1) := by decide +kernel
theorem dX8_meets_34 : decode cX8_meets 34 = .ok (.iaload, 1) := by decide +kernel
theorem dX8_meets_35 : decode cX8_meets 35 = .ok (.iadd, 1) := by decide +kernel
theorem dX8_meets_36 : decode cX8_meets 36 = .ok (.istore 9, 2) := by decide +kernel
theorem dX8_meets_38 : decode cX8_meets 38 = .ok (.iload 6, 2) := by decide +kernel
theorem dX8_meets_40 : decode cX8_meets 40 = .ok (.iload 7, 2) := by decide +kernel
theorem dX8_meets_42 : decode cX8_meets 42 = .ok (.iload 8, 2) := by decide +kernel
theorem dX8_meets_44 : decode cX8_meets 44 = .ok (.iload 9, 2) := by decide +kernel
theorem dX8_meets_46 : decode cX8_meets 46 = .ok (.iload_n 2, 1) := by decide +kernel
theorem dX8_meets_47 : decode cX8_meets 47 = .ok (.iload_n 3, 1) := by decide +kernel
theorem dX8_meets_48 : decode cX8_meets 48 = .ok (.invokestatic 232, 3) := by decide +kernel
theorem dX8_meets_51 : decode cX8_meets 51 = .ok (.istore 10, 2) := by decide +kernel
theorem dX8_meets_53 : decode cX8_meets 53 = .ok (.iload 6, 2) := by decide +kernel
theorem dX8_meets_55 : decode cX8_meets 55 = .ok (.iload 7, 2) := by decide +kernel
theorem dX8_meets_57 : decode cX8_meets 57 = .ok (.iload 8, 2) := by decide +kernel
theorem dX8_meets_59 : decode cX8_meets 59 = .ok (.iload 9, 2) := by decide +kernel
theorem dX8_meets_61 : decode cX8_meets 61 = .ok (.iload 4, 2) := by decide +kernel
theorem dX8_meets_63 : decode cX8_meets 63 = .ok (.iload 5, 2) := by decide +kernel
theorem dX8_meets_65 : decode cX8_meets 65 = .ok (.invokestatic 232, 3) := by decide +kernel
theorem dX8_meets_68 : decode cX8_meets 68 = .ok (.istore 11, 2) := by decide +kernel
theorem dX8_meets_70 : decode cX8_meets 70 = .ok (.iload_n 2, 1) := by decide +kernel
theorem dX8_meets_71 : decode cX8_meets 71 = .ok (.iload_n 3, 1) := by decide +kernel
theorem dX8_meets_72 : decode cX8_meets 72 = .ok (.iload 4, 2) := by decide +kernel
theorem dX8_meets_74 : decode cX8_meets 74 = .ok (.iload 5, 2) := by decide +kernel
theorem dX8_meets_76 : decode cX8_meets 76 = .ok (.iload 6, 2) := by decide +kernel
theorem dX8_meets_78 : decode cX8_meets 78 = .ok (.iload 7, 2) := by decide +kernel
theorem dX8_meets_80 : decode cX8_meets 80 = .ok (.invokestatic 232, 3) := by decide +kernel
theorem dX8_meets_83 : decode cX8_meets 83 = .ok (.istore 12, 2) := by decide +kernel
theorem dX8_meets_85 : decode cX8_meets 85 = .ok (.iload_n 2, 1) := by decide +kernel
theorem dX8_meets_86 : decode cX8_meets 86 = .ok (.iload_n 3, 1) := by decide +kernel
theorem dX8_meets_87 : decode cX8_meets 87 = .ok (.iload 4, 2) := by decide +kernel
theorem dX8_meets_89 : decode cX8_meets 89 = .ok (.iload 5, 2) := by decide +kernel
theorem dX8_meets_91 : decode cX8_meets 91 = .ok (.iload 8, 2) := by decide +kernel
theorem dX8_meets_93 : decode cX8_meets 93 = .ok (.iload 9, 2) := by decide +kernel
theorem dX8_meets_95 : decode cX8_meets 95 = .ok (.invokestatic 232, 3) := by decide +kernel
theorem dX8_meets_98 : decode cX8_meets 98 = .ok (.istore 13, 2) := by decide +kernel
theorem dX8_meets_100 : decode cX8_meets 100 = .ok (.iload 10, 2) := by decide +kernel
theorem dX8_meets_102 : decode cX8_meets 102 = .ok (.ifCond .ne 13, 3) := by decide +kernel
theorem dX8_meets_105 : decode cX8_meets 105 = .ok (.aload_n 0, 1) := by decide +kernel
theorem dX8_meets_106 : decode cX8_meets 106 = .ok (.iload_n 1, 1) := by decide +kernel
theorem dX8_meets_107 : decode cX8_meets 107 = .ok (.iload_n 2, 1) := by decide +kernel
theorem dX8_meets_108 : decode cX8_meets 108 = .ok (.iload_n 3, 1) := by decide +kernel
theorem dX8_meets_109 : decode cX8_meets 109 = .ok (.invokevirtual 236, 3) := by decide +kernel
theorem dX8_meets_112 : decode cX8_meets 112 = .ok (.ifCond .ne 20, 3) := by decide +kernel
theorem dX8_meets_115 : decode cX8_meets 115 = .ok (.iload 11, 2) := by decide +kernel
theorem dX8_meets_117 : decode cX8_meets 117 = .ok (.ifCond .ne 17, 3) := by decide +kernel
theorem dX8_meets_120 : decode cX8_meets 120 = .ok (.aload_n 0, 1) := by decide +kernel
theorem dX8_meets_121 : decode cX8_meets 121 = .ok (.iload_n 1, 1) := by decide +kernel
theorem dX8_meets_122 : decode cX8_meets 122 = .ok (.iload 4, 2) := by decide +kernel
theorem dX8_meets_124 : decode cX8_meets 124 = .ok (.iload 5, 2) := by decide +kernel
theorem dX8_meets_126 : decode cX8_meets 126 = .ok (.invokevirtual 236, 3) := by decide +kernel
theorem dX8_meets_129 : decode cX8_meets 129 = .ok (.ifCond .eq 5, 3) := by decide +kernel
theorem dX8_meets_132 : decode cX8_meets 132 = .ok (.iconst 1, 1) := by decide +kernel
theorem dX8_meets_133 : decode cX8_meets 133 = .ok (.ireturn, 1) := by decide +kernel
theorem dX8_meets_134 : decode cX8_meets 134 = .ok (.iload_n 2, 1) := by decide +kernel
theorem dX8_meets_135 : decode cX8_meets 135 = .ok (.iload 4, 2) := by decide +kernel
theorem dX8_meets_137 : decode cX8_meets 137 = .ok (.if_icmp .ne 9, 3) := by decide +kernel
theorem dX8_meets_140 : decode cX8_meets 140 = .ok (.iload_n 3, 1) := by decide +kernel
theorem dX8_meets_141 : decode cX8_meets 141 = .ok (.iload 5, 2) := by decide +kernel
theorem dX8_meets_143 : decode cX8_meets 143 = .ok (.if_icmp .eq 7, 3) := by decide +kernel
theorem dX8_meets_146 : decode cX8_meets 146 = .ok (.iconst 1, 1) := by decide +kernel
theorem dX8_meets_147 : decode cX8_meets 147 = .ok (.goto 4, 3) := by decide +kernel
theorem dX8_meets_150 : decode cX8_meets 150 = .ok (.iconst 0, 1) := by decide +kernel
theorem dX8_meets_151 : decode cX8_meets 151 = .ok (.istore 14, 2) := by decide +kernel
theorem dX8_meets_153 : decode cX8_meets 153 = .ok (.iload 14, 2) := by decide +kernel
theorem dX8_meets_155 : decode cX8_meets 155 = .ok (.ifCond .eq 24, 3) := by decide +kernel
theorem dX8_meets_158 : decode cX8_meets 158 = .ok (.iload 12, 2) := by decide +kernel
theorem dX8_meets_160 : decode cX8_meets 160 = .ok (.ifCond .ne 19, 3) := by decide +kernel
theorem dX8_meets_163 : decode cX8_meets 163 = .ok (.iload_n 2, 1) := by decide +kernel
theorem dX8_meets_164 : decode cX8_meets 164 = .ok (.iload_n 3, 1) := by decide +kernel
theorem dX8_meets_165 : decode cX8_meets 165 = .ok (.iload 4, 2) := by decide +kernel
theorem dX8_meets_167 : decode cX8_meets 167 = .ok (.iload 5, 2) := by decide +kernel
theorem dX8_meets_169 : decode cX8_meets 169 = .ok (.iload 6, 2) := by decide +kernel
theorem dX8_meets_171 : decode cX8_meets 171 = .ok (.iload 7, 2) := by decide +kernel
theorem dX8_meets_173 : decode cX8_meets 173 = .ok (.invokestatic 240, 3) := by decide +kernel
theorem dX8_meets_176 : decode cX8_meets 176 = .ok (.ifCond .ne 29, 3) := by decide +kernel
theorem dX8_meets_179 : decode cX8_meets 179 = .ok (.iload 14, 2) := by decide +kernel
theorem dX8_meets_181 : decode cX8_meets 181 = .ok (.ifCond .eq 26, 3) := by decide +kernel
theorem dX8_meets_184 : decode cX8_meets 184 = .ok (.iload 13, 2) := by decide +kernel
theorem dX8_meets_186 : decode cX8_meets 186 = .ok (.ifCond .ne 21, 3) := by decide +kernel
theorem dX8_meets_189 : decode cX8_meets 189 = .ok (.iload_n 2, 1) := by decide +kernel
theorem dX8_meets_190 : decode cX8_meets 190 = .ok (.iload_n 3, 1) := by decide +kernel
theorem dX8_meets_191 : decode cX8_meets 191 = .ok (.iload 4, 2) := by decide +kernel
theorem dX8_meets_193 : decode cX8_meets 193 = .ok (.iload 5, 2) := by decide +kernel
theorem dX8_meets_195 : decode cX8_meets 195 = .ok (.iload 8, 2) := by decide +kernel
theorem dX8_meets_197 : decode cX8_meets 197 = .ok (.iload 9, 2) := by decide +kernel
theorem dX8_meets_199 : decode cX8_meets 199 = .ok (.invokestatic 240, 3) := by decide +kernel
theorem dX8_meets_202 : decode cX8_meets 202 = .ok (.ifCond .eq 5, 3) := by decide +kernel
theorem dX8_meets_205 : decode cX8_meets 205 = .ok (.iconst 1, 1) := by decide +kernel
theorem dX8_meets_206 : decode cX8_meets 206 = .ok (.ireturn, 1) := by decide +kernel
theorem dX8_meets_207 : decode cX8_meets 207 = .ok (.iload 10, 2) := by decide +kernel
theorem dX8_meets_209 : decode cX8_meets 209 = .ok (.iload 11, 2) := by decide +kernel
theorem dX8_meets_211 : decode cX8_meets 211 = .ok (.imul, 1) := by decide +kernel
theorem dX8_meets_212 : decode cX8_meets 212 = .ok (.ifCond .ge 15, 3) := by decide +kernel
theorem dX8_meets_215 : decode cX8_meets 215 = .ok (.iload 12, 2) := by decide +kernel
theorem dX8_meets_217 : decode cX8_meets 217 = .ok (.iload 13, 2) := by decide +kernel
theorem dX8_meets_219 : decode cX8_meets 219 = .ok (.imul, 1) := by decide +kernel
theorem dX8_meets_220 : decode cX8_meets 220 = .ok (.ifCond .ge 7, 3) := by decide +kernel
theorem dX8_meets_223 : decode cX8_meets 223 = .ok (.iconst 1, 1) := by decide +kernel
theorem dX8_meets_224 : decode cX8_meets 224 = .ok (.goto 4, 3) := by decide +kernel
theorem dX8_meets_227 : decode cX8_meets 227 = .ok (.iconst 0, 1) := by decide +kernel
theorem dX8_meets_228 : decode cX8_meets 228 = .ok (.ireturn, 1) := by decide +kernel
theorem dX8_sees_0 : decode cX8_sees 0 = .ok (.aload_n 0, 1) := by decide +kernel
theorem dX8_sees_1 : decode cX8_sees 1 = .ok (.iconst 0, 1) := by decide +kernel
theorem dX8_sees_2 : decode cX8_sees 2 = .ok (.putfield 123, 3) := by decide +kernel
theorem dX8_sees_5 : decode cX8_sees 5 = .ok (.iload_n 1, 1) := by decide +kernel
theorem dX8_sees_6 : decode cX8_sees 6 = .ok (.iload_n 2, 1) := by decide +kernel
theorem dX8_sees_7 : decode cX8_sees 7 = .ok (.invokestatic 130, 3) := by decide +kernel
theorem dX8_sees_10 : decode cX8_sees 10 = .ok (.ifCond .eq 12, 3) := by decide +kernel
theorem dX8_sees_13 : decode cX8_sees 13 = .ok (.iload_n 3, 1) := by decide +kernel
theorem dX8_sees_14 : decode cX8_sees 14 = .ok (.iload 4, 2) := by decide +kernel
theorem dX8_sees_16 : decode cX8_sees 16 = .ok (.invokestatic 130, 3) := by decide +kernel
theorem dX8_sees_19 : decode cX8_sees 19 = .ok (.ifCond .ne 5, 3) := by decide +kernel
theorem dX8_sees_22 : decode cX8_sees 22 = .ok (.iconst (-1), 1) := by decide +kernel
theorem dX8_sees_23 : decode cX8_sees 23 = .ok (.ireturn, 1) := by decide +kernel
theorem dX8_sees_24 : decode cX8_sees 24 = .ok (.iconst 0, 1) := by decide +kernel
theorem dX8_sees_25 : decode cX8_sees 25 = .ok (.istore 5, 2) := by decide +kernel
theorem dX8_sees_27 : decode cX8_sees 27 = .ok (.iload 5, 2) := by decide +kernel
theorem dX8_sees_29 : decode cX8_sees 29 = .ok (.aload_n 0, 1) := by decide +kernel
theorem dX8_sees_30 : decode cX8_sees 30 = .ok (.getfield 127, 3) := by decide +kernel
theorem dX8_sees_33 : decode cX8_sees 33 = .ok (.if_icmp .ge 25, 3) := by decide +kernel
theorem dX8_sees_36 : decode cX8_sees 36 = .ok (.aload_n 0, 1) := by decide +kernel
theorem dX8_sees_37 : decode cX8_sees 37 = .ok (.iload 5, 2) := by decide +kernel
theorem dX8_sees_39 : decode cX8_sees 39 = .ok (.iload_n 1, 1) := by decide +kernel
theorem dX8_sees_40 : decode cX8_sees 40 = .ok (.iload_n 2, 1) := by decide +kernel
theorem dX8_sees_41 : decode cX8_sees 41 = .ok (.iload_n 3, 1) := by decide +kernel
theorem dX8_sees_42 : decode cX8_sees 42 = .ok (.iload 4, 2) := by decide +kernel
theorem dX8_sees_44 : decode cX8_sees 44 = .ok (.invokevirtual 244, 3) := by decide +kernel
theorem dX8_sees_47 : decode cX8_sees 47 = .ok (.ifCond .eq 5, 3) := by decide +kernel
theorem dX8_sees_50 : decode cX8_sees 50 = .ok (.iconst 0, 1) := by decide +kernel
theorem dX8_sees_51 : decode cX8_sees 51 = .ok (.ireturn, 1) := by decide +kernel
theorem dX8_sees_52 : decode cX8_sees 52 = .ok (.iinc 5 1, 3) := by decide +kernel
theorem dX8_sees_55 : decode cX8_sees 55 = .ok (.goto (-28), 3) := by decide +kernel
theorem dX8_sees_58 : decode cX8_sees 58 = .ok (.iconst 1, 1) := by decide +kernel
theorem dX8_sees_59 : decode cX8_sees 59 = .ok (.ireturn, 1) := by decide +kernel
theorem dX8_comes_0 : decode cX8_comes 0 = .ok (.aload_n 0, 1) := by decide +kernel
theorem dX8_comes_1 : decode cX8_comes 1 = .ok (.iload_n 1, 1) := by decide +kernel
theorem dX8_comes_2 : decode cX8_comes 2 = .ok (.iload_n 2, 1) := by decide +kernel
theorem dX8_comes_3 : decode cX8_comes 3 = .ok (.i2l, 1) := by decide +kernel
theorem dX8_comes_4 : decode cX8_comes 4 = .ok (.iload_n 3, 1) := by decide +kernel
theorem dX8_comes_5 : decode cX8_comes 5 = .ok (.i2l, 1) := by decide +kernel
theorem dX8_comes_6 : decode cX8_comes 6 = .ok (.invokevirtual 153, 3) := by decide +kernel
theorem dX8_comes_9 : decode cX8_comes 9 = .ok (.lstore 6, 2) := by decide +kernel
theorem dX8_comes_11 : decode cX8_comes 11 = .ok (.aload_n 0, 1) := by decide +kernel
theorem dX8_comes_12 : decode cX8_comes 12 = .ok (.getfield 16, 3) := by decide +kernel
theorem dX8_comes_15 : decode cX8_comes 15 = .ok (.iload_n 1, 1) := by decide +kernel
theorem dX8_comes_16 : decode cX8_comes 16 = .ok (.iaload, 1) := by decide +kernel
theorem dX8_comes_17 : decode cX8_comes 17 = .ok (.i2l, 1) := by decide +kernel
theorem dX8_comes_18 : decode cX8_comes 18 = .ok (.iload 5, 2) := by decide +kernel
theorem dX8_comes_20 : decode cX8_comes 20 = .ok (.i2l, 1) := by decide +kernel
theorem dX8_comes_21 : decode cX8_comes 21 = .ok (.lmul, 1) := by decide +kernel
theorem dX8_comes_22 : decode cX8_comes 22 = .ok (.aload_n 0, 1) := by decide +kernel
theorem dX8_comes_23 : decode cX8_comes 23 = .ok (.getfield 19, 3) := by decide +kernel
theorem dX8_comes_26 : decode cX8_comes 26 = .ok (.iload_n 1, 1) := by decide +kernel
theorem dX8_comes_27 : decode cX8_comes 27 = .ok (.iaload, 1) := by decide +kernel
theorem dX8_comes_28 : decode cX8_comes 28 = .ok (.i2l, 1) := by decide +kernel
theorem dX8_comes_29 : decode cX8_comes 29 = .ok (.iload 4, 2) := by decide +kernel
theorem dX8_comes_31 : decode cX8_comes 31 = .ok (.i2l, 1) := by decide +kernel
theorem dX8_comes_32 : decode cX8_comes 32 = .ok (.lmul, 1) := by decide +kernel
theorem dX8_comes_33 : decode cX8_comes 33 = .ok (.lsub, 1) := by decide +kernel
theorem dX8_comes_34 : decode cX8_comes 34 = .ok (.lstore 8, 2) := by decide +kernel
theorem dX8_comes_36 : decode cX8_comes 36 = .ok (.lload 8, 2) := by decide +kernel
theorem dX8_comes_38 : decode cX8_comes 38 = .ok (.lconst 0, 1) := by decide +kernel
theorem dX8_comes_39 : decode cX8_comes 39 = .ok (.lcmp, 1) := by decide +kernel
theorem dX8_comes_40 : decode cX8_comes 40 = .ok (.ifCond .eq 156, 3) := by decide +kernel
theorem dX8_comes_43 : decode cX8_comes 43 = .ok (.aload_n 0, 1) := by decide +kernel
theorem dX8_comes_44 : decode cX8_comes 44 = .ok (.lload 8, 2) := by decide +kernel
theorem dX8_comes_46 : decode cX8_comes 46 = .ok (.lconst 0, 1) := by decide +kernel
theorem dX8_comes_47 : decode cX8_comes 47 = .ok (.lcmp, 1) := by decide +kernel
theorem dX8_comes_48 : decode cX8_comes 48 = .ok (.ifCond .ge 8, 3) := by decide +kernel
theorem dX8_comes_51 : decode cX8_comes 51 = .ok (.lload 6, 2) := by decide +kernel
theorem dX8_comes_53 : decode cX8_comes 53 = .ok (.goto 6, 3) := by decide +kernel
theorem dX8_comes_56 : decode cX8_comes 56 = .ok (.lload 6, 2) := by decide +kernel
theorem dX8_comes_58 : decode cX8_comes 58 = .ok (.lneg, 1) := by decide +kernel
theorem dX8_comes_59 : decode cX8_comes 59 = .ok (.putfield 248, 3) := by decide +kernel
theorem dX8_comes_62 : decode cX8_comes 62 = .ok (.aload_n 0, 1) := by decide +kernel
theorem dX8_comes_63 : decode cX8_comes 63 = .ok (.lload 8, 2) := by decide +kernel
theorem dX8_comes_65 : decode cX8_comes 65 = .ok (.lconst 0, 1) := by decide +kernel
theorem dX8_comes_66 : decode cX8_comes 66 = .ok (.lcmp, 1) := by decide +kernel
theorem dX8_comes_67 : decode cX8_comes 67 = .ok (.ifCond .ge 9, 3) := by decide +kernel
theorem dX8_comes_70 : decode cX8_comes 70 = .ok (.lload 8, 2) := by decide +kernel
theorem dX8_comes_72 : decode cX8_comes 72 = .ok (.lneg, 1) := by decide +kernel
theorem dX8_comes_73 : decode cX8_comes 73 = .ok (.goto 5, 3) := by decide +kernel
theorem dX8_comes_76 : decode cX8_comes 76 = .ok (.lload 8, 2) := by decide +kernel
theorem dX8_comes_78 : decode cX8_comes 78 = .ok (.putfield 252, 3) := by decide +kernel
theorem dX8_comes_81 : decode cX8_comes 81 = .ok (.iload 4, 2) := by decide +kernel
theorem dX8_comes_83 : decode cX8_comes 83 = .ok (.i2l, 1) := by decide +kernel
theorem dX8_comes_84 : decode cX8_comes 84 = .ok (.aload_n 0, 1) := by decide +kernel
theorem dX8_comes_85 : decode cX8_comes 85 = .ok (.getfield 13, 3) := by decide +kernel
theorem dX8_comes_88 : decode cX8_comes 88 = .ok (.iload_n 1, 1) := by decide +kernel
theorem dX8_comes_89 : decode cX8_comes 89 = .ok (.iaload, 1) := by decide +kernel
theorem dX8_comes_90 : decode cX8_comes 90 = .ok (.iload_n 3, 1) := by decide +kernel
theorem dX8_comes_91 : decode cX8_comes 91 = .ok (.isub, 1) := by decide +kernel
theorem dX8_comes_92 : decode cX8_comes 92 = .ok (.i2l, 1) := by decide +kernel
theorem dX8_comes_93 : decode cX8_comes 93 = .ok (.lmul, 1) := by decide +kernel
theorem dX8_comes_94 : decode cX8_comes 94 = .ok (.iload 5, 2) := by decide +kernel
theorem dX8_comes_96 : decode cX8_comes 96 = .ok (.i2l, 1) := by decide +kernel
theorem dX8_comes_97 : decode cX8_comes 97 = .ok (.aload_n 0, 1) := by decide +kernel
theorem dX8_comes_98 : decode cX8_comes 98 = .ok (.getfield 7, 3) := by decide +kernel
theorem dX8_comes_101 : decode cX8_comes 101 = .ok (.iload_n 1, 1) := by decide +kernel
theorem dX8_comes_102 : decode cX8_comes 102 = .ok (.iaload, 1) := by decide +kernel
theorem dX8_comes_103 : decode cX8_comes 103 = .ok (.iload_n 2, 1) := by decide +kernel
theorem dX8_comes_104 : decode cX8_comes 104 = .ok (.isub, 1) := by decide +kernel
theorem dX8_comes_105 : decode cX8_comes 105 = .ok (.i2l, 1) := by decide +kernel
theorem dX8_comes_106 : decode cX8_comes 106 = .ok (.lmul, 1) := by decide +kernel
theorem dX8_comes_107 : decode cX8_comes 107 = .ok (.lsub, 1) := by decide +kernel
theorem dX8_comes_108 : decode cX8_comes 108 = .ok (.lstore 10, 2) := by decide +kernel
theorem dX8_comes_110 : decode cX8_comes 110 = .ok (.iload 4, 2) := by decide +kernel
theorem dX8_comes_112 : decode cX8_comes 112 = .ok (.i2l, 1) := by decide +kernel
theorem dX8_comes_113 : decode cX8_comes 113 = .ok (.aload_n 0, 1) := by decide +kernel
theorem dX8_comes_114 : decode cX8_comes 114 = .ok (.getfield 13, 3) := by decide +kernel
theorem dX8_comes_117 : decode cX8_comes 117 = .ok (.iload_n 1, 1) := by decide +kernel
theorem dX8_comes_118 : decode cX8_comes 118 = .ok (.iaload, 1) := by decide +kernel
theorem dX8_comes_119 : decode cX8_comes 119 = .ok (.aload_n 0, 1) := by decide +kernel
theorem dX8_comes_120 : decode cX8_comes 120 = .ok (.getfield 19, 3) := by decide +kernel
theorem dX8_comes_123 : decode cX8_comes 123 = .ok (.iload_n 1, 1) := by decide +kernel
theorem dX8_comes_124 : decode cX8_comes 124 = .ok (.iaload, 1) := by decide +kernel
theorem dX8_comes_125 : decode cX8_comes 125 = .ok (.iadd, 1) := by decide +kernel
theorem dX8_comes_126 : decode cX8_comes 126 = .ok (.iload_n 3, 1) := by decide +kernel
theorem dX8_comes_127 : decode cX8_comes 127 = .ok (.isub, 1) := by decide +kernel
theorem dX8_comes_128 : decode cX8_comes 128 = .ok (.i2l, 1) := by decide +kernel
theorem dX8_comes_129 : decode cX8_comes 129 = .ok (.lmul, 1) := by decide +kernel
theorem dX8_comes_130 : decode cX8_comes 130 = .ok (.iload 5, 2) := by decide +kernel
theorem dX8_comes_132 : decode cX8_comes 132 = .ok (.i2l, 1) := by decide +kernel
theorem dX8_comes_133 : decode cX8_comes 133 = .ok (.aload_n 0, 1) := by decide +kernel
theorem dX8_comes_134 : decode cX8_comes 134 = .ok (.getfield 7, 3) := by decide +kernel
theorem dX8_comes_137 : decode cX8_comes 137 = .ok (.iload_n 1, 1) := by decide +kernel
theorem dX8_comes_138 : decode cX8_comes 138 = .ok (.iaload, 1) := by decide +kernel
theorem dX8_comes_139 : decode cX8_comes 139 = .ok (.aload_n 0, 1) := by decide +kernel
theorem dX8_comes_140 : decode cX8_comes 140 = .ok (.getfield 16, 3) := by decide +kernel
theorem dX8_comes_143 : decode cX8_comes 143 = .ok (.iload_n 1, 1) := by decide +kernel
theorem dX8_comes_144 : decode cX8_comes 144 = .ok (.iaload, 1) := by decide +kernel
theorem dX8_comes_145 : decode cX8_comes 145 = .ok (.iadd, 1) := by decide +kernel
theorem dX8_comes_146 : decode cX8_comes 146 = .ok (.iload_n 2, 1) := by decide +kernel
theorem dX8_comes_147 : decode cX8_comes 147 = .ok (.isub, 1) := by decide +kernel
theorem dX8_comes_148 : decode cX8_comes 148 = .ok (.i2l, 1) := by decide +kernel
theorem dX8_comes_149 : decode cX8_comes 149 = .ok (.lmul, 1) := by decide +kernel
theorem dX8_comes_150 : decode cX8_comes 150 = .ok (.lsub, 1) := by decide +kernel
theorem dX8_comes_151 : decode cX8_comes 151 = .ok (.lstore 12, 2) := by decide +kernel
theorem dX8_comes_153 : decode cX8_comes 153 = .ok (.aload_n 0, 1) := by decide +kernel
theorem dX8_comes_154 : decode cX8_comes 154 = .ok (.getfield 248, 3) := by decide +kernel
theorem dX8_comes_157 : decode cX8_comes 157 = .ok (.lconst 0, 1) := by decide +kernel
theorem dX8_comes_158 : decode cX8_comes 158 = .ok (.lcmp, 1) := by decide +kernel
theorem dX8_comes_159 : decode cX8_comes 159 = .ok (.ifCond .lt 35, 3) := by decide +kernel
theorem dX8_comes_162 : decode cX8_comes 162 = .ok (.lload 10, 2) := by decide +kernel
theorem dX8_comes_164 : decode cX8_comes 164 = .ok (.lconst 0, 1) := by decide +kernel
theorem dX8_comes_165 : decode cX8_comes 165 = .ok (.lcmp, 1) := by decide +kernel
theorem dX8_comes_166 : decode cX8_comes 166 = .ok (.ifCond .gt 10, 3) := by decide +kernel
theorem dX8_comes_169 : decode cX8_comes 169 = .ok (.lload 12, 2) := by decide +kernel
theorem dX8_comes_171 : decode cX8_comes 171 = .ok (.lconst 0, 1) := by decide +kernel
theorem dX8_comes_172 : decode cX8_comes 172 = .ok (.lcmp, 1) := by decide +kernel
theorem dX8_comes_173 : decode cX8_comes 173 = .ok (.ifCond .ge 17, 3) := by decide +kernel
theorem dX8_comes_176 : decode cX8_comes 176 = .ok (.lload 10, 2) := by decide +kernel
theorem dX8_comes_178 : decode cX8_comes 178 = .ok (.lconst 0, 1) := by decide +kernel
theorem dX8_comes_179 : decode cX8_comes 179 = .ok (.lcmp, 1) := by decide +kernel
theorem dX8_comes_180 : decode cX8_comes 180 = .ok (.ifCond .lt 14, 3) := by decide +kernel
theorem dX8_comes_183 : decode cX8_comes 183 = .ok (.lload 12, 2) := by decide +kernel
theorem dX8_comes_185 : decode cX8_comes 185 = .ok (.lconst 0, 1) := by decide +kernel
theorem dX8_comes_186 : decode cX8_comes 186 = .ok (.lcmp, 1) := by decide +kernel
theorem dX8_comes_187 : decode cX8_comes 187 = .ok (.ifCond .gt 7, 3) := by decide +kernel
theorem dX8_comes_190 : decode cX8_comes 190 = .ok (.iconst 1, 1) := by decide +kernel
theorem dX8_comes_191 : decode cX8_comes 191 = .ok (.goto 4, 3) := by decide +kernel
theorem dX8_comes_194 : decode cX8_comes 194 = .ok (.iconst 0, 1) := by decide +kernel
theorem dX8_comes_195 : decode cX8_comes 195 = .ok (.ireturn, 1) := by decide +kernel
theorem dX8_comes_196 : decode cX8_comes 196 = .ok (.lload 6, 2) := by decide +kernel
theorem dX8_comes_198 : decode cX8_comes 198 = .ok (.lconst 0, 1) := by decide +kernel
theorem dX8_comes_199 : decode cX8_comes 199 = .ok (.lcmp, 1) := by decide +kernel
theorem dX8_comes_200 : decode cX8_comes 200 = .ok (.ifCond .eq 5, 3) := by decide +kernel
theorem dX8_comes_203 : decode cX8_comes 203 = .ok (.iconst 0, 1) := by decide +kernel
theorem dX8_comes_204 : decode cX8_comes 204 = .ok (.ireturn, 1) := by decide +kernel
theorem dX8_comes_205 : decode cX8_comes 205 = .ok (.iload 4, 2) := by decide +kernel
theorem dX8_comes_207 : decode cX8_comes 207 = .ok (.ifCond .eq 9, 3) := by decide +kernel
theorem dX8_comes_210 : decode cX8_comes 210 = .ok (.iload 4, 2) := by decide +kernel
theorem dX8_comes_212 : decode cX8_comes 212 = .ok (.i2l, 1) := by decide +kernel
theorem dX8_comes_213 : decode cX8_comes 213 = .ok (.goto 6, 3) := by decide +kernel
theorem dX8_comes_216 : decode cX8_comes 216 = .ok (.iload 5, 2) := by decide +kernel
theorem dX8_comes_218 : decode cX8_comes 218 = .ok (.i2l, 1) := by decide +kernel
theorem dX8_comes_219 : decode cX8_comes 219 = .ok (.lstore 10, 2) := by decide +kernel
theorem dX8_comes_221 : decode cX8_comes 221 = .ok (.iload 4, 2) := by decide +kernel
theorem dX8_comes_223 : decode cX8_comes 223 = .ok (.ifCond .eq 15, 3) := by decide +kernel
theorem dX8_comes_226 : decode cX8_comes 226 = .ok (.aload_n 0, 1) := by decide +kernel
theorem dX8_comes_227 : decode cX8_comes 227 = .ok (.getfield 7, 3) := by decide +kernel
theorem dX8_comes_230 : decode cX8_comes 230 = .ok (.iload_n 1, 1) := by decide +kernel
theorem dX8_comes_231 : decode cX8_comes 231 = .ok (.iaload, 1) := by decide +kernel
theorem dX8_comes_232 : decode cX8_comes 232 = .ok (.iload_n 2, 1) := by decide +kernel
theorem dX8_comes_233 : decode cX8_comes 233 = .ok (.isub, 1) := by decide +kernel
theorem dX8_comes_234 : decode cX8_comes 234 = .ok (.i2l, 1) := by decide +kernel
theorem dX8_comes_235 : decode cX8_comes 235 = .ok (.goto 12, 3) := by decide +kernel
theorem dX8_comes_238 : decode cX8_comes 238 = .ok (.aload_n 0, 1) := by decide +kernel
theorem dX8_comes_239 : decode cX8_comes 239 = .ok (.getfield 13, 3) := by decide +kernel
theorem dX8_comes_242 : decode cX8_comes 242 = .ok (.iload_n 1, 1) := by decide +kernel
theorem dX8_comes_243 : decode cX8_comes 243 = .ok (.iaload, 1) := by decide +kernel
theorem dX8_comes_244 : decode cX8_comes 244 = .ok (.iload_n 3, 1) := by decide +kernel
theorem dX8_comes_245 : decode cX8_comes 245 = .ok (.isub, 1) := by decide +kernel
theorem dX8_comes_246 : decode cX8_comes 246 = .ok (.i2l, 1) := by decide +kernel
theorem dX8_comes_247 : decode cX8_comes 247 = .ok (.lstore 12, 2) := by decide +kernel
theorem dX8_comes_249 : decode cX8_comes 249 = .ok (.iload 4, 2) := by decide +kernel
theorem dX8_comes_251 : decode cX8_comes 251 = .ok (.ifCond .eq 16, 3) := by decide +kernel
theorem dX8_comes_254 : decode cX8_comes 254 = .ok (.lload 12, 2) := by decide +kernel
theorem dX8_comes_256 : decode cX8_comes 256 = .ok (.aload_n 0, 1) := by decide +kernel
theorem dX8_comes_257 : decode cX8_comes 257 = .ok (.getfield 16, 3) := by decide +kernel
theorem dX8_comes_260 : decode cX8_comes 260 = .ok (.iload_n 1, 1) := by decide +kernel
theorem dX8_comes_261 : decode cX8_comes 261 = .ok (.iaload, 1) := by decide +kernel
theorem dX8_comes_262 : decode cX8_comes 262 = .ok (.i2l, 1) := by decide +kernel
theorem dX8_comes_263 : decode cX8_comes 263 = .ok (.ladd, 1) := by decide +kernel
theorem dX8_comes_264 : decode cX8_comes 264 = .ok (.goto 13, 3) := by decide +kernel
theorem dX8_comes_267 : decode cX8_comes 267 = .ok (.lload 12, 2) := by decide +kernel
theorem dX8_comes_269 : decode cX8_comes 269 = .ok (.aload_n 0, 1) := by decide +kernel
theorem dX8_comes_270 : decode cX8_comes 270 = .ok (.getfield 19, 3) := by decide +kernel
theorem dX8_comes_273 : decode cX8_comes 273 = .ok (.iload_n 1, 1) := by decide +kernel
theorem dX8_comes_274 : decode cX8_comes 274 = .ok (.iaload, 1) := by decide +kernel
theorem dX8_comes_275 : decode cX8_comes 275 = .ok (.i2l, 1) := by decide +kernel
theorem dX8_comes_276 : decode cX8_comes 276 = .ok (.ladd, 1) := by decide +kernel
theorem dX8_comes_277 : decode cX8_comes 277 = .ok (.lstore 14, 2) := by decide +kernel
theorem dX8_comes_279 : decode cX8_comes 279 = .ok (.lload 10, 2) := by decide +kernel
theorem dX8_comes_281 : decode cX8_comes 281 = .ok (.lconst 0, 1) := by decide +kernel
theorem dX8_comes_282 : decode cX8_comes 282 = .ok (.lcmp, 1) := by decide +kernel
theorem dX8_comes_283 : decode cX8_comes 283 = .ok (.ifCond .ge 18, 3) := by decide +kernel
theorem dX8_comes_286 : decode cX8_comes 286 = .ok (.lload 10, 2) := by decide +kernel
theorem dX8_comes_288 : decode cX8_comes 288 = .ok (.lneg, 1) := by decide +kernel
theorem dX8_comes_289 : decode cX8_comes 289 = .ok (.lstore 10, 2) := by decide +kernel
theorem dX8_comes_291 : decode cX8_comes 291 = .ok (.lload 12, 2) := by decide +kernel
theorem dX8_comes_293 : decode cX8_comes 293 = .ok (.lneg, 1) := by decide +kernel
theorem dX8_comes_294 : decode cX8_comes 294 = .ok (.lstore 12, 2) := by decide +kernel
theorem dX8_comes_296 : decode cX8_comes 296 = .ok (.lload 14, 2) := by decide +kernel
theorem dX8_comes_298 : decode cX8_comes 298 = .ok (.lneg, 1) := by decide +kernel
theorem dX8_comes_299 : decode cX8_comes 299 = .ok (.lstore 14, 2) := by decide +kernel
theorem dX8_comes_301 : decode cX8_comes 301 = .ok (.lload 12, 2) := by decide +kernel
theorem dX8_comes_303 : decode cX8_comes 303 = .ok (.lload 14, 2) := by decide +kernel
theorem dX8_comes_305 : decode cX8_comes 305 = .ok (.lcmp, 1) := by decide +kernel
theorem dX8_comes_306 : decode cX8_comes 306 = .ok (.ifCond .ge 8, 3) := by decide +kernel
theorem dX8_comes_309 : decode cX8_comes 309 = .ok (.lload 12, 2) := by decide +kernel
theorem dX8_comes_311 : decode cX8_comes 311 = .ok (.goto 5, 3) := by decide +kernel
theorem dX8_comes_314 : decode cX8_comes 314 = .ok (.lload 14, 2) := by decide +kernel
theorem dX8_comes_316 : decode cX8_comes 316 = .ok (.lstore 16, 2) := by decide +kernel
theorem dX8_comes_318 : decode cX8_comes 318 = .ok (.lload 12, 2) := by decide +kernel
theorem dX8_comes_320 : decode cX8_comes 320 = .ok (.lload 14, 2) := by decide +kernel
theorem dX8_comes_322 : decode cX8_comes 322 = .ok (.lcmp, 1) := by decide +kernel
theorem dX8_comes_323 : decode cX8_comes 323 = .ok (.ifCond .ge 8, 3) := by decide +kernel
theorem dX8_comes_326 : decode cX8_comes 326 = .ok (.lload 14, 2) := by decide +kernel
theorem dX8_comes_328 : decode cX8_comes 328 = .ok (.goto 5, 3) := by decide +kernel
theorem dX8_comes_331 : decode cX8_comes 331 = .ok (.lload 12, 2) := by decide +kernel
theorem dX8_comes_333 : decode cX8_comes 333 = .ok (.lstore 18, 2) := by decide +kernel
theorem dX8_comes_335 : decode cX8_comes 335 = .ok (.aload_n 0, 1) := by decide +kernel
theorem dX8_comes_336 : decode cX8_comes 336 = .ok (.lload 16, 2) := by decide +kernel
theorem dX8_comes_338 : decode cX8_comes 338 = .ok (.lconst 0, 1) := by decide +kernel
theorem dX8_comes_339 : decode cX8_comes 339 = .ok (.lcmp, 1) := by decide +kernel
theorem dX8_comes_340 : decode cX8_comes 340 = .ok (.ifCond .ge 7, 3) := by decide +kernel
theorem dX8_comes_343 : decode cX8_comes 343 = .ok (.lconst 0, 1) := by decide +kernel
theorem dX8_comes_344 : decode cX8_comes 344 = .ok (.goto 5, 3) := by decide +kernel
theorem dX8_comes_347 : decode cX8_comes 347 = .ok (.lload 16, 2) := by decide +kernel
theorem dX8_comes_349 : decode cX8_comes 349 = .ok (.putfield 248, 3) := by decide +kernel
theorem dX8_comes_352 : decode cX8_comes 352 = .ok (.aload_n 0, 1) := by decide +kernel
theorem dX8_comes_353 : decode cX8_comes 353 = .ok (.lload 10, 2) := by decide +kernel
theorem dX8_comes_355 : decode cX8_comes 355 = .ok (.putfield 252, 3) := by decide +kernel
theorem dX8_comes_358 : decode cX8_comes 358 = .ok (.lload 18, 2) := by decide +kernel
theorem dX8_comes_360 : decode cX8_comes 360 = .ok (.lconst 0, 1) := by decide +kernel
theorem dX8_comes_361 : decode cX8_comes 361 = .ok (.lcmp, 1) := by decide +kernel
theorem dX8_comes_362 : decode cX8_comes 362 = .ok (.ifCond .lt 7, 3) := by decide +kernel
theorem dX8_comes_365 : decode cX8_comes 365 = .ok (.iconst 1, 1) := by decide +kernel
theorem dX8_comes_366 : decode cX8_comes 366 = .ok (.goto 4, 3) := by decide +kernel
theorem dX8_comes_369 : decode cX8_comes 369 = .ok (.iconst 0, 1) := by decide +kernel
theorem dX8_comes_370 : decode cX8_comes 370 = .ok (.ireturn, 1) := by decide +kernel
theorem dX8_ray_0 : decode cX8_ray 0 = .ok (.aload_n 0, 1) := by decide +kernel
theorem dX8_ray_1 : decode cX8_ray 1 = .ok (.iconst 0, 1) := by decide +kernel
theorem dX8_ray_2 : decode cX8_ray 2 = .ok (.putfield 123, 3) := by decide +kernel
theorem dX8_ray_5 : decode cX8_ray 5 = .ok (.iload_n 1, 1) := by decide +kernel
theorem dX8_ray_6 : decode cX8_ray 6 = .ok (.iload_n 2, 1) := by decide +kernel
theorem dX8_ray_7 : decode cX8_ray 7 = .ok (.invokestatic 130, 3) := by decide +kernel
theorem dX8_ray_10 : decode cX8_ray 10 = .ok (.ifCond .eq 21, 3) := by decide +kernel
theorem dX8_ray_13 : decode cX8_ray 13 = .ok (.iload_n 3, 1) := by decide +kernel
theorem dX8_ray_14 : decode cX8_ray 14 = .ok (.iload 4, 2) := by decide +kernel
theorem dX8_ray_16 : decode cX8_ray 16 = .ok (.invokestatic 130, 3) := by decide +kernel
theorem dX8_ray_19 : decode cX8_ray 19 = .ok (.ifCond .eq 12, 3) := by decide +kernel
theorem dX8_ray_22 : decode cX8_ray 22 = .ok (.iload_n 3, 1) := by decide +kernel
theorem dX8_ray_23 : decode cX8_ray 23 = .ok (.ifCond .ne 10, 3) := by decide +kernel
theorem dX8_ray_26 : decode cX8_ray 26 = .ok (.iload 4, 2) := by decide +kernel
theorem dX8_ray_28 : decode cX8_ray 28 = .ok (.ifCond .ne 5, 3) := by decide +kernel
theorem dX8_ray_31 : decode cX8_ray 31 = .ok (.iconst (-1), 1) := by decide +kernel
theorem dX8_ray_32 : decode cX8_ray 32 = .ok (.ireturn, 1) := by decide +kernel
theorem dX8_ray_33 : decode cX8_ray 33 = .ok (.aload_n 0, 1) := by decide +kernel
theorem dX8_ray_34 : decode cX8_ray 34 = .ok (.iconst 0, 1) := by decide +kernel
theorem dX8_ray_35 : decode cX8_ray 35 = .ok (.putfield 255, 3) := by decide +kernel
theorem dX8_ray_38 : decode cX8_ray 38 = .ok (.iconst 0, 1) := by decide +kernel
theorem dX8_ray_39 : decode cX8_ray 39 = .ok (.istore 5, 2) := by decide +kernel
theorem dX8_ray_41 : decode cX8_ray 41 = .ok (.iload 5, 2) := by decide +kernel
theorem dX8_ray_43 : decode cX8_ray 43 = .ok (.aload_n 0, 1) := by decide +kernel
theorem dX8_ray_44 : decode cX8_ray 44 = .ok (.getfield 127, 3) := by decide +kernel
theorem dX8_ray_47 : decode cX8_ray 47 = .ok (.if_icmp .ge 187, 3) := by decide +kernel
theorem dX8_ray_50 : decode cX8_ray 50 = .ok (.aload_n 0, 1) := by decide +kernel
theorem dX8_ray_51 : decode cX8_ray 51 = .ok (.iload 5, 2) := by decide +kernel
theorem dX8_ray_53 : decode cX8_ray 53 = .ok (.iload_n 1, 1) := by decide +kernel
theorem dX8_ray_54 : decode cX8_ray 54 = .ok (.iload_n 2, 1) := by decide +kernel
theorem dX8_ray_55 : decode cX8_ray 55 = .ok (.iload_n 3, 1) := by decide +kernel
