theorem dL_law_190 : decode cL_law 190 = .ok (.iconst 4, 1) := by decide +kernel
theorem dL_law_191 : decode cL_law 191 = .ok (.if_icmp .ge 114, 3) := by decide +kernel
theorem dL_law_194 : decode cL_law 194 = .ok (.aload_n 1, 1) := by decide +kernel
theorem dL_law_195 : decode cL_law 195 = .ok (.iload 12, 2) := by decide +kernel
theorem dL_law_197 : decode cL_law 197 = .ok (.iconst 1, 1) := by decide +kernel
theorem dL_law_198 : decode cL_law 198 = .ok (.iload 9, 2) := by decide +kernel
theorem dL_law_200 : decode cL_law 200 = .ok (.iload 13, 2) := by decide +kernel
theorem dL_law_202 : decode cL_law 202 = .ok (.invokevirtual 124, 3) := by decide +kernel
theorem dL_law_205 : decode cL_law 205 = .ok (.istore 14, 2) := by decide +kernel
theorem dL_law_207 : decode cL_law 207 = .ok (.aload_n 1, 1) := by decide +kernel
theorem dL_law_208 : decode cL_law 208 = .ok (.iload 12, 2) := by decide +kernel
theorem dL_law_210 : decode cL_law 210 = .ok (.iconst 2, 1) := by decide +kernel
theorem dL_law_211 : decode cL_law 211 = .ok (.iload 9, 2) := by decide +kernel
theorem dL_law_213 : decode cL_law 213 = .ok (.iload 13, 2) := by decide +kernel
theorem dL_law_215 : decode cL_law 215 = .ok (.invokevirtual 124, 3) := by decide +kernel
theorem dL_law_218 : decode cL_law 218 = .ok (.istore 15, 2) := by decide +kernel
theorem dL_law_220 : decode cL_law 220 = .ok (.aload_n 1, 1) := by decide +kernel
theorem dL_law_221 : decode cL_law 221 = .ok (.iload 12, 2) := by decide +kernel
theorem dL_law_223 : decode cL_law 223 = .ok (.iconst 3, 1) := by decide +kernel
theorem dL_law_224 : decode cL_law 224 = .ok (.iload 9, 2) := by decide +kernel
theorem dL_law_226 : decode cL_law 226 = .ok (.iload 13, 2) := by decide +kernel
theorem dL_law_228 : decode cL_law 228 = .ok (.invokevirtual 124, 3) := by decide +kernel
theorem dL_law_231 : decode cL_law 231 = .ok (.istore 16, 2) := by decide +kernel
theorem dL_law_233 : decode cL_law 233 = .ok (.iload 4, 2) := by decide +kernel
theorem dL_law_235 : decode cL_law 235 = .ok (.ifCond .eq 61, 3) := by decide +kernel
theorem dL_law_238 : decode cL_law 238 = .ok (.iload 14, 2) := by decide +kernel
theorem dL_law_240 : decode cL_law 240 = .ok (.ifCond .lt 56, 3) := by decide +kernel
theorem dL_law_243 : decode cL_law 243 = .ok (.iload 15, 2) := by decide +kernel
theorem dL_law_245 : decode cL_law 245 = .ok (.ifCond .lt 51, 3) := by decide +kernel
theorem dL_law_248 : decode cL_law 248 = .ok (.iload 16, 2) := by decide +kernel
theorem dL_law_250 : decode cL_law 250 = .ok (.ifCond .lt 46, 3) := by decide +kernel
theorem dL_law_253 : decode cL_law 253 = .ok (.aload 5, 2) := by decide +kernel
theorem dL_law_255 : decode cL_law 255 = .ok (.iload 9, 2) := by decide +kernel
theorem dL_law_257 : decode cL_law 257 = .ok (.iaload, 1) := by decide +kernel
theorem dL_law_258 : decode cL_law 258 = .ok (.ifCond .gt 14, 3) := by decide +kernel
theorem dL_law_261 : decode cL_law 261 = .ok (.iload 14, 2) := by decide +kernel
theorem dL_law_263 : decode cL_law 263 = .ok (.iload 15, 2) := by decide +kernel
theorem dL_law_265 : decode cL_law 265 = .ok (.iadd, 1) := by decide +kernel
theorem dL_law_266 : decode cL_law 266 = .ok (.iload 16, 2) := by decide +kernel
theorem dL_law_268 : decode cL_law 268 = .ok (.iadd, 1) := by decide +kernel
theorem dL_law_269 : decode cL_law 269 = .ok (.ifCond .ne 27, 3) := by decide +kernel
theorem dL_law_272 : decode cL_law 272 = .ok (.iload 12, 2) := by decide +kernel
theorem dL_law_274 : decode cL_law 274 = .ok (.iconst 1, 1) := by decide +kernel
theorem dL_law_275 : decode cL_law 275 = .ok (.if_icmp .eq 17, 3) := by decide +kernel
theorem dL_law_278 : decode cL_law 278 = .ok (.iload 14, 2) := by decide +kernel
theorem dL_law_280 : decode cL_law 280 = .ok (.iload 15, 2) := by decide +kernel
theorem dL_law_282 : decode cL_law 282 = .ok (.if_icmp .gt 14, 3) := by decide +kernel
theorem dL_law_285 : decode cL_law 285 = .ok (.iload 15, 2) := by decide +kernel
theorem dL_law_287 : decode cL_law 287 = .ok (.iload 16, 2) := by decide +kernel
theorem dL_law_289 : decode cL_law 289 = .ok (.if_icmp .gt 7, 3) := by decide +kernel
theorem dL_law_292 : decode cL_law 292 = .ok (.iconst 1, 1) := by decide +kernel
theorem dL_law_293 : decode cL_law 293 = .ok (.goto 4, 3) := by decide +kernel
theorem dL_law_296 : decode cL_law 296 = .ok (.iconst 0, 1) := by decide +kernel
theorem dL_law_297 : decode cL_law 297 = .ok (.istore 4, 2) := by decide +kernel
theorem dL_law_299 : decode cL_law 299 = .ok (.iinc 13 1, 3) := by decide +kernel
theorem dL_law_302 : decode cL_law 302 = .ok (.goto (-114), 3) := by decide +kernel
theorem dL_law_305 : decode cL_law 305 = .ok (.iinc 12 1, 3) := by decide +kernel
theorem dL_law_308 : decode cL_law 308 = .ok (.goto (-130), 3) := by decide +kernel
theorem dL_law_311 : decode cL_law 311 = .ok (.iload 7, 2) := by decide +kernel
theorem dL_law_313 : decode cL_law 313 = .ok (.aload 5, 2) := by decide +kernel
theorem dL_law_315 : decode cL_law 315 = .ok (.iload 9, 2) := by decide +kernel
theorem dL_law_317 : decode cL_law 317 = .ok (.iaload, 1) := by decide +kernel
theorem dL_law_318 : decode cL_law 318 = .ok (.ifCond .ne 7, 3) := by decide +kernel
theorem dL_law_321 : decode cL_law 321 = .ok (.iconst 1, 1) := by decide +kernel
theorem dL_law_322 : decode cL_law 322 = .ok (.goto 17, 3) := by decide +kernel
theorem dL_law_325 : decode cL_law 325 = .ok (.aload 5, 2) := by decide +kernel
theorem dL_law_327 : decode cL_law 327 = .ok (.iload 9, 2) := by decide +kernel
theorem dL_law_329 : decode cL_law 329 = .ok (.iaload, 1) := by decide +kernel
theorem dL_law_330 : decode cL_law 330 = .ok (.iconst 2, 1) := by decide +kernel
theorem dL_law_331 : decode cL_law 331 = .ok (.if_icmp .ne 7, 3) := by decide +kernel
theorem dL_law_334 : decode cL_law 334 = .ok (.iconst 3, 1) := by decide +kernel
theorem dL_law_335 : decode cL_law 335 = .ok (.goto 4, 3) := by decide +kernel
theorem dL_law_338 : decode cL_law 338 = .ok (.iconst 0, 1) := by decide +kernel
theorem dL_law_339 : decode cL_law 339 = .ok (.iadd, 1) := by decide +kernel
theorem dL_law_340 : decode cL_law 340 = .ok (.istore 7, 2) := by decide +kernel
theorem dL_law_342 : decode cL_law 342 = .ok (.iload 8, 2) := by decide +kernel
theorem dL_law_344 : decode cL_law 344 = .ok (.aload_n 1, 1) := by decide +kernel
theorem dL_law_345 : decode cL_law 345 = .ok (.iconst 1, 1) := by decide +kernel
theorem dL_law_346 : decode cL_law 346 = .ok (.iconst 1, 1) := by decide +kernel
theorem dL_law_347 : decode cL_law 347 = .ok (.iload 9, 2) := by decide +kernel
theorem dL_law_349 : decode cL_law 349 = .ok (.iconst 0, 1) := by decide +kernel
theorem dL_law_350 : decode cL_law 350 = .ok (.invokevirtual 124, 3) := by decide +kernel
theorem dL_law_353 : decode cL_law 353 = .ok (.iadd, 1) := by decide +kernel
theorem dL_law_354 : decode cL_law 354 = .ok (.istore 8, 2) := by decide +kernel
theorem dL_law_356 : decode cL_law 356 = .ok (.iload 4, 2) := by decide +kernel
theorem dL_law_358 : decode cL_law 358 = .ok (.ifCond .eq 14, 3) := by decide +kernel
theorem dL_law_361 : decode cL_law 361 = .ok (.iload 8, 2) := by decide +kernel
theorem dL_law_363 : decode cL_law 363 = .ok (.iload 7, 2) := by decide +kernel
theorem dL_law_365 : decode cL_law 365 = .ok (.if_icmp .gt 7, 3) := by decide +kernel
theorem dL_law_368 : decode cL_law 368 = .ok (.iconst 1, 1) := by decide +kernel
theorem dL_law_369 : decode cL_law 369 = .ok (.goto 4, 3) := by decide +kernel
theorem dL_law_372 : decode cL_law 372 = .ok (.iconst 0, 1) := by decide +kernel
theorem dL_law_373 : decode cL_law 373 = .ok (.istore 4, 2) := by decide +kernel
theorem dL_law_375 : decode cL_law 375 = .ok (.iinc 9 1, 3) := by decide +kernel
theorem dL_law_378 : decode cL_law 378 = .ok (.goto (-286), 3) := by decide +kernel
theorem dL_law_381 : decode cL_law 381 = .ok (.iconst 0, 1) := by decide +kernel
theorem dL_law_382 : decode cL_law 382 = .ok (.istore 9, 2) := by decide +kernel
theorem dL_law_384 : decode cL_law 384 = .ok (.iload 9, 2) := by decide +kernel
theorem dL_law_386 : decode cL_law 386 = .ok (.iconst 4, 1) := by decide +kernel
theorem dL_law_387 : decode cL_law 387 = .ok (.if_icmp .ge 64, 3) := by decide +kernel
theorem dL_law_390 : decode cL_law 390 = .ok (.aload_n 0, 1) := by decide +kernel
theorem dL_law_391 : decode cL_law 391 = .ok (.bipush 20, 2) := by decide +kernel
theorem dL_law_393 : decode cL_law 393 = .ok (.iload 9, 2) := by decide +kernel
theorem dL_law_395 : decode cL_law 395 = .ok (.iadd, 1) := by decide +kernel
theorem dL_law_396 : decode cL_law 396 = .ok (.invokestatic 29, 3) := by decide +kernel
theorem dL_law_399 : decode cL_law 399 = .ok (.istore 10, 2) := by decide +kernel
theorem dL_law_401 : decode cL_law 401 = .ok (.iload 4, 2) := by decide +kernel
theorem dL_law_403 : decode cL_law 403 = .ok (.ifCond .eq 39, 3) := by decide +kernel
theorem dL_law_406 : decode cL_law 406 = .ok (.iload 10, 2) := by decide +kernel
theorem dL_law_408 : decode cL_law 408 = .ok (.iconst 4, 1) := by decide +kernel
theorem dL_law_409 : decode cL_law 409 = .ok (.irem, 1) := by decide +kernel
theorem dL_law_410 : decode cL_law 410 = .ok (.ifCond .eq 28, 3) := by decide +kernel
theorem dL_law_413 : decode cL_law 413 = .ok (.aload_n 1, 1) := by decide +kernel
theorem dL_law_414 : decode cL_law 414 = .ok (.iload 9, 2) := by decide +kernel
theorem dL_law_416 : decode cL_law 416 = .ok (.iload 10, 2) := by decide +kernel
theorem dL_law_418 : decode cL_law 418 = .ok (.iconst 2, 1) := by decide +kernel
theorem dL_law_419 : decode cL_law 419 = .ok (.ishr, 1) := by decide +kernel
theorem dL_law_420 : decode cL_law 420 = .ok (.bipush 7, 2) := by decide +kernel
theorem dL_law_422 : decode cL_law 422 = .ok (.irem, 1) := by decide +kernel
theorem dL_law_423 : decode cL_law 423 = .ok (.iconst 1, 1) := by decide +kernel
theorem dL_law_424 : decode cL_law 424 = .ok (.iload 10, 2) := by decide +kernel
theorem dL_law_426 : decode cL_law 426 = .ok (.iconst 5, 1) := by decide +kernel
theorem dL_law_427 : decode cL_law 427 = .ok (.ishr, 1) := by decide +kernel
theorem dL_law_428 : decode cL_law 428 = .ok (.iconst 3, 1) := by decide +kernel
theorem dL_law_429 : decode cL_law 429 = .ok (.irem, 1) := by decide +kernel
theorem dL_law_430 : decode cL_law 430 = .ok (.iadd, 1) := by decide +kernel
theorem dL_law_431 : decode cL_law 431 = .ok (.invokevirtual 126, 3) := by decide +kernel
theorem dL_law_434 : decode cL_law 434 = .ok (.iconst 1, 1) := by decide +kernel
theorem dL_law_435 : decode cL_law 435 = .ok (.if_icmp .ne 7, 3) := by decide +kernel
theorem dL_law_438 : decode cL_law 438 = .ok (.iconst 1, 1) := by decide +kernel
theorem dL_law_439 : decode cL_law 439 = .ok (.goto 4, 3) := by decide +kernel
theorem dL_law_442 : decode cL_law 442 = .ok (.iconst 0, 1) := by decide +kernel
theorem dL_law_443 : decode cL_law 443 = .ok (.istore 4, 2) := by decide +kernel
theorem dL_law_445 : decode cL_law 445 = .ok (.iinc 9 1, 3) := by decide +kernel
theorem dL_law_448 : decode cL_law 448 = .ok (.goto (-64), 3) := by decide +kernel
theorem dL_law_451 : decode cL_law 451 = .ok (.iconst 0, 1) := by decide +kernel
theorem dL_law_452 : decode cL_law 452 = .ok (.istore 9, 2) := by decide +kernel
theorem dL_law_454 : decode cL_law 454 = .ok (.iconst 0, 1) := by decide +kernel
theorem dL_law_455 : decode cL_law 455 = .ok (.istore 10, 2) := by decide +kernel
theorem dL_law_457 : decode cL_law 457 = .ok (.iconst 0, 1) := by decide +kernel
theorem dL_law_458 : decode cL_law 458 = .ok (.istore 11, 2) := by decide +kernel
theorem dL_law_460 : decode cL_law 460 = .ok (.iload 11, 2) := by decide +kernel
theorem dL_law_462 : decode cL_law 462 = .ok (.iload 6, 2) := by decide +kernel
theorem dL_law_464 : decode cL_law 464 = .ok (.if_icmp .ge 182, 3) := by decide +kernel
theorem dL_law_467 : decode cL_law 467 = .ok (.iconst 0, 1) := by decide +kernel
theorem dL_law_468 : decode cL_law 468 = .ok (.istore 12, 2) := by decide +kernel
theorem dL_law_470 : decode cL_law 470 = .ok (.iload 12, 2) := by decide +kernel
theorem dL_law_472 : decode cL_law 472 = .ok (.iconst 4, 1) := by decide +kernel
theorem dL_law_473 : decode cL_law 473 = .ok (.if_icmp .ge 141, 3) := by decide +kernel
theorem dL_law_476 : decode cL_law 476 = .ok (.aload_n 1, 1) := by decide +kernel
theorem dL_law_477 : decode cL_law 477 = .ok (.iload 11, 2) := by decide +kernel
theorem dL_law_479 : decode cL_law 479 = .ok (.iload 12, 2) := by decide +kernel
theorem dL_law_481 : decode cL_law 481 = .ok (.iconst (-1), 1) := by decide +kernel
theorem dL_law_482 : decode cL_law 482 = .ok (.invokevirtual 130, 3) := by decide +kernel
theorem dL_law_485 : decode cL_law 485 = .ok (.istore 13, 2) := by decide +kernel
theorem dL_law_487 : decode cL_law 487 = .ok (.iconst 0, 1) := by decide +kernel
theorem dL_law_488 : decode cL_law 488 = .ok (.istore 14, 2) := by decide +kernel
theorem dL_law_490 : decode cL_law 490 = .ok (.iconst 0, 1) := by decide +kernel
theorem dL_law_491 : decode cL_law 491 = .ok (.istore 15, 2) := by decide +kernel
theorem dL_law_493 : decode cL_law 493 = .ok (.iload 15, 2) := by decide +kernel
theorem dL_law_495 : decode cL_law 495 = .ok (.iconst 4, 1) := by decide +kernel
theorem dL_law_496 : decode cL_law 496 = .ok (.if_icmp .ge 93, 3) := by decide +kernel
theorem dL_law_499 : decode cL_law 499 = .ok (.aload_n 0, 1) := by decide +kernel
theorem dL_law_500 : decode cL_law 500 = .ok (.bipush 20, 2) := by decide +kernel
theorem dL_law_502 : decode cL_law 502 = .ok (.iload 15, 2) := by decide +kernel
theorem dL_law_504 : decode cL_law 504 = .ok (.iadd, 1) := by decide +kernel
theorem dL_law_505 : decode cL_law 505 = .ok (.invokestatic 29, 3) := by decide +kernel
theorem dL_law_508 : decode cL_law 508 = .ok (.istore 16, 2) := by decide +kernel
theorem dL_law_510 : decode cL_law 510 = .ok (.iload 16, 2) := by decide +kernel
theorem dL_law_512 : decode cL_law 512 = .ok (.iconst 4, 1) := by decide +kernel
theorem dL_law_513 : decode cL_law 513 = .ok (.irem, 1) := by decide +kernel
theorem dL_law_514 : decode cL_law 514 = .ok (.ifCond .ne 7, 3) := by decide +kernel
theorem dL_law_517 : decode cL_law 517 = .ok (.iconst 0, 1) := by decide +kernel
theorem dL_law_518 : decode cL_law 518 = .ok (.goto 26, 3) := by decide +kernel
theorem dL_law_521 : decode cL_law 521 = .ok (.aload_n 1, 1) := by decide +kernel
theorem dL_law_522 : decode cL_law 522 = .ok (.iload 16, 2) := by decide +kernel
theorem dL_law_524 : decode cL_law 524 = .ok (.iconst 2, 1) := by decide +kernel
theorem dL_law_525 : decode cL_law 525 = .ok (.ishr, 1) := by decide +kernel
theorem dL_law_526 : decode cL_law 526 = .ok (.bipush 7, 2) := by decide +kernel
theorem dL_law_528 : decode cL_law 528 = .ok (.irem, 1) := by decide +kernel
theorem dL_law_529 : decode cL_law 529 = .ok (.iconst 1, 1) := by decide +kernel
theorem dL_law_530 : decode cL_law 530 = .ok (.iload 16, 2) := by decide +kernel
theorem dL_law_532 : decode cL_law 532 = .ok (.iconst 5, 1) := by decide +kernel
theorem dL_law_533 : decode cL_law 533 = .ok (.ishr, 1) := by decide +kernel
theorem dL_law_534 : decode cL_law 534 = .ok (.iconst 3, 1) := by decide +kernel
theorem dL_law_535 : decode cL_law 535 = .ok (.irem, 1) := by decide +kernel
theorem dL_law_536 : decode cL_law 536 = .ok (.iadd, 1) := by decide +kernel
theorem dL_law_537 : decode cL_law 537 = .ok (.iload 11, 2) := by decide +kernel
theorem dL_law_539 : decode cL_law 539 = .ok (.iload 12, 2) := by decide +kernel
theorem dL_law_541 : decode cL_law 541 = .ok (.invokevirtual 124, 3) := by decide +kernel
theorem dL_law_544 : decode cL_law 544 = .ok (.istore 17, 2) := by decide +kernel
theorem dL_law_546 : decode cL_law 546 = .ok (.iload 4, 2) := by decide +kernel
theorem dL_law_548 : decode cL_law 548 = .ok (.ifCond .eq 25, 3) := by decide +kernel
theorem dL_law_551 : decode cL_law 551 = .ok (.aload_n 1, 1) := by decide +kernel
theorem dL_law_552 : decode cL_law 552 = .ok (.iload 11, 2) := by decide +kernel
theorem dL_law_554 : decode cL_law 554 = .ok (.iload 12, 2) := by decide +kernel
theorem dL_law_556 : decode cL_law 556 = .ok (.iload 15, 2) := by decide +kernel
theorem dL_law_558 : decode cL_law 558 = .ok (.invokevirtual 130, 3) := by decide +kernel
theorem dL_law_561 : decode cL_law 561 = .ok (.iload 13, 2) := by decide +kernel
theorem dL_law_563 : decode cL_law 563 = .ok (.iload 17, 2) := by decide +kernel
theorem dL_law_565 : decode cL_law 565 = .ok (.isub, 1) := by decide +kernel
theorem dL_law_566 : decode cL_law 566 = .ok (.if_icmp .ne 7, 3) := by decide +kernel
theorem dL_law_569 : decode cL_law 569 = .ok (.iconst 1, 1) := by decide +kernel
theorem dL_law_570 : decode cL_law 570 = .ok (.goto 4, 3) := by decide +kernel
theorem dL_law_573 : decode cL_law 573 = .ok (.iconst 0, 1) := by decide +kernel
theorem dL_law_574 : decode cL_law 574 = .ok (.istore 4, 2) := by decide +kernel
theorem dL_law_576 : decode cL_law 576 = .ok (.iload 14, 2) := by decide +kernel
theorem dL_law_578 : decode cL_law 578 = .ok (.iload 17, 2) := by decide +kernel
theorem dL_law_580 : decode cL_law 580 = .ok (.iadd, 1) := by decide +kernel
theorem dL_law_581 : decode cL_law 581 = .ok (.istore 14, 2) := by decide +kernel
theorem dL_law_583 : decode cL_law 583 = .ok (.iinc 15 1, 3) := by decide +kernel
theorem dL_law_586 : decode cL_law 586 = .ok (.goto (-93), 3) := by decide +kernel
theorem dL_law_589 : decode cL_law 589 = .ok (.iload 4, 2) := by decide +kernel
theorem dL_law_591 : decode cL_law 591 = .ok (.ifCond .eq 14, 3) := by decide +kernel
theorem dL_law_594 : decode cL_law 594 = .ok (.iload 14, 2) := by decide +kernel
theorem dL_law_596 : decode cL_law 596 = .ok (.iload 13, 2) := by decide +kernel
theorem dL_law_598 : decode cL_law 598 = .ok (.if_icmp .ne 7, 3) := by decide +kernel
theorem dL_law_601 : decode cL_law 601 = .ok (.iconst 1, 1) := by decide +kernel
theorem dL_law_602 : decode cL_law 602 = .ok (.goto 4, 3) := by decide +kernel
theorem dL_law_605 : decode cL_law 605 = .ok (.iconst 0, 1) := by decide +kernel
theorem dL_law_606 : decode cL_law 606 = .ok (.istore 4, 2) := by decide +kernel
theorem dL_law_608 : decode cL_law 608 = .ok (.iinc 12 1, 3) := by decide +kernel
theorem dL_law_611 : decode cL_law 611 = .ok (.goto (-141), 3) := by decide +kernel
theorem dL_law_614 : decode cL_law 614 = .ok (.iload 9, 2) := by decide +kernel
theorem dL_law_616 : decode cL_law 616 = .ok (.aload_n 1, 1) := by decide +kernel
theorem dL_law_617 : decode cL_law 617 = .ok (.iload 11, 2) := by decide +kernel
theorem dL_law_619 : decode cL_law 619 = .ok (.iconst 0, 1) := by decide +kernel
theorem dL_law_620 : decode cL_law 620 = .ok (.iconst (-1), 1) := by decide +kernel
theorem dL_law_621 : decode cL_law 621 = .ok (.invokevirtual 130, 3) := by decide +kernel
theorem dL_law_624 : decode cL_law 624 = .ok (.iadd, 1) := by decide +kernel
theorem dL_law_625 : decode cL_law 625 = .ok (.istore 9, 2) := by decide +kernel
theorem dL_law_627 : decode cL_law 627 = .ok (.iload 10, 2) := by decide +kernel
theorem dL_law_629 : decode cL_law 629 = .ok (.aload_n 1, 1) := by decide +kernel
theorem dL_law_630 : decode cL_law 630 = .ok (.iload 11, 2) := by decide +kernel
theorem dL_law_632 : decode cL_law 632 = .ok (.iconst 1, 1) := by decide +kernel
theorem dL_law_633 : decode cL_law 633 = .ok (.iconst (-1), 1) := by decide +kernel
theorem dL_law_634 : decode cL_law 634 = .ok (.invokevirtual 130, 3) := by decide +kernel
theorem dL_law_637 : decode cL_law 637 = .ok (.iadd, 1) := by decide +kernel
theorem dL_law_638 : decode cL_law 638 = .ok (.istore 10, 2) := by decide +kernel
theorem dL_law_640 : decode cL_law 640 = .ok (.iinc 11 1, 3) := by decide +kernel
theorem dL_law_643 : decode cL_law 643 = .ok (.goto (-183), 3) := by decide +kernel
theorem dL_law_646 : decode cL_law 646 = .ok (.iload 4, 2) := by decide +kernel
theorem dL_law_648 : decode cL_law 648 = .ok (.ifCond .eq 27, 3) := by decide +kernel
theorem dL_law_651 : decode cL_law 651 = .ok (.aload_n 1, 1) := by decide +kernel
theorem dL_law_652 : decode cL_law 652 = .ok (.iconst 0, 1) := by decide +kernel
theorem dL_law_653 : decode cL_law 653 = .ok (.invokevirtual 133, 3) := by decide +kernel
theorem dL_law_656 : decode cL_law 656 = .ok (.iload 9, 2) := by decide +kernel
theorem dL_law_658 : decode cL_law 658 = .ok (.if_icmp .ne 17, 3) := by decide +kernel
theorem dL_law_661 : decode cL_law 661 = .ok (.aload_n 1, 1) := by decide +kernel
theorem dL_law_662 : decode cL_law 662 = .ok (.iconst 1, 1) := by decide +kernel
theorem dL_law_663 : decode cL_law 663 = .ok (.invokevirtual 133, 3) := by decide +kernel
theorem dL_law_666 : decode cL_law 666 = .ok (.iload 10, 2) := by decide +kernel
theorem dL_law_668 : decode cL_law 668 = .ok (.if_icmp .ne 7, 3) := by decide +kernel
theorem dL_law_671 : decode cL_law 671 = .ok (.iconst 1, 1) := by decide +kernel
theorem dL_law_672 : decode cL_law 672 = .ok (.goto 4, 3) := by decide +kernel
theorem dL_law_675 : decode cL_law 675 = .ok (.iconst 0, 1) := by decide +kernel
theorem dL_law_676 : decode cL_law 676 = .ok (.istore 4, 2) := by decide +kernel
theorem dL_law_678 : decode cL_law 678 = .ok (.aload_n 1, 1) := by decide +kernel
theorem dL_law_679 : decode cL_law 679 = .ok (.invokevirtual 136, 3) := by decide +kernel
theorem dL_law_682 : decode cL_law 682 = .ok (.istore 11, 2) := by decide +kernel
theorem dL_law_684 : decode cL_law 684 = .ok (.aload_n 1, 1) := by decide +kernel
theorem dL_law_685 : decode cL_law 685 = .ok (.invokevirtual 139, 3) := by decide +kernel
theorem dL_law_688 : decode cL_law 688 = .ok (.istore 12, 2) := by decide +kernel
theorem dL_law_690 : decode cL_law 690 = .ok (.iload 4, 2) := by decide +kernel
theorem dL_law_692 : decode cL_law 692 = .ok (.ifCond .eq 31, 3) := by decide +kernel
theorem dL_law_695 : decode cL_law 695 = .ok (.iload 11, 2) := by decide +kernel
theorem dL_law_697 : decode cL_law 697 = .ok (.ifCond .lt 7, 3) := by decide +kernel
theorem dL_law_700 : decode cL_law 700 = .ok (.iconst 1, 1) := by decide +kernel
theorem dL_law_701 : decode cL_law 701 = .ok (.goto 4, 3) := by decide +kernel
theorem dL_law_704 : decode cL_law 704 = .ok (.iconst 0, 1) := by decide +kernel
theorem dL_law_705 : decode cL_law 705 = .ok (.iload 12, 2) := by decide +kernel
theorem dL_law_707 : decode cL_law 707 = .ok (.iconst 1, 1) := by decide +kernel
theorem dL_law_708 : decode cL_law 708 = .ok (.if_icmp .ne 7, 3) := by decide +kernel
theorem dL_law_711 : decode cL_law 711 = .ok (.iconst 1, 1) := by decide +kernel
theorem dL_law_712 : decode cL_law 712 = .ok (.goto 4, 3) := by decide +kernel
theorem dL_law_715 : decode cL_law 715 = .ok (.iconst 0, 1) := by decide +kernel
theorem dL_law_716 : decode cL_law 716 = .ok (.if_icmp .ne 7, 3) := by decide +kernel
theorem dL_law_719 : decode cL_law 719 = .ok (.iconst 1, 1) := by decide +kernel
theorem dL_law_720 : decode cL_law 720 = .ok (.goto 4, 3) := by decide +kernel
theorem dL_law_723 : decode cL_law 723 = .ok (.iconst 0, 1) := by decide +kernel
theorem dL_law_724 : decode cL_law 724 = .ok (.istore 4, 2) := by decide +kernel
theorem dL_law_726 : decode cL_law 726 = .ok (.iload 12, 2) := by decide +kernel
theorem dL_law_728 : decode cL_law 728 = .ok (.iconst 1, 1) := by decide +kernel
theorem dL_law_729 : decode cL_law 729 = .ok (.if_icmp .ne 286, 3) := by decide +kernel
theorem dL_law_732 : decode cL_law 732 = .ok (.iconst 1, 1) := by decide +kernel
theorem dL_law_733 : decode cL_law 733 = .ok (.istore 13, 2) := by decide +kernel
theorem dL_law_735 : decode cL_law 735 = .ok (.iconst 0, 1) := by decide +kernel
theorem dL_law_736 : decode cL_law 736 = .ok (.istore 14, 2) := by decide +kernel
theorem dL_law_738 : decode cL_law 738 = .ok (.iload 14, 2) := by decide +kernel
theorem dL_law_740 : decode cL_law 740 = .ok (.iconst 4, 1) := by decide +kernel
theorem dL_law_741 : decode cL_law 741 = .ok (.if_icmp .ge 171, 3) := by decide +kernel
theorem dL_law_744 : decode cL_law 744 = .ok (.lconst 0, 1) := by decide +kernel
theorem dL_law_745 : decode cL_law 745 = .ok (.lstore 15, 2) := by decide +kernel
theorem dL_law_747 : decode cL_law 747 = .ok (.iconst 0, 1) := by decide +kernel
theorem dL_law_748 : decode cL_law 748 = .ok (.istore 17, 2) := by decide +kernel
theorem dL_law_750 : decode cL_law 750 = .ok (.iload 17, 2) := by decide +kernel
theorem dL_law_752 : decode cL_law 752 = .ok (.bipush 8, 2) := by decide +kernel
theorem dL_law_754 : decode cL_law 754 = .ok (.if_icmp .ge 85, 3) := by decide +kernel
theorem dL_law_757 : decode cL_law 757 = .ok (.iload 4, 2) := by decide +kernel
theorem dL_law_759 : decode cL_law 759 = .ok (.ifCond .eq 19, 3) := by decide +kernel
theorem dL_law_762 : decode cL_law 762 = .ok (.aload_n 1, 1) := by decide +kernel
theorem dL_law_763 : decode cL_law 763 = .ok (.iload 14, 2) := by decide +kernel
theorem dL_law_765 : decode cL_law 765 = .ok (.iload 17, 2) := by decide +kernel
theorem dL_law_767 : decode cL_law 767 = .ok (.invokevirtual 142, 3) := by decide +kernel
theorem dL_law_770 : decode cL_law 770 = .ok (.iconst 1, 1) := by decide +kernel
theorem dL_law_771 : decode cL_law 771 = .ok (.if_icmp .ne 7, 3) := by decide +kernel
theorem dL_law_774 : decode cL_law 774 = .ok (.iconst 1, 1) := by decide +kernel
theorem dL_law_775 : decode cL_law 775 = .ok (.goto 4, 3) := by decide +kernel
theorem dL_law_778 : decode cL_law 778 = .ok (.iconst 0, 1) := by decide +kernel
theorem dL_law_779 : decode cL_law 779 = .ok (.istore 4, 2) := by decide +kernel
theorem dL_law_781 : decode cL_law 781 = .ok (.iload 13, 2) := by decide +kernel
theorem dL_law_783 : decode cL_law 783 = .ok (.ifCond .eq 18, 3) := by decide +kernel
theorem dL_law_786 : decode cL_law 786 = .ok (.aload_n 1, 1) := by decide +kernel
theorem dL_law_787 : decode cL_law 787 = .ok (.iconst 1, 1) := by decide +kernel
theorem dL_law_788 : decode cL_law 788 = .ok (.lload_n 2, 1) := by decide +kernel
theorem dL_law_789 : decode cL_law 789 = .ok (.invokestatic 145, 3) := by decide +kernel
theorem dL_law_792 : decode cL_law 792 = .ok (.lconst 0, 1) := by decide +kernel
theorem dL_law_793 : decode cL_law 793 = .ok (.lcmp, 1) := by decide +kernel
theorem dL_law_794 : decode cL_law 794 = .ok (.ifCond .eq 7, 3) := by decide +kernel
theorem dL_law_797 : decode cL_law 797 = .ok (.iconst 1, 1) := by decide +kernel
theorem dL_law_798 : decode cL_law 798 = .ok (.goto 4, 3) := by decide +kernel
theorem dL_law_801 : decode cL_law 801 = .ok (.iconst 0, 1) := by decide +kernel
theorem dL_law_802 : decode cL_law 802 = .ok (.istore 13, 2) := by decide +kernel
theorem dL_law_804 : decode cL_law 804 = .ok (.lload 15, 2) := by decide +kernel
theorem dL_law_806 : decode cL_law 806 = .ok (.aload_n 1, 1) := by decide +kernel
theorem dL_law_807 : decode cL_law 807 = .ok (.iconst 0, 1) := by decide +kernel
theorem dL_law_808 : decode cL_law 808 = .ok (.lload_n 2, 1) := by decide +kernel
theorem dL_law_809 : decode cL_law 809 = .ok (.invokestatic 145, 3) := by decide +kernel
theorem dL_law_812 : decode cL_law 812 = .ok (.aload_n 1, 1) := by decide +kernel
theorem dL_law_813 : decode cL_law 813 = .ok (.iconst 1, 1) := by decide +kernel
theorem dL_law_814 : decode cL_law 814 = .ok (.lload_n 2, 1) := by decide +kernel
theorem dL_law_815 : decode cL_law 815 = .ok (.invokestatic 145, 3) := by decide +kernel
theorem dL_law_818 : decode cL_law 818 = .ok (.lload_n 2, 1) := by decide +kernel
theorem dL_law_819 : decode cL_law 819 = .ok (.ldc2_w 149, 3) := by decide +kernel
theorem dL_law_822 : decode cL_law 822 = .ok (.lsub, 1) := by decide +kernel
theorem dL_law_823 : decode cL_law 823 = .ok (.lload_n 2, 1) := by decide +kernel
theorem dL_law_824 : decode cL_law 824 = .ok (.invokestatic 151, 3) := by decide +kernel
theorem dL_law_827 : decode cL_law 827 = .ok (.lmul, 1) := by decide +kernel
theorem dL_law_828 : decode cL_law 828 = .ok (.ladd, 1) := by decide +kernel
theorem dL_law_829 : decode cL_law 829 = .ok (.lload_n 2, 1) := by decide +kernel
theorem dL_law_830 : decode cL_law 830 = .ok (.lrem, 1) := by decide +kernel
theorem dL_law_831 : decode cL_law 831 = .ok (.lstore 15, 2) := by decide +kernel
theorem dL_law_833 : decode cL_law 833 = .ok (.iinc 17 1, 3) := by decide +kernel
theorem dL_law_836 : decode cL_law 836 = .ok (.goto (-86), 3) := by decide +kernel
theorem dL_law_839 : decode cL_law 839 = .ok (.aload_n 1, 1) := by decide +kernel
theorem dL_law_840 : decode cL_law 840 = .ok (.iload 11, 2) := by decide +kernel
theorem dL_law_842 : decode cL_law 842 = .ok (.iload 14, 2) := by decide +kernel
theorem dL_law_844 : decode cL_law 844 = .ok (.invokevirtual 155, 3) := by decide +kernel
theorem dL_law_847 : decode cL_law 847 = .ok (.istore 17, 2) := by decide +kernel
theorem dL_law_849 : decode cL_law 849 = .ok (.iload 4, 2) := by decide +kernel
theorem dL_law_851 : decode cL_law 851 = .ok (.ifCond .eq 52, 3) := by decide +kernel
theorem dL_law_854 : decode cL_law 854 = .ok (.iload 13, 2) := by decide +kernel
theorem dL_law_856 : decode cL_law 856 = .ok (.ifCond .eq 10, 3) := by decide +kernel
theorem dL_law_859 : decode cL_law 859 = .ok (.lload 15, 2) := by decide +kernel
theorem dL_law_861 : decode cL_law 861 = .ok (.lconst 1, 1) := by decide +kernel
theorem dL_law_862 : decode cL_law 862 = .ok (.lcmp, 1) := by decide +kernel
theorem dL_law_863 : decode cL_law 863 = .ok (.ifCond .ne 40, 3) := by decide +kernel
theorem dL_law_866 : decode cL_law 866 = .ok (.aload_n 1, 1) := by decide +kernel
theorem dL_law_867 : decode cL_law 867 = .ok (.iload 14, 2) := by decide +kernel
theorem dL_law_869 : decode cL_law 869 = .ok (.iload 17, 2) := by decide +kernel
theorem dL_law_871 : decode cL_law 871 = .ok (.ifCond .ge 8, 3) := by decide +kernel
theorem dL_law_874 : decode cL_law 874 = .ok (.bipush 7, 2) := by decide +kernel
theorem dL_law_876 : decode cL_law 876 = .ok (.goto 7, 3) := by decide +kernel
theorem dL_law_879 : decode cL_law 879 = .ok (.iload 17, 2) := by decide +kernel
theorem dL_law_881 : decode cL_law 881 = .ok (.iconst 3, 1) := by decide +kernel
theorem dL_law_882 : decode cL_law 882 = .ok (.idiv, 1) := by decide +kernel
theorem dL_law_883 : decode cL_law 883 = .ok (.invokevirtual 142, 3) := by decide +kernel
theorem dL_law_886 : decode cL_law 886 = .ok (.iconst 1, 1) := by decide +kernel
theorem dL_law_887 : decode cL_law 887 = .ok (.if_icmp .ne 16, 3) := by decide +kernel
theorem dL_law_890 : decode cL_law 890 = .ok (.aload_n 1, 1) := by decide +kernel
theorem dL_law_891 : decode cL_law 891 = .ok (.iconst 0, 1) := by decide +kernel
theorem dL_law_892 : decode cL_law 892 = .ok (.invokevirtual 9, 3) := by decide +kernel
theorem dL_law_895 : decode cL_law 895 = .ok (.iconst 1, 1) := by decide +kernel
theorem dL_law_896 : decode cL_law 896 = .ok (.if_icmp .ne 7, 3) := by decide +kernel
theorem dL_law_899 : decode cL_law 899 = .ok (.iconst 1, 1) := by decide +kernel
theorem dL_law_900 : decode cL_law 900 = .ok (.goto 4, 3) := by decide +kernel
theorem dL_law_903 : decode cL_law 903 = .ok (.iconst 0, 1) := by decide +kernel
theorem dL_law_904 : decode cL_law 904 = .ok (.istore 4, 2) := by decide +kernel
theorem dL_law_906 : decode cL_law 906 = .ok (.iinc 14 1, 3) := by decide +kernel
theorem dL_law_909 : decode cL_law 909 = .ok (.goto (-171), 3) := by decide +kernel
theorem dL_law_912 : decode cL_law 912 = .ok (.iload 4, 2) := by decide +kernel
theorem dL_law_914 : decode cL_law 914 = .ok (.ifCond .eq 43, 3) := by decide +kernel
theorem dL_law_917 : decode cL_law 917 = .ok (.aload_n 1, 1) := by decide +kernel
theorem dL_law_918 : decode cL_law 918 = .ok (.iconst 0, 1) := by decide +kernel
theorem dL_law_919 : decode cL_law 919 = .ok (.invokevirtual 158, 3) := by decide +kernel
theorem dL_law_922 : decode cL_law 922 = .ok (.iconst 1, 1) := by decide +kernel
theorem dL_law_923 : decode cL_law 923 = .ok (.if_icmp .ne 34, 3) := by decide +kernel
theorem dL_law_926 : decode cL_law 926 = .ok (.aload_n 1, 1) := by decide +kernel
theorem dL_law_927 : decode cL_law 927 = .ok (.iconst 0, 1) := by decide +kernel
theorem dL_law_928 : decode cL_law 928 = .ok (.invokevirtual 9, 3) := by decide +kernel
theorem dL_law_931 : decode cL_law 931 = .ok (.ifCond .ne 26, 3) := by decide +kernel
theorem dL_law_934 : decode cL_law 934 = .ok (.aload_n 1, 1) := by decide +kernel
theorem dL_law_935 : decode cL_law 935 = .ok (.ldc 161, 2) := by decide +kernel
theorem dL_law_937 : decode cL_law 937 = .ok (.invokevirtual 158, 3) := by decide +kernel
theorem dL_law_940 : decode cL_law 940 = .ok (.iconst 1, 1) := by decide +kernel
theorem dL_law_941 : decode cL_law 941 = .ok (.if_icmp .ne 16, 3) := by decide +kernel
theorem dL_law_944 : decode cL_law 944 = .ok (.aload_n 1, 1) := by decide +kernel
theorem dL_law_945 : decode cL_law 945 = .ok (.lconst 1, 1) := by decide +kernel
theorem dL_law_946 : decode cL_law 946 = .ok (.lconst 1, 1) := by decide +kernel
theorem dL_law_947 : decode cL_law 947 = .ok (.invokestatic 162, 3) := by decide +kernel
theorem dL_law_950 : decode cL_law 950 = .ok (.ifCond .eq 7, 3) := by decide +kernel
theorem dL_law_953 : decode cL_law 953 = .ok (.iconst 1, 1) := by decide +kernel
theorem dL_law_954 : decode cL_law 954 = .ok (.goto 4, 3) := by decide +kernel
theorem dL_law_957 : decode cL_law 957 = .ok (.iconst 0, 1) := by decide +kernel
theorem dL_law_958 : decode cL_law 958 = .ok (.istore 4, 2) := by decide +kernel
theorem dL_law_960 : decode cL_law 960 = .ok (.iload 6, 2) := by decide +kernel
theorem dL_law_962 : decode cL_law 962 = .ok (.ifCond .ne 7, 3) := by decide +kernel
theorem dL_law_965 : decode cL_law 965 = .ok (.iconst 0, 1) := by decide +kernel
theorem dL_law_966 : decode cL_law 966 = .ok (.goto 11, 3) := by decide +kernel
theorem dL_law_969 : decode cL_law 969 = .ok (.aload_n 1, 1) := by decide +kernel
theorem dL_law_970 : decode cL_law 970 = .ok (.iload 6, 2) := by decide +kernel
theorem dL_law_972 : decode cL_law 972 = .ok (.iconst 1, 1) := by decide +kernel
theorem dL_law_973 : decode cL_law 973 = .ok (.isub, 1) := by decide +kernel
theorem dL_law_974 : decode cL_law 974 = .ok (.invokevirtual 166, 3) := by decide +kernel
theorem dL_law_977 : decode cL_law 977 = .ok (.istore 14, 2) := by decide +kernel
theorem dL_law_979 : decode cL_law 979 = .ok (.iload 4, 2) := by decide +kernel
theorem dL_law_981 : decode cL_law 981 = .ok (.ifCond .eq 28, 3) := by decide +kernel
theorem dL_law_984 : decode cL_law 984 = .ok (.iload 14, 2) := by decide +kernel
theorem dL_law_986 : decode cL_law 986 = .ok (.ifCond .lt 23, 3) := by decide +kernel
theorem dL_law_989 : decode cL_law 989 = .ok (.iload 14, 2) := by decide +kernel
theorem dL_law_991 : decode cL_law 991 = .ok (.bipush 40, 2) := by decide +kernel
theorem dL_law_993 : decode cL_law 993 = .ok (.if_icmp .ge 16, 3) := by decide +kernel
theorem dL_law_996 : decode cL_law 996 = .ok (.iload 14, 2) := by decide +kernel
theorem dL_law_998 : decode cL_law 998 = .ok (.bipush 10, 2) := by decide +kernel
theorem dL_law_1000 : decode cL_law 1000 = .ok (.irem, 1) := by decide +kernel
theorem dL_law_1001 : decode cL_law 1001 = .ok (.iconst 5, 1) := by decide +kernel
theorem dL_law_1002 : decode cL_law 1002 = .ok (.if_icmp .ge 7, 3) := by decide +kernel
theorem dL_law_1005 : decode cL_law 1005 = .ok (.iconst 1, 1) := by decide +kernel
theorem dL_law_1006 : decode cL_law 1006 = .ok (.goto 4, 3) := by decide +kernel
theorem dL_law_1009 : decode cL_law 1009 = .ok (.iconst 0, 1) := by decide +kernel
theorem dL_law_1010 : decode cL_law 1010 = .ok (.istore 4, 2) := by decide +kernel
theorem dL_law_1012 : decode cL_law 1012 = .ok (.goto 43, 3) := by decide +kernel
theorem dL_law_1015 : decode cL_law 1015 = .ok (.iload 4, 2) := by decide +kernel
theorem dL_law_1017 : decode cL_law 1017 = .ok (.ifCond .eq 35, 3) := by decide +kernel
theorem dL_law_1020 : decode cL_law 1020 = .ok (.iload 12, 2) := by decide +kernel
theorem dL_law_1022 : decode cL_law 1022 = .ok (.bipush (-3), 2) := by decide +kernel
theorem dL_law_1024 : decode cL_law 1024 = .ok (.if_icmp .ne 28, 3) := by decide +kernel
theorem dL_law_1027 : decode cL_law 1027 = .ok (.aload_n 1, 1) := by decide +kernel
theorem dL_law_1028 : decode cL_law 1028 = .ok (.iconst 0, 1) := by decide +kernel
theorem dL_law_1029 : decode cL_law 1029 = .ok (.iconst 0, 1) := by decide +kernel
theorem dL_law_1030 : decode cL_law 1030 = .ok (.invokevirtual 142, 3) := by decide +kernel
theorem dL_law_1033 : decode cL_law 1033 = .ok (.bipush (-3), 2) := by decide +kernel
theorem dL_law_1035 : decode cL_law 1035 = .ok (.if_icmp .ne 17, 3) := by decide +kernel
theorem dL_law_1038 : decode cL_law 1038 = .ok (.aload_n 1, 1) := by decide +kernel
theorem dL_law_1039 : decode cL_law 1039 = .ok (.iconst 5, 1) := by decide +kernel
theorem dL_law_1040 : decode cL_law 1040 = .ok (.invokevirtual 158, 3) := by decide +kernel
theorem dL_law_1043 : decode cL_law 1043 = .ok (.bipush (-3), 2) := by decide +kernel
theorem dL_law_1045 : decode cL_law 1045 = .ok (.if_icmp .ne 7, 3) := by decide +kernel
theorem dL_law_1048 : decode cL_law 1048 = .ok (.iconst 1, 1) := by decide +kernel
theorem dL_law_1049 : decode cL_law 1049 = .ok (.goto 4, 3) := by decide +kernel
theorem dL_law_1052 : decode cL_law 1052 = .ok (.iconst 0, 1) := by decide +kernel
theorem dL_law_1053 : decode cL_law 1053 = .ok (.istore 4, 2) := by decide +kernel
theorem dL_law_1055 : decode cL_law 1055 = .ok (.iload 4, 2) := by decide +kernel
theorem dL_law_1057 : decode cL_law 1057 = .ok (.ifCond .eq 17, 3) := by decide +kernel
theorem dL_law_1060 : decode cL_law 1060 = .ok (.aload_n 1, 1) := by decide +kernel
theorem dL_law_1061 : decode cL_law 1061 = .ok (.invokevirtual 169, 3) := by decide +kernel
theorem dL_law_1064 : decode cL_law 1064 = .ok (.bipush (-128), 2) := by decide +kernel
theorem dL_law_1066 : decode cL_law 1066 = .ok (.iand, 1) := by decide +kernel
theorem dL_law_1067 : decode cL_law 1067 = .ok (.ifCond .ne 7, 3) := by decide +kernel
theorem dL_law_1070 : decode cL_law 1070 = .ok (.iconst 1, 1) := by decide +kernel
theorem dL_law_1071 : decode cL_law 1071 = .ok (.goto 4, 3) := by decide +kernel
theorem dL_law_1074 : decode cL_law 1074 = .ok (.iconst 0, 1) := by decide +kernel
theorem dL_law_1075 : decode cL_law 1075 = .ok (.istore 4, 2) := by decide +kernel
theorem dL_law_1077 : decode cL_law 1077 = .ok (.aload_n 0, 1) := by decide +kernel
theorem dL_law_1078 : decode cL_law 1078 = .ok (.bipush 24, 2) := by decide +kernel
theorem dL_law_1080 : decode cL_law 1080 = .ok (.invokestatic 29, 3) := by decide +kernel
theorem dL_law_1083 : decode cL_law 1083 = .ok (.bipush 10, 2) := by decide +kernel
theorem dL_law_1085 : decode cL_law 1085 = .ok (.irem, 1) := by decide +kernel
theorem dL_law_1086 : decode cL_law 1086 = .ok (.istore 13, 2) := by decide +kernel
theorem dL_law_1088 : decode cL_law 1088 = .ok (.iconst 1, 1) := by decide +kernel
theorem dL_law_1089 : decode cL_law 1089 = .ok (.aload_n 0, 1) := by decide +kernel
theorem dL_law_1090 : decode cL_law 1090 = .ok (.bipush 24, 2) := by decide +kernel
theorem dL_law_1092 : decode cL_law 1092 = .ok (.invokestatic 29, 3) := by decide +kernel
theorem dL_law_1095 : decode cL_law 1095 = .ok (.iconst 4, 1) := by decide +kernel
theorem dL_law_1096 : decode cL_law 1096 = .ok (.ishr, 1) := by decide +kernel
theorem dL_law_1097 : decode cL_law 1097 = .ok (.iconst 3, 1) := by decide +kernel
theorem dL_law_1098 : decode cL_law 1098 = .ok (.irem, 1) := by decide +kernel
theorem dL_law_1099 : decode cL_law 1099 = .ok (.iadd, 1) := by decide +kernel
theorem dL_law_1100 : decode cL_law 1100 = .ok (.istore 14, 2) := by decide +kernel
theorem dL_law_1102 : decode cL_law 1102 = .ok (.lconst 0, 1) := by decide +kernel
theorem dL_law_1103 : decode cL_law 1103 = .ok (.lstore 15, 2) := by decide +kernel
theorem dL_law_1105 : decode cL_law 1105 = .ok (.lconst 1, 1) := by decide +kernel
theorem dL_law_1106 : decode cL_law 1106 = .ok (.lstore 17, 2) := by decide +kernel
theorem dL_law_1108 : decode cL_law 1108 = .ok (.iconst 0, 1) := by decide +kernel
theorem dL_law_1109 : decode cL_law 1109 = .ok (.istore 19, 2) := by decide +kernel
theorem dL_law_1111 : decode cL_law 1111 = .ok (.iload 19, 2) := by decide +kernel
theorem dL_law_1113 : decode cL_law 1113 = .ok (.bipush 7, 2) := by decide +kernel
theorem dL_law_1115 : decode cL_law 1115 = .ok (.if_icmp .ge 137, 3) := by decide +kernel
theorem dL_law_1118 : decode cL_law 1118 = .ok (.iload 4, 2) := by decide +kernel
theorem dL_law_1120 : decode cL_law 1120 = .ok (.ifCond .eq 55, 3) := by decide +kernel
theorem dL_law_1123 : decode cL_law 1123 = .ok (.aload_n 1, 1) := by decide +kernel
theorem dL_law_1124 : decode cL_law 1124 = .ok (.iload 14, 2) := by decide +kernel
theorem dL_law_1126 : decode cL_law 1126 = .ok (.iload 13, 2) := by decide +kernel
theorem dL_law_1128 : decode cL_law 1128 = .ok (.iload 19, 2) := by decide +kernel
theorem dL_law_1130 : decode cL_law 1130 = .ok (.invokevirtual 172, 3) := by decide +kernel
theorem dL_law_1133 : decode cL_law 1133 = .ok (.iconst 1, 1) := by decide +kernel
theorem dL_law_1134 : decode cL_law 1134 = .ok (.if_icmp .ne 41, 3) := by decide +kernel
theorem dL_law_1137 : decode cL_law 1137 = .ok (.aload_n 1, 1) := by decide +kernel
theorem dL_law_1138 : decode cL_law 1138 = .ok (.iconst 0, 1) := by decide +kernel
theorem dL_law_1139 : decode cL_law 1139 = .ok (.invokestatic 104, 3) := by decide +kernel
theorem dL_law_1142 : decode cL_law 1142 = .ok (.lload 17, 2) := by decide +kernel
theorem dL_law_1144 : decode cL_law 1144 = .ok (.lmul, 1) := by decide +kernel
theorem dL_law_1145 : decode cL_law 1145 = .ok (.lload 15, 2) := by decide +kernel
theorem dL_law_1147 : decode cL_law 1147 = .ok (.aload_n 1, 1) := by decide +kernel
theorem dL_law_1148 : decode cL_law 1148 = .ok (.iconst 1, 1) := by decide +kernel
theorem dL_law_1149 : decode cL_law 1149 = .ok (.invokestatic 104, 3) := by decide +kernel
theorem dL_law_1152 : decode cL_law 1152 = .ok (.lmul, 1) := by decide +kernel
theorem dL_law_1153 : decode cL_law 1153 = .ok (.lcmp, 1) := by decide +kernel
theorem dL_law_1154 : decode cL_law 1154 = .ok (.ifCond .lt 21, 3) := by decide +kernel
theorem dL_law_1157 : decode cL_law 1157 = .ok (.aload_n 1, 1) := by decide +kernel
theorem dL_law_1158 : decode cL_law 1158 = .ok (.iconst 0, 1) := by decide +kernel
theorem dL_law_1159 : decode cL_law 1159 = .ok (.invokestatic 104, 3) := by decide +kernel
theorem dL_law_1162 : decode cL_law 1162 = .ok (.aload_n 1, 1) := by decide +kernel
theorem dL_law_1163 : decode cL_law 1163 = .ok (.iconst 1, 1) := by decide +kernel
theorem dL_law_1164 : decode cL_law 1164 = .ok (.invokestatic 104, 3) := by decide +kernel
theorem dL_law_1167 : decode cL_law 1167 = .ok (.lcmp, 1) := by decide +kernel
theorem dL_law_1168 : decode cL_law 1168 = .ok (.ifCond .gt 7, 3) := by decide +kernel
theorem dL_law_1171 : decode cL_law 1171 = .ok (.iconst 1, 1) := by decide +kernel
theorem dL_law_1172 : decode cL_law 1172 = .ok (.goto 4, 3) := by decide +kernel
theorem dL_law_1175 : decode cL_law 1175 = .ok (.iconst 0, 1) := by decide +kernel
theorem dL_law_1176 : decode cL_law 1176 = .ok (.istore 4, 2) := by decide +kernel
theorem dL_law_1178 : decode cL_law 1178 = .ok (.aload_n 1, 1) := by decide +kernel
theorem dL_law_1179 : decode cL_law 1179 = .ok (.iconst 0, 1) := by decide +kernel
theorem dL_law_1180 : decode cL_law 1180 = .ok (.invokestatic 104, 3) := by decide +kernel
theorem dL_law_1183 : decode cL_law 1183 = .ok (.lstore 15, 2) := by decide +kernel
theorem dL_law_1185 : decode cL_law 1185 = .ok (.aload_n 1, 1) := by decide +kernel
theorem dL_law_1186 : decode cL_law 1186 = .ok (.iconst 1, 1) := by decide +kernel
theorem dL_law_1187 : decode cL_law 1187 = .ok (.invokestatic 104, 3) := by decide +kernel
theorem dL_law_1190 : decode cL_law 1190 = .ok (.lstore 17, 2) := by decide +kernel
theorem dL_law_1192 : decode cL_law 1192 = .ok (.iload 4, 2) := by decide +kernel
theorem dL_law_1194 : decode cL_law 1194 = .ok (.ifCond .eq 49, 3) := by decide +kernel
theorem dL_law_1197 : decode cL_law 1197 = .ok (.iload 14, 2) := by decide +kernel
theorem dL_law_1199 : decode cL_law 1199 = .ok (.iconst 3, 1) := by decide +kernel
theorem dL_law_1200 : decode cL_law 1200 = .ok (.if_icmp .eq 39, 3) := by decide +kernel
theorem dL_law_1203 : decode cL_law 1203 = .ok (.aload_n 1, 1) := by decide +kernel
theorem dL_law_1204 : decode cL_law 1204 = .ok (.iload 14, 2) := by decide +kernel
theorem dL_law_1206 : decode cL_law 1206 = .ok (.iconst 1, 1) := by decide +kernel
theorem dL_law_1207 : decode cL_law 1207 = .ok (.iadd, 1) := by decide +kernel
theorem dL_law_1208 : decode cL_law 1208 = .ok (.iload 13, 2) := by decide +kernel
theorem dL_law_1210 : decode cL_law 1210 = .ok (.iload 19, 2) := by decide +kernel
theorem dL_law_1212 : decode cL_law 1212 = .ok (.invokevirtual 172, 3) := by decide +kernel
theorem dL_law_1215 : decode cL_law 1215 = .ok (.iconst 1, 1) := by decide +kernel
theorem dL_law_1216 : decode cL_law 1216 = .ok (.if_icmp .ne 27, 3) := by decide +kernel
theorem dL_law_1219 : decode cL_law 1219 = .ok (.aload_n 1, 1) := by decide +kernel
theorem dL_law_1220 : decode cL_law 1220 = .ok (.iconst 0, 1) := by decide +kernel
theorem dL_law_1221 : decode cL_law 1221 = .ok (.invokestatic 104, 3) := by decide +kernel
theorem dL_law_1224 : decode cL_law 1224 = .ok (.lload 17, 2) := by decide +kernel
theorem dL_law_1226 : decode cL_law 1226 = .ok (.lmul, 1) := by decide +kernel
theorem dL_law_1227 : decode cL_law 1227 = .ok (.lload 15, 2) := by decide +kernel
theorem dL_law_1229 : decode cL_law 1229 = .ok (.aload_n 1, 1) := by decide +kernel
theorem dL_law_1230 : decode cL_law 1230 = .ok (.iconst 1, 1) := by decide +kernel
theorem dL_law_1231 : decode cL_law 1231 = .ok (.invokestatic 104, 3) := by decide +kernel
theorem dL_law_1234 : decode cL_law 1234 = .ok (.lmul, 1) := by decide +kernel
theorem dL_law_1235 : decode cL_law 1235 = .ok (.lcmp, 1) := by decide +kernel
theorem dL_law_1236 : decode cL_law 1236 = .ok (.ifCond .lt 7, 3) := by decide +kernel
theorem dL_law_1239 : decode cL_law 1239 = .ok (.iconst 1, 1) := by decide +kernel
theorem dL_law_1240 : decode cL_law 1240 = .ok (.goto 4, 3) := by decide +kernel
theorem dL_law_1243 : decode cL_law 1243 = .ok (.iconst 0, 1) := by decide +kernel
theorem dL_law_1244 : decode cL_law 1244 = .ok (.istore 4, 2) := by decide +kernel
theorem dL_law_1246 : decode cL_law 1246 = .ok (.iinc 19 1, 3) := by decide +kernel
theorem dL_law_1249 : decode cL_law 1249 = .ok (.goto (-138), 3) := by decide +kernel
theorem dL_law_1252 : decode cL_law 1252 = .ok (.aload_n 0, 1) := by decide +kernel
theorem dL_law_1253 : decode cL_law 1253 = .ok (.bipush 25, 2) := by decide +kernel
theorem dL_law_1255 : decode cL_law 1255 = .ok (.invokestatic 29, 3) := by decide +kernel
theorem dL_law_1258 : decode cL_law 1258 = .ok (.iconst 2, 1) := by decide +kernel
theorem dL_law_1259 : decode cL_law 1259 = .ok (.ishr, 1) := by decide +kernel
theorem dL_law_1260 : decode cL_law 1260 = .ok (.sipush 500, 3) := by decide +kernel
theorem dL_law_1263 : decode cL_law 1263 = .ok (.irem, 1) := by decide +kernel
theorem dL_law_1264 : decode cL_law 1264 = .ok (.istore 19, 2) := by decide +kernel
theorem dL_law_1266 : decode cL_law 1266 = .ok (.aload_n 0, 1) := by decide +kernel
theorem dL_law_1267 : decode cL_law 1267 = .ok (.bipush 25, 2) := by decide +kernel
theorem dL_law_1269 : decode cL_law 1269 = .ok (.invokestatic 29, 3) := by decide +kernel
theorem dL_law_1272 : decode cL_law 1272 = .ok (.iconst 5, 1) := by decide +kernel
theorem dL_law_1273 : decode cL_law 1273 = .ok (.ishr, 1) := by decide +kernel
theorem dL_law_1274 : decode cL_law 1274 = .ok (.sipush 20000, 3) := by decide +kernel
theorem dL_law_1277 : decode cL_law 1277 = .ok (.irem, 1) := by decide +kernel
theorem dL_law_1278 : decode cL_law 1278 = .ok (.istore 20, 2) := by decide +kernel
theorem dL_law_1280 : decode cL_law 1280 = .ok (.lconst 0, 1) := by decide +kernel
theorem dL_law_1281 : decode cL_law 1281 = .ok (.lstore 21, 2) := by decide +kernel
theorem dL_law_1283 : decode cL_law 1283 = .ok (.lconst 1, 1) := by decide +kernel
theorem dL_law_1284 : decode cL_law 1284 = .ok (.lstore 23, 2) := by decide +kernel
theorem dL_law_1286 : decode cL_law 1286 = .ok (.iconst 0, 1) := by decide +kernel
theorem dL_law_1287 : decode cL_law 1287 = .ok (.istore 25, 2) := by decide +kernel
theorem dL_law_1289 : decode cL_law 1289 = .ok (.iload 25, 2) := by decide +kernel
theorem dL_law_1291 : decode cL_law 1291 = .ok (.iconst 5, 1) := by decide +kernel
theorem dL_law_1292 : decode cL_law 1292 = .ok (.if_icmp .ge 146, 3) := by decide +kernel
theorem dL_law_1295 : decode cL_law 1295 = .ok (.iload 4, 2) := by decide +kernel
theorem dL_law_1297 : decode cL_law 1297 = .ok (.ifCond .eq 69, 3) := by decide +kernel
theorem dL_law_1300 : decode cL_law 1300 = .ok (.aload_n 1, 1) := by decide +kernel
theorem dL_law_1301 : decode cL_law 1301 = .ok (.iload 14, 2) := by decide +kernel
theorem dL_law_1303 : decode cL_law 1303 = .ok (.iload 25, 2) := by decide +kernel
theorem dL_law_1305 : decode cL_law 1305 = .ok (.iload 19, 2) := by decide +kernel
theorem dL_law_1307 : decode cL_law 1307 = .ok (.iload 20, 2) := by decide +kernel
theorem dL_law_1309 : decode cL_law 1309 = .ok (.invokevirtual 175, 3) := by decide +kernel
theorem dL_law_1312 : decode cL_law 1312 = .ok (.iconst 1, 1) := by decide +kernel
theorem dL_law_1313 : decode cL_law 1313 = .ok (.if_icmp .ne 53, 3) := by decide +kernel
theorem dL_law_1316 : decode cL_law 1316 = .ok (.aload_n 1, 1) := by decide +kernel
theorem dL_law_1317 : decode cL_law 1317 = .ok (.iconst 0, 1) := by decide +kernel
theorem dL_law_1318 : decode cL_law 1318 = .ok (.invokestatic 104, 3) := by decide +kernel
theorem dL_law_1321 : decode cL_law 1321 = .ok (.lload 23, 2) := by decide +kernel
theorem dL_law_1323 : decode cL_law 1323 = .ok (.lmul, 1) := by decide +kernel
theorem dL_law_1324 : decode cL_law 1324 = .ok (.lload 21, 2) := by decide +kernel
theorem dL_law_1326 : decode cL_law 1326 = .ok (.aload_n 1, 1) := by decide +kernel
theorem dL_law_1327 : decode cL_law 1327 = .ok (.iconst 1, 1) := by decide +kernel
theorem dL_law_1328 : decode cL_law 1328 = .ok (.invokestatic 104, 3) := by decide +kernel
theorem dL_law_1331 : decode cL_law 1331 = .ok (.lmul, 1) := by decide +kernel
theorem dL_law_1332 : decode cL_law 1332 = .ok (.lcmp, 1) := by decide +kernel
theorem dL_law_1333 : decode cL_law 1333 = .ok (.ifCond .lt 33, 3) := by decide +kernel
theorem dL_law_1336 : decode cL_law 1336 = .ok (.aload_n 1, 1) := by decide +kernel
theorem dL_law_1337 : decode cL_law 1337 = .ok (.iconst 0, 1) := by decide +kernel
theorem dL_law_1338 : decode cL_law 1338 = .ok (.invokestatic 104, 3) := by decide +kernel
theorem dL_law_1341 : decode cL_law 1341 = .ok (.ldc2_w 98, 3) := by decide +kernel
theorem dL_law_1344 : decode cL_law 1344 = .ok (.iload 19, 2) := by decide +kernel
theorem dL_law_1346 : decode cL_law 1346 = .ok (.i2l, 1) := by decide +kernel
theorem dL_law_1347 : decode cL_law 1347 = .ok (.lmul, 1) := by decide +kernel
theorem dL_law_1348 : decode cL_law 1348 = .ok (.iload 25, 2) := by decide +kernel
theorem dL_law_1350 : decode cL_law 1350 = .ok (.i2l, 1) := by decide +kernel
theorem dL_law_1351 : decode cL_law 1351 = .ok (.lmul, 1) := by decide +kernel
theorem dL_law_1352 : decode cL_law 1352 = .ok (.aload_n 1, 1) := by decide +kernel
theorem dL_law_1353 : decode cL_law 1353 = .ok (.iconst 1, 1) := by decide +kernel
theorem dL_law_1354 : decode cL_law 1354 = .ok (.invokestatic 104, 3) := by decide +kernel
theorem dL_law_1357 : decode cL_law 1357 = .ok (.lmul, 1) := by decide +kernel
theorem dL_law_1358 : decode cL_law 1358 = .ok (.lcmp, 1) := by decide +kernel
theorem dL_law_1359 : decode cL_law 1359 = .ok (.ifCond .gt 7, 3) := by decide +kernel
theorem dL_law_1362 : decode cL_law 1362 = .ok (.iconst 1, 1) := by decide +kernel
theorem dL_law_1363 : decode cL_law 1363 = .ok (.goto 4, 3) := by decide +kernel
theorem dL_law_1366 : decode cL_law 1366 = .ok (.iconst 0, 1) := by decide +kernel
theorem dL_law_1367 : decode cL_law 1367 = .ok (.istore 4, 2) := by decide +kernel
theorem dL_law_1369 : decode cL_law 1369 = .ok (.aload_n 1, 1) := by decide +kernel
theorem dL_law_1370 : decode cL_law 1370 = .ok (.iconst 0, 1) := by decide +kernel
theorem dL_law_1371 : decode cL_law 1371 = .ok (.invokestatic 104, 3) := by decide +kernel
theorem dL_law_1374 : decode cL_law 1374 = .ok (.lstore 21, 2) := by decide +kernel
theorem dL_law_1376 : decode cL_law 1376 = .ok (.aload_n 1, 1) := by decide +kernel
theorem dL_law_1377 : decode cL_law 1377 = .ok (.iconst 1, 1) := by decide +kernel
theorem dL_law_1378 : decode cL_law 1378 = .ok (.invokestatic 104, 3) := by decide +kernel
theorem dL_law_1381 : decode cL_law 1381 = .ok (.lstore 23, 2) := by decide +kernel
theorem dL_law_1383 : decode cL_law 1383 = .ok (.iload 4, 2) := by decide +kernel
theorem dL_law_1385 : decode cL_law 1385 = .ok (.ifCond .eq 44, 3) := by decide +kernel
theorem dL_law_1388 : decode cL_law 1388 = .ok (.iload 25, 2) := by decide +kernel
theorem dL_law_1390 : decode cL_law 1390 = .ok (.ifCond .eq 35, 3) := by decide +kernel
theorem dL_law_1393 : decode cL_law 1393 = .ok (.aload_n 1, 1) := by decide +kernel
theorem dL_law_1394 : decode cL_law 1394 = .ok (.iload 14, 2) := by decide +kernel
theorem dL_law_1396 : decode cL_law 1396 = .ok (.iload 25, 2) := by decide +kernel
theorem dL_law_1398 : decode cL_law 1398 = .ok (.iload 19, 2) := by decide +kernel
theorem dL_law_1400 : decode cL_law 1400 = .ok (.iload 20, 2) := by decide +kernel
theorem dL_law_1402 : decode cL_law 1402 = .ok (.invokevirtual 178, 3) := by decide +kernel
theorem dL_law_1405 : decode cL_law 1405 = .ok (.ifCond .lt 24, 3) := by decide +kernel
theorem dL_law_1408 : decode cL_law 1408 = .ok (.aload_n 1, 1) := by decide +kernel
theorem dL_law_1409 : decode cL_law 1409 = .ok (.iload 14, 2) := by decide +kernel
theorem dL_law_1411 : decode cL_law 1411 = .ok (.iload 25, 2) := by decide +kernel
theorem dL_law_1413 : decode cL_law 1413 = .ok (.iload 19, 2) := by decide +kernel
theorem dL_law_1415 : decode cL_law 1415 = .ok (.iload 20, 2) := by decide +kernel
theorem dL_law_1417 : decode cL_law 1417 = .ok (.invokevirtual 178, 3) := by decide +kernel
theorem dL_law_1420 : decode cL_law 1420 = .ok (.bipush 10, 2) := by decide +kernel
theorem dL_law_1422 : decode cL_law 1422 = .ok (.if_icmp .ge 7, 3) := by decide +kernel
theorem dL_law_1425 : decode cL_law 1425 = .ok (.iconst 1, 1) := by decide +kernel
theorem dL_law_1426 : decode cL_law 1426 = .ok (.goto 4, 3) := by decide +kernel
theorem dL_law_1429 : decode cL_law 1429 = .ok (.iconst 0, 1) := by decide +kernel
theorem dL_law_1430 : decode cL_law 1430 = .ok (.istore 4, 2) := by decide +kernel
theorem dL_law_1432 : decode cL_law 1432 = .ok (.iinc 25 1, 3) := by decide +kernel
theorem dL_law_1435 : decode cL_law 1435 = .ok (.goto (-146), 3) := by decide +kernel
theorem dL_law_1438 : decode cL_law 1438 = .ok (.iload 4, 2) := by decide +kernel
theorem dL_law_1440 : decode cL_law 1440 = .ok (.ifCond .eq 16, 3) := by decide +kernel
theorem dL_law_1443 : decode cL_law 1443 = .ok (.aload_n 1, 1) := by decide +kernel
theorem dL_law_1444 : decode cL_law 1444 = .ok (.iconst 1, 1) := by decide +kernel
theorem dL_law_1445 : decode cL_law 1445 = .ok (.invokevirtual 181, 3) := by decide +kernel
theorem dL_law_1448 : decode cL_law 1448 = .ok (.iconst 1, 1) := by decide +kernel
theorem dL_law_1449 : decode cL_law 1449 = .ok (.if_icmp .ne 7, 3) := by decide +kernel
theorem dL_law_1452 : decode cL_law 1452 = .ok (.iconst 1, 1) := by decide +kernel
theorem dL_law_1453 : decode cL_law 1453 = .ok (.goto 4, 3) := by decide +kernel
theorem dL_law_1456 : decode cL_law 1456 = .ok (.iconst 0, 1) := by decide +kernel
theorem dL_law_1457 : decode cL_law 1457 = .ok (.istore 4, 2) := by decide +kernel
theorem dL_law_1459 : decode cL_law 1459 = .ok (.aload_n 1, 1) := by decide +kernel
theorem dL_law_1460 : decode cL_law 1460 = .ok (.invokevirtual 184, 3) := by decide +kernel
theorem dL_law_1463 : decode cL_law 1463 = .ok (.lstore 25, 2) := by decide +kernel
theorem dL_law_1465 : decode cL_law 1465 = .ok (.iload 4, 2) := by decide +kernel
theorem dL_law_1467 : decode cL_law 1467 = .ok (.ifCond .eq 54, 3) := by decide +kernel
theorem dL_law_1470 : decode cL_law 1470 = .ok (.aload_n 1, 1) := by decide +kernel
theorem dL_law_1471 : decode cL_law 1471 = .ok (.iconst 0, 1) := by decide +kernel
theorem dL_law_1472 : decode cL_law 1472 = .ok (.bipush 77, 2) := by decide +kernel
theorem dL_law_1474 : decode cL_law 1474 = .ok (.invokevirtual 64, 3) := by decide +kernel
theorem dL_law_1477 : decode cL_law 1477 = .ok (.ifCond .lt 44, 3) := by decide +kernel
theorem dL_law_1480 : decode cL_law 1480 = .ok (.aload_n 1, 1) := by decide +kernel
theorem dL_law_1481 : decode cL_law 1481 = .ok (.iconst 2, 1) := by decide +kernel
theorem dL_law_1482 : decode cL_law 1482 = .ok (.iconst 0, 1) := by decide +kernel
theorem dL_law_1483 : decode cL_law 1483 = .ok (.iconst 3, 1) := by decide +kernel
theorem dL_law_1484 : decode cL_law 1484 = .ok (.invokevirtual 126, 3) := by decide +kernel
theorem dL_law_1487 : decode cL_law 1487 = .ok (.iconst 1, 1) := by decide +kernel
theorem dL_law_1488 : decode cL_law 1488 = .ok (.if_icmp .ne 33, 3) := by decide +kernel
theorem dL_law_1491 : decode cL_law 1491 = .ok (.aload_n 1, 1) := by decide +kernel
theorem dL_law_1492 : decode cL_law 1492 = .ok (.invokevirtual 188, 3) := by decide +kernel
theorem dL_law_1495 : decode cL_law 1495 = .ok (.ifCond .lt 26, 3) := by decide +kernel
theorem dL_law_1498 : decode cL_law 1498 = .ok (.aload_n 1, 1) := by decide +kernel
theorem dL_law_1499 : decode cL_law 1499 = .ok (.iconst 1, 1) := by decide +kernel
theorem dL_law_1500 : decode cL_law 1500 = .ok (.invokevirtual 191, 3) := by decide +kernel
theorem dL_law_1503 : decode cL_law 1503 = .ok (.iconst 1, 1) := by decide +kernel
theorem dL_law_1504 : decode cL_law 1504 = .ok (.if_icmp .ne 17, 3) := by decide +kernel
theorem dL_law_1507 : decode cL_law 1507 = .ok (.aload_n 1, 1) := by decide +kernel
theorem dL_law_1508 : decode cL_law 1508 = .ok (.invokevirtual 184, 3) := by decide +kernel
theorem dL_law_1511 : decode cL_law 1511 = .ok (.lload 25, 2) := by decide +kernel
theorem dL_law_1513 : decode cL_law 1513 = .ok (.lcmp, 1) := by decide +kernel
theorem dL_law_1514 : decode cL_law 1514 = .ok (.ifCond .ne 7, 3) := by decide +kernel
theorem dL_law_1517 : decode cL_law 1517 = .ok (.iconst 1, 1) := by decide +kernel
theorem dL_law_1518 : decode cL_law 1518 = .ok (.goto 4, 3) := by decide +kernel
theorem dL_law_1521 : decode cL_law 1521 = .ok (.iconst 0, 1) := by decide +kernel
theorem dL_law_1522 : decode cL_law 1522 = .ok (.istore 4, 2) := by decide +kernel
theorem dL_law_1524 : decode cL_law 1524 = .ok (.iload 4, 2) := by decide +kernel
theorem dL_law_1526 : decode cL_law 1526 = .ok (.ifCond .eq 24, 3) := by decide +kernel
theorem dL_law_1529 : decode cL_law 1529 = .ok (.aload_n 1, 1) := by decide +kernel
theorem dL_law_1530 : decode cL_law 1530 = .ok (.iconst 2, 1) := by decide +kernel
theorem dL_law_1531 : decode cL_law 1531 = .ok (.invokevirtual 194, 3) := by decide +kernel
theorem dL_law_1534 : decode cL_law 1534 = .ok (.ifCond .ne 16, 3) := by decide +kernel
theorem dL_law_1537 : decode cL_law 1537 = .ok (.aload_n 1, 1) := by decide +kernel
theorem dL_law_1538 : decode cL_law 1538 = .ok (.invokevirtual 118, 3) := by decide +kernel
theorem dL_law_1541 : decode cL_law 1541 = .ok (.iload 6, 2) := by decide +kernel
theorem dL_law_1543 : decode cL_law 1543 = .ok (.if_icmp .ne 7, 3) := by decide +kernel
theorem dL_law_1546 : decode cL_law 1546 = .ok (.iconst 1, 1) := by decide +kernel
theorem dL_law_1547 : decode cL_law 1547 = .ok (.goto 4, 3) := by decide +kernel
theorem dL_law_1550 : decode cL_law 1550 = .ok (.iconst 0, 1) := by decide +kernel
theorem dL_law_1551 : decode cL_law 1551 = .ok (.ireturn, 1) := by decide +kernel
