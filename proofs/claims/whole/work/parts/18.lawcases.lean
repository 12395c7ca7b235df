abbrev lB : Type := Program × Launch × Env × State × MethodId × List Frame × Method × Code × Nat × Nat × (Nat → Int32)
abbrev lmk (β : lB) (D : va_G) (ad ad2 : Nat → Nat) (g : Nat → ClassId) : lE := (β.1, β.2.1, β.2.2.1, β.2.2.2.1, β.2.2.2.2.1, β.2.2.2.2.2.1, β.2.2.2.2.2.2.1, β.2.2.2.2.2.2.2.1, β.2.2.2.2.2.2.2.2.1, β.2.2.2.2.2.2.2.2.2.1, β.2.2.2.2.2.2.2.2.2.2, xw D ad g, mw D ad2 g)
abbrev llv (β : lB) (ad ad2 : Nat → Nat) (i : Int32) : List (Nat × Value) := [(0, .ref (β.2.2.2.2.2.2.2.2.1)), (1, .ref (ad 0)), (2, .ref (ad2 0)), (3, .int i)]
abbrev lRel : Type := zMi → zMl → zMi → zMl → Prop
theorem dL_0 : decode code 0 = .ok (.new 7, 3) := by decide +kernel
theorem dL_3 : decode code 3 = .ok (.dup, 1) := by decide +kernel
theorem dL_4 : decode code 4 = .ok (.invokespecial 9, 3) := by decide +kernel
theorem dL_7 : decode code 7 = .ok (.astore_n 1, 1) := by decide +kernel
theorem dL_8 : decode code 8 = .ok (.new 10, 3) := by decide +kernel
theorem dL_11 : decode code 11 = .ok (.dup, 1) := by decide +kernel
theorem dL_12 : decode code 12 = .ok (.invokespecial 12, 3) := by decide +kernel
theorem dL_15 : decode code 15 = .ok (.astore_n 2, 1) := by decide +kernel
theorem dL_16 : decode code 16 = .ok (.iconst 0, 1) := by decide +kernel
theorem dL_17 : decode code 17 = .ok (.istore_n 3, 1) := by decide +kernel
theorem dL_18 : decode code 18 = .ok (.iload_n 3, 1) := by decide +kernel
theorem dL_19 : decode code 19 = .ok (.aload_n 0, 1) := by decide +kernel
theorem dL_20 : decode code 20 = .ok (.arraylength, 1) := by decide +kernel
theorem dL_21 : decode code 21 = .ok (.bipush 6, 2) := by decide +kernel
theorem dL_23 : decode code 23 = .ok (.isub, 1) := by decide +kernel
theorem dL_24 : decode code 24 = .ok (.if_icmp .gt 1915, 3) := by decide +kernel
theorem dL_27 : decode code 27 = .ok (.aload_n 0, 1) := by decide +kernel
theorem dL_28 : decode code 28 = .ok (.iload_n 3, 1) := by decide +kernel
theorem dL_29 : decode code 29 = .ok (.iaload, 1) := by decide +kernel
theorem dL_30 : decode code 30 = .ok (.bipush 63, 2) := by decide +kernel
theorem dL_32 : decode code 32 = .ok (.iand, 1) := by decide +kernel
theorem dL_33 : decode code 33 = .ok (.tableswitch 1900 0 50 #[219, 252, 295, 318, 381, 404, 437, 480, 559, 582, 625, 658, 691, 734, 767, 800, 863, 906, 975, 998, 1021, 1044, 1067, 1100, 1143, 1176, 1209, 1232, 1255, 1288, 1347, 1370, 1429, 1452, 1485, 1538, 1571, 1594, 1627, 1650, 1683, 1716, 1749, 1772, 1786, 1799, 1813, 1827, 1850, 1863, 1886], 219) := by decide +kernel
theorem dL_252 : decode code 252 = .ok (.aload_n 1, 1) := by decide +kernel
theorem dL_253 : decode code 253 = .ok (.aload_n 0, 1) := by decide +kernel
theorem dL_254 : decode code 254 = .ok (.iload_n 3, 1) := by decide +kernel
theorem dL_255 : decode code 255 = .ok (.iconst 1, 1) := by decide +kernel
theorem dL_256 : decode code 256 = .ok (.iadd, 1) := by decide +kernel
theorem dL_257 : decode code 257 = .ok (.iaload, 1) := by decide +kernel
theorem dL_258 : decode code 258 = .ok (.aload_n 0, 1) := by decide +kernel
theorem dL_259 : decode code 259 = .ok (.iload_n 3, 1) := by decide +kernel
theorem dL_260 : decode code 260 = .ok (.iconst 2, 1) := by decide +kernel
theorem dL_261 : decode code 261 = .ok (.iadd, 1) := by decide +kernel
theorem dL_262 : decode code 262 = .ok (.iaload, 1) := by decide +kernel
theorem dL_263 : decode code 263 = .ok (.invokevirtual 13, 3) := by decide +kernel
theorem dL_266 : decode code 266 = .ok (.aload_n 2, 1) := by decide +kernel
theorem dL_267 : decode code 267 = .ok (.aload_n 0, 1) := by decide +kernel
theorem dL_268 : decode code 268 = .ok (.iload_n 3, 1) := by decide +kernel
theorem dL_269 : decode code 269 = .ok (.iconst 1, 1) := by decide +kernel
theorem dL_270 : decode code 270 = .ok (.iadd, 1) := by decide +kernel
theorem dL_271 : decode code 271 = .ok (.iaload, 1) := by decide +kernel
theorem dL_272 : decode code 272 = .ok (.aload_n 0, 1) := by decide +kernel
theorem dL_273 : decode code 273 = .ok (.iload_n 3, 1) := by decide +kernel
theorem dL_274 : decode code 274 = .ok (.iconst 2, 1) := by decide +kernel
theorem dL_275 : decode code 275 = .ok (.iadd, 1) := by decide +kernel
theorem dL_276 : decode code 276 = .ok (.iaload, 1) := by decide +kernel
theorem dL_277 : decode code 277 = .ok (.invokevirtual 17, 3) := by decide +kernel
theorem dL_280 : decode code 280 = .ok (.if_icmp .eq 1653, 3) := by decide +kernel
theorem dL_283 : decode code 283 = .ok (.iconst 0, 1) := by decide +kernel
theorem dL_284 : decode code 284 = .ok (.ireturn, 1) := by decide +kernel
theorem dL_285 : decode code 285 = .ok (.aload_n 1, 1) := by decide +kernel
theorem dL_286 : decode code 286 = .ok (.aload_n 0, 1) := by decide +kernel
theorem dL_287 : decode code 287 = .ok (.iload_n 3, 1) := by decide +kernel
theorem dL_288 : decode code 288 = .ok (.iconst 1, 1) := by decide +kernel
theorem dL_289 : decode code 289 = .ok (.iadd, 1) := by decide +kernel
theorem dL_290 : decode code 290 = .ok (.iaload, 1) := by decide +kernel
theorem dL_291 : decode code 291 = .ok (.aload_n 0, 1) := by decide +kernel
theorem dL_292 : decode code 292 = .ok (.iload_n 3, 1) := by decide +kernel
theorem dL_293 : decode code 293 = .ok (.iconst 2, 1) := by decide +kernel
theorem dL_294 : decode code 294 = .ok (.iadd, 1) := by decide +kernel
theorem dL_295 : decode code 295 = .ok (.iaload, 1) := by decide +kernel
theorem dL_296 : decode code 296 = .ok (.aload_n 0, 1) := by decide +kernel
theorem dL_297 : decode code 297 = .ok (.iload_n 3, 1) := by decide +kernel
theorem dL_298 : decode code 298 = .ok (.iconst 3, 1) := by decide +kernel
theorem dL_299 : decode code 299 = .ok (.iadd, 1) := by decide +kernel
theorem dL_300 : decode code 300 = .ok (.iaload, 1) := by decide +kernel
theorem dL_301 : decode code 301 = .ok (.invokevirtual 18, 3) := by decide +kernel
theorem dL_304 : decode code 304 = .ok (.aload_n 2, 1) := by decide +kernel
theorem dL_305 : decode code 305 = .ok (.aload_n 0, 1) := by decide +kernel
theorem dL_306 : decode code 306 = .ok (.iload_n 3, 1) := by decide +kernel
theorem dL_307 : decode code 307 = .ok (.iconst 1, 1) := by decide +kernel
theorem dL_308 : decode code 308 = .ok (.iadd, 1) := by decide +kernel
theorem dL_309 : decode code 309 = .ok (.iaload, 1) := by decide +kernel
theorem dL_310 : decode code 310 = .ok (.aload_n 0, 1) := by decide +kernel
theorem dL_311 : decode code 311 = .ok (.iload_n 3, 1) := by decide +kernel
theorem dL_312 : decode code 312 = .ok (.iconst 2, 1) := by decide +kernel
theorem dL_313 : decode code 313 = .ok (.iadd, 1) := by decide +kernel
theorem dL_314 : decode code 314 = .ok (.iaload, 1) := by decide +kernel
theorem dL_315 : decode code 315 = .ok (.aload_n 0, 1) := by decide +kernel
theorem dL_316 : decode code 316 = .ok (.iload_n 3, 1) := by decide +kernel
theorem dL_317 : decode code 317 = .ok (.iconst 3, 1) := by decide +kernel
theorem dL_318 : decode code 318 = .ok (.iadd, 1) := by decide +kernel
theorem dL_319 : decode code 319 = .ok (.iaload, 1) := by decide +kernel
theorem dL_320 : decode code 320 = .ok (.invokevirtual 22, 3) := by decide +kernel
theorem dL_323 : decode code 323 = .ok (.if_icmp .eq 1610, 3) := by decide +kernel
theorem dL_326 : decode code 326 = .ok (.iconst 0, 1) := by decide +kernel
theorem dL_327 : decode code 327 = .ok (.ireturn, 1) := by decide +kernel
theorem dL_328 : decode code 328 = .ok (.aload_n 1, 1) := by decide +kernel
theorem dL_329 : decode code 329 = .ok (.aload_n 0, 1) := by decide +kernel
theorem dL_330 : decode code 330 = .ok (.iload_n 3, 1) := by decide +kernel
theorem dL_331 : decode code 331 = .ok (.iconst 1, 1) := by decide +kernel
theorem dL_332 : decode code 332 = .ok (.iadd, 1) := by decide +kernel
theorem dL_333 : decode code 333 = .ok (.iaload, 1) := by decide +kernel
theorem dL_334 : decode code 334 = .ok (.invokevirtual 23, 3) := by decide +kernel
theorem dL_337 : decode code 337 = .ok (.aload_n 2, 1) := by decide +kernel
theorem dL_338 : decode code 338 = .ok (.aload_n 0, 1) := by decide +kernel
theorem dL_339 : decode code 339 = .ok (.iload_n 3, 1) := by decide +kernel
theorem dL_340 : decode code 340 = .ok (.iconst 1, 1) := by decide +kernel
theorem dL_341 : decode code 341 = .ok (.iadd, 1) := by decide +kernel
theorem dL_342 : decode code 342 = .ok (.iaload, 1) := by decide +kernel
theorem dL_343 : decode code 343 = .ok (.invokevirtual 27, 3) := by decide +kernel
theorem dL_346 : decode code 346 = .ok (.if_icmp .eq 1587, 3) := by decide +kernel
theorem dL_349 : decode code 349 = .ok (.iconst 0, 1) := by decide +kernel
theorem dL_350 : decode code 350 = .ok (.ireturn, 1) := by decide +kernel
theorem dL_351 : decode code 351 = .ok (.aload_n 1, 1) := by decide +kernel
theorem dL_352 : decode code 352 = .ok (.aload_n 0, 1) := by decide +kernel
theorem dL_353 : decode code 353 = .ok (.iload_n 3, 1) := by decide +kernel
theorem dL_354 : decode code 354 = .ok (.iconst 1, 1) := by decide +kernel
theorem dL_355 : decode code 355 = .ok (.iadd, 1) := by decide +kernel
theorem dL_356 : decode code 356 = .ok (.iaload, 1) := by decide +kernel
theorem dL_357 : decode code 357 = .ok (.aload_n 0, 1) := by decide +kernel
theorem dL_358 : decode code 358 = .ok (.iload_n 3, 1) := by decide +kernel
theorem dL_359 : decode code 359 = .ok (.iconst 2, 1) := by decide +kernel
theorem dL_360 : decode code 360 = .ok (.iadd, 1) := by decide +kernel
theorem dL_361 : decode code 361 = .ok (.iaload, 1) := by decide +kernel
theorem dL_362 : decode code 362 = .ok (.aload_n 0, 1) := by decide +kernel
theorem dL_363 : decode code 363 = .ok (.iload_n 3, 1) := by decide +kernel
theorem dL_364 : decode code 364 = .ok (.iconst 3, 1) := by decide +kernel
theorem dL_365 : decode code 365 = .ok (.iadd, 1) := by decide +kernel
theorem dL_366 : decode code 366 = .ok (.iaload, 1) := by decide +kernel
theorem dL_367 : decode code 367 = .ok (.aload_n 0, 1) := by decide +kernel
theorem dL_368 : decode code 368 = .ok (.iload_n 3, 1) := by decide +kernel
theorem dL_369 : decode code 369 = .ok (.iconst 4, 1) := by decide +kernel
theorem dL_370 : decode code 370 = .ok (.iadd, 1) := by decide +kernel
theorem dL_371 : decode code 371 = .ok (.iaload, 1) := by decide +kernel
theorem dL_372 : decode code 372 = .ok (.aload_n 0, 1) := by decide +kernel
theorem dL_373 : decode code 373 = .ok (.iload_n 3, 1) := by decide +kernel
theorem dL_374 : decode code 374 = .ok (.iconst 5, 1) := by decide +kernel
theorem dL_375 : decode code 375 = .ok (.iadd, 1) := by decide +kernel
theorem dL_376 : decode code 376 = .ok (.iaload, 1) := by decide +kernel
theorem dL_377 : decode code 377 = .ok (.invokevirtual 28, 3) := by decide +kernel
theorem dL_380 : decode code 380 = .ok (.aload_n 2, 1) := by decide +kernel
theorem dL_381 : decode code 381 = .ok (.aload_n 0, 1) := by decide +kernel
theorem dL_382 : decode code 382 = .ok (.iload_n 3, 1) := by decide +kernel
theorem dL_383 : decode code 383 = .ok (.iconst 1, 1) := by decide +kernel
theorem dL_384 : decode code 384 = .ok (.iadd, 1) := by decide +kernel
theorem dL_385 : decode code 385 = .ok (.iaload, 1) := by decide +kernel
theorem dL_386 : decode code 386 = .ok (.aload_n 0, 1) := by decide +kernel
theorem dL_387 : decode code 387 = .ok (.iload_n 3, 1) := by decide +kernel
theorem dL_388 : decode code 388 = .ok (.iconst 2, 1) := by decide +kernel
theorem dL_389 : decode code 389 = .ok (.iadd, 1) := by decide +kernel
theorem dL_390 : decode code 390 = .ok (.iaload, 1) := by decide +kernel
theorem dL_391 : decode code 391 = .ok (.aload_n 0, 1) := by decide +kernel
theorem dL_392 : decode code 392 = .ok (.iload_n 3, 1) := by decide +kernel
theorem dL_393 : decode code 393 = .ok (.iconst 3, 1) := by decide +kernel
theorem dL_394 : decode code 394 = .ok (.iadd, 1) := by decide +kernel
theorem dL_395 : decode code 395 = .ok (.iaload, 1) := by decide +kernel
theorem dL_396 : decode code 396 = .ok (.aload_n 0, 1) := by decide +kernel
theorem dL_397 : decode code 397 = .ok (.iload_n 3, 1) := by decide +kernel
theorem dL_398 : decode code 398 = .ok (.iconst 4, 1) := by decide +kernel
theorem dL_399 : decode code 399 = .ok (.iadd, 1) := by decide +kernel
theorem dL_400 : decode code 400 = .ok (.iaload, 1) := by decide +kernel
theorem dL_401 : decode code 401 = .ok (.aload_n 0, 1) := by decide +kernel
theorem dL_402 : decode code 402 = .ok (.iload_n 3, 1) := by decide +kernel
theorem dL_403 : decode code 403 = .ok (.iconst 5, 1) := by decide +kernel
theorem dL_404 : decode code 404 = .ok (.iadd, 1) := by decide +kernel
theorem dL_405 : decode code 405 = .ok (.iaload, 1) := by decide +kernel
theorem dL_406 : decode code 406 = .ok (.invokevirtual 32, 3) := by decide +kernel
theorem dL_409 : decode code 409 = .ok (.if_icmp .eq 1524, 3) := by decide +kernel
theorem dL_412 : decode code 412 = .ok (.iconst 0, 1) := by decide +kernel
theorem dL_413 : decode code 413 = .ok (.ireturn, 1) := by decide +kernel
theorem dL_414 : decode code 414 = .ok (.aload_n 1, 1) := by decide +kernel
theorem dL_415 : decode code 415 = .ok (.aload_n 0, 1) := by decide +kernel
theorem dL_416 : decode code 416 = .ok (.iload_n 3, 1) := by decide +kernel
theorem dL_417 : decode code 417 = .ok (.iconst 1, 1) := by decide +kernel
theorem dL_418 : decode code 418 = .ok (.iadd, 1) := by decide +kernel
theorem dL_419 : decode code 419 = .ok (.iaload, 1) := by decide +kernel
theorem dL_420 : decode code 420 = .ok (.invokevirtual 33, 3) := by decide +kernel
theorem dL_423 : decode code 423 = .ok (.aload_n 2, 1) := by decide +kernel
theorem dL_424 : decode code 424 = .ok (.aload_n 0, 1) := by decide +kernel
theorem dL_425 : decode code 425 = .ok (.iload_n 3, 1) := by decide +kernel
theorem dL_426 : decode code 426 = .ok (.iconst 1, 1) := by decide +kernel
theorem dL_427 : decode code 427 = .ok (.iadd, 1) := by decide +kernel
theorem dL_428 : decode code 428 = .ok (.iaload, 1) := by decide +kernel
theorem dL_429 : decode code 429 = .ok (.invokevirtual 36, 3) := by decide +kernel
theorem dL_432 : decode code 432 = .ok (.if_icmp .eq 1501, 3) := by decide +kernel
theorem dL_435 : decode code 435 = .ok (.iconst 0, 1) := by decide +kernel
theorem dL_436 : decode code 436 = .ok (.ireturn, 1) := by decide +kernel
theorem dL_437 : decode code 437 = .ok (.aload_n 1, 1) := by decide +kernel
theorem dL_438 : decode code 438 = .ok (.aload_n 0, 1) := by decide +kernel
theorem dL_439 : decode code 439 = .ok (.iload_n 3, 1) := by decide +kernel
theorem dL_440 : decode code 440 = .ok (.iconst 1, 1) := by decide +kernel
theorem dL_441 : decode code 441 = .ok (.iadd, 1) := by decide +kernel
theorem dL_442 : decode code 442 = .ok (.iaload, 1) := by decide +kernel
theorem dL_443 : decode code 443 = .ok (.aload_n 0, 1) := by decide +kernel
theorem dL_444 : decode code 444 = .ok (.iload_n 3, 1) := by decide +kernel
theorem dL_445 : decode code 445 = .ok (.iconst 2, 1) := by decide +kernel
theorem dL_446 : decode code 446 = .ok (.iadd, 1) := by decide +kernel
theorem dL_447 : decode code 447 = .ok (.iaload, 1) := by decide +kernel
theorem dL_448 : decode code 448 = .ok (.invokevirtual 37, 3) := by decide +kernel
theorem dL_451 : decode code 451 = .ok (.aload_n 2, 1) := by decide +kernel
theorem dL_452 : decode code 452 = .ok (.aload_n 0, 1) := by decide +kernel
theorem dL_453 : decode code 453 = .ok (.iload_n 3, 1) := by decide +kernel
theorem dL_454 : decode code 454 = .ok (.iconst 1, 1) := by decide +kernel
theorem dL_455 : decode code 455 = .ok (.iadd, 1) := by decide +kernel
theorem dL_456 : decode code 456 = .ok (.iaload, 1) := by decide +kernel
theorem dL_457 : decode code 457 = .ok (.aload_n 0, 1) := by decide +kernel
theorem dL_458 : decode code 458 = .ok (.iload_n 3, 1) := by decide +kernel
theorem dL_459 : decode code 459 = .ok (.iconst 2, 1) := by decide +kernel
theorem dL_460 : decode code 460 = .ok (.iadd, 1) := by decide +kernel
theorem dL_461 : decode code 461 = .ok (.iaload, 1) := by decide +kernel
theorem dL_462 : decode code 462 = .ok (.invokevirtual 40, 3) := by decide +kernel
theorem dL_465 : decode code 465 = .ok (.if_icmp .eq 1468, 3) := by decide +kernel
theorem dL_468 : decode code 468 = .ok (.iconst 0, 1) := by decide +kernel
theorem dL_469 : decode code 469 = .ok (.ireturn, 1) := by decide +kernel
theorem dL_470 : decode code 470 = .ok (.aload_n 1, 1) := by decide +kernel
theorem dL_471 : decode code 471 = .ok (.aload_n 0, 1) := by decide +kernel
theorem dL_472 : decode code 472 = .ok (.iload_n 3, 1) := by decide +kernel
theorem dL_473 : decode code 473 = .ok (.iconst 1, 1) := by decide +kernel
theorem dL_474 : decode code 474 = .ok (.iadd, 1) := by decide +kernel
theorem dL_475 : decode code 475 = .ok (.iaload, 1) := by decide +kernel
theorem dL_476 : decode code 476 = .ok (.aload_n 0, 1) := by decide +kernel
theorem dL_477 : decode code 477 = .ok (.iload_n 3, 1) := by decide +kernel
theorem dL_478 : decode code 478 = .ok (.iconst 2, 1) := by decide +kernel
theorem dL_479 : decode code 479 = .ok (.iadd, 1) := by decide +kernel
theorem dL_480 : decode code 480 = .ok (.iaload, 1) := by decide +kernel
theorem dL_481 : decode code 481 = .ok (.aload_n 0, 1) := by decide +kernel
theorem dL_482 : decode code 482 = .ok (.iload_n 3, 1) := by decide +kernel
theorem dL_483 : decode code 483 = .ok (.iconst 3, 1) := by decide +kernel
theorem dL_484 : decode code 484 = .ok (.iadd, 1) := by decide +kernel
theorem dL_485 : decode code 485 = .ok (.iaload, 1) := by decide +kernel
theorem dL_486 : decode code 486 = .ok (.invokevirtual 41, 3) := by decide +kernel
theorem dL_489 : decode code 489 = .ok (.aload_n 2, 1) := by decide +kernel
theorem dL_490 : decode code 490 = .ok (.aload_n 0, 1) := by decide +kernel
theorem dL_491 : decode code 491 = .ok (.iload_n 3, 1) := by decide +kernel
theorem dL_492 : decode code 492 = .ok (.iconst 1, 1) := by decide +kernel
theorem dL_493 : decode code 493 = .ok (.iadd, 1) := by decide +kernel
theorem dL_494 : decode code 494 = .ok (.iaload, 1) := by decide +kernel
theorem dL_495 : decode code 495 = .ok (.aload_n 0, 1) := by decide +kernel
theorem dL_496 : decode code 496 = .ok (.iload_n 3, 1) := by decide +kernel
theorem dL_497 : decode code 497 = .ok (.iconst 2, 1) := by decide +kernel
theorem dL_498 : decode code 498 = .ok (.iadd, 1) := by decide +kernel
theorem dL_499 : decode code 499 = .ok (.iaload, 1) := by decide +kernel
theorem dL_500 : decode code 500 = .ok (.aload_n 0, 1) := by decide +kernel
theorem dL_501 : decode code 501 = .ok (.iload_n 3, 1) := by decide +kernel
theorem dL_502 : decode code 502 = .ok (.iconst 3, 1) := by decide +kernel
theorem dL_503 : decode code 503 = .ok (.iadd, 1) := by decide +kernel
theorem dL_504 : decode code 504 = .ok (.iaload, 1) := by decide +kernel
theorem dL_505 : decode code 505 = .ok (.invokevirtual 44, 3) := by decide +kernel
theorem dL_508 : decode code 508 = .ok (.if_icmp .eq 1425, 3) := by decide +kernel
theorem dL_511 : decode code 511 = .ok (.iconst 0, 1) := by decide +kernel
theorem dL_512 : decode code 512 = .ok (.ireturn, 1) := by decide +kernel
theorem dL_513 : decode code 513 = .ok (.aload_n 1, 1) := by decide +kernel
theorem dL_514 : decode code 514 = .ok (.aload_n 0, 1) := by decide +kernel
theorem dL_515 : decode code 515 = .ok (.iload_n 3, 1) := by decide +kernel
theorem dL_516 : decode code 516 = .ok (.iconst 1, 1) := by decide +kernel
theorem dL_517 : decode code 517 = .ok (.iadd, 1) := by decide +kernel
theorem dL_518 : decode code 518 = .ok (.iaload, 1) := by decide +kernel
theorem dL_519 : decode code 519 = .ok (.aload_n 0, 1) := by decide +kernel
theorem dL_520 : decode code 520 = .ok (.iload_n 3, 1) := by decide +kernel
theorem dL_521 : decode code 521 = .ok (.iconst 2, 1) := by decide +kernel
theorem dL_522 : decode code 522 = .ok (.iadd, 1) := by decide +kernel
theorem dL_523 : decode code 523 = .ok (.iaload, 1) := by decide +kernel
theorem dL_524 : decode code 524 = .ok (.aload_n 0, 1) := by decide +kernel
theorem dL_525 : decode code 525 = .ok (.iload_n 3, 1) := by decide +kernel
theorem dL_526 : decode code 526 = .ok (.iconst 3, 1) := by decide +kernel
theorem dL_527 : decode code 527 = .ok (.iadd, 1) := by decide +kernel
theorem dL_528 : decode code 528 = .ok (.iaload, 1) := by decide +kernel
theorem dL_529 : decode code 529 = .ok (.aload_n 0, 1) := by decide +kernel
theorem dL_530 : decode code 530 = .ok (.iload_n 3, 1) := by decide +kernel
theorem dL_531 : decode code 531 = .ok (.iconst 4, 1) := by decide +kernel
theorem dL_532 : decode code 532 = .ok (.iadd, 1) := by decide +kernel
theorem dL_533 : decode code 533 = .ok (.iaload, 1) := by decide +kernel
theorem dL_534 : decode code 534 = .ok (.aload_n 0, 1) := by decide +kernel
theorem dL_535 : decode code 535 = .ok (.iload_n 3, 1) := by decide +kernel
theorem dL_536 : decode code 536 = .ok (.iconst 5, 1) := by decide +kernel
theorem dL_537 : decode code 537 = .ok (.iadd, 1) := by decide +kernel
theorem dL_538 : decode code 538 = .ok (.iaload, 1) := by decide +kernel
theorem dL_539 : decode code 539 = .ok (.ifCond .eq 7, 3) := by decide +kernel
theorem dL_542 : decode code 542 = .ok (.iconst 1, 1) := by decide +kernel
theorem dL_543 : decode code 543 = .ok (.goto 4, 3) := by decide +kernel
theorem dL_546 : decode code 546 = .ok (.iconst 0, 1) := by decide +kernel
theorem dL_547 : decode code 547 = .ok (.invokevirtual 45, 3) := by decide +kernel
theorem dL_550 : decode code 550 = .ok (.aload_n 2, 1) := by decide +kernel
theorem dL_551 : decode code 551 = .ok (.aload_n 0, 1) := by decide +kernel
theorem dL_552 : decode code 552 = .ok (.iload_n 3, 1) := by decide +kernel
theorem dL_553 : decode code 553 = .ok (.iconst 1, 1) := by decide +kernel
theorem dL_554 : decode code 554 = .ok (.iadd, 1) := by decide +kernel
theorem dL_555 : decode code 555 = .ok (.iaload, 1) := by decide +kernel
theorem dL_556 : decode code 556 = .ok (.aload_n 0, 1) := by decide +kernel
theorem dL_557 : decode code 557 = .ok (.iload_n 3, 1) := by decide +kernel
theorem dL_558 : decode code 558 = .ok (.iconst 2, 1) := by decide +kernel
theorem dL_559 : decode code 559 = .ok (.iadd, 1) := by decide +kernel
theorem dL_560 : decode code 560 = .ok (.iaload, 1) := by decide +kernel
theorem dL_561 : decode code 561 = .ok (.aload_n 0, 1) := by decide +kernel
theorem dL_562 : decode code 562 = .ok (.iload_n 3, 1) := by decide +kernel
theorem dL_563 : decode code 563 = .ok (.iconst 3, 1) := by decide +kernel
theorem dL_564 : decode code 564 = .ok (.iadd, 1) := by decide +kernel
theorem dL_565 : decode code 565 = .ok (.iaload, 1) := by decide +kernel
theorem dL_566 : decode code 566 = .ok (.aload_n 0, 1) := by decide +kernel
theorem dL_567 : decode code 567 = .ok (.iload_n 3, 1) := by decide +kernel
theorem dL_568 : decode code 568 = .ok (.iconst 4, 1) := by decide +kernel
theorem dL_569 : decode code 569 = .ok (.iadd, 1) := by decide +kernel
theorem dL_570 : decode code 570 = .ok (.iaload, 1) := by decide +kernel
theorem dL_571 : decode code 571 = .ok (.aload_n 0, 1) := by decide +kernel
theorem dL_572 : decode code 572 = .ok (.iload_n 3, 1) := by decide +kernel
theorem dL_573 : decode code 573 = .ok (.iconst 5, 1) := by decide +kernel
theorem dL_574 : decode code 574 = .ok (.iadd, 1) := by decide +kernel
theorem dL_575 : decode code 575 = .ok (.iaload, 1) := by decide +kernel
theorem dL_576 : decode code 576 = .ok (.ifCond .eq 7, 3) := by decide +kernel
theorem dL_579 : decode code 579 = .ok (.iconst 1, 1) := by decide +kernel
theorem dL_580 : decode code 580 = .ok (.goto 4, 3) := by decide +kernel
theorem dL_583 : decode code 583 = .ok (.iconst 0, 1) := by decide +kernel
theorem dL_584 : decode code 584 = .ok (.invokevirtual 49, 3) := by decide +kernel
theorem dL_587 : decode code 587 = .ok (.if_icmp .eq 1346, 3) := by decide +kernel
theorem dL_590 : decode code 590 = .ok (.iconst 0, 1) := by decide +kernel
theorem dL_591 : decode code 591 = .ok (.ireturn, 1) := by decide +kernel
theorem dL_592 : decode code 592 = .ok (.aload_n 1, 1) := by decide +kernel
theorem dL_593 : decode code 593 = .ok (.aload_n 0, 1) := by decide +kernel
theorem dL_594 : decode code 594 = .ok (.iload_n 3, 1) := by decide +kernel
theorem dL_595 : decode code 595 = .ok (.iconst 1, 1) := by decide +kernel
theorem dL_596 : decode code 596 = .ok (.iadd, 1) := by decide +kernel
theorem dL_597 : decode code 597 = .ok (.iaload, 1) := by decide +kernel
theorem dL_598 : decode code 598 = .ok (.invokevirtual 50, 3) := by decide +kernel
theorem dL_601 : decode code 601 = .ok (.aload_n 2, 1) := by decide +kernel
theorem dL_602 : decode code 602 = .ok (.aload_n 0, 1) := by decide +kernel
theorem dL_603 : decode code 603 = .ok (.iload_n 3, 1) := by decide +kernel
theorem dL_604 : decode code 604 = .ok (.iconst 1, 1) := by decide +kernel
theorem dL_605 : decode code 605 = .ok (.iadd, 1) := by decide +kernel
theorem dL_606 : decode code 606 = .ok (.iaload, 1) := by decide +kernel
theorem dL_607 : decode code 607 = .ok (.invokevirtual 53, 3) := by decide +kernel
theorem dL_610 : decode code 610 = .ok (.if_icmp .eq 1323, 3) := by decide +kernel
theorem dL_613 : decode code 613 = .ok (.iconst 0, 1) := by decide +kernel
theorem dL_614 : decode code 614 = .ok (.ireturn, 1) := by decide +kernel
theorem dL_615 : decode code 615 = .ok (.aload_n 1, 1) := by decide +kernel
theorem dL_616 : decode code 616 = .ok (.aload_n 0, 1) := by decide +kernel
theorem dL_617 : decode code 617 = .ok (.iload_n 3, 1) := by decide +kernel
theorem dL_618 : decode code 618 = .ok (.iconst 1, 1) := by decide +kernel
theorem dL_619 : decode code 619 = .ok (.iadd, 1) := by decide +kernel
theorem dL_620 : decode code 620 = .ok (.iaload, 1) := by decide +kernel
theorem dL_621 : decode code 621 = .ok (.aload_n 0, 1) := by decide +kernel
theorem dL_622 : decode code 622 = .ok (.iload_n 3, 1) := by decide +kernel
theorem dL_623 : decode code 623 = .ok (.iconst 2, 1) := by decide +kernel
theorem dL_624 : decode code 624 = .ok (.iadd, 1) := by decide +kernel
theorem dL_625 : decode code 625 = .ok (.iaload, 1) := by decide +kernel
theorem dL_626 : decode code 626 = .ok (.aload_n 0, 1) := by decide +kernel
theorem dL_627 : decode code 627 = .ok (.iload_n 3, 1) := by decide +kernel
theorem dL_628 : decode code 628 = .ok (.iconst 3, 1) := by decide +kernel
theorem dL_629 : decode code 629 = .ok (.iadd, 1) := by decide +kernel
theorem dL_630 : decode code 630 = .ok (.iaload, 1) := by decide +kernel
theorem dL_631 : decode code 631 = .ok (.invokevirtual 54, 3) := by decide +kernel
theorem dL_634 : decode code 634 = .ok (.aload_n 2, 1) := by decide +kernel
theorem dL_635 : decode code 635 = .ok (.aload_n 0, 1) := by decide +kernel
theorem dL_636 : decode code 636 = .ok (.iload_n 3, 1) := by decide +kernel
theorem dL_637 : decode code 637 = .ok (.iconst 1, 1) := by decide +kernel
theorem dL_638 : decode code 638 = .ok (.iadd, 1) := by decide +kernel
theorem dL_639 : decode code 639 = .ok (.iaload, 1) := by decide +kernel
theorem dL_640 : decode code 640 = .ok (.aload_n 0, 1) := by decide +kernel
theorem dL_641 : decode code 641 = .ok (.iload_n 3, 1) := by decide +kernel
theorem dL_642 : decode code 642 = .ok (.iconst 2, 1) := by decide +kernel
theorem dL_643 : decode code 643 = .ok (.iadd, 1) := by decide +kernel
theorem dL_644 : decode code 644 = .ok (.iaload, 1) := by decide +kernel
theorem dL_645 : decode code 645 = .ok (.aload_n 0, 1) := by decide +kernel
theorem dL_646 : decode code 646 = .ok (.iload_n 3, 1) := by decide +kernel
theorem dL_647 : decode code 647 = .ok (.iconst 3, 1) := by decide +kernel
theorem dL_648 : decode code 648 = .ok (.iadd, 1) := by decide +kernel
theorem dL_649 : decode code 649 = .ok (.iaload, 1) := by decide +kernel
theorem dL_650 : decode code 650 = .ok (.invokevirtual 57, 3) := by decide +kernel
theorem dL_653 : decode code 653 = .ok (.if_icmp .eq 1280, 3) := by decide +kernel
theorem dL_656 : decode code 656 = .ok (.iconst 0, 1) := by decide +kernel
theorem dL_657 : decode code 657 = .ok (.ireturn, 1) := by decide +kernel
theorem dL_658 : decode code 658 = .ok (.aload_n 1, 1) := by decide +kernel
theorem dL_659 : decode code 659 = .ok (.aload_n 0, 1) := by decide +kernel
theorem dL_660 : decode code 660 = .ok (.iload_n 3, 1) := by decide +kernel
theorem dL_661 : decode code 661 = .ok (.iconst 1, 1) := by decide +kernel
theorem dL_662 : decode code 662 = .ok (.iadd, 1) := by decide +kernel
theorem dL_663 : decode code 663 = .ok (.iaload, 1) := by decide +kernel
theorem dL_664 : decode code 664 = .ok (.aload_n 0, 1) := by decide +kernel
theorem dL_665 : decode code 665 = .ok (.iload_n 3, 1) := by decide +kernel
theorem dL_666 : decode code 666 = .ok (.iconst 2, 1) := by decide +kernel
theorem dL_667 : decode code 667 = .ok (.iadd, 1) := by decide +kernel
theorem dL_668 : decode code 668 = .ok (.iaload, 1) := by decide +kernel
theorem dL_669 : decode code 669 = .ok (.invokevirtual 58, 3) := by decide +kernel
theorem dL_672 : decode code 672 = .ok (.aload_n 2, 1) := by decide +kernel
theorem dL_673 : decode code 673 = .ok (.aload_n 0, 1) := by decide +kernel
theorem dL_674 : decode code 674 = .ok (.iload_n 3, 1) := by decide +kernel
theorem dL_675 : decode code 675 = .ok (.iconst 1, 1) := by decide +kernel
theorem dL_676 : decode code 676 = .ok (.iadd, 1) := by decide +kernel
theorem dL_677 : decode code 677 = .ok (.iaload, 1) := by decide +kernel
theorem dL_678 : decode code 678 = .ok (.aload_n 0, 1) := by decide +kernel
theorem dL_679 : decode code 679 = .ok (.iload_n 3, 1) := by decide +kernel
theorem dL_680 : decode code 680 = .ok (.iconst 2, 1) := by decide +kernel
theorem dL_681 : decode code 681 = .ok (.iadd, 1) := by decide +kernel
theorem dL_682 : decode code 682 = .ok (.iaload, 1) := by decide +kernel
theorem dL_683 : decode code 683 = .ok (.invokevirtual 61, 3) := by decide +kernel
theorem dL_686 : decode code 686 = .ok (.if_icmp .eq 1247, 3) := by decide +kernel
theorem dL_689 : decode code 689 = .ok (.iconst 0, 1) := by decide +kernel
theorem dL_690 : decode code 690 = .ok (.ireturn, 1) := by decide +kernel
theorem dL_691 : decode code 691 = .ok (.aload_n 1, 1) := by decide +kernel
theorem dL_692 : decode code 692 = .ok (.aload_n 0, 1) := by decide +kernel
theorem dL_693 : decode code 693 = .ok (.iload_n 3, 1) := by decide +kernel
theorem dL_694 : decode code 694 = .ok (.iconst 1, 1) := by decide +kernel
theorem dL_695 : decode code 695 = .ok (.iadd, 1) := by decide +kernel
theorem dL_696 : decode code 696 = .ok (.iaload, 1) := by decide +kernel
theorem dL_697 : decode code 697 = .ok (.aload_n 0, 1) := by decide +kernel
theorem dL_698 : decode code 698 = .ok (.iload_n 3, 1) := by decide +kernel
theorem dL_699 : decode code 699 = .ok (.iconst 2, 1) := by decide +kernel
theorem dL_700 : decode code 700 = .ok (.iadd, 1) := by decide +kernel
theorem dL_701 : decode code 701 = .ok (.iaload, 1) := by decide +kernel
theorem dL_702 : decode code 702 = .ok (.invokevirtual 62, 3) := by decide +kernel
theorem dL_705 : decode code 705 = .ok (.aload_n 2, 1) := by decide +kernel
theorem dL_706 : decode code 706 = .ok (.aload_n 0, 1) := by decide +kernel
theorem dL_707 : decode code 707 = .ok (.iload_n 3, 1) := by decide +kernel
theorem dL_708 : decode code 708 = .ok (.iconst 1, 1) := by decide +kernel
theorem dL_709 : decode code 709 = .ok (.iadd, 1) := by decide +kernel
theorem dL_710 : decode code 710 = .ok (.iaload, 1) := by decide +kernel
theorem dL_711 : decode code 711 = .ok (.aload_n 0, 1) := by decide +kernel
theorem dL_712 : decode code 712 = .ok (.iload_n 3, 1) := by decide +kernel
theorem dL_713 : decode code 713 = .ok (.iconst 2, 1) := by decide +kernel
theorem dL_714 : decode code 714 = .ok (.iadd, 1) := by decide +kernel
theorem dL_715 : decode code 715 = .ok (.iaload, 1) := by decide +kernel
theorem dL_716 : decode code 716 = .ok (.invokevirtual 65, 3) := by decide +kernel
theorem dL_719 : decode code 719 = .ok (.if_icmp .eq 1214, 3) := by decide +kernel
theorem dL_722 : decode code 722 = .ok (.iconst 0, 1) := by decide +kernel
theorem dL_723 : decode code 723 = .ok (.ireturn, 1) := by decide +kernel
theorem dL_724 : decode code 724 = .ok (.aload_n 1, 1) := by decide +kernel
theorem dL_725 : decode code 725 = .ok (.aload_n 0, 1) := by decide +kernel
theorem dL_726 : decode code 726 = .ok (.iload_n 3, 1) := by decide +kernel
theorem dL_727 : decode code 727 = .ok (.iconst 1, 1) := by decide +kernel
theorem dL_728 : decode code 728 = .ok (.iadd, 1) := by decide +kernel
theorem dL_729 : decode code 729 = .ok (.iaload, 1) := by decide +kernel
theorem dL_730 : decode code 730 = .ok (.aload_n 0, 1) := by decide +kernel
theorem dL_731 : decode code 731 = .ok (.iload_n 3, 1) := by decide +kernel
theorem dL_732 : decode code 732 = .ok (.iconst 2, 1) := by decide +kernel
theorem dL_733 : decode code 733 = .ok (.iadd, 1) := by decide +kernel
theorem dL_734 : decode code 734 = .ok (.iaload, 1) := by decide +kernel
theorem dL_735 : decode code 735 = .ok (.aload_n 0, 1) := by decide +kernel
theorem dL_736 : decode code 736 = .ok (.iload_n 3, 1) := by decide +kernel
theorem dL_737 : decode code 737 = .ok (.iconst 3, 1) := by decide +kernel
theorem dL_738 : decode code 738 = .ok (.iadd, 1) := by decide +kernel
theorem dL_739 : decode code 739 = .ok (.iaload, 1) := by decide +kernel
theorem dL_740 : decode code 740 = .ok (.invokevirtual 66, 3) := by decide +kernel
theorem dL_743 : decode code 743 = .ok (.aload_n 2, 1) := by decide +kernel
theorem dL_744 : decode code 744 = .ok (.aload_n 0, 1) := by decide +kernel
theorem dL_745 : decode code 745 = .ok (.iload_n 3, 1) := by decide +kernel
theorem dL_746 : decode code 746 = .ok (.iconst 1, 1) := by decide +kernel
theorem dL_747 : decode code 747 = .ok (.iadd, 1) := by decide +kernel
theorem dL_748 : decode code 748 = .ok (.iaload, 1) := by decide +kernel
theorem dL_749 : decode code 749 = .ok (.aload_n 0, 1) := by decide +kernel
theorem dL_750 : decode code 750 = .ok (.iload_n 3, 1) := by decide +kernel
theorem dL_751 : decode code 751 = .ok (.iconst 2, 1) := by decide +kernel
theorem dL_752 : decode code 752 = .ok (.iadd, 1) := by decide +kernel
theorem dL_753 : decode code 753 = .ok (.iaload, 1) := by decide +kernel
theorem dL_754 : decode code 754 = .ok (.aload_n 0, 1) := by decide +kernel
theorem dL_755 : decode code 755 = .ok (.iload_n 3, 1) := by decide +kernel
theorem dL_756 : decode code 756 = .ok (.iconst 3, 1) := by decide +kernel
theorem dL_757 : decode code 757 = .ok (.iadd, 1) := by decide +kernel
theorem dL_758 : decode code 758 = .ok (.iaload, 1) := by decide +kernel
theorem dL_759 : decode code 759 = .ok (.invokevirtual 69, 3) := by decide +kernel
theorem dL_762 : decode code 762 = .ok (.if_icmp .eq 1171, 3) := by decide +kernel
theorem dL_765 : decode code 765 = .ok (.iconst 0, 1) := by decide +kernel
theorem dL_766 : decode code 766 = .ok (.ireturn, 1) := by decide +kernel
theorem dL_767 : decode code 767 = .ok (.aload_n 1, 1) := by decide +kernel
theorem dL_768 : decode code 768 = .ok (.aload_n 0, 1) := by decide +kernel
theorem dL_769 : decode code 769 = .ok (.iload_n 3, 1) := by decide +kernel
theorem dL_770 : decode code 770 = .ok (.iconst 1, 1) := by decide +kernel
theorem dL_771 : decode code 771 = .ok (.iadd, 1) := by decide +kernel
theorem dL_772 : decode code 772 = .ok (.iaload, 1) := by decide +kernel
theorem dL_773 : decode code 773 = .ok (.aload_n 0, 1) := by decide +kernel
theorem dL_774 : decode code 774 = .ok (.iload_n 3, 1) := by decide +kernel
theorem dL_775 : decode code 775 = .ok (.iconst 2, 1) := by decide +kernel
theorem dL_776 : decode code 776 = .ok (.iadd, 1) := by decide +kernel
theorem dL_777 : decode code 777 = .ok (.iaload, 1) := by decide +kernel
theorem dL_778 : decode code 778 = .ok (.invokevirtual 70, 3) := by decide +kernel
theorem dL_781 : decode code 781 = .ok (.aload_n 2, 1) := by decide +kernel
theorem dL_782 : decode code 782 = .ok (.aload_n 0, 1) := by decide +kernel
theorem dL_783 : decode code 783 = .ok (.iload_n 3, 1) := by decide +kernel
theorem dL_784 : decode code 784 = .ok (.iconst 1, 1) := by decide +kernel
theorem dL_785 : decode code 785 = .ok (.iadd, 1) := by decide +kernel
theorem dL_786 : decode code 786 = .ok (.iaload, 1) := by decide +kernel
theorem dL_787 : decode code 787 = .ok (.aload_n 0, 1) := by decide +kernel
theorem dL_788 : decode code 788 = .ok (.iload_n 3, 1) := by decide +kernel
theorem dL_789 : decode code 789 = .ok (.iconst 2, 1) := by decide +kernel
theorem dL_790 : decode code 790 = .ok (.iadd, 1) := by decide +kernel
theorem dL_791 : decode code 791 = .ok (.iaload, 1) := by decide +kernel
theorem dL_792 : decode code 792 = .ok (.invokevirtual 73, 3) := by decide +kernel
theorem dL_795 : decode code 795 = .ok (.if_icmp .eq 1138, 3) := by decide +kernel
theorem dL_798 : decode code 798 = .ok (.iconst 0, 1) := by decide +kernel
theorem dL_799 : decode code 799 = .ok (.ireturn, 1) := by decide +kernel
theorem dL_800 : decode code 800 = .ok (.aload_n 1, 1) := by decide +kernel
theorem dL_801 : decode code 801 = .ok (.aload_n 0, 1) := by decide +kernel
theorem dL_802 : decode code 802 = .ok (.iload_n 3, 1) := by decide +kernel
theorem dL_803 : decode code 803 = .ok (.iconst 1, 1) := by decide +kernel
theorem dL_804 : decode code 804 = .ok (.iadd, 1) := by decide +kernel
theorem dL_805 : decode code 805 = .ok (.iaload, 1) := by decide +kernel
theorem dL_806 : decode code 806 = .ok (.aload_n 0, 1) := by decide +kernel
theorem dL_807 : decode code 807 = .ok (.iload_n 3, 1) := by decide +kernel
theorem dL_808 : decode code 808 = .ok (.iconst 2, 1) := by decide +kernel
theorem dL_809 : decode code 809 = .ok (.iadd, 1) := by decide +kernel
theorem dL_810 : decode code 810 = .ok (.iaload, 1) := by decide +kernel
theorem dL_811 : decode code 811 = .ok (.invokevirtual 74, 3) := by decide +kernel
theorem dL_814 : decode code 814 = .ok (.aload_n 2, 1) := by decide +kernel
theorem dL_815 : decode code 815 = .ok (.aload_n 0, 1) := by decide +kernel
theorem dL_816 : decode code 816 = .ok (.iload_n 3, 1) := by decide +kernel
theorem dL_817 : decode code 817 = .ok (.iconst 1, 1) := by decide +kernel
theorem dL_818 : decode code 818 = .ok (.iadd, 1) := by decide +kernel
theorem dL_819 : decode code 819 = .ok (.iaload, 1) := by decide +kernel
theorem dL_820 : decode code 820 = .ok (.aload_n 0, 1) := by decide +kernel
theorem dL_821 : decode code 821 = .ok (.iload_n 3, 1) := by decide +kernel
theorem dL_822 : decode code 822 = .ok (.iconst 2, 1) := by decide +kernel
theorem dL_823 : decode code 823 = .ok (.iadd, 1) := by decide +kernel
theorem dL_824 : decode code 824 = .ok (.iaload, 1) := by decide +kernel
theorem dL_825 : decode code 825 = .ok (.invokevirtual 77, 3) := by decide +kernel
theorem dL_828 : decode code 828 = .ok (.if_icmp .eq 1105, 3) := by decide +kernel
theorem dL_831 : decode code 831 = .ok (.iconst 0, 1) := by decide +kernel
theorem dL_832 : decode code 832 = .ok (.ireturn, 1) := by decide +kernel
theorem dL_833 : decode code 833 = .ok (.aload_n 1, 1) := by decide +kernel
theorem dL_834 : decode code 834 = .ok (.aload_n 0, 1) := by decide +kernel
theorem dL_835 : decode code 835 = .ok (.iload_n 3, 1) := by decide +kernel
theorem dL_836 : decode code 836 = .ok (.iconst 1, 1) := by decide +kernel
theorem dL_837 : decode code 837 = .ok (.iadd, 1) := by decide +kernel
theorem dL_838 : decode code 838 = .ok (.iaload, 1) := by decide +kernel
theorem dL_839 : decode code 839 = .ok (.aload_n 0, 1) := by decide +kernel
theorem dL_840 : decode code 840 = .ok (.iload_n 3, 1) := by decide +kernel
theorem dL_841 : decode code 841 = .ok (.iconst 2, 1) := by decide +kernel
theorem dL_842 : decode code 842 = .ok (.iadd, 1) := by decide +kernel
theorem dL_843 : decode code 843 = .ok (.iaload, 1) := by decide +kernel
theorem dL_844 : decode code 844 = .ok (.aload_n 0, 1) := by decide +kernel
theorem dL_845 : decode code 845 = .ok (.iload_n 3, 1) := by decide +kernel
theorem dL_846 : decode code 846 = .ok (.iconst 3, 1) := by decide +kernel
theorem dL_847 : decode code 847 = .ok (.iadd, 1) := by decide +kernel
theorem dL_848 : decode code 848 = .ok (.iaload, 1) := by decide +kernel
theorem dL_849 : decode code 849 = .ok (.aload_n 0, 1) := by decide +kernel
theorem dL_850 : decode code 850 = .ok (.iload_n 3, 1) := by decide +kernel
theorem dL_851 : decode code 851 = .ok (.iconst 4, 1) := by decide +kernel
theorem dL_852 : decode code 852 = .ok (.iadd, 1) := by decide +kernel
theorem dL_853 : decode code 853 = .ok (.iaload, 1) := by decide +kernel
theorem dL_854 : decode code 854 = .ok (.aload_n 0, 1) := by decide +kernel
theorem dL_855 : decode code 855 = .ok (.iload_n 3, 1) := by decide +kernel
theorem dL_856 : decode code 856 = .ok (.iconst 5, 1) := by decide +kernel
theorem dL_857 : decode code 857 = .ok (.iadd, 1) := by decide +kernel
theorem dL_858 : decode code 858 = .ok (.iaload, 1) := by decide +kernel
theorem dL_859 : decode code 859 = .ok (.invokevirtual 78, 3) := by decide +kernel
theorem dL_862 : decode code 862 = .ok (.aload_n 2, 1) := by decide +kernel
theorem dL_863 : decode code 863 = .ok (.aload_n 0, 1) := by decide +kernel
theorem dL_864 : decode code 864 = .ok (.iload_n 3, 1) := by decide +kernel
theorem dL_865 : decode code 865 = .ok (.iconst 1, 1) := by decide +kernel
theorem dL_866 : decode code 866 = .ok (.iadd, 1) := by decide +kernel
theorem dL_867 : decode code 867 = .ok (.iaload, 1) := by decide +kernel
theorem dL_868 : decode code 868 = .ok (.aload_n 0, 1) := by decide +kernel
theorem dL_869 : decode code 869 = .ok (.iload_n 3, 1) := by decide +kernel
theorem dL_870 : decode code 870 = .ok (.iconst 2, 1) := by decide +kernel
theorem dL_871 : decode code 871 = .ok (.iadd, 1) := by decide +kernel
theorem dL_872 : decode code 872 = .ok (.iaload, 1) := by decide +kernel
theorem dL_873 : decode code 873 = .ok (.aload_n 0, 1) := by decide +kernel
theorem dL_874 : decode code 874 = .ok (.iload_n 3, 1) := by decide +kernel
theorem dL_875 : decode code 875 = .ok (.iconst 3, 1) := by decide +kernel
theorem dL_876 : decode code 876 = .ok (.iadd, 1) := by decide +kernel
theorem dL_877 : decode code 877 = .ok (.iaload, 1) := by decide +kernel
theorem dL_878 : decode code 878 = .ok (.aload_n 0, 1) := by decide +kernel
theorem dL_879 : decode code 879 = .ok (.iload_n 3, 1) := by decide +kernel
theorem dL_880 : decode code 880 = .ok (.iconst 4, 1) := by decide +kernel
theorem dL_881 : decode code 881 = .ok (.iadd, 1) := by decide +kernel
theorem dL_882 : decode code 882 = .ok (.iaload, 1) := by decide +kernel
theorem dL_883 : decode code 883 = .ok (.aload_n 0, 1) := by decide +kernel
theorem dL_884 : decode code 884 = .ok (.iload_n 3, 1) := by decide +kernel
theorem dL_885 : decode code 885 = .ok (.iconst 5, 1) := by decide +kernel
theorem dL_886 : decode code 886 = .ok (.iadd, 1) := by decide +kernel
theorem dL_887 : decode code 887 = .ok (.iaload, 1) := by decide +kernel
theorem dL_888 : decode code 888 = .ok (.invokevirtual 81, 3) := by decide +kernel
theorem dL_891 : decode code 891 = .ok (.if_icmp .eq 1042, 3) := by decide +kernel
theorem dL_894 : decode code 894 = .ok (.iconst 0, 1) := by decide +kernel
theorem dL_895 : decode code 895 = .ok (.ireturn, 1) := by decide +kernel
theorem dL_896 : decode code 896 = .ok (.aload_n 1, 1) := by decide +kernel
theorem dL_897 : decode code 897 = .ok (.aload_n 0, 1) := by decide +kernel
theorem dL_898 : decode code 898 = .ok (.iload_n 3, 1) := by decide +kernel
theorem dL_899 : decode code 899 = .ok (.iconst 1, 1) := by decide +kernel
theorem dL_900 : decode code 900 = .ok (.iadd, 1) := by decide +kernel
theorem dL_901 : decode code 901 = .ok (.iaload, 1) := by decide +kernel
theorem dL_902 : decode code 902 = .ok (.aload_n 0, 1) := by decide +kernel
theorem dL_903 : decode code 903 = .ok (.iload_n 3, 1) := by decide +kernel
theorem dL_904 : decode code 904 = .ok (.iconst 2, 1) := by decide +kernel
theorem dL_905 : decode code 905 = .ok (.iadd, 1) := by decide +kernel
theorem dL_906 : decode code 906 = .ok (.iaload, 1) := by decide +kernel
theorem dL_907 : decode code 907 = .ok (.aload_n 0, 1) := by decide +kernel
theorem dL_908 : decode code 908 = .ok (.iload_n 3, 1) := by decide +kernel
theorem dL_909 : decode code 909 = .ok (.iconst 3, 1) := by decide +kernel
theorem dL_910 : decode code 910 = .ok (.iadd, 1) := by decide +kernel
theorem dL_911 : decode code 911 = .ok (.iaload, 1) := by decide +kernel
theorem dL_912 : decode code 912 = .ok (.invokevirtual 82, 3) := by decide +kernel
theorem dL_915 : decode code 915 = .ok (.aload_n 2, 1) := by decide +kernel
theorem dL_916 : decode code 916 = .ok (.aload_n 0, 1) := by decide +kernel
theorem dL_917 : decode code 917 = .ok (.iload_n 3, 1) := by decide +kernel
theorem dL_918 : decode code 918 = .ok (.iconst 1, 1) := by decide +kernel
theorem dL_919 : decode code 919 = .ok (.iadd, 1) := by decide +kernel
theorem dL_920 : decode code 920 = .ok (.iaload, 1) := by decide +kernel
theorem dL_921 : decode code 921 = .ok (.aload_n 0, 1) := by decide +kernel
theorem dL_922 : decode code 922 = .ok (.iload_n 3, 1) := by decide +kernel
theorem dL_923 : decode code 923 = .ok (.iconst 2, 1) := by decide +kernel
theorem dL_924 : decode code 924 = .ok (.iadd, 1) := by decide +kernel
theorem dL_925 : decode code 925 = .ok (.iaload, 1) := by decide +kernel
theorem dL_926 : decode code 926 = .ok (.aload_n 0, 1) := by decide +kernel
theorem dL_927 : decode code 927 = .ok (.iload_n 3, 1) := by decide +kernel
theorem dL_928 : decode code 928 = .ok (.iconst 3, 1) := by decide +kernel
theorem dL_929 : decode code 929 = .ok (.iadd, 1) := by decide +kernel
theorem dL_930 : decode code 930 = .ok (.iaload, 1) := by decide +kernel
theorem dL_931 : decode code 931 = .ok (.invokevirtual 85, 3) := by decide +kernel
theorem dL_934 : decode code 934 = .ok (.if_icmp .eq 999, 3) := by decide +kernel
theorem dL_937 : decode code 937 = .ok (.iconst 0, 1) := by decide +kernel
theorem dL_938 : decode code 938 = .ok (.ireturn, 1) := by decide +kernel
theorem dL_939 : decode code 939 = .ok (.aload_n 1, 1) := by decide +kernel
theorem dL_940 : decode code 940 = .ok (.aload_n 0, 1) := by decide +kernel
theorem dL_941 : decode code 941 = .ok (.iload_n 3, 1) := by decide +kernel
theorem dL_942 : decode code 942 = .ok (.iconst 1, 1) := by decide +kernel
theorem dL_943 : decode code 943 = .ok (.iadd, 1) := by decide +kernel
theorem dL_944 : decode code 944 = .ok (.iaload, 1) := by decide +kernel
theorem dL_945 : decode code 945 = .ok (.aload_n 0, 1) := by decide +kernel
theorem dL_946 : decode code 946 = .ok (.iload_n 3, 1) := by decide +kernel
theorem dL_947 : decode code 947 = .ok (.iconst 2, 1) := by decide +kernel
theorem dL_948 : decode code 948 = .ok (.iadd, 1) := by decide +kernel
theorem dL_949 : decode code 949 = .ok (.iaload, 1) := by decide +kernel
theorem dL_950 : decode code 950 = .ok (.ifCond .eq 7, 3) := by decide +kernel
theorem dL_953 : decode code 953 = .ok (.iconst 1, 1) := by decide +kernel
theorem dL_954 : decode code 954 = .ok (.goto 4, 3) := by decide +kernel
theorem dL_957 : decode code 957 = .ok (.iconst 0, 1) := by decide +kernel
theorem dL_958 : decode code 958 = .ok (.aload_n 0, 1) := by decide +kernel
theorem dL_959 : decode code 959 = .ok (.iload_n 3, 1) := by decide +kernel
theorem dL_960 : decode code 960 = .ok (.iconst 3, 1) := by decide +kernel
theorem dL_961 : decode code 961 = .ok (.iadd, 1) := by decide +kernel
theorem dL_962 : decode code 962 = .ok (.iaload, 1) := by decide +kernel
theorem dL_963 : decode code 963 = .ok (.aload_n 0, 1) := by decide +kernel
theorem dL_964 : decode code 964 = .ok (.iload_n 3, 1) := by decide +kernel
theorem dL_965 : decode code 965 = .ok (.iconst 4, 1) := by decide +kernel
theorem dL_966 : decode code 966 = .ok (.iadd, 1) := by decide +kernel
theorem dL_967 : decode code 967 = .ok (.iaload, 1) := by decide +kernel
theorem dL_968 : decode code 968 = .ok (.invokevirtual 86, 3) := by decide +kernel
theorem dL_971 : decode code 971 = .ok (.aload_n 2, 1) := by decide +kernel
theorem dL_972 : decode code 972 = .ok (.aload_n 0, 1) := by decide +kernel
theorem dL_973 : decode code 973 = .ok (.iload_n 3, 1) := by decide +kernel
theorem dL_974 : decode code 974 = .ok (.iconst 1, 1) := by decide +kernel
theorem dL_975 : decode code 975 = .ok (.iadd, 1) := by decide +kernel
theorem dL_976 : decode code 976 = .ok (.iaload, 1) := by decide +kernel
theorem dL_977 : decode code 977 = .ok (.aload_n 0, 1) := by decide +kernel
theorem dL_978 : decode code 978 = .ok (.iload_n 3, 1) := by decide +kernel
theorem dL_979 : decode code 979 = .ok (.iconst 2, 1) := by decide +kernel
theorem dL_980 : decode code 980 = .ok (.iadd, 1) := by decide +kernel
theorem dL_981 : decode code 981 = .ok (.iaload, 1) := by decide +kernel
theorem dL_982 : decode code 982 = .ok (.ifCond .eq 7, 3) := by decide +kernel
theorem dL_985 : decode code 985 = .ok (.iconst 1, 1) := by decide +kernel
theorem dL_986 : decode code 986 = .ok (.goto 4, 3) := by decide +kernel
theorem dL_989 : decode code 989 = .ok (.iconst 0, 1) := by decide +kernel
theorem dL_990 : decode code 990 = .ok (.aload_n 0, 1) := by decide +kernel
theorem dL_991 : decode code 991 = .ok (.iload_n 3, 1) := by decide +kernel
theorem dL_992 : decode code 992 = .ok (.iconst 3, 1) := by decide +kernel
theorem dL_993 : decode code 993 = .ok (.iadd, 1) := by decide +kernel
theorem dL_994 : decode code 994 = .ok (.iaload, 1) := by decide +kernel
theorem dL_995 : decode code 995 = .ok (.aload_n 0, 1) := by decide +kernel
theorem dL_996 : decode code 996 = .ok (.iload_n 3, 1) := by decide +kernel
theorem dL_997 : decode code 997 = .ok (.iconst 4, 1) := by decide +kernel
theorem dL_998 : decode code 998 = .ok (.iadd, 1) := by decide +kernel
theorem dL_999 : decode code 999 = .ok (.iaload, 1) := by decide +kernel
theorem dL_1000 : decode code 1000 = .ok (.invokevirtual 90, 3) := by decide +kernel
theorem dL_1003 : decode code 1003 = .ok (.if_icmp .eq 930, 3) := by decide +kernel
theorem dL_1006 : decode code 1006 = .ok (.iconst 0, 1) := by decide +kernel
theorem dL_1007 : decode code 1007 = .ok (.ireturn, 1) := by decide +kernel
theorem dL_1008 : decode code 1008 = .ok (.aload_n 1, 1) := by decide +kernel
theorem dL_1009 : decode code 1009 = .ok (.aload_n 0, 1) := by decide +kernel
theorem dL_1010 : decode code 1010 = .ok (.iload_n 3, 1) := by decide +kernel
theorem dL_1011 : decode code 1011 = .ok (.iconst 1, 1) := by decide +kernel
theorem dL_1012 : decode code 1012 = .ok (.iadd, 1) := by decide +kernel
theorem dL_1013 : decode code 1013 = .ok (.iaload, 1) := by decide +kernel
theorem dL_1014 : decode code 1014 = .ok (.invokevirtual 91, 3) := by decide +kernel
theorem dL_1017 : decode code 1017 = .ok (.aload_n 2, 1) := by decide +kernel
theorem dL_1018 : decode code 1018 = .ok (.aload_n 0, 1) := by decide +kernel
theorem dL_1019 : decode code 1019 = .ok (.iload_n 3, 1) := by decide +kernel
theorem dL_1020 : decode code 1020 = .ok (.iconst 1, 1) := by decide +kernel
theorem dL_1021 : decode code 1021 = .ok (.iadd, 1) := by decide +kernel
theorem dL_1022 : decode code 1022 = .ok (.iaload, 1) := by decide +kernel
theorem dL_1023 : decode code 1023 = .ok (.invokevirtual 94, 3) := by decide +kernel
theorem dL_1026 : decode code 1026 = .ok (.if_icmp .eq 907, 3) := by decide +kernel
theorem dL_1029 : decode code 1029 = .ok (.iconst 0, 1) := by decide +kernel
theorem dL_1030 : decode code 1030 = .ok (.ireturn, 1) := by decide +kernel
theorem dL_1031 : decode code 1031 = .ok (.aload_n 1, 1) := by decide +kernel
theorem dL_1032 : decode code 1032 = .ok (.aload_n 0, 1) := by decide +kernel
theorem dL_1033 : decode code 1033 = .ok (.iload_n 3, 1) := by decide +kernel
theorem dL_1034 : decode code 1034 = .ok (.iconst 1, 1) := by decide +kernel
theorem dL_1035 : decode code 1035 = .ok (.iadd, 1) := by decide +kernel
theorem dL_1036 : decode code 1036 = .ok (.iaload, 1) := by decide +kernel
theorem dL_1037 : decode code 1037 = .ok (.invokevirtual 95, 3) := by decide +kernel
theorem dL_1040 : decode code 1040 = .ok (.aload_n 2, 1) := by decide +kernel
theorem dL_1041 : decode code 1041 = .ok (.aload_n 0, 1) := by decide +kernel
theorem dL_1042 : decode code 1042 = .ok (.iload_n 3, 1) := by decide +kernel
theorem dL_1043 : decode code 1043 = .ok (.iconst 1, 1) := by decide +kernel
theorem dL_1044 : decode code 1044 = .ok (.iadd, 1) := by decide +kernel
theorem dL_1045 : decode code 1045 = .ok (.iaload, 1) := by decide +kernel
theorem dL_1046 : decode code 1046 = .ok (.invokevirtual 98, 3) := by decide +kernel
theorem dL_1049 : decode code 1049 = .ok (.if_icmp .eq 884, 3) := by decide +kernel
theorem dL_1052 : decode code 1052 = .ok (.iconst 0, 1) := by decide +kernel
theorem dL_1053 : decode code 1053 = .ok (.ireturn, 1) := by decide +kernel
theorem dL_1054 : decode code 1054 = .ok (.aload_n 1, 1) := by decide +kernel
theorem dL_1055 : decode code 1055 = .ok (.aload_n 0, 1) := by decide +kernel
theorem dL_1056 : decode code 1056 = .ok (.iload_n 3, 1) := by decide +kernel
theorem dL_1057 : decode code 1057 = .ok (.iconst 1, 1) := by decide +kernel
theorem dL_1058 : decode code 1058 = .ok (.iadd, 1) := by decide +kernel
theorem dL_1059 : decode code 1059 = .ok (.iaload, 1) := by decide +kernel
theorem dL_1060 : decode code 1060 = .ok (.invokevirtual 99, 3) := by decide +kernel
theorem dL_1063 : decode code 1063 = .ok (.aload_n 2, 1) := by decide +kernel
theorem dL_1064 : decode code 1064 = .ok (.aload_n 0, 1) := by decide +kernel
theorem dL_1065 : decode code 1065 = .ok (.iload_n 3, 1) := by decide +kernel
theorem dL_1066 : decode code 1066 = .ok (.iconst 1, 1) := by decide +kernel
theorem dL_1067 : decode code 1067 = .ok (.iadd, 1) := by decide +kernel
theorem dL_1068 : decode code 1068 = .ok (.iaload, 1) := by decide +kernel
theorem dL_1069 : decode code 1069 = .ok (.invokevirtual 102, 3) := by decide +kernel
theorem dL_1072 : decode code 1072 = .ok (.if_icmp .eq 861, 3) := by decide +kernel
theorem dL_1075 : decode code 1075 = .ok (.iconst 0, 1) := by decide +kernel
theorem dL_1076 : decode code 1076 = .ok (.ireturn, 1) := by decide +kernel
theorem dL_1077 : decode code 1077 = .ok (.aload_n 1, 1) := by decide +kernel
theorem dL_1078 : decode code 1078 = .ok (.aload_n 0, 1) := by decide +kernel
theorem dL_1079 : decode code 1079 = .ok (.iload_n 3, 1) := by decide +kernel
theorem dL_1080 : decode code 1080 = .ok (.iconst 1, 1) := by decide +kernel
theorem dL_1081 : decode code 1081 = .ok (.iadd, 1) := by decide +kernel
theorem dL_1082 : decode code 1082 = .ok (.iaload, 1) := by decide +kernel
theorem dL_1083 : decode code 1083 = .ok (.invokevirtual 103, 3) := by decide +kernel
theorem dL_1086 : decode code 1086 = .ok (.aload_n 2, 1) := by decide +kernel
theorem dL_1087 : decode code 1087 = .ok (.aload_n 0, 1) := by decide +kernel
theorem dL_1088 : decode code 1088 = .ok (.iload_n 3, 1) := by decide +kernel
theorem dL_1089 : decode code 1089 = .ok (.iconst 1, 1) := by decide +kernel
theorem dL_1090 : decode code 1090 = .ok (.iadd, 1) := by decide +kernel
theorem dL_1091 : decode code 1091 = .ok (.iaload, 1) := by decide +kernel
theorem dL_1092 : decode code 1092 = .ok (.invokevirtual 106, 3) := by decide +kernel
theorem dL_1095 : decode code 1095 = .ok (.if_icmp .eq 838, 3) := by decide +kernel
theorem dL_1098 : decode code 1098 = .ok (.iconst 0, 1) := by decide +kernel
theorem dL_1099 : decode code 1099 = .ok (.ireturn, 1) := by decide +kernel
theorem dL_1100 : decode code 1100 = .ok (.aload_n 1, 1) := by decide +kernel
theorem dL_1101 : decode code 1101 = .ok (.aload_n 0, 1) := by decide +kernel
theorem dL_1102 : decode code 1102 = .ok (.iload_n 3, 1) := by decide +kernel
theorem dL_1103 : decode code 1103 = .ok (.iconst 1, 1) := by decide +kernel
theorem dL_1104 : decode code 1104 = .ok (.iadd, 1) := by decide +kernel
theorem dL_1105 : decode code 1105 = .ok (.iaload, 1) := by decide +kernel
theorem dL_1106 : decode code 1106 = .ok (.aload_n 0, 1) := by decide +kernel
theorem dL_1107 : decode code 1107 = .ok (.iload_n 3, 1) := by decide +kernel
theorem dL_1108 : decode code 1108 = .ok (.iconst 2, 1) := by decide +kernel
theorem dL_1109 : decode code 1109 = .ok (.iadd, 1) := by decide +kernel
theorem dL_1110 : decode code 1110 = .ok (.iaload, 1) := by decide +kernel
theorem dL_1111 : decode code 1111 = .ok (.invokevirtual 107, 3) := by decide +kernel
theorem dL_1114 : decode code 1114 = .ok (.aload_n 2, 1) := by decide +kernel
theorem dL_1115 : decode code 1115 = .ok (.aload_n 0, 1) := by decide +kernel
theorem dL_1116 : decode code 1116 = .ok (.iload_n 3, 1) := by decide +kernel
theorem dL_1117 : decode code 1117 = .ok (.iconst 1, 1) := by decide +kernel
theorem dL_1118 : decode code 1118 = .ok (.iadd, 1) := by decide +kernel
theorem dL_1119 : decode code 1119 = .ok (.iaload, 1) := by decide +kernel
theorem dL_1120 : decode code 1120 = .ok (.aload_n 0, 1) := by decide +kernel
theorem dL_1121 : decode code 1121 = .ok (.iload_n 3, 1) := by decide +kernel
theorem dL_1122 : decode code 1122 = .ok (.iconst 2, 1) := by decide +kernel
theorem dL_1123 : decode code 1123 = .ok (.iadd, 1) := by decide +kernel
theorem dL_1124 : decode code 1124 = .ok (.iaload, 1) := by decide +kernel
theorem dL_1125 : decode code 1125 = .ok (.invokevirtual 110, 3) := by decide +kernel
theorem dL_1128 : decode code 1128 = .ok (.if_icmp .eq 805, 3) := by decide +kernel
theorem dL_1131 : decode code 1131 = .ok (.iconst 0, 1) := by decide +kernel
theorem dL_1132 : decode code 1132 = .ok (.ireturn, 1) := by decide +kernel
theorem dL_1133 : decode code 1133 = .ok (.aload_n 1, 1) := by decide +kernel
theorem dL_1134 : decode code 1134 = .ok (.aload_n 0, 1) := by decide +kernel
theorem dL_1135 : decode code 1135 = .ok (.iload_n 3, 1) := by decide +kernel
theorem dL_1136 : decode code 1136 = .ok (.iconst 1, 1) := by decide +kernel
theorem dL_1137 : decode code 1137 = .ok (.iadd, 1) := by decide +kernel
theorem dL_1138 : decode code 1138 = .ok (.iaload, 1) := by decide +kernel
theorem dL_1139 : decode code 1139 = .ok (.aload_n 0, 1) := by decide +kernel
theorem dL_1140 : decode code 1140 = .ok (.iload_n 3, 1) := by decide +kernel
theorem dL_1141 : decode code 1141 = .ok (.iconst 2, 1) := by decide +kernel
theorem dL_1142 : decode code 1142 = .ok (.iadd, 1) := by decide +kernel
theorem dL_1143 : decode code 1143 = .ok (.iaload, 1) := by decide +kernel
theorem dL_1144 : decode code 1144 = .ok (.aload_n 0, 1) := by decide +kernel
theorem dL_1145 : decode code 1145 = .ok (.iload_n 3, 1) := by decide +kernel
theorem dL_1146 : decode code 1146 = .ok (.iconst 3, 1) := by decide +kernel
theorem dL_1147 : decode code 1147 = .ok (.iadd, 1) := by decide +kernel
theorem dL_1148 : decode code 1148 = .ok (.iaload, 1) := by decide +kernel
theorem dL_1149 : decode code 1149 = .ok (.invokevirtual 111, 3) := by decide +kernel
theorem dL_1152 : decode code 1152 = .ok (.aload_n 2, 1) := by decide +kernel
theorem dL_1153 : decode code 1153 = .ok (.aload_n 0, 1) := by decide +kernel
theorem dL_1154 : decode code 1154 = .ok (.iload_n 3, 1) := by decide +kernel
theorem dL_1155 : decode code 1155 = .ok (.iconst 1, 1) := by decide +kernel
theorem dL_1156 : decode code 1156 = .ok (.iadd, 1) := by decide +kernel
theorem dL_1157 : decode code 1157 = .ok (.iaload, 1) := by decide +kernel
theorem dL_1158 : decode code 1158 = .ok (.aload_n 0, 1) := by decide +kernel
theorem dL_1159 : decode code 1159 = .ok (.iload_n 3, 1) := by decide +kernel
theorem dL_1160 : decode code 1160 = .ok (.iconst 2, 1) := by decide +kernel
theorem dL_1161 : decode code 1161 = .ok (.iadd, 1) := by decide +kernel
theorem dL_1162 : decode code 1162 = .ok (.iaload, 1) := by decide +kernel
theorem dL_1163 : decode code 1163 = .ok (.aload_n 0, 1) := by decide +kernel
theorem dL_1164 : decode code 1164 = .ok (.iload_n 3, 1) := by decide +kernel
theorem dL_1165 : decode code 1165 = .ok (.iconst 3, 1) := by decide +kernel
theorem dL_1166 : decode code 1166 = .ok (.iadd, 1) := by decide +kernel
theorem dL_1167 : decode code 1167 = .ok (.iaload, 1) := by decide +kernel
theorem dL_1168 : decode code 1168 = .ok (.invokevirtual 114, 3) := by decide +kernel
theorem dL_1171 : decode code 1171 = .ok (.if_icmp .eq 762, 3) := by decide +kernel
theorem dL_1174 : decode code 1174 = .ok (.iconst 0, 1) := by decide +kernel
theorem dL_1175 : decode code 1175 = .ok (.ireturn, 1) := by decide +kernel
theorem dL_1176 : decode code 1176 = .ok (.aload_n 1, 1) := by decide +kernel
theorem dL_1177 : decode code 1177 = .ok (.aload_n 0, 1) := by decide +kernel
theorem dL_1178 : decode code 1178 = .ok (.iload_n 3, 1) := by decide +kernel
theorem dL_1179 : decode code 1179 = .ok (.iconst 1, 1) := by decide +kernel
theorem dL_1180 : decode code 1180 = .ok (.iadd, 1) := by decide +kernel
theorem dL_1181 : decode code 1181 = .ok (.iaload, 1) := by decide +kernel
theorem dL_1182 : decode code 1182 = .ok (.aload_n 0, 1) := by decide +kernel
theorem dL_1183 : decode code 1183 = .ok (.iload_n 3, 1) := by decide +kernel
theorem dL_1184 : decode code 1184 = .ok (.iconst 2, 1) := by decide +kernel
theorem dL_1185 : decode code 1185 = .ok (.iadd, 1) := by decide +kernel
theorem dL_1186 : decode code 1186 = .ok (.iaload, 1) := by decide +kernel
theorem dL_1187 : decode code 1187 = .ok (.invokevirtual 115, 3) := by decide +kernel
theorem dL_1190 : decode code 1190 = .ok (.aload_n 2, 1) := by decide +kernel
theorem dL_1191 : decode code 1191 = .ok (.aload_n 0, 1) := by decide +kernel
theorem dL_1192 : decode code 1192 = .ok (.iload_n 3, 1) := by decide +kernel
theorem dL_1193 : decode code 1193 = .ok (.iconst 1, 1) := by decide +kernel
theorem dL_1194 : decode code 1194 = .ok (.iadd, 1) := by decide +kernel
theorem dL_1195 : decode code 1195 = .ok (.iaload, 1) := by decide +kernel
theorem dL_1196 : decode code 1196 = .ok (.aload_n 0, 1) := by decide +kernel
theorem dL_1197 : decode code 1197 = .ok (.iload_n 3, 1) := by decide +kernel
theorem dL_1198 : decode code 1198 = .ok (.iconst 2, 1) := by decide +kernel
theorem dL_1199 : decode code 1199 = .ok (.iadd, 1) := by decide +kernel
theorem dL_1200 : decode code 1200 = .ok (.iaload, 1) := by decide +kernel
theorem dL_1201 : decode code 1201 = .ok (.invokevirtual 118, 3) := by decide +kernel
theorem dL_1204 : decode code 1204 = .ok (.if_icmp .eq 729, 3) := by decide +kernel
theorem dL_1207 : decode code 1207 = .ok (.iconst 0, 1) := by decide +kernel
theorem dL_1208 : decode code 1208 = .ok (.ireturn, 1) := by decide +kernel
theorem dL_1209 : decode code 1209 = .ok (.aload_n 1, 1) := by decide +kernel
theorem dL_1210 : decode code 1210 = .ok (.aload_n 0, 1) := by decide +kernel
theorem dL_1211 : decode code 1211 = .ok (.iload_n 3, 1) := by decide +kernel
theorem dL_1212 : decode code 1212 = .ok (.iconst 1, 1) := by decide +kernel
theorem dL_1213 : decode code 1213 = .ok (.iadd, 1) := by decide +kernel
theorem dL_1214 : decode code 1214 = .ok (.iaload, 1) := by decide +kernel
theorem dL_1215 : decode code 1215 = .ok (.aload_n 0, 1) := by decide +kernel
theorem dL_1216 : decode code 1216 = .ok (.iload_n 3, 1) := by decide +kernel
theorem dL_1217 : decode code 1217 = .ok (.iconst 2, 1) := by decide +kernel
theorem dL_1218 : decode code 1218 = .ok (.iadd, 1) := by decide +kernel
theorem dL_1219 : decode code 1219 = .ok (.iaload, 1) := by decide +kernel
theorem dL_1220 : decode code 1220 = .ok (.invokevirtual 119, 3) := by decide +kernel
theorem dL_1223 : decode code 1223 = .ok (.aload_n 2, 1) := by decide +kernel
theorem dL_1224 : decode code 1224 = .ok (.aload_n 0, 1) := by decide +kernel
theorem dL_1225 : decode code 1225 = .ok (.iload_n 3, 1) := by decide +kernel
theorem dL_1226 : decode code 1226 = .ok (.iconst 1, 1) := by decide +kernel
theorem dL_1227 : decode code 1227 = .ok (.iadd, 1) := by decide +kernel
theorem dL_1228 : decode code 1228 = .ok (.iaload, 1) := by decide +kernel
theorem dL_1229 : decode code 1229 = .ok (.aload_n 0, 1) := by decide +kernel
theorem dL_1230 : decode code 1230 = .ok (.iload_n 3, 1) := by decide +kernel
theorem dL_1231 : decode code 1231 = .ok (.iconst 2, 1) := by decide +kernel
theorem dL_1232 : decode code 1232 = .ok (.iadd, 1) := by decide +kernel
theorem dL_1233 : decode code 1233 = .ok (.iaload, 1) := by decide +kernel
theorem dL_1234 : decode code 1234 = .ok (.invokevirtual 122, 3) := by decide +kernel
theorem dL_1237 : decode code 1237 = .ok (.if_icmp .eq 696, 3) := by decide +kernel
theorem dL_1240 : decode code 1240 = .ok (.iconst 0, 1) := by decide +kernel
theorem dL_1241 : decode code 1241 = .ok (.ireturn, 1) := by decide +kernel
theorem dL_1242 : decode code 1242 = .ok (.aload_n 1, 1) := by decide +kernel
theorem dL_1243 : decode code 1243 = .ok (.aload_n 0, 1) := by decide +kernel
theorem dL_1244 : decode code 1244 = .ok (.iload_n 3, 1) := by decide +kernel
theorem dL_1245 : decode code 1245 = .ok (.iconst 1, 1) := by decide +kernel
theorem dL_1246 : decode code 1246 = .ok (.iadd, 1) := by decide +kernel
theorem dL_1247 : decode code 1247 = .ok (.iaload, 1) := by decide +kernel
theorem dL_1248 : decode code 1248 = .ok (.invokevirtual 123, 3) := by decide +kernel
theorem dL_1251 : decode code 1251 = .ok (.aload_n 2, 1) := by decide +kernel
theorem dL_1252 : decode code 1252 = .ok (.aload_n 0, 1) := by decide +kernel
theorem dL_1253 : decode code 1253 = .ok (.iload_n 3, 1) := by decide +kernel
theorem dL_1254 : decode code 1254 = .ok (.iconst 1, 1) := by decide +kernel
theorem dL_1255 : decode code 1255 = .ok (.iadd, 1) := by decide +kernel
theorem dL_1256 : decode code 1256 = .ok (.iaload, 1) := by decide +kernel
theorem dL_1257 : decode code 1257 = .ok (.invokevirtual 126, 3) := by decide +kernel
theorem dL_1260 : decode code 1260 = .ok (.if_icmp .eq 673, 3) := by decide +kernel
theorem dL_1263 : decode code 1263 = .ok (.iconst 0, 1) := by decide +kernel
theorem dL_1264 : decode code 1264 = .ok (.ireturn, 1) := by decide +kernel
theorem dL_1265 : decode code 1265 = .ok (.aload_n 1, 1) := by decide +kernel
theorem dL_1266 : decode code 1266 = .ok (.aload_n 0, 1) := by decide +kernel
theorem dL_1267 : decode code 1267 = .ok (.iload_n 3, 1) := by decide +kernel
theorem dL_1268 : decode code 1268 = .ok (.iconst 1, 1) := by decide +kernel
theorem dL_1269 : decode code 1269 = .ok (.iadd, 1) := by decide +kernel
theorem dL_1270 : decode code 1270 = .ok (.iaload, 1) := by decide +kernel
theorem dL_1271 : decode code 1271 = .ok (.invokevirtual 127, 3) := by decide +kernel
theorem dL_1274 : decode code 1274 = .ok (.aload_n 2, 1) := by decide +kernel
theorem dL_1275 : decode code 1275 = .ok (.aload_n 0, 1) := by decide +kernel
theorem dL_1276 : decode code 1276 = .ok (.iload_n 3, 1) := by decide +kernel
theorem dL_1277 : decode code 1277 = .ok (.iconst 1, 1) := by decide +kernel
theorem dL_1278 : decode code 1278 = .ok (.iadd, 1) := by decide +kernel
theorem dL_1279 : decode code 1279 = .ok (.iaload, 1) := by decide +kernel
theorem dL_1280 : decode code 1280 = .ok (.invokevirtual 130, 3) := by decide +kernel
theorem dL_1283 : decode code 1283 = .ok (.if_icmp .eq 650, 3) := by decide +kernel
theorem dL_1286 : decode code 1286 = .ok (.iconst 0, 1) := by decide +kernel
theorem dL_1287 : decode code 1287 = .ok (.ireturn, 1) := by decide +kernel
theorem dL_1288 : decode code 1288 = .ok (.aload_n 1, 1) := by decide +kernel
theorem dL_1289 : decode code 1289 = .ok (.aload_n 0, 1) := by decide +kernel
theorem dL_1290 : decode code 1290 = .ok (.iload_n 3, 1) := by decide +kernel
theorem dL_1291 : decode code 1291 = .ok (.iconst 1, 1) := by decide +kernel
theorem dL_1292 : decode code 1292 = .ok (.iadd, 1) := by decide +kernel
theorem dL_1293 : decode code 1293 = .ok (.iaload, 1) := by decide +kernel
theorem dL_1294 : decode code 1294 = .ok (.aload_n 0, 1) := by decide +kernel
theorem dL_1295 : decode code 1295 = .ok (.iload_n 3, 1) := by decide +kernel
theorem dL_1296 : decode code 1296 = .ok (.iconst 2, 1) := by decide +kernel
theorem dL_1297 : decode code 1297 = .ok (.iadd, 1) := by decide +kernel
theorem dL_1298 : decode code 1298 = .ok (.iaload, 1) := by decide +kernel
theorem dL_1299 : decode code 1299 = .ok (.invokevirtual 131, 3) := by decide +kernel
theorem dL_1302 : decode code 1302 = .ok (.aload_n 2, 1) := by decide +kernel
theorem dL_1303 : decode code 1303 = .ok (.aload_n 0, 1) := by decide +kernel
theorem dL_1304 : decode code 1304 = .ok (.iload_n 3, 1) := by decide +kernel
theorem dL_1305 : decode code 1305 = .ok (.iconst 1, 1) := by decide +kernel
theorem dL_1306 : decode code 1306 = .ok (.iadd, 1) := by decide +kernel
theorem dL_1307 : decode code 1307 = .ok (.iaload, 1) := by decide +kernel
theorem dL_1308 : decode code 1308 = .ok (.aload_n 0, 1) := by decide +kernel
theorem dL_1309 : decode code 1309 = .ok (.iload_n 3, 1) := by decide +kernel
theorem dL_1310 : decode code 1310 = .ok (.iconst 2, 1) := by decide +kernel
theorem dL_1311 : decode code 1311 = .ok (.iadd, 1) := by decide +kernel
theorem dL_1312 : decode code 1312 = .ok (.iaload, 1) := by decide +kernel
theorem dL_1313 : decode code 1313 = .ok (.invokevirtual 134, 3) := by decide +kernel
theorem dL_1316 : decode code 1316 = .ok (.if_icmp .eq 617, 3) := by decide +kernel
theorem dL_1319 : decode code 1319 = .ok (.iconst 0, 1) := by decide +kernel
theorem dL_1320 : decode code 1320 = .ok (.ireturn, 1) := by decide +kernel
theorem dL_1321 : decode code 1321 = .ok (.aload_n 1, 1) := by decide +kernel
theorem dL_1322 : decode code 1322 = .ok (.aload_n 0, 1) := by decide +kernel
theorem dL_1323 : decode code 1323 = .ok (.iload_n 3, 1) := by decide +kernel
theorem dL_1324 : decode code 1324 = .ok (.iconst 1, 1) := by decide +kernel
theorem dL_1325 : decode code 1325 = .ok (.iadd, 1) := by decide +kernel
theorem dL_1326 : decode code 1326 = .ok (.iaload, 1) := by decide +kernel
theorem dL_1327 : decode code 1327 = .ok (.aload_n 0, 1) := by decide +kernel
theorem dL_1328 : decode code 1328 = .ok (.iload_n 3, 1) := by decide +kernel
theorem dL_1329 : decode code 1329 = .ok (.iconst 2, 1) := by decide +kernel
theorem dL_1330 : decode code 1330 = .ok (.iadd, 1) := by decide +kernel
theorem dL_1331 : decode code 1331 = .ok (.iaload, 1) := by decide +kernel
theorem dL_1332 : decode code 1332 = .ok (.aload_n 0, 1) := by decide +kernel
theorem dL_1333 : decode code 1333 = .ok (.iload_n 3, 1) := by decide +kernel
theorem dL_1334 : decode code 1334 = .ok (.iconst 3, 1) := by decide +kernel
theorem dL_1335 : decode code 1335 = .ok (.iadd, 1) := by decide +kernel
theorem dL_1336 : decode code 1336 = .ok (.iaload, 1) := by decide +kernel
theorem dL_1337 : decode code 1337 = .ok (.ifCond .eq 7, 3) := by decide +kernel
theorem dL_1340 : decode code 1340 = .ok (.iconst 1, 1) := by decide +kernel
theorem dL_1341 : decode code 1341 = .ok (.goto 4, 3) := by decide +kernel
theorem dL_1344 : decode code 1344 = .ok (.iconst 0, 1) := by decide +kernel
theorem dL_1345 : decode code 1345 = .ok (.invokevirtual 135, 3) := by decide +kernel
theorem dL_1348 : decode code 1348 = .ok (.aload_n 2, 1) := by decide +kernel
theorem dL_1349 : decode code 1349 = .ok (.aload_n 0, 1) := by decide +kernel
theorem dL_1350 : decode code 1350 = .ok (.iload_n 3, 1) := by decide +kernel
theorem dL_1351 : decode code 1351 = .ok (.iconst 1, 1) := by decide +kernel
theorem dL_1352 : decode code 1352 = .ok (.iadd, 1) := by decide +kernel
theorem dL_1353 : decode code 1353 = .ok (.iaload, 1) := by decide +kernel
theorem dL_1354 : decode code 1354 = .ok (.aload_n 0, 1) := by decide +kernel
theorem dL_1355 : decode code 1355 = .ok (.iload_n 3, 1) := by decide +kernel
theorem dL_1356 : decode code 1356 = .ok (.iconst 2, 1) := by decide +kernel
theorem dL_1357 : decode code 1357 = .ok (.iadd, 1) := by decide +kernel
theorem dL_1358 : decode code 1358 = .ok (.iaload, 1) := by decide +kernel
theorem dL_1359 : decode code 1359 = .ok (.aload_n 0, 1) := by decide +kernel
theorem dL_1360 : decode code 1360 = .ok (.iload_n 3, 1) := by decide +kernel
theorem dL_1361 : decode code 1361 = .ok (.iconst 3, 1) := by decide +kernel
theorem dL_1362 : decode code 1362 = .ok (.iadd, 1) := by decide +kernel
theorem dL_1363 : decode code 1363 = .ok (.iaload, 1) := by decide +kernel
theorem dL_1364 : decode code 1364 = .ok (.ifCond .eq 7, 3) := by decide +kernel
theorem dL_1367 : decode code 1367 = .ok (.iconst 1, 1) := by decide +kernel
theorem dL_1368 : decode code 1368 = .ok (.goto 4, 3) := by decide +kernel
theorem dL_1371 : decode code 1371 = .ok (.iconst 0, 1) := by decide +kernel
theorem dL_1372 : decode code 1372 = .ok (.invokevirtual 139, 3) := by decide +kernel
theorem dL_1375 : decode code 1375 = .ok (.if_icmp .eq 558, 3) := by decide +kernel
theorem dL_1378 : decode code 1378 = .ok (.iconst 0, 1) := by decide +kernel
theorem dL_1379 : decode code 1379 = .ok (.ireturn, 1) := by decide +kernel
theorem dL_1380 : decode code 1380 = .ok (.aload_n 1, 1) := by decide +kernel
theorem dL_1381 : decode code 1381 = .ok (.aload_n 0, 1) := by decide +kernel
theorem dL_1382 : decode code 1382 = .ok (.iload_n 3, 1) := by decide +kernel
theorem dL_1383 : decode code 1383 = .ok (.iconst 1, 1) := by decide +kernel
theorem dL_1384 : decode code 1384 = .ok (.iadd, 1) := by decide +kernel
theorem dL_1385 : decode code 1385 = .ok (.iaload, 1) := by decide +kernel
theorem dL_1386 : decode code 1386 = .ok (.invokevirtual 140, 3) := by decide +kernel
theorem dL_1389 : decode code 1389 = .ok (.aload_n 2, 1) := by decide +kernel
theorem dL_1390 : decode code 1390 = .ok (.aload_n 0, 1) := by decide +kernel
theorem dL_1391 : decode code 1391 = .ok (.iload_n 3, 1) := by decide +kernel
theorem dL_1392 : decode code 1392 = .ok (.iconst 1, 1) := by decide +kernel
theorem dL_1393 : decode code 1393 = .ok (.iadd, 1) := by decide +kernel
theorem dL_1394 : decode code 1394 = .ok (.iaload, 1) := by decide +kernel
theorem dL_1395 : decode code 1395 = .ok (.invokevirtual 143, 3) := by decide +kernel
theorem dL_1398 : decode code 1398 = .ok (.if_icmp .eq 535, 3) := by decide +kernel
theorem dL_1401 : decode code 1401 = .ok (.iconst 0, 1) := by decide +kernel
theorem dL_1402 : decode code 1402 = .ok (.ireturn, 1) := by decide +kernel
theorem dL_1403 : decode code 1403 = .ok (.aload_n 1, 1) := by decide +kernel
theorem dL_1404 : decode code 1404 = .ok (.aload_n 0, 1) := by decide +kernel
theorem dL_1405 : decode code 1405 = .ok (.iload_n 3, 1) := by decide +kernel
theorem dL_1406 : decode code 1406 = .ok (.iconst 1, 1) := by decide +kernel
theorem dL_1407 : decode code 1407 = .ok (.iadd, 1) := by decide +kernel
theorem dL_1408 : decode code 1408 = .ok (.iaload, 1) := by decide +kernel
theorem dL_1409 : decode code 1409 = .ok (.aload_n 0, 1) := by decide +kernel
theorem dL_1410 : decode code 1410 = .ok (.iload_n 3, 1) := by decide +kernel
theorem dL_1411 : decode code 1411 = .ok (.iconst 2, 1) := by decide +kernel
theorem dL_1412 : decode code 1412 = .ok (.iadd, 1) := by decide +kernel
theorem dL_1413 : decode code 1413 = .ok (.iaload, 1) := by decide +kernel
theorem dL_1414 : decode code 1414 = .ok (.aload_n 0, 1) := by decide +kernel
theorem dL_1415 : decode code 1415 = .ok (.iload_n 3, 1) := by decide +kernel
theorem dL_1416 : decode code 1416 = .ok (.iconst 3, 1) := by decide +kernel
theorem dL_1417 : decode code 1417 = .ok (.iadd, 1) := by decide +kernel
theorem dL_1418 : decode code 1418 = .ok (.iaload, 1) := by decide +kernel
theorem dL_1419 : decode code 1419 = .ok (.ifCond .eq 7, 3) := by decide +kernel
theorem dL_1422 : decode code 1422 = .ok (.iconst 1, 1) := by decide +kernel
theorem dL_1423 : decode code 1423 = .ok (.goto 4, 3) := by decide +kernel
theorem dL_1426 : decode code 1426 = .ok (.iconst 0, 1) := by decide +kernel
theorem dL_1427 : decode code 1427 = .ok (.invokevirtual 144, 3) := by decide +kernel
theorem dL_1430 : decode code 1430 = .ok (.aload_n 2, 1) := by decide +kernel
theorem dL_1431 : decode code 1431 = .ok (.aload_n 0, 1) := by decide +kernel
theorem dL_1432 : decode code 1432 = .ok (.iload_n 3, 1) := by decide +kernel
theorem dL_1433 : decode code 1433 = .ok (.iconst 1, 1) := by decide +kernel
theorem dL_1434 : decode code 1434 = .ok (.iadd, 1) := by decide +kernel
theorem dL_1435 : decode code 1435 = .ok (.iaload, 1) := by decide +kernel
theorem dL_1436 : decode code 1436 = .ok (.aload_n 0, 1) := by decide +kernel
theorem dL_1437 : decode code 1437 = .ok (.iload_n 3, 1) := by decide +kernel
theorem dL_1438 : decode code 1438 = .ok (.iconst 2, 1) := by decide +kernel
theorem dL_1439 : decode code 1439 = .ok (.iadd, 1) := by decide +kernel
theorem dL_1440 : decode code 1440 = .ok (.iaload, 1) := by decide +kernel
theorem dL_1441 : decode code 1441 = .ok (.aload_n 0, 1) := by decide +kernel
theorem dL_1442 : decode code 1442 = .ok (.iload_n 3, 1) := by decide +kernel
theorem dL_1443 : decode code 1443 = .ok (.iconst 3, 1) := by decide +kernel
theorem dL_1444 : decode code 1444 = .ok (.iadd, 1) := by decide +kernel
theorem dL_1445 : decode code 1445 = .ok (.iaload, 1) := by decide +kernel
theorem dL_1446 : decode code 1446 = .ok (.ifCond .eq 7, 3) := by decide +kernel
theorem dL_1449 : decode code 1449 = .ok (.iconst 1, 1) := by decide +kernel
theorem dL_1450 : decode code 1450 = .ok (.goto 4, 3) := by decide +kernel
theorem dL_1453 : decode code 1453 = .ok (.iconst 0, 1) := by decide +kernel
theorem dL_1454 : decode code 1454 = .ok (.invokevirtual 147, 3) := by decide +kernel
theorem dL_1457 : decode code 1457 = .ok (.if_icmp .eq 476, 3) := by decide +kernel
theorem dL_1460 : decode code 1460 = .ok (.iconst 0, 1) := by decide +kernel
theorem dL_1461 : decode code 1461 = .ok (.ireturn, 1) := by decide +kernel
theorem dL_1462 : decode code 1462 = .ok (.aload_n 1, 1) := by decide +kernel
theorem dL_1463 : decode code 1463 = .ok (.aload_n 0, 1) := by decide +kernel
theorem dL_1464 : decode code 1464 = .ok (.iload_n 3, 1) := by decide +kernel
theorem dL_1465 : decode code 1465 = .ok (.iconst 1, 1) := by decide +kernel
theorem dL_1466 : decode code 1466 = .ok (.iadd, 1) := by decide +kernel
theorem dL_1467 : decode code 1467 = .ok (.iaload, 1) := by decide +kernel
theorem dL_1468 : decode code 1468 = .ok (.invokevirtual 148, 3) := by decide +kernel
theorem dL_1471 : decode code 1471 = .ok (.aload_n 2, 1) := by decide +kernel
theorem dL_1472 : decode code 1472 = .ok (.aload_n 0, 1) := by decide +kernel
theorem dL_1473 : decode code 1473 = .ok (.iload_n 3, 1) := by decide +kernel
theorem dL_1474 : decode code 1474 = .ok (.iconst 1, 1) := by decide +kernel
theorem dL_1475 : decode code 1475 = .ok (.iadd, 1) := by decide +kernel
theorem dL_1476 : decode code 1476 = .ok (.iaload, 1) := by decide +kernel
theorem dL_1477 : decode code 1477 = .ok (.invokevirtual 151, 3) := by decide +kernel
theorem dL_1480 : decode code 1480 = .ok (.if_icmp .eq 453, 3) := by decide +kernel
theorem dL_1483 : decode code 1483 = .ok (.iconst 0, 1) := by decide +kernel
theorem dL_1484 : decode code 1484 = .ok (.ireturn, 1) := by decide +kernel
theorem dL_1485 : decode code 1485 = .ok (.aload_n 1, 1) := by decide +kernel
theorem dL_1486 : decode code 1486 = .ok (.aload_n 0, 1) := by decide +kernel
theorem dL_1487 : decode code 1487 = .ok (.iload_n 3, 1) := by decide +kernel
theorem dL_1488 : decode code 1488 = .ok (.iconst 1, 1) := by decide +kernel
theorem dL_1489 : decode code 1489 = .ok (.iadd, 1) := by decide +kernel
theorem dL_1490 : decode code 1490 = .ok (.iaload, 1) := by decide +kernel
theorem dL_1491 : decode code 1491 = .ok (.aload_n 0, 1) := by decide +kernel
theorem dL_1492 : decode code 1492 = .ok (.iload_n 3, 1) := by decide +kernel
theorem dL_1493 : decode code 1493 = .ok (.iconst 2, 1) := by decide +kernel
theorem dL_1494 : decode code 1494 = .ok (.iadd, 1) := by decide +kernel
theorem dL_1495 : decode code 1495 = .ok (.iaload, 1) := by decide +kernel
theorem dL_1496 : decode code 1496 = .ok (.invokevirtual 152, 3) := by decide +kernel
theorem dL_1499 : decode code 1499 = .ok (.aload_n 2, 1) := by decide +kernel
theorem dL_1500 : decode code 1500 = .ok (.aload_n 0, 1) := by decide +kernel
theorem dL_1501 : decode code 1501 = .ok (.iload_n 3, 1) := by decide +kernel
theorem dL_1502 : decode code 1502 = .ok (.iconst 1, 1) := by decide +kernel
theorem dL_1503 : decode code 1503 = .ok (.iadd, 1) := by decide +kernel
theorem dL_1504 : decode code 1504 = .ok (.iaload, 1) := by decide +kernel
theorem dL_1505 : decode code 1505 = .ok (.aload_n 0, 1) := by decide +kernel
theorem dL_1506 : decode code 1506 = .ok (.iload_n 3, 1) := by decide +kernel
theorem dL_1507 : decode code 1507 = .ok (.iconst 2, 1) := by decide +kernel
theorem dL_1508 : decode code 1508 = .ok (.iadd, 1) := by decide +kernel
theorem dL_1509 : decode code 1509 = .ok (.iaload, 1) := by decide +kernel
theorem dL_1510 : decode code 1510 = .ok (.invokevirtual 155, 3) := by decide +kernel
theorem dL_1513 : decode code 1513 = .ok (.if_icmp .eq 420, 3) := by decide +kernel
theorem dL_1516 : decode code 1516 = .ok (.iconst 0, 1) := by decide +kernel
theorem dL_1517 : decode code 1517 = .ok (.ireturn, 1) := by decide +kernel
theorem dL_1518 : decode code 1518 = .ok (.aload_n 1, 1) := by decide +kernel
theorem dL_1519 : decode code 1519 = .ok (.aload_n 0, 1) := by decide +kernel
theorem dL_1520 : decode code 1520 = .ok (.iload_n 3, 1) := by decide +kernel
theorem dL_1521 : decode code 1521 = .ok (.iconst 1, 1) := by decide +kernel
theorem dL_1522 : decode code 1522 = .ok (.iadd, 1) := by decide +kernel
theorem dL_1523 : decode code 1523 = .ok (.iaload, 1) := by decide +kernel
theorem dL_1524 : decode code 1524 = .ok (.aload_n 0, 1) := by decide +kernel
theorem dL_1525 : decode code 1525 = .ok (.iload_n 3, 1) := by decide +kernel
theorem dL_1526 : decode code 1526 = .ok (.iconst 2, 1) := by decide +kernel
theorem dL_1527 : decode code 1527 = .ok (.iadd, 1) := by decide +kernel
theorem dL_1528 : decode code 1528 = .ok (.iaload, 1) := by decide +kernel
theorem dL_1529 : decode code 1529 = .ok (.aload_n 0, 1) := by decide +kernel
theorem dL_1530 : decode code 1530 = .ok (.iload_n 3, 1) := by decide +kernel
theorem dL_1531 : decode code 1531 = .ok (.iconst 3, 1) := by decide +kernel
theorem dL_1532 : decode code 1532 = .ok (.iadd, 1) := by decide +kernel
theorem dL_1533 : decode code 1533 = .ok (.iaload, 1) := by decide +kernel
theorem dL_1534 : decode code 1534 = .ok (.aload_n 0, 1) := by decide +kernel
theorem dL_1535 : decode code 1535 = .ok (.iload_n 3, 1) := by decide +kernel
theorem dL_1536 : decode code 1536 = .ok (.iconst 4, 1) := by decide +kernel
theorem dL_1537 : decode code 1537 = .ok (.iadd, 1) := by decide +kernel
theorem dL_1538 : decode code 1538 = .ok (.iaload, 1) := by decide +kernel
theorem dL_1539 : decode code 1539 = .ok (.invokevirtual 156, 3) := by decide +kernel
theorem dL_1542 : decode code 1542 = .ok (.aload_n 2, 1) := by decide +kernel
theorem dL_1543 : decode code 1543 = .ok (.aload_n 0, 1) := by decide +kernel
theorem dL_1544 : decode code 1544 = .ok (.iload_n 3, 1) := by decide +kernel
theorem dL_1545 : decode code 1545 = .ok (.iconst 1, 1) := by decide +kernel
theorem dL_1546 : decode code 1546 = .ok (.iadd, 1) := by decide +kernel
theorem dL_1547 : decode code 1547 = .ok (.iaload, 1) := by decide +kernel
theorem dL_1548 : decode code 1548 = .ok (.aload_n 0, 1) := by decide +kernel
theorem dL_1549 : decode code 1549 = .ok (.iload_n 3, 1) := by decide +kernel
theorem dL_1550 : decode code 1550 = .ok (.iconst 2, 1) := by decide +kernel
theorem dL_1551 : decode code 1551 = .ok (.iadd, 1) := by decide +kernel
theorem dL_1552 : decode code 1552 = .ok (.iaload, 1) := by decide +kernel
theorem dL_1553 : decode code 1553 = .ok (.aload_n 0, 1) := by decide +kernel
theorem dL_1554 : decode code 1554 = .ok (.iload_n 3, 1) := by decide +kernel
theorem dL_1555 : decode code 1555 = .ok (.iconst 3, 1) := by decide +kernel
theorem dL_1556 : decode code 1556 = .ok (.iadd, 1) := by decide +kernel
theorem dL_1557 : decode code 1557 = .ok (.iaload, 1) := by decide +kernel
theorem dL_1558 : decode code 1558 = .ok (.aload_n 0, 1) := by decide +kernel
theorem dL_1559 : decode code 1559 = .ok (.iload_n 3, 1) := by decide +kernel
theorem dL_1560 : decode code 1560 = .ok (.iconst 4, 1) := by decide +kernel
theorem dL_1561 : decode code 1561 = .ok (.iadd, 1) := by decide +kernel
theorem dL_1562 : decode code 1562 = .ok (.iaload, 1) := by decide +kernel
theorem dL_1563 : decode code 1563 = .ok (.invokevirtual 160, 3) := by decide +kernel
theorem dL_1566 : decode code 1566 = .ok (.if_icmp .eq 367, 3) := by decide +kernel
theorem dL_1569 : decode code 1569 = .ok (.iconst 0, 1) := by decide +kernel
theorem dL_1570 : decode code 1570 = .ok (.ireturn, 1) := by decide +kernel
theorem dL_1571 : decode code 1571 = .ok (.aload_n 1, 1) := by decide +kernel
theorem dL_1572 : decode code 1572 = .ok (.aload_n 0, 1) := by decide +kernel
theorem dL_1573 : decode code 1573 = .ok (.iload_n 3, 1) := by decide +kernel
theorem dL_1574 : decode code 1574 = .ok (.iconst 1, 1) := by decide +kernel
theorem dL_1575 : decode code 1575 = .ok (.iadd, 1) := by decide +kernel
theorem dL_1576 : decode code 1576 = .ok (.iaload, 1) := by decide +kernel
theorem dL_1577 : decode code 1577 = .ok (.aload_n 0, 1) := by decide +kernel
theorem dL_1578 : decode code 1578 = .ok (.iload_n 3, 1) := by decide +kernel
theorem dL_1579 : decode code 1579 = .ok (.iconst 2, 1) := by decide +kernel
theorem dL_1580 : decode code 1580 = .ok (.iadd, 1) := by decide +kernel
theorem dL_1581 : decode code 1581 = .ok (.iaload, 1) := by decide +kernel
theorem dL_1582 : decode code 1582 = .ok (.invokevirtual 161, 3) := by decide +kernel
theorem dL_1585 : decode code 1585 = .ok (.aload_n 2, 1) := by decide +kernel
theorem dL_1586 : decode code 1586 = .ok (.aload_n 0, 1) := by decide +kernel
theorem dL_1587 : decode code 1587 = .ok (.iload_n 3, 1) := by decide +kernel
theorem dL_1588 : decode code 1588 = .ok (.iconst 1, 1) := by decide +kernel
theorem dL_1589 : decode code 1589 = .ok (.iadd, 1) := by decide +kernel
theorem dL_1590 : decode code 1590 = .ok (.iaload, 1) := by decide +kernel
theorem dL_1591 : decode code 1591 = .ok (.aload_n 0, 1) := by decide +kernel
theorem dL_1592 : decode code 1592 = .ok (.iload_n 3, 1) := by decide +kernel
theorem dL_1593 : decode code 1593 = .ok (.iconst 2, 1) := by decide +kernel
theorem dL_1594 : decode code 1594 = .ok (.iadd, 1) := by decide +kernel
theorem dL_1595 : decode code 1595 = .ok (.iaload, 1) := by decide +kernel
theorem dL_1596 : decode code 1596 = .ok (.invokevirtual 164, 3) := by decide +kernel
theorem dL_1599 : decode code 1599 = .ok (.if_icmp .eq 334, 3) := by decide +kernel
theorem dL_1602 : decode code 1602 = .ok (.iconst 0, 1) := by decide +kernel
theorem dL_1603 : decode code 1603 = .ok (.ireturn, 1) := by decide +kernel
theorem dL_1604 : decode code 1604 = .ok (.aload_n 1, 1) := by decide +kernel
theorem dL_1605 : decode code 1605 = .ok (.aload_n 0, 1) := by decide +kernel
theorem dL_1606 : decode code 1606 = .ok (.iload_n 3, 1) := by decide +kernel
theorem dL_1607 : decode code 1607 = .ok (.iconst 1, 1) := by decide +kernel
theorem dL_1608 : decode code 1608 = .ok (.iadd, 1) := by decide +kernel
theorem dL_1609 : decode code 1609 = .ok (.iaload, 1) := by decide +kernel
theorem dL_1610 : decode code 1610 = .ok (.invokevirtual 165, 3) := by decide +kernel
theorem dL_1613 : decode code 1613 = .ok (.aload_n 2, 1) := by decide +kernel
theorem dL_1614 : decode code 1614 = .ok (.aload_n 0, 1) := by decide +kernel
theorem dL_1615 : decode code 1615 = .ok (.iload_n 3, 1) := by decide +kernel
theorem dL_1616 : decode code 1616 = .ok (.iconst 1, 1) := by decide +kernel
theorem dL_1617 : decode code 1617 = .ok (.iadd, 1) := by decide +kernel
theorem dL_1618 : decode code 1618 = .ok (.iaload, 1) := by decide +kernel
theorem dL_1619 : decode code 1619 = .ok (.invokevirtual 168, 3) := by decide +kernel
theorem dL_1622 : decode code 1622 = .ok (.if_icmp .eq 311, 3) := by decide +kernel
theorem dL_1625 : decode code 1625 = .ok (.iconst 0, 1) := by decide +kernel
theorem dL_1626 : decode code 1626 = .ok (.ireturn, 1) := by decide +kernel
theorem dL_1627 : decode code 1627 = .ok (.aload_n 1, 1) := by decide +kernel
theorem dL_1628 : decode code 1628 = .ok (.aload_n 0, 1) := by decide +kernel
theorem dL_1629 : decode code 1629 = .ok (.iload_n 3, 1) := by decide +kernel
theorem dL_1630 : decode code 1630 = .ok (.iconst 1, 1) := by decide +kernel
theorem dL_1631 : decode code 1631 = .ok (.iadd, 1) := by decide +kernel
theorem dL_1632 : decode code 1632 = .ok (.iaload, 1) := by decide +kernel
theorem dL_1633 : decode code 1633 = .ok (.aload_n 0, 1) := by decide +kernel
theorem dL_1634 : decode code 1634 = .ok (.iload_n 3, 1) := by decide +kernel
theorem dL_1635 : decode code 1635 = .ok (.iconst 2, 1) := by decide +kernel
theorem dL_1636 : decode code 1636 = .ok (.iadd, 1) := by decide +kernel
theorem dL_1637 : decode code 1637 = .ok (.iaload, 1) := by decide +kernel
theorem dL_1638 : decode code 1638 = .ok (.invokevirtual 169, 3) := by decide +kernel
theorem dL_1641 : decode code 1641 = .ok (.aload_n 2, 1) := by decide +kernel
theorem dL_1642 : decode code 1642 = .ok (.aload_n 0, 1) := by decide +kernel
theorem dL_1643 : decode code 1643 = .ok (.iload_n 3, 1) := by decide +kernel
theorem dL_1644 : decode code 1644 = .ok (.iconst 1, 1) := by decide +kernel
theorem dL_1645 : decode code 1645 = .ok (.iadd, 1) := by decide +kernel
theorem dL_1646 : decode code 1646 = .ok (.iaload, 1) := by decide +kernel
theorem dL_1647 : decode code 1647 = .ok (.aload_n 0, 1) := by decide +kernel
theorem dL_1648 : decode code 1648 = .ok (.iload_n 3, 1) := by decide +kernel
theorem dL_1649 : decode code 1649 = .ok (.iconst 2, 1) := by decide +kernel
theorem dL_1650 : decode code 1650 = .ok (.iadd, 1) := by decide +kernel
theorem dL_1651 : decode code 1651 = .ok (.iaload, 1) := by decide +kernel
theorem dL_1652 : decode code 1652 = .ok (.invokevirtual 172, 3) := by decide +kernel
theorem dL_1655 : decode code 1655 = .ok (.if_icmp .eq 278, 3) := by decide +kernel
theorem dL_1658 : decode code 1658 = .ok (.iconst 0, 1) := by decide +kernel
theorem dL_1659 : decode code 1659 = .ok (.ireturn, 1) := by decide +kernel
theorem dL_1660 : decode code 1660 = .ok (.aload_n 1, 1) := by decide +kernel
theorem dL_1661 : decode code 1661 = .ok (.aload_n 0, 1) := by decide +kernel
theorem dL_1662 : decode code 1662 = .ok (.iload_n 3, 1) := by decide +kernel
theorem dL_1663 : decode code 1663 = .ok (.iconst 1, 1) := by decide +kernel
theorem dL_1664 : decode code 1664 = .ok (.iadd, 1) := by decide +kernel
theorem dL_1665 : decode code 1665 = .ok (.iaload, 1) := by decide +kernel
theorem dL_1666 : decode code 1666 = .ok (.invokevirtual 173, 3) := by decide +kernel
theorem dL_1669 : decode code 1669 = .ok (.aload_n 2, 1) := by decide +kernel
theorem dL_1670 : decode code 1670 = .ok (.aload_n 0, 1) := by decide +kernel
theorem dL_1671 : decode code 1671 = .ok (.iload_n 3, 1) := by decide +kernel
theorem dL_1672 : decode code 1672 = .ok (.iconst 1, 1) := by decide +kernel
theorem dL_1673 : decode code 1673 = .ok (.iadd, 1) := by decide +kernel
theorem dL_1674 : decode code 1674 = .ok (.iaload, 1) := by decide +kernel
theorem dL_1675 : decode code 1675 = .ok (.invokevirtual 176, 3) := by decide +kernel
theorem dL_1678 : decode code 1678 = .ok (.if_icmp .eq 255, 3) := by decide +kernel
theorem dL_1681 : decode code 1681 = .ok (.iconst 0, 1) := by decide +kernel
theorem dL_1682 : decode code 1682 = .ok (.ireturn, 1) := by decide +kernel
theorem dL_1683 : decode code 1683 = .ok (.aload_n 1, 1) := by decide +kernel
theorem dL_1684 : decode code 1684 = .ok (.aload_n 0, 1) := by decide +kernel
theorem dL_1685 : decode code 1685 = .ok (.iload_n 3, 1) := by decide +kernel
theorem dL_1686 : decode code 1686 = .ok (.iconst 1, 1) := by decide +kernel
theorem dL_1687 : decode code 1687 = .ok (.iadd, 1) := by decide +kernel
theorem dL_1688 : decode code 1688 = .ok (.iaload, 1) := by decide +kernel
theorem dL_1689 : decode code 1689 = .ok (.aload_n 0, 1) := by decide +kernel
theorem dL_1690 : decode code 1690 = .ok (.iload_n 3, 1) := by decide +kernel
theorem dL_1691 : decode code 1691 = .ok (.iconst 2, 1) := by decide +kernel
theorem dL_1692 : decode code 1692 = .ok (.iadd, 1) := by decide +kernel
theorem dL_1693 : decode code 1693 = .ok (.iaload, 1) := by decide +kernel
theorem dL_1694 : decode code 1694 = .ok (.invokevirtual 177, 3) := by decide +kernel
theorem dL_1697 : decode code 1697 = .ok (.aload_n 2, 1) := by decide +kernel
theorem dL_1698 : decode code 1698 = .ok (.aload_n 0, 1) := by decide +kernel
theorem dL_1699 : decode code 1699 = .ok (.iload_n 3, 1) := by decide +kernel
theorem dL_1700 : decode code 1700 = .ok (.iconst 1, 1) := by decide +kernel
theorem dL_1701 : decode code 1701 = .ok (.iadd, 1) := by decide +kernel
theorem dL_1702 : decode code 1702 = .ok (.iaload, 1) := by decide +kernel
theorem dL_1703 : decode code 1703 = .ok (.aload_n 0, 1) := by decide +kernel
theorem dL_1704 : decode code 1704 = .ok (.iload_n 3, 1) := by decide +kernel
theorem dL_1705 : decode code 1705 = .ok (.iconst 2, 1) := by decide +kernel
theorem dL_1706 : decode code 1706 = .ok (.iadd, 1) := by decide +kernel
theorem dL_1707 : decode code 1707 = .ok (.iaload, 1) := by decide +kernel
theorem dL_1708 : decode code 1708 = .ok (.invokevirtual 180, 3) := by decide +kernel
theorem dL_1711 : decode code 1711 = .ok (.if_icmp .eq 222, 3) := by decide +kernel
theorem dL_1714 : decode code 1714 = .ok (.iconst 0, 1) := by decide +kernel
theorem dL_1715 : decode code 1715 = .ok (.ireturn, 1) := by decide +kernel
theorem dL_1716 : decode code 1716 = .ok (.aload_n 1, 1) := by decide +kernel
theorem dL_1717 : decode code 1717 = .ok (.aload_n 0, 1) := by decide +kernel
theorem dL_1718 : decode code 1718 = .ok (.iload_n 3, 1) := by decide +kernel
theorem dL_1719 : decode code 1719 = .ok (.iconst 1, 1) := by decide +kernel
theorem dL_1720 : decode code 1720 = .ok (.iadd, 1) := by decide +kernel
theorem dL_1721 : decode code 1721 = .ok (.iaload, 1) := by decide +kernel
theorem dL_1722 : decode code 1722 = .ok (.aload_n 0, 1) := by decide +kernel
theorem dL_1723 : decode code 1723 = .ok (.iload_n 3, 1) := by decide +kernel
theorem dL_1724 : decode code 1724 = .ok (.iconst 2, 1) := by decide +kernel
theorem dL_1725 : decode code 1725 = .ok (.iadd, 1) := by decide +kernel
theorem dL_1726 : decode code 1726 = .ok (.iaload, 1) := by decide +kernel
theorem dL_1727 : decode code 1727 = .ok (.invokevirtual 181, 3) := by decide +kernel
theorem dL_1730 : decode code 1730 = .ok (.aload_n 2, 1) := by decide +kernel
theorem dL_1731 : decode code 1731 = .ok (.aload_n 0, 1) := by decide +kernel
theorem dL_1732 : decode code 1732 = .ok (.iload_n 3, 1) := by decide +kernel
theorem dL_1733 : decode code 1733 = .ok (.iconst 1, 1) := by decide +kernel
theorem dL_1734 : decode code 1734 = .ok (.iadd, 1) := by decide +kernel
theorem dL_1735 : decode code 1735 = .ok (.iaload, 1) := by decide +kernel
theorem dL_1736 : decode code 1736 = .ok (.aload_n 0, 1) := by decide +kernel
theorem dL_1737 : decode code 1737 = .ok (.iload_n 3, 1) := by decide +kernel
theorem dL_1738 : decode code 1738 = .ok (.iconst 2, 1) := by decide +kernel
theorem dL_1739 : decode code 1739 = .ok (.iadd, 1) := by decide +kernel
theorem dL_1740 : decode code 1740 = .ok (.iaload, 1) := by decide +kernel
theorem dL_1741 : decode code 1741 = .ok (.invokevirtual 184, 3) := by decide +kernel
theorem dL_1744 : decode code 1744 = .ok (.if_icmp .eq 189, 3) := by decide +kernel
theorem dL_1747 : decode code 1747 = .ok (.iconst 0, 1) := by decide +kernel
theorem dL_1748 : decode code 1748 = .ok (.ireturn, 1) := by decide +kernel
theorem dL_1749 : decode code 1749 = .ok (.aload_n 1, 1) := by decide +kernel
theorem dL_1750 : decode code 1750 = .ok (.aload_n 0, 1) := by decide +kernel
theorem dL_1751 : decode code 1751 = .ok (.iload_n 3, 1) := by decide +kernel
theorem dL_1752 : decode code 1752 = .ok (.iconst 1, 1) := by decide +kernel
theorem dL_1753 : decode code 1753 = .ok (.iadd, 1) := by decide +kernel
theorem dL_1754 : decode code 1754 = .ok (.iaload, 1) := by decide +kernel
theorem dL_1755 : decode code 1755 = .ok (.aload_n 0, 1) := by decide +kernel
theorem dL_1756 : decode code 1756 = .ok (.iload_n 3, 1) := by decide +kernel
theorem dL_1757 : decode code 1757 = .ok (.iconst 2, 1) := by decide +kernel
theorem dL_1758 : decode code 1758 = .ok (.iadd, 1) := by decide +kernel
theorem dL_1759 : decode code 1759 = .ok (.iaload, 1) := by decide +kernel
theorem dL_1760 : decode code 1760 = .ok (.invokevirtual 185, 3) := by decide +kernel
theorem dL_1763 : decode code 1763 = .ok (.aload_n 2, 1) := by decide +kernel
theorem dL_1764 : decode code 1764 = .ok (.aload_n 0, 1) := by decide +kernel
theorem dL_1765 : decode code 1765 = .ok (.iload_n 3, 1) := by decide +kernel
theorem dL_1766 : decode code 1766 = .ok (.iconst 1, 1) := by decide +kernel
theorem dL_1767 : decode code 1767 = .ok (.iadd, 1) := by decide +kernel
theorem dL_1768 : decode code 1768 = .ok (.iaload, 1) := by decide +kernel
theorem dL_1769 : decode code 1769 = .ok (.aload_n 0, 1) := by decide +kernel
theorem dL_1770 : decode code 1770 = .ok (.iload_n 3, 1) := by decide +kernel
theorem dL_1771 : decode code 1771 = .ok (.iconst 2, 1) := by decide +kernel
theorem dL_1772 : decode code 1772 = .ok (.iadd, 1) := by decide +kernel
theorem dL_1773 : decode code 1773 = .ok (.iaload, 1) := by decide +kernel
theorem dL_1774 : decode code 1774 = .ok (.invokevirtual 188, 3) := by decide +kernel
theorem dL_1777 : decode code 1777 = .ok (.if_icmp .eq 156, 3) := by decide +kernel
theorem dL_1780 : decode code 1780 = .ok (.iconst 0, 1) := by decide +kernel
theorem dL_1781 : decode code 1781 = .ok (.ireturn, 1) := by decide +kernel
theorem dL_1782 : decode code 1782 = .ok (.aload_n 1, 1) := by decide +kernel
theorem dL_1783 : decode code 1783 = .ok (.aload_n 0, 1) := by decide +kernel
theorem dL_1784 : decode code 1784 = .ok (.iload_n 3, 1) := by decide +kernel
theorem dL_1785 : decode code 1785 = .ok (.iconst 1, 1) := by decide +kernel
theorem dL_1786 : decode code 1786 = .ok (.iadd, 1) := by decide +kernel
theorem dL_1787 : decode code 1787 = .ok (.iaload, 1) := by decide +kernel
theorem dL_1788 : decode code 1788 = .ok (.invokevirtual 189, 3) := by decide +kernel
theorem dL_1791 : decode code 1791 = .ok (.aload_n 2, 1) := by decide +kernel
theorem dL_1792 : decode code 1792 = .ok (.aload_n 0, 1) := by decide +kernel
theorem dL_1793 : decode code 1793 = .ok (.iload_n 3, 1) := by decide +kernel
theorem dL_1794 : decode code 1794 = .ok (.iconst 1, 1) := by decide +kernel
theorem dL_1795 : decode code 1795 = .ok (.iadd, 1) := by decide +kernel
theorem dL_1796 : decode code 1796 = .ok (.iaload, 1) := by decide +kernel
theorem dL_1797 : decode code 1797 = .ok (.invokevirtual 192, 3) := by decide +kernel
theorem dL_1800 : decode code 1800 = .ok (.if_icmp .eq 133, 3) := by decide +kernel
theorem dL_1803 : decode code 1803 = .ok (.iconst 0, 1) := by decide +kernel
theorem dL_1804 : decode code 1804 = .ok (.ireturn, 1) := by decide +kernel
theorem dL_1805 : decode code 1805 = .ok (.aload_n 1, 1) := by decide +kernel
theorem dL_1806 : decode code 1806 = .ok (.invokevirtual 193, 3) := by decide +kernel
theorem dL_1809 : decode code 1809 = .ok (.aload_n 2, 1) := by decide +kernel
theorem dL_1810 : decode code 1810 = .ok (.invokevirtual 197, 3) := by decide +kernel
theorem dL_1813 : decode code 1813 = .ok (.lcmp, 1) := by decide +kernel
theorem dL_1814 : decode code 1814 = .ok (.ifCond .eq 119, 3) := by decide +kernel
theorem dL_1817 : decode code 1817 = .ok (.iconst 0, 1) := by decide +kernel
theorem dL_1818 : decode code 1818 = .ok (.ireturn, 1) := by decide +kernel
theorem dL_1819 : decode code 1819 = .ok (.aload_n 1, 1) := by decide +kernel
theorem dL_1820 : decode code 1820 = .ok (.invokevirtual 198, 3) := by decide +kernel
theorem dL_1823 : decode code 1823 = .ok (.aload_n 2, 1) := by decide +kernel
theorem dL_1824 : decode code 1824 = .ok (.invokevirtual 202, 3) := by decide +kernel
theorem dL_1827 : decode code 1827 = .ok (.if_icmp .eq 106, 3) := by decide +kernel
theorem dL_1830 : decode code 1830 = .ok (.iconst 0, 1) := by decide +kernel
theorem dL_1831 : decode code 1831 = .ok (.ireturn, 1) := by decide +kernel
theorem dL_1832 : decode code 1832 = .ok (.aload_n 1, 1) := by decide +kernel
theorem dL_1833 : decode code 1833 = .ok (.invokevirtual 203, 3) := by decide +kernel
theorem dL_1836 : decode code 1836 = .ok (.aload_n 2, 1) := by decide +kernel
theorem dL_1837 : decode code 1837 = .ok (.invokevirtual 206, 3) := by decide +kernel
theorem dL_1840 : decode code 1840 = .ok (.lcmp, 1) := by decide +kernel
theorem dL_1841 : decode code 1841 = .ok (.ifCond .eq 92, 3) := by decide +kernel
theorem dL_1844 : decode code 1844 = .ok (.iconst 0, 1) := by decide +kernel
theorem dL_1845 : decode code 1845 = .ok (.ireturn, 1) := by decide +kernel
theorem dL_1846 : decode code 1846 = .ok (.aload_n 1, 1) := by decide +kernel
theorem dL_1847 : decode code 1847 = .ok (.invokevirtual 207, 3) := by decide +kernel
theorem dL_1850 : decode code 1850 = .ok (.aload_n 2, 1) := by decide +kernel
theorem dL_1851 : decode code 1851 = .ok (.invokevirtual 210, 3) := by decide +kernel
theorem dL_1854 : decode code 1854 = .ok (.lcmp, 1) := by decide +kernel
theorem dL_1855 : decode code 1855 = .ok (.ifCond .eq 78, 3) := by decide +kernel
theorem dL_1858 : decode code 1858 = .ok (.iconst 0, 1) := by decide +kernel
theorem dL_1859 : decode code 1859 = .ok (.ireturn, 1) := by decide +kernel
theorem dL_1860 : decode code 1860 = .ok (.aload_n 1, 1) := by decide +kernel
theorem dL_1861 : decode code 1861 = .ok (.aload_n 0, 1) := by decide +kernel
theorem dL_1862 : decode code 1862 = .ok (.iload_n 3, 1) := by decide +kernel
theorem dL_1863 : decode code 1863 = .ok (.iconst 1, 1) := by decide +kernel
theorem dL_1864 : decode code 1864 = .ok (.iadd, 1) := by decide +kernel
theorem dL_1865 : decode code 1865 = .ok (.iaload, 1) := by decide +kernel
theorem dL_1866 : decode code 1866 = .ok (.invokevirtual 211, 3) := by decide +kernel
theorem dL_1869 : decode code 1869 = .ok (.aload_n 2, 1) := by decide +kernel
theorem dL_1870 : decode code 1870 = .ok (.aload_n 0, 1) := by decide +kernel
theorem dL_1871 : decode code 1871 = .ok (.iload_n 3, 1) := by decide +kernel
theorem dL_1872 : decode code 1872 = .ok (.iconst 1, 1) := by decide +kernel
theorem dL_1873 : decode code 1873 = .ok (.iadd, 1) := by decide +kernel
theorem dL_1874 : decode code 1874 = .ok (.iaload, 1) := by decide +kernel
theorem dL_1875 : decode code 1875 = .ok (.invokevirtual 214, 3) := by decide +kernel
theorem dL_1878 : decode code 1878 = .ok (.if_icmp .eq 55, 3) := by decide +kernel
theorem dL_1881 : decode code 1881 = .ok (.iconst 0, 1) := by decide +kernel
theorem dL_1882 : decode code 1882 = .ok (.ireturn, 1) := by decide +kernel
theorem dL_1883 : decode code 1883 = .ok (.aload_n 1, 1) := by decide +kernel
theorem dL_1884 : decode code 1884 = .ok (.invokevirtual 215, 3) := by decide +kernel
theorem dL_1887 : decode code 1887 = .ok (.aload_n 2, 1) := by decide +kernel
theorem dL_1888 : decode code 1888 = .ok (.invokevirtual 218, 3) := by decide +kernel
theorem dL_1891 : decode code 1891 = .ok (.if_icmp .eq 42, 3) := by decide +kernel
theorem dL_1894 : decode code 1894 = .ok (.iconst 0, 1) := by decide +kernel
theorem dL_1895 : decode code 1895 = .ok (.ireturn, 1) := by decide +kernel
theorem dL_1896 : decode code 1896 = .ok (.aload_n 1, 1) := by decide +kernel
theorem dL_1897 : decode code 1897 = .ok (.aload_n 0, 1) := by decide +kernel
theorem dL_1898 : decode code 1898 = .ok (.iload_n 3, 1) := by decide +kernel
theorem dL_1899 : decode code 1899 = .ok (.iconst 1, 1) := by decide +kernel
theorem dL_1900 : decode code 1900 = .ok (.iadd, 1) := by decide +kernel
theorem dL_1901 : decode code 1901 = .ok (.iaload, 1) := by decide +kernel
theorem dL_1902 : decode code 1902 = .ok (.invokevirtual 219, 3) := by decide +kernel
theorem dL_1905 : decode code 1905 = .ok (.aload_n 2, 1) := by decide +kernel
theorem dL_1906 : decode code 1906 = .ok (.aload_n 0, 1) := by decide +kernel
theorem dL_1907 : decode code 1907 = .ok (.iload_n 3, 1) := by decide +kernel
theorem dL_1908 : decode code 1908 = .ok (.iconst 1, 1) := by decide +kernel
theorem dL_1909 : decode code 1909 = .ok (.iadd, 1) := by decide +kernel
theorem dL_1910 : decode code 1910 = .ok (.iaload, 1) := by decide +kernel
theorem dL_1911 : decode code 1911 = .ok (.invokevirtual 222, 3) := by decide +kernel
theorem dL_1914 : decode code 1914 = .ok (.if_icmp .eq 19, 3) := by decide +kernel
theorem dL_1917 : decode code 1917 = .ok (.iconst 0, 1) := by decide +kernel
theorem dL_1918 : decode code 1918 = .ok (.ireturn, 1) := by decide +kernel
theorem dL_1919 : decode code 1919 = .ok (.aload_n 1, 1) := by decide +kernel
theorem dL_1920 : decode code 1920 = .ok (.invokevirtual 223, 3) := by decide +kernel
theorem dL_1923 : decode code 1923 = .ok (.aload_n 2, 1) := by decide +kernel
theorem dL_1924 : decode code 1924 = .ok (.invokevirtual 226, 3) := by decide +kernel
theorem dL_1927 : decode code 1927 = .ok (.lcmp, 1) := by decide +kernel
theorem dL_1928 : decode code 1928 = .ok (.ifCond .eq 5, 3) := by decide +kernel
theorem dL_1931 : decode code 1931 = .ok (.iconst 0, 1) := by decide +kernel
theorem dL_1932 : decode code 1932 = .ok (.ireturn, 1) := by decide +kernel
theorem dL_1933 : decode code 1933 = .ok (.iinc 3 6, 3) := by decide +kernel
theorem dL_1936 : decode code 1936 = .ok (.goto (-1918), 3) := by decide +kernel
theorem dL_1939 : decode code 1939 = .ok (.iconst 1, 1) := by decide +kernel
theorem dL_1940 : decode code 1940 = .ok (.ireturn, 1) := by decide +kernel
def so_row (Rel : lRel) : Prop := ∀ (I : zMi) (J : zMl) (K : zMi) (M : zMl), Rel I J K M → ∀ (a1 : Int32) (a2 : Int32), ∃ (r : Int32) (I' : zMi) (K' : zMi), f_X3_row a1 a2 I = some (r, I') ∧ f_X4_row a1 a2 K = some (r, K') ∧ Rel I' J K' M
theorem mvX3_row : zMV yX3_row cX3_row 3 (some .int) 2 := ⟨⟨by decide, by decide, by decide +kernel⟩, zmem 189 (by decide +kernel) rfl, zmem 67 (by decide +kernel) rfl, zmem 187 (by decide +kernel) rfl, zmem 188 (by decide +kernel) rfl⟩
theorem mvX4_row : zMV yX4_row cX4_row 3 (some .int) 2 := ⟨⟨by decide, by decide, by decide +kernel⟩, zmem 831 (by decide +kernel) rfl, zmem 71 (by decide +kernel) rfl, zmem 829 (by decide +kernel) rfl, zmem 830 (by decide +kernel) rfl⟩
theorem wL_13 : Cond.methodLink R_law 13 yX3_row ∈ zGT := zmem 186 (by decide +kernel) rfl
theorem wL_17 : Cond.methodLink R_law 17 yX4_row ∈ zGT := zmem 828 (by decide +kernel) rfl
def so_lay (Rel : lRel) : Prop := ∀ (I : zMi) (J : zMl) (K : zMi) (M : zMl), Rel I J K M → ∀ (a1 : Int32) (a2 : Int32) (a3 : Int32), ∃ (r : Int32) (I' : zMi) (K' : zMi), f_X3_lay a1 a2 a3 I = some (r, I') ∧ f_X4_lay a1 a2 a3 K = some (r, K') ∧ Rel I' J K' M
theorem mvX3_lay : zMV yX3_lay cX3_lay 5 (some .int) 3 := ⟨⟨by decide, by decide, by decide +kernel⟩, zmem 204 (by decide +kernel) rfl, zmem 67 (by decide +kernel) rfl, zmem 202 (by decide +kernel) rfl, zmem 203 (by decide +kernel) rfl⟩
theorem mvX4_lay : zMV yX4_lay cX4_lay 5 (some .int) 3 := ⟨⟨by decide, by decide, by decide +kernel⟩, zmem 849 (by decide +kernel) rfl, zmem 71 (by decide +kernel) rfl, zmem 847 (by decide +kernel) rfl, zmem 848 (by decide +kernel) rfl⟩
theorem wL_18 : Cond.methodLink R_law 18 yX3_lay ∈ zGT := zmem 201 (by decide +kernel) rfl
theorem wL_22 : Cond.methodLink R_law 22 yX4_lay ∈ zGT := zmem 846 (by decide +kernel) rfl
def so_tear (Rel : lRel) : Prop := ∀ (I : zMi) (J : zMl) (K : zMi) (M : zMl), Rel I J K M → ∀ (a1 : Int32), ∃ (r : Int32) (I' : zMi) (K' : zMi), f_X3_tear a1 I = some (r, I') ∧ f_X4_tear a1 K = some (r, K') ∧ Rel I' J K' M
theorem mvX3_tear : zMV yX3_tear cX3_tear 2 (some .int) 1 := ⟨⟨by decide, by decide, by decide +kernel⟩, zmem 216 (by decide +kernel) rfl, zmem 67 (by decide +kernel) rfl, zmem 214 (by decide +kernel) rfl, zmem 215 (by decide +kernel) rfl⟩
theorem mvX4_tear : zMV yX4_tear cX4_tear 3 (some .int) 1 := ⟨⟨by decide, by decide, by decide +kernel⟩, zmem 857 (by decide +kernel) rfl, zmem 71 (by decide +kernel) rfl, zmem 855 (by decide +kernel) rfl, zmem 856 (by decide +kernel) rfl⟩
theorem wL_23 : Cond.methodLink R_law 23 yX3_tear ∈ zGT := zmem 213 (by decide +kernel) rfl
theorem wL_27 : Cond.methodLink R_law 27 yX4_tear ∈ zGT := zmem 854 (by decide +kernel) rfl
def so_copy (Rel : lRel) : Prop := ∀ (I : zMi) (J : zMl) (K : zMi) (M : zMl), Rel I J K M → ∀ (a1 : Int32) (a2 : Int32) (a3 : Int32) (a4 : Int32) (a5 : Int32), ∃ (r : Int32) (I' : zMi) (K' : zMi), f_X3_copy a1 a2 a3 a4 a5 I = some (r, I') ∧ f_X4_copy a1 a2 a3 a4 a5 K = some (r, K') ∧ Rel I' J K' M
theorem mvX3_copy : zMV yX3_copy cX3_copy 8 (some .int) 5 := ⟨⟨by decide, by decide, by decide +kernel⟩, zmem 224 (by decide +kernel) rfl, zmem 67 (by decide +kernel) rfl, zmem 222 (by decide +kernel) rfl, zmem 223 (by decide +kernel) rfl⟩
theorem mvX4_copy : zMV yX4_copy cX4_copy 7 (some .int) 5 := ⟨⟨by decide, by decide, by decide +kernel⟩, zmem 861 (by decide +kernel) rfl, zmem 71 (by decide +kernel) rfl, zmem 859 (by decide +kernel) rfl, zmem 860 (by decide +kernel) rfl⟩
theorem wL_28 : Cond.methodLink R_law 28 yX3_copy ∈ zGT := zmem 221 (by decide +kernel) rfl
theorem wL_32 : Cond.methodLink R_law 32 yX4_copy ∈ zGT := zmem 858 (by decide +kernel) rfl
def so_mean (Rel : lRel) : Prop := ∀ (I : zMi) (J : zMl) (K : zMi) (M : zMl), Rel I J K M → ∀ (a1 : Int32), ∃ (r : Int32) (I' : zMi) (K' : zMi), f_X3_mean a1 I = some (r, I') ∧ f_X4_mean a1 K = some (r, K') ∧ Rel I' J K' M
theorem mvX3_mean : zMV yX3_mean cX3_mean 3 (some .int) 1 := ⟨⟨by decide, by decide, by decide +kernel⟩, zmem 231 (by decide +kernel) rfl, zmem 67 (by decide +kernel) rfl, zmem 229 (by decide +kernel) rfl, zmem 230 (by decide +kernel) rfl⟩
theorem mvX4_mean : zMV yX4_mean cX4_mean 6 (some .int) 1 := ⟨⟨by decide, by decide, by decide +kernel⟩, zmem 865 (by decide +kernel) rfl, zmem 71 (by decide +kernel) rfl, zmem 863 (by decide +kernel) rfl, zmem 864 (by decide +kernel) rfl⟩
theorem wL_33 : Cond.methodLink R_law 33 yX3_mean ∈ zGT := zmem 228 (by decide +kernel) rfl
theorem wL_36 : Cond.methodLink R_law 36 yX4_mean ∈ zGT := zmem 862 (by decide +kernel) rfl
def so_table (Rel : lRel) : Prop := ∀ (I : zMi) (J : zMl) (K : zMi) (M : zMl), Rel I J K M → ∀ (a1 : Int32) (a2 : Int32), ∃ (r : Int32) (I' : zMi) (K' : zMi), f_X3_table a1 a2 I = some (r, I') ∧ f_X4_table a1 a2 K = some (r, K') ∧ Rel I' J K' M
theorem mvX3_table : zMV yX3_table cX3_table 3 (some .int) 2 := ⟨⟨by decide, by decide, by decide +kernel⟩, zmem 239 (by decide +kernel) rfl, zmem 67 (by decide +kernel) rfl, zmem 237 (by decide +kernel) rfl, zmem 238 (by decide +kernel) rfl⟩
theorem mvX4_table : zMV yX4_table cX4_table 5 (some .int) 2 := ⟨⟨by decide, by decide, by decide +kernel⟩, zmem 873 (by decide +kernel) rfl, zmem 71 (by decide +kernel) rfl, zmem 871 (by decide +kernel) rfl, zmem 872 (by decide +kernel) rfl⟩
theorem wL_37 : Cond.methodLink R_law 37 yX3_table ∈ zGT := zmem 236 (by decide +kernel) rfl
theorem wL_40 : Cond.methodLink R_law 40 yX4_table ∈ zGT := zmem 870 (by decide +kernel) rfl
def so_put (Rel : lRel) : Prop := ∀ (I : zMi) (J : zMl) (K : zMi) (M : zMl), Rel I J K M → ∀ (a1 : Int32) (a2 : Int32) (a3 : Int32), ∃ (r : Int32) (I' : zMi) (K' : zMi), f_X3_put a1 a2 a3 I = some (r, I') ∧ f_X4_put a1 a2 a3 K = some (r, K') ∧ Rel I' J K' M
theorem mvX3_put : zMV yX3_put cX3_put 7 (some .int) 3 := ⟨⟨by decide, by decide, by decide +kernel⟩, zmem 299 (by decide +kernel) rfl, zmem 67 (by decide +kernel) rfl, zmem 297 (by decide +kernel) rfl, zmem 298 (by decide +kernel) rfl⟩
theorem mvX4_put : zMV yX4_put cX4_put 6 (some .int) 3 := ⟨⟨by decide, by decide, by decide +kernel⟩, zmem 928 (by decide +kernel) rfl, zmem 71 (by decide +kernel) rfl, zmem 926 (by decide +kernel) rfl, zmem 927 (by decide +kernel) rfl⟩
theorem wL_41 : Cond.methodLink R_law 41 yX3_put ∈ zGT := zmem 296 (by decide +kernel) rfl
theorem wL_44 : Cond.methodLink R_law 44 yX4_put ∈ zGT := zmem 925 (by decide +kernel) rfl
def so_set (Rel : lRel) : Prop := ∀ (I : zMi) (J : zMl) (K : zMi) (M : zMl), Rel I J K M → ∀ (a1 : Int32) (a2 : Int32) (a3 : Int32) (a4 : Int32) (a5 : Int32), (a5 = 0 ∨ a5 = 1) → ∃ (r : Int32) (I' : zMi) (K' : zMi), f_X3_set a1 a2 a3 a4 a5 I = some (r, I') ∧ f_X4_set a1 a2 a3 a4 a5 K = some (r, K') ∧ Rel I' J K' M
theorem mvX3_set : zMV yX3_set cX3_set 7 (some .int) 5 := ⟨⟨by decide, by decide, by decide +kernel⟩, zmem 319 (by decide +kernel) rfl, zmem 67 (by decide +kernel) rfl, zmem 317 (by decide +kernel) rfl, zmem 318 (by decide +kernel) rfl⟩
theorem mvX4_set : zMV yX4_set cX4_set 7 (some .int) 5 := ⟨⟨by decide, by decide, by decide +kernel⟩, zmem 935 (by decide +kernel) rfl, zmem 71 (by decide +kernel) rfl, zmem 933 (by decide +kernel) rfl, zmem 934 (by decide +kernel) rfl⟩
theorem wL_45 : Cond.methodLink R_law 45 yX3_set ∈ zGT := zmem 316 (by decide +kernel) rfl
theorem wL_49 : Cond.methodLink R_law 49 yX4_set ∈ zGT := zmem 932 (by decide +kernel) rfl
def so_drop (Rel : lRel) : Prop := ∀ (I : zMi) (J : zMl) (K : zMi) (M : zMl), Rel I J K M → ∀ (a1 : Int32), ∃ (r : Int32) (I' : zMi) (K' : zMi), f_X3_drop a1 I = some (r, I') ∧ f_X4_drop a1 K = some (r, K') ∧ Rel I' J K' M
theorem mvX3_drop : zMV yX3_drop cX3_drop 2 (some .int) 1 := ⟨⟨by decide, by decide, by decide +kernel⟩, zmem 323 (by decide +kernel) rfl, zmem 67 (by decide +kernel) rfl, zmem 321 (by decide +kernel) rfl, zmem 322 (by decide +kernel) rfl⟩
theorem mvX4_drop : zMV yX4_drop cX4_drop 3 (some .int) 1 := ⟨⟨by decide, by decide, by decide +kernel⟩, zmem 947 (by decide +kernel) rfl, zmem 71 (by decide +kernel) rfl, zmem 945 (by decide +kernel) rfl, zmem 946 (by decide +kernel) rfl⟩
theorem wL_50 : Cond.methodLink R_law 50 yX3_drop ∈ zGT := zmem 320 (by decide +kernel) rfl
theorem wL_53 : Cond.methodLink R_law 53 yX4_drop ∈ zGT := zmem 944 (by decide +kernel) rfl
def so_at (Rel : lRel) : Prop := ∀ (I : zMi) (J : zMl) (K : zMi) (M : zMl), Rel I J K M → ∀ (a1 : Int32) (a2 : Int32) (a3 : Int32), ∃ (r : Int32) (I' : zMi) (K' : zMi), f_X3_at a1 a2 a3 I = some (r, I') ∧ f_X4_at a1 a2 a3 K = some (r, K') ∧ Rel I' J K' M
theorem mvX3_at : zMV yX3_at cX3_at 5 (some .int) 3 := ⟨⟨by decide, by decide, by decide +kernel⟩, zmem 331 (by decide +kernel) rfl, zmem 67 (by decide +kernel) rfl, zmem 329 (by decide +kernel) rfl, zmem 330 (by decide +kernel) rfl⟩
theorem mvX4_at : zMV yX4_at cX4_at 5 (some .int) 3 := ⟨⟨by decide, by decide, by decide +kernel⟩, zmem 951 (by decide +kernel) rfl, zmem 71 (by decide +kernel) rfl, zmem 949 (by decide +kernel) rfl, zmem 950 (by decide +kernel) rfl⟩
theorem wL_54 : Cond.methodLink R_law 54 yX3_at ∈ zGT := zmem 328 (by decide +kernel) rfl
theorem wL_57 : Cond.methodLink R_law 57 yX4_at ∈ zGT := zmem 948 (by decide +kernel) rfl
def so_told (Rel : lRel) : Prop := ∀ (I : zMi) (J : zMl) (K : zMi) (M : zMl), Rel I J K M → ∀ (a1 : Int32) (a2 : Int32), ∃ (r : Int32) (I' : zMi) (K' : zMi), f_X3_told a1 a2 I = some (r, I') ∧ f_X4_told a1 a2 K = some (r, K') ∧ Rel I' J K' M
theorem mvX3_told : zMV yX3_told cX3_told 4 (some .int) 2 := ⟨⟨by decide, by decide, by decide +kernel⟩, zmem 339 (by decide +kernel) rfl, zmem 67 (by decide +kernel) rfl, zmem 337 (by decide +kernel) rfl, zmem 338 (by decide +kernel) rfl⟩
theorem mvX4_told : zMV yX4_told cX4_told 4 (some .int) 2 := ⟨⟨by decide, by decide, by decide +kernel⟩, zmem 955 (by decide +kernel) rfl, zmem 71 (by decide +kernel) rfl, zmem 953 (by decide +kernel) rfl, zmem 954 (by decide +kernel) rfl⟩
theorem wL_58 : Cond.methodLink R_law 58 yX3_told ∈ zGT := zmem 336 (by decide +kernel) rfl
theorem wL_61 : Cond.methodLink R_law 61 yX4_told ∈ zGT := zmem 952 (by decide +kernel) rfl
def so_mark (Rel : lRel) : Prop := ∀ (I : zMi) (J : zMl) (K : zMi) (M : zMl), Rel I J K M → ∀ (a1 : Int32) (a2 : Int32), ∃ (r : Int32) (I' : zMi) (K' : zMi), f_X3_mark a1 a2 I = some (r, I') ∧ f_X4_mark a1 a2 K = some (r, K') ∧ Rel I' J K' M
theorem mvX3_mark : zMV yX3_mark cX3_mark 4 (some .int) 2 := ⟨⟨by decide, by decide, by decide +kernel⟩, zmem 351 (by decide +kernel) rfl, zmem 67 (by decide +kernel) rfl, zmem 349 (by decide +kernel) rfl, zmem 350 (by decide +kernel) rfl⟩
theorem mvX4_mark : zMV yX4_mark cX4_mark 4 (some .int) 2 := ⟨⟨by decide, by decide, by decide +kernel⟩, zmem 967 (by decide +kernel) rfl, zmem 71 (by decide +kernel) rfl, zmem 965 (by decide +kernel) rfl, zmem 966 (by decide +kernel) rfl⟩
theorem wL_62 : Cond.methodLink R_law 62 yX3_mark ∈ zGT := zmem 348 (by decide +kernel) rfl
theorem wL_65 : Cond.methodLink R_law 65 yX4_mark ∈ zGT := zmem 964 (by decide +kernel) rfl
def so_times (Rel : lRel) : Prop := ∀ (I : zMi) (J : zMl) (K : zMi) (M : zMl), Rel I J K M → ∀ (a1 : Int32) (a2 : Int32) (a3 : Int32), ∃ (r : Int32) (I' : zMi) (K' : zMi), f_X3_times a1 a2 a3 I = some (r, I') ∧ f_X4_times a1 a2 a3 K = some (r, K') ∧ Rel I' J K' M
theorem mvX3_times : zMV yX3_times cX3_times 6 (some .int) 3 := ⟨⟨by decide, by decide, by decide +kernel⟩, zmem 369 (by decide +kernel) rfl, zmem 67 (by decide +kernel) rfl, zmem 367 (by decide +kernel) rfl, zmem 368 (by decide +kernel) rfl⟩
theorem mvX4_times : zMV yX4_times cX4_times 8 (some .int) 3 := ⟨⟨by decide, by decide, by decide +kernel⟩, zmem 979 (by decide +kernel) rfl, zmem 71 (by decide +kernel) rfl, zmem 977 (by decide +kernel) rfl, zmem 978 (by decide +kernel) rfl⟩
theorem wL_66 : Cond.methodLink R_law 66 yX3_times ∈ zGT := zmem 366 (by decide +kernel) rfl
theorem wL_69 : Cond.methodLink R_law 69 yX4_times ∈ zGT := zmem 976 (by decide +kernel) rfl
def so_residues (Rel : lRel) : Prop := ∀ (I : zMi) (J : zMl) (K : zMi) (M : zMl), Rel I J K M → ∀ (a1 : Int32) (a2 : Int32), ∃ (r : Int32) (I' : zMi) (K' : zMi), f_X3_residues a1 a2 I = some (r, I') ∧ f_X4_residues a1 a2 K = some (r, K') ∧ Rel I' J K' M
theorem mvX3_residues : zMV yX3_residues cX3_residues 4 (some .int) 2 := ⟨⟨by decide, by decide, by decide +kernel⟩, zmem 384 (by decide +kernel) rfl, zmem 67 (by decide +kernel) rfl, zmem 382 (by decide +kernel) rfl, zmem 383 (by decide +kernel) rfl⟩
theorem mvX4_residues : zMV yX4_residues cX4_residues 5 (some .int) 2 := ⟨⟨by decide, by decide, by decide +kernel⟩, zmem 987 (by decide +kernel) rfl, zmem 71 (by decide +kernel) rfl, zmem 985 (by decide +kernel) rfl, zmem 986 (by decide +kernel) rfl⟩
theorem wL_70 : Cond.methodLink R_law 70 yX3_residues ∈ zGT := zmem 381 (by decide +kernel) rfl
theorem wL_73 : Cond.methodLink R_law 73 yX4_residues ∈ zGT := zmem 984 (by decide +kernel) rfl
def so_bordered (Rel : lRel) : Prop := ∀ (I : zMi) (J : zMl) (K : zMi) (M : zMl), Rel I J K M → ∀ (a1 : Int32) (a2 : Int32), ∃ (r : Int32) (I' : zMi) (K' : zMi), f_X3_bordered a1 a2 I = some (r, I') ∧ f_X4_bordered a1 a2 K = some (r, K') ∧ Rel I' J K' M
theorem mvX3_bordered : zMV yX3_bordered cX3_bordered 5 (some .int) 2 := ⟨⟨by decide, by decide, by decide +kernel⟩, zmem 394 (by decide +kernel) rfl, zmem 67 (by decide +kernel) rfl, zmem 392 (by decide +kernel) rfl, zmem 393 (by decide +kernel) rfl⟩
theorem mvX4_bordered : zMV yX4_bordered cX4_bordered 5 (some .int) 2 := ⟨⟨by decide, by decide, by decide +kernel⟩, zmem 994 (by decide +kernel) rfl, zmem 71 (by decide +kernel) rfl, zmem 992 (by decide +kernel) rfl, zmem 993 (by decide +kernel) rfl⟩
theorem wL_74 : Cond.methodLink R_law 74 yX3_bordered ∈ zGT := zmem 391 (by decide +kernel) rfl
theorem wL_77 : Cond.methodLink R_law 77 yX4_bordered ∈ zGT := zmem 991 (by decide +kernel) rfl
def so_four (Rel : lRel) : Prop := ∀ (I : zMi) (J : zMl) (K : zMi) (M : zMl), Rel I J K M → ∀ (a1 : Int32) (a2 : Int32) (a3 : Int32) (a4 : Int32) (a5 : Int32), ∃ (r : Int32) (I' : zMi) (K' : zMi), f_X3_four a1 a2 a3 a4 a5 I = some (r, I') ∧ f_X4_four a1 a2 a3 a4 a5 K = some (r, K') ∧ Rel I' J K' M
theorem mvX3_four : zMV yX3_four cX3_four 6 (some .int) 5 := ⟨⟨by decide, by decide, by decide +kernel⟩, zmem 398 (by decide +kernel) rfl, zmem 67 (by decide +kernel) rfl, zmem 396 (by decide +kernel) rfl, zmem 397 (by decide +kernel) rfl⟩
theorem mvX4_four : zMV yX4_four cX4_four 15 (some .int) 5 := ⟨⟨by decide, by decide, by decide +kernel⟩, zmem 998 (by decide +kernel) rfl, zmem 71 (by decide +kernel) rfl, zmem 996 (by decide +kernel) rfl, zmem 997 (by decide +kernel) rfl⟩
theorem wL_78 : Cond.methodLink R_law 78 yX3_four ∈ zGT := zmem 395 (by decide +kernel) rfl
theorem wL_81 : Cond.methodLink R_law 81 yX4_four ∈ zGT := zmem 995 (by decide +kernel) rfl
def so_turn (Rel : lRel) : Prop := ∀ (I : zMi) (J : zMl) (K : zMi) (M : zMl), Rel I J K M → ∀ (a1 : Int32) (a2 : Int32) (a3 : Int32), ∃ (r : Int32) (I' : zMi) (K' : zMi), f_X3_turn a1 a2 a3 I = some (r, I') ∧ f_X4_turn a1 a2 a3 K = some (r, K') ∧ Rel I' J K' M
theorem mvX3_turn : zMV yX3_turn cX3_turn 5 (some .int) 3 := ⟨⟨by decide, by decide, by decide +kernel⟩, zmem 432 (by decide +kernel) rfl, zmem 67 (by decide +kernel) rfl, zmem 430 (by decide +kernel) rfl, zmem 431 (by decide +kernel) rfl⟩
theorem mvX4_turn : zMV yX4_turn cX4_turn 6 (some .int) 3 := ⟨⟨by decide, by decide, by decide +kernel⟩, zmem 1019 (by decide +kernel) rfl, zmem 71 (by decide +kernel) rfl, zmem 1017 (by decide +kernel) rfl, zmem 1018 (by decide +kernel) rfl⟩
theorem wL_82 : Cond.methodLink R_law 82 yX3_turn ∈ zGT := zmem 429 (by decide +kernel) rfl
theorem wL_85 : Cond.methodLink R_law 85 yX4_turn ∈ zGT := zmem 1016 (by decide +kernel) rfl
def so_swap (Rel : lRel) : Prop := ∀ (I : zMi) (J : zMl) (K : zMi) (M : zMl), Rel I J K M → ∀ (a1 : Int32) (a2 : Int32) (a3 : Int32) (a4 : Int32), (a2 = 0 ∨ a2 = 1) → ∃ (r : Int32) (I' : zMi) (K' : zMi), f_X3_swap a1 a2 a3 a4 I = some (r, I') ∧ f_X4_swap a1 a2 a3 a4 K = some (r, K') ∧ Rel I' J K' M
theorem mvX3_swap : zMV yX3_swap cX3_swap 6 (some .int) 4 := ⟨⟨by decide, by decide, by decide +kernel⟩, zmem 448 (by decide +kernel) rfl, zmem 67 (by decide +kernel) rfl, zmem 446 (by decide +kernel) rfl, zmem 447 (by decide +kernel) rfl⟩
theorem mvX4_swap : zMV yX4_swap cX4_swap 9 (some .int) 4 := ⟨⟨by decide, by decide, by decide +kernel⟩, zmem 1035 (by decide +kernel) rfl, zmem 71 (by decide +kernel) rfl, zmem 1033 (by decide +kernel) rfl, zmem 1034 (by decide +kernel) rfl⟩
theorem wL_86 : Cond.methodLink R_law 86 yX3_swap ∈ zGT := zmem 445 (by decide +kernel) rfl
theorem wL_90 : Cond.methodLink R_law 90 yX4_swap ∈ zGT := zmem 1032 (by decide +kernel) rfl
def so_flip (Rel : lRel) : Prop := ∀ (I : zMi) (J : zMl) (K : zMi) (M : zMl), Rel I J K M → ∀ (a1 : Int32), ∃ (r : Int32) (I' : zMi) (K' : zMi), f_X3_flip a1 I = some (r, I') ∧ f_X4_flip a1 K = some (r, K') ∧ Rel I' J K' M
theorem mvX3_flip : zMV yX3_flip cX3_flip 3 (some .int) 1 := ⟨⟨by decide, by decide, by decide +kernel⟩, zmem 460 (by decide +kernel) rfl, zmem 67 (by decide +kernel) rfl, zmem 458 (by decide +kernel) rfl, zmem 459 (by decide +kernel) rfl⟩
theorem mvX4_flip : zMV yX4_flip cX4_flip 6 (some .int) 1 := ⟨⟨by decide, by decide, by decide +kernel⟩, zmem 1039 (by decide +kernel) rfl, zmem 71 (by decide +kernel) rfl, zmem 1037 (by decide +kernel) rfl, zmem 1038 (by decide +kernel) rfl⟩
theorem wL_91 : Cond.methodLink R_law 91 yX3_flip ∈ zGT := zmem 457 (by decide +kernel) rfl
theorem wL_94 : Cond.methodLink R_law 94 yX4_flip ∈ zGT := zmem 1036 (by decide +kernel) rfl
def so_normal (Rel : lRel) : Prop := ∀ (I : zMi) (J : zMl) (K : zMi) (M : zMl), Rel I J K M → ∀ (a1 : Int32), ∃ (r : Int32) (I' : zMi) (K' : zMi), f_X3_normal a1 I = some (r, I') ∧ f_X4_normal a1 K = some (r, K') ∧ Rel I' J K' M
theorem mvX3_normal : zMV yX3_normal cX3_normal 5 (some .int) 1 := ⟨⟨by decide, by decide, by decide +kernel⟩, zmem 468 (by decide +kernel) rfl, zmem 67 (by decide +kernel) rfl, zmem 466 (by decide +kernel) rfl, zmem 467 (by decide +kernel) rfl⟩
theorem mvX4_normal : zMV yX4_normal cX4_normal 5 (some .int) 1 := ⟨⟨by decide, by decide, by decide +kernel⟩, zmem 1043 (by decide +kernel) rfl, zmem 71 (by decide +kernel) rfl, zmem 1041 (by decide +kernel) rfl, zmem 1042 (by decide +kernel) rfl⟩
theorem wL_95 : Cond.methodLink R_law 95 yX3_normal ∈ zGT := zmem 465 (by decide +kernel) rfl
theorem wL_98 : Cond.methodLink R_law 98 yX4_normal ∈ zGT := zmem 1040 (by decide +kernel) rfl
def so_worth (Rel : lRel) : Prop := ∀ (I : zMi) (J : zMl) (K : zMi) (M : zMl), Rel I J K M → ∀ (a1 : Int32), ∃ (r : Int32) (I' : zMi) (J' : zMl) (K' : zMi) (M' : zMl), f_X3_worth a1 I J = some (r, I', J') ∧ f_X4_worth a1 K M = some (r, K', M') ∧ Rel I' J' K' M'
theorem mvX3_worth : zMV yX3_worth cX3_worth 2 (some .int) 1 := ⟨⟨by decide, by decide, by decide +kernel⟩, zmem 474 (by decide +kernel) rfl, zmem 67 (by decide +kernel) rfl, zmem 472 (by decide +kernel) rfl, zmem 473 (by decide +kernel) rfl⟩
theorem mvX4_worth : zMV yX4_worth cX4_worth 6 (some .int) 1 := ⟨⟨by decide, by decide, by decide +kernel⟩, zmem 1047 (by decide +kernel) rfl, zmem 71 (by decide +kernel) rfl, zmem 1045 (by decide +kernel) rfl, zmem 1046 (by decide +kernel) rfl⟩
theorem wL_99 : Cond.methodLink R_law 99 yX3_worth ∈ zGT := zmem 471 (by decide +kernel) rfl
theorem wL_102 : Cond.methodLink R_law 102 yX4_worth ∈ zGT := zmem 1044 (by decide +kernel) rfl
def so_balanced (Rel : lRel) : Prop := ∀ (I : zMi) (J : zMl) (K : zMi) (M : zMl), Rel I J K M → ∀ (a1 : Int32), ∃ (r : Int32) (I' : zMi) (K' : zMi), f_X3_balanced a1 I = some (r, I') ∧ f_X4_balanced a1 K = some (r, K') ∧ Rel I' J K' M
theorem mvX3_balanced : zMV yX3_balanced cX3_balanced 2 (some .int) 1 := ⟨⟨by decide, by decide, by decide +kernel⟩, zmem 503 (by decide +kernel) rfl, zmem 67 (by decide +kernel) rfl, zmem 501 (by decide +kernel) rfl, zmem 502 (by decide +kernel) rfl⟩
theorem mvX4_balanced : zMV yX4_balanced cX4_balanced 3 (some .int) 1 := ⟨⟨by decide, by decide, by decide +kernel⟩, zmem 1055 (by decide +kernel) rfl, zmem 71 (by decide +kernel) rfl, zmem 1053 (by decide +kernel) rfl, zmem 1054 (by decide +kernel) rfl⟩
theorem wL_103 : Cond.methodLink R_law 103 yX3_balanced ∈ zGT := zmem 500 (by decide +kernel) rfl
theorem wL_106 : Cond.methodLink R_law 106 yX4_balanced ∈ zGT := zmem 1052 (by decide +kernel) rfl
def so_common (Rel : lRel) : Prop := ∀ (I : zMi) (J : zMl) (K : zMi) (M : zMl), Rel I J K M → ∀ (a1 : Int32) (a2 : Int32), ∃ (r : Int32) (I' : zMi) (K' : zMi), f_X3_common a1 a2 I = some (r, I') ∧ f_X4_common a1 a2 K = some (r, K') ∧ Rel I' J K' M
theorem mvX3_common : zMV yX3_common cX3_common 4 (some .int) 2 := ⟨⟨by decide, by decide, by decide +kernel⟩, zmem 508 (by decide +kernel) rfl, zmem 67 (by decide +kernel) rfl, zmem 506 (by decide +kernel) rfl, zmem 507 (by decide +kernel) rfl⟩
theorem mvX4_common : zMV yX4_common cX4_common 4 (some .int) 2 := ⟨⟨by decide, by decide, by decide +kernel⟩, zmem 1059 (by decide +kernel) rfl, zmem 71 (by decide +kernel) rfl, zmem 1057 (by decide +kernel) rfl, zmem 1058 (by decide +kernel) rfl⟩
theorem wL_107 : Cond.methodLink R_law 107 yX3_common ∈ zGT := zmem 505 (by decide +kernel) rfl
theorem wL_110 : Cond.methodLink R_law 110 yX4_common ∈ zGT := zmem 1056 (by decide +kernel) rfl
def so_profile (Rel : lRel) : Prop := ∀ (I : zMi) (J : zMl) (K : zMi) (M : zMl), Rel I J K M → ∀ (a1 : Int32) (a2 : Int32) (a3 : Int32), ∃ (r : Int32) (I' : zMi) (K' : zMi), f_X3_profile a1 a2 a3 I = some (r, I') ∧ f_X4_profile a1 a2 a3 K = some (r, K') ∧ Rel I' J K' M
theorem mvX3_profile : zMV yX3_profile cX3_profile 5 (some .int) 3 := ⟨⟨by decide, by decide, by decide +kernel⟩, zmem 519 (by decide +kernel) rfl, zmem 67 (by decide +kernel) rfl, zmem 517 (by decide +kernel) rfl, zmem 518 (by decide +kernel) rfl⟩
theorem mvX4_profile : zMV yX4_profile cX4_profile 5 (some .int) 3 := ⟨⟨by decide, by decide, by decide +kernel⟩, zmem 1067 (by decide +kernel) rfl, zmem 71 (by decide +kernel) rfl, zmem 1065 (by decide +kernel) rfl, zmem 1066 (by decide +kernel) rfl⟩
theorem wL_111 : Cond.methodLink R_law 111 yX3_profile ∈ zGT := zmem 516 (by decide +kernel) rfl
theorem wL_114 : Cond.methodLink R_law 114 yX4_profile ∈ zGT := zmem 1064 (by decide +kernel) rfl
def so_mayBeLike (Rel : lRel) : Prop := ∀ (I : zMi) (J : zMl) (K : zMi) (M : zMl), Rel I J K M → ∀ (a1 : Int32) (a2 : Int32), ∃ (r : Int32) (I' : zMi) (K' : zMi), f_X3_mayBeLike a1 a2 I = some (r, I') ∧ f_X4_mayBeLike a1 a2 K = some (r, K') ∧ Rel I' J K' M
theorem mvX3_mayBeLike : zMV yX3_mayBeLike cX3_mayBeLike 6 (some .int) 2 := ⟨⟨by decide, by decide, by decide +kernel⟩, zmem 532 (by decide +kernel) rfl, zmem 67 (by decide +kernel) rfl, zmem 530 (by decide +kernel) rfl, zmem 531 (by decide +kernel) rfl⟩
theorem mvX4_mayBeLike : zMV yX4_mayBeLike cX4_mayBeLike 6 (some .int) 2 := ⟨⟨by decide, by decide, by decide +kernel⟩, zmem 1078 (by decide +kernel) rfl, zmem 71 (by decide +kernel) rfl, zmem 1076 (by decide +kernel) rfl, zmem 1077 (by decide +kernel) rfl⟩
theorem wL_115 : Cond.methodLink R_law 115 yX3_mayBeLike ∈ zGT := zmem 529 (by decide +kernel) rfl
theorem wL_118 : Cond.methodLink R_law 118 yX4_mayBeLike ∈ zGT := zmem 1075 (by decide +kernel) rfl
def so_like (Rel : lRel) : Prop := ∀ (I : zMi) (J : zMl) (K : zMi) (M : zMl), Rel I J K M → ∀ (a1 : Int32) (a2 : Int32), ∃ (r : Int32) (I' : zMi) (K' : zMi), f_X3_like a1 a2 I = some (r, I') ∧ f_X4_like a1 a2 K = some (r, K') ∧ Rel I' J K' M
theorem mvX3_like : zMV yX3_like cX3_like 5 (some .int) 2 := ⟨⟨by decide, by decide, by decide +kernel⟩, zmem 540 (by decide +kernel) rfl, zmem 67 (by decide +kernel) rfl, zmem 538 (by decide +kernel) rfl, zmem 539 (by decide +kernel) rfl⟩
theorem mvX4_like : zMV yX4_like cX4_like 7 (some .int) 2 := ⟨⟨by decide, by decide, by decide +kernel⟩, zmem 1090 (by decide +kernel) rfl, zmem 71 (by decide +kernel) rfl, zmem 1088 (by decide +kernel) rfl, zmem 1089 (by decide +kernel) rfl⟩
theorem wL_119 : Cond.methodLink R_law 119 yX3_like ∈ zGT := zmem 537 (by decide +kernel) rfl
theorem wL_122 : Cond.methodLink R_law 122 yX4_like ∈ zGT := zmem 1087 (by decide +kernel) rfl
def so_excess (Rel : lRel) : Prop := ∀ (I : zMi) (J : zMl) (K : zMi) (M : zMl), Rel I J K M → ∀ (a1 : Int32), ∃ (r : Int32) (I' : zMi) (K' : zMi), f_X3_excess a1 I = some (r, I') ∧ f_X4_excess a1 K = some (r, K') ∧ Rel I' J K' M
theorem mvX3_excess : zMV yX3_excess cX3_excess 6 (some .int) 1 := ⟨⟨by decide, by decide, by decide +kernel⟩, zmem 560 (by decide +kernel) rfl, zmem 67 (by decide +kernel) rfl, zmem 558 (by decide +kernel) rfl, zmem 559 (by decide +kernel) rfl⟩
theorem mvX4_excess : zMV yX4_excess cX4_excess 8 (some .int) 1 := ⟨⟨by decide, by decide, by decide +kernel⟩, zmem 1104 (by decide +kernel) rfl, zmem 71 (by decide +kernel) rfl, zmem 1102 (by decide +kernel) rfl, zmem 1103 (by decide +kernel) rfl⟩
theorem wL_123 : Cond.methodLink R_law 123 yX3_excess ∈ zGT := zmem 557 (by decide +kernel) rfl
theorem wL_126 : Cond.methodLink R_law 126 yX4_excess ∈ zGT := zmem 1101 (by decide +kernel) rfl
def so_peak (Rel : lRel) : Prop := ∀ (I : zMi) (J : zMl) (K : zMi) (M : zMl), Rel I J K M → ∀ (a1 : Int32), ∃ (r : Int32) (I' : zMi) (K' : zMi), f_X3_peak a1 I = some (r, I') ∧ f_X4_peak a1 K = some (r, K') ∧ Rel I' J K' M
theorem mvX3_peak : zMV yX3_peak cX3_peak 6 (some .int) 1 := ⟨⟨by decide, by decide, by decide +kernel⟩, zmem 569 (by decide +kernel) rfl, zmem 67 (by decide +kernel) rfl, zmem 567 (by decide +kernel) rfl, zmem 568 (by decide +kernel) rfl⟩
theorem mvX4_peak : zMV yX4_peak cX4_peak 9 (some .int) 1 := ⟨⟨by decide, by decide, by decide +kernel⟩, zmem 1112 (by decide +kernel) rfl, zmem 71 (by decide +kernel) rfl, zmem 1110 (by decide +kernel) rfl, zmem 1111 (by decide +kernel) rfl⟩
theorem wL_127 : Cond.methodLink R_law 127 yX3_peak ∈ zGT := zmem 566 (by decide +kernel) rfl
theorem wL_130 : Cond.methodLink R_law 130 yX4_peak ∈ zGT := zmem 1109 (by decide +kernel) rfl
def so_block (Rel : lRel) : Prop := ∀ (I : zMi) (J : zMl) (K : zMi) (M : zMl), Rel I J K M → ∀ (a1 : Int32) (a2 : Int32), ∃ (r : Int32) (I' : zMi) (K' : zMi), f_X3_block a1 a2 I = some (r, I') ∧ f_X4_block a1 a2 K = some (r, K') ∧ Rel I' J K' M
theorem mvX3_block : zMV yX3_block cX3_block 4 (some .int) 2 := ⟨⟨by decide, by decide, by decide +kernel⟩, zmem 580 (by decide +kernel) rfl, zmem 67 (by decide +kernel) rfl, zmem 578 (by decide +kernel) rfl, zmem 579 (by decide +kernel) rfl⟩
theorem mvX4_block : zMV yX4_block cX4_block 8 (some .int) 2 := ⟨⟨by decide, by decide, by decide +kernel⟩, zmem 1116 (by decide +kernel) rfl, zmem 71 (by decide +kernel) rfl, zmem 1114 (by decide +kernel) rfl, zmem 1115 (by decide +kernel) rfl⟩
theorem wL_131 : Cond.methodLink R_law 131 yX3_block ∈ zGT := zmem 577 (by decide +kernel) rfl
theorem wL_134 : Cond.methodLink R_law 134 yX4_block ∈ zGT := zmem 1113 (by decide +kernel) rfl
def so_echo (Rel : lRel) : Prop := ∀ (I : zMi) (J : zMl) (K : zMi) (M : zMl), Rel I J K M → ∀ (a1 : Int32) (a2 : Int32) (a3 : Int32), (a3 = 0 ∨ a3 = 1) → ∃ (r : Int32) (I' : zMi) (K' : zMi), f_X3_echo a1 a2 a3 I = some (r, I') ∧ f_X4_echo a1 a2 a3 K = some (r, K') ∧ Rel I' J K' M
theorem mvX3_echo : zMV yX3_echo cX3_echo 6 (some .int) 3 := ⟨⟨by decide, by decide, by decide +kernel⟩, zmem 588 (by decide +kernel) rfl, zmem 67 (by decide +kernel) rfl, zmem 586 (by decide +kernel) rfl, zmem 587 (by decide +kernel) rfl⟩
theorem mvX4_echo : zMV yX4_echo cX4_echo 5 (some .int) 3 := ⟨⟨by decide, by decide, by decide +kernel⟩, zmem 1120 (by decide +kernel) rfl, zmem 71 (by decide +kernel) rfl, zmem 1118 (by decide +kernel) rfl, zmem 1119 (by decide +kernel) rfl⟩
theorem wL_135 : Cond.methodLink R_law 135 yX3_echo ∈ zGT := zmem 585 (by decide +kernel) rfl
theorem wL_139 : Cond.methodLink R_law 139 yX4_echo ∈ zGT := zmem 1117 (by decide +kernel) rfl
def so_side (Rel : lRel) : Prop := ∀ (I : zMi) (J : zMl) (K : zMi) (M : zMl), Rel I J K M → ∀ (a1 : Int32), ∃ (r : Int32) (I' : zMi) (K' : zMi), f_X3_side a1 I = some (r, I') ∧ f_X4_side a1 K = some (r, K') ∧ Rel I' J K' M
theorem mvX3_side : zMV yX3_side cX3_side 4 (some .int) 1 := ⟨⟨by decide, by decide, by decide +kernel⟩, zmem 596 (by decide +kernel) rfl, zmem 67 (by decide +kernel) rfl, zmem 594 (by decide +kernel) rfl, zmem 595 (by decide +kernel) rfl⟩
theorem mvX4_side : zMV yX4_side cX4_side 6 (some .int) 1 := ⟨⟨by decide, by decide, by decide +kernel⟩, zmem 1132 (by decide +kernel) rfl, zmem 71 (by decide +kernel) rfl, zmem 1130 (by decide +kernel) rfl, zmem 1131 (by decide +kernel) rfl⟩
theorem wL_140 : Cond.methodLink R_law 140 yX3_side ∈ zGT := zmem 593 (by decide +kernel) rfl
theorem wL_143 : Cond.methodLink R_law 143 yX4_side ∈ zGT := zmem 1129 (by decide +kernel) rfl
def so_cancels (Rel : lRel) : Prop := ∀ (I : zMi) (J : zMl) (K : zMi) (M : zMl), Rel I J K M → ∀ (a1 : Int32) (a2 : Int32) (a3 : Int32), (a3 = 0 ∨ a3 = 1) → ∃ (r : Int32) (I' : zMi) (K' : zMi), f_X3_cancels a1 a2 a3 I = some (r, I') ∧ f_X4_cancels a1 a2 a3 K = some (r, K') ∧ Rel I' J K' M
theorem mvX3_cancels : zMV yX3_cancels cX3_cancels 7 (some .int) 3 := ⟨⟨by decide, by decide, by decide +kernel⟩, zmem 605 (by decide +kernel) rfl, zmem 67 (by decide +kernel) rfl, zmem 603 (by decide +kernel) rfl, zmem 604 (by decide +kernel) rfl⟩
theorem mvX4_cancels : zMV yX4_cancels cX4_cancels 5 (some .int) 3 := ⟨⟨by decide, by decide, by decide +kernel⟩, zmem 1136 (by decide +kernel) rfl, zmem 71 (by decide +kernel) rfl, zmem 1134 (by decide +kernel) rfl, zmem 1135 (by decide +kernel) rfl⟩
theorem wL_144 : Cond.methodLink R_law 144 yX3_cancels ∈ zGT := zmem 602 (by decide +kernel) rfl
theorem wL_147 : Cond.methodLink R_law 147 yX4_cancels ∈ zGT := zmem 1133 (by decide +kernel) rfl
def so_pairs (Rel : lRel) : Prop := ∀ (I : zMi) (J : zMl) (K : zMi) (M : zMl), Rel I J K M → ∀ (a1 : Int32), ∃ (r : Int32) (J' : zMl) (K' : zMi), f_X3_pairs a1 J = some (r, J') ∧ f_X4_pairs a1 K = some (r, K') ∧ Rel I J' K' M
theorem mvX3_pairs : zMV yX3_pairs cX3_pairs 6 (some .int) 1 := ⟨⟨by decide, by decide, by decide +kernel⟩, zmem 615 (by decide +kernel) rfl, zmem 67 (by decide +kernel) rfl, zmem 613 (by decide +kernel) rfl, zmem 614 (by decide +kernel) rfl⟩
theorem mvX4_pairs : zMV yX4_pairs cX4_pairs 7 (some .int) 1 := ⟨⟨by decide, by decide, by decide +kernel⟩, zmem 1148 (by decide +kernel) rfl, zmem 71 (by decide +kernel) rfl, zmem 1146 (by decide +kernel) rfl, zmem 1147 (by decide +kernel) rfl⟩
theorem wL_148 : Cond.methodLink R_law 148 yX3_pairs ∈ zGT := zmem 612 (by decide +kernel) rfl
theorem wL_151 : Cond.methodLink R_law 151 yX4_pairs ∈ zGT := zmem 1145 (by decide +kernel) rfl
def so_leastSide (Rel : lRel) : Prop := ∀ (I : zMi) (J : zMl) (K : zMi) (M : zMl), Rel I J K M → ∀ (a1 : Int32) (a2 : Int32), ∃ (r : Int32) (I' : zMi) (K' : zMi), f_X3_leastSide a1 a2 I = some (r, I') ∧ f_X4_leastSide a1 a2 K = some (r, K') ∧ Rel I' J K' M
theorem mvX3_leastSide : zMV yX3_leastSide cX3_leastSide 7 (some .int) 2 := ⟨⟨by decide, by decide, by decide +kernel⟩, zmem 623 (by decide +kernel) rfl, zmem 67 (by decide +kernel) rfl, zmem 621 (by decide +kernel) rfl, zmem 622 (by decide +kernel) rfl⟩
theorem mvX4_leastSide : zMV yX4_leastSide cX4_leastSide 9 (some .int) 2 := ⟨⟨by decide, by decide, by decide +kernel⟩, zmem 1158 (by decide +kernel) rfl, zmem 71 (by decide +kernel) rfl, zmem 1156 (by decide +kernel) rfl, zmem 1157 (by decide +kernel) rfl⟩
theorem wL_152 : Cond.methodLink R_law 152 yX3_leastSide ∈ zGT := zmem 620 (by decide +kernel) rfl
theorem wL_155 : Cond.methodLink R_law 155 yX4_leastSide ∈ zGT := zmem 1155 (by decide +kernel) rfl
def so_longer (Rel : lRel) : Prop := ∀ (I : zMi) (J : zMl) (K : zMi) (M : zMl), Rel I J K M → ∀ (a1 : Int32) (a2 : Int32) (a3 : Int32) (a4 : Int32), ∃ (r : Int32) (I' : zMi) (K' : zMi), f_X3_longer a1 a2 a3 a4 I = some (r, I') ∧ f_X4_longer a1 a2 a3 a4 K = some (r, K') ∧ Rel I' J K' M
theorem mvX3_longer : zMV yX3_longer cX3_longer 11 (some .int) 4 := ⟨⟨by decide, by decide, by decide +kernel⟩, zmem 627 (by decide +kernel) rfl, zmem 67 (by decide +kernel) rfl, zmem 625 (by decide +kernel) rfl, zmem 626 (by decide +kernel) rfl⟩
theorem mvX4_longer : zMV yX4_longer cX4_longer 8 (some .int) 4 := ⟨⟨by decide, by decide, by decide +kernel⟩, zmem 1162 (by decide +kernel) rfl, zmem 71 (by decide +kernel) rfl, zmem 1160 (by decide +kernel) rfl, zmem 1161 (by decide +kernel) rfl⟩
theorem wL_156 : Cond.methodLink R_law 156 yX3_longer ∈ zGT := zmem 624 (by decide +kernel) rfl
theorem wL_160 : Cond.methodLink R_law 160 yX4_longer ∈ zGT := zmem 1159 (by decide +kernel) rfl
def so_switched (Rel : lRel) : Prop := ∀ (I : zMi) (J : zMl) (K : zMi) (M : zMl), Rel I J K M → ∀ (a1 : Int32) (a2 : Int32), ∃ (r : Int32) (I' : zMi) (K' : zMi), f_X3_switched a1 a2 I = some (r, I') ∧ f_X4_switched a1 a2 K = some (r, K') ∧ Rel I' J K' M
theorem mvX3_switched : zMV yX3_switched cX3_switched 5 (some .int) 2 := ⟨⟨by decide, by decide, by decide +kernel⟩, zmem 631 (by decide +kernel) rfl, zmem 67 (by decide +kernel) rfl, zmem 629 (by decide +kernel) rfl, zmem 630 (by decide +kernel) rfl⟩
theorem mvX4_switched : zMV yX4_switched cX4_switched 5 (some .int) 2 := ⟨⟨by decide, by decide, by decide +kernel⟩, zmem 1166 (by decide +kernel) rfl, zmem 71 (by decide +kernel) rfl, zmem 1164 (by decide +kernel) rfl, zmem 1165 (by decide +kernel) rfl⟩
theorem wL_161 : Cond.methodLink R_law 161 yX3_switched ∈ zGT := zmem 628 (by decide +kernel) rfl
theorem wL_164 : Cond.methodLink R_law 164 yX4_switched ∈ zGT := zmem 1163 (by decide +kernel) rfl
def so_odd (Rel : lRel) : Prop := ∀ (I : zMi) (J : zMl) (K : zMi) (M : zMl), Rel I J K M → ∀ (a1 : Int32), ∃ (r : Int32) (I' : zMi) (K' : zMi), f_X3_odd a1 I = some (r, I') ∧ f_X4_odd a1 K = some (r, K') ∧ Rel I' J K' M
theorem mvX3_odd : zMV yX3_odd cX3_odd 3 (some .int) 1 := ⟨⟨by decide, by decide, by decide +kernel⟩, zmem 646 (by decide +kernel) rfl, zmem 67 (by decide +kernel) rfl, zmem 644 (by decide +kernel) rfl, zmem 645 (by decide +kernel) rfl⟩
theorem mvX4_odd : zMV yX4_odd cX4_odd 7 (some .int) 1 := ⟨⟨by decide, by decide, by decide +kernel⟩, zmem 1174 (by decide +kernel) rfl, zmem 71 (by decide +kernel) rfl, zmem 1172 (by decide +kernel) rfl, zmem 1173 (by decide +kernel) rfl⟩
theorem wL_165 : Cond.methodLink R_law 165 yX3_odd ∈ zGT := zmem 643 (by decide +kernel) rfl
theorem wL_168 : Cond.methodLink R_law 168 yX4_odd ∈ zGT := zmem 1171 (by decide +kernel) rfl
def so_alike (Rel : lRel) : Prop := ∀ (I : zMi) (J : zMl) (K : zMi) (M : zMl), Rel I J K M → ∀ (a1 : Int32) (a2 : Int32), ∃ (r : Int32) (I' : zMi) (K' : zMi), f_X3_alike a1 a2 I = some (r, I') ∧ f_X4_alike a1 a2 K = some (r, K') ∧ Rel I' J K' M
theorem mvX3_alike : zMV yX3_alike cX3_alike 6 (some .int) 2 := ⟨⟨by decide, by decide, by decide +kernel⟩, zmem 654 (by decide +kernel) rfl, zmem 67 (by decide +kernel) rfl, zmem 652 (by decide +kernel) rfl, zmem 653 (by decide +kernel) rfl⟩
theorem mvX4_alike : zMV yX4_alike cX4_alike 8 (some .int) 2 := ⟨⟨by decide, by decide, by decide +kernel⟩, zmem 1182 (by decide +kernel) rfl, zmem 71 (by decide +kernel) rfl, zmem 1180 (by decide +kernel) rfl, zmem 1181 (by decide +kernel) rfl⟩
theorem wL_169 : Cond.methodLink R_law 169 yX3_alike ∈ zGT := zmem 651 (by decide +kernel) rfl
theorem wL_172 : Cond.methodLink R_law 172 yX4_alike ∈ zGT := zmem 1179 (by decide +kernel) rfl
def so_fewest (Rel : lRel) : Prop := ∀ (I : zMi) (J : zMl) (K : zMi) (M : zMl), Rel I J K M → ∀ (a1 : Int32), ∃ (r : Int32) (I' : zMi) (K' : zMi), f_X3_fewest a1 I = some (r, I') ∧ f_X4_fewest a1 K = some (r, K') ∧ Rel I' J K' M
theorem mvX3_fewest : zMV yX3_fewest cX3_fewest 7 (some .int) 1 := ⟨⟨by decide, by decide, by decide +kernel⟩, zmem 662 (by decide +kernel) rfl, zmem 67 (by decide +kernel) rfl, zmem 660 (by decide +kernel) rfl, zmem 661 (by decide +kernel) rfl⟩
theorem mvX4_fewest : zMV yX4_fewest cX4_fewest 9 (some .int) 1 := ⟨⟨by decide, by decide, by decide +kernel⟩, zmem 1186 (by decide +kernel) rfl, zmem 71 (by decide +kernel) rfl, zmem 1184 (by decide +kernel) rfl, zmem 1185 (by decide +kernel) rfl⟩
theorem wL_173 : Cond.methodLink R_law 173 yX3_fewest ∈ zGT := zmem 659 (by decide +kernel) rfl
theorem wL_176 : Cond.methodLink R_law 176 yX4_fewest ∈ zGT := zmem 1183 (by decide +kernel) rfl
def so_even (Rel : lRel) : Prop := ∀ (I : zMi) (J : zMl) (K : zMi) (M : zMl), Rel I J K M → ∀ (a1 : Int32) (a2 : Int32), ∃ (r : Int32) (I' : zMi) (K' : zMi), f_X3_even a1 a2 I = some (r, I') ∧ f_X4_even a1 a2 K = some (r, K') ∧ Rel I' J K' M
theorem mvX3_even : zMV yX3_even cX3_even 4 (some .int) 2 := ⟨⟨by decide, by decide, by decide +kernel⟩, zmem 670 (by decide +kernel) rfl, zmem 67 (by decide +kernel) rfl, zmem 668 (by decide +kernel) rfl, zmem 669 (by decide +kernel) rfl⟩
theorem mvX4_even : zMV yX4_even cX4_even 4 (some .int) 2 := ⟨⟨by decide, by decide, by decide +kernel⟩, zmem 1190 (by decide +kernel) rfl, zmem 71 (by decide +kernel) rfl, zmem 1188 (by decide +kernel) rfl, zmem 1189 (by decide +kernel) rfl⟩
theorem wL_177 : Cond.methodLink R_law 177 yX3_even ∈ zGT := zmem 667 (by decide +kernel) rfl
theorem wL_180 : Cond.methodLink R_law 180 yX4_even ∈ zGT := zmem 1187 (by decide +kernel) rfl
def so_own (Rel : lRel) : Prop := ∀ (I : zMi) (J : zMl) (K : zMi) (M : zMl), Rel I J K M → ∀ (a1 : Int32) (a2 : Int32), ∃ (r : Int32) (I' : zMi) (J' : zMl) (K' : zMi) (M' : zMl), f_X3_own a1 a2 I J = some (r, I', J') ∧ f_X4_own a1 a2 K M = some (r, K', M') ∧ Rel I' J' K' M'
theorem mvX3_own : zMV yX3_own cX3_own 3 (some .int) 2 := ⟨⟨by decide, by decide, by decide +kernel⟩, zmem 675 (by decide +kernel) rfl, zmem 67 (by decide +kernel) rfl, zmem 673 (by decide +kernel) rfl, zmem 674 (by decide +kernel) rfl⟩
theorem mvX4_own : zMV yX4_own cX4_own 6 (some .int) 2 := ⟨⟨by decide, by decide, by decide +kernel⟩, zmem 1194 (by decide +kernel) rfl, zmem 71 (by decide +kernel) rfl, zmem 1192 (by decide +kernel) rfl, zmem 1193 (by decide +kernel) rfl⟩
theorem wL_181 : Cond.methodLink R_law 181 yX3_own ∈ zGT := zmem 672 (by decide +kernel) rfl
theorem wL_184 : Cond.methodLink R_law 184 yX4_own ∈ zGT := zmem 1191 (by decide +kernel) rfl
def so_form (Rel : lRel) : Prop := ∀ (I : zMi) (J : zMl) (K : zMi) (M : zMl), Rel I J K M → ∀ (a1 : Int32) (a2 : Int32), ∃ (r : Int32) (I' : zMi) (J' : zMl) (K' : zMi) (M' : zMl), f_X3_form a1 a2 I J = some (r, I', J') ∧ f_X4_form a1 a2 K M = some (r, K', M') ∧ Rel I' J' K' M'
theorem mvX3_form : zMV yX3_form cX3_form 4 (some .int) 2 := ⟨⟨by decide, by decide, by decide +kernel⟩, zmem 691 (by decide +kernel) rfl, zmem 67 (by decide +kernel) rfl, zmem 689 (by decide +kernel) rfl, zmem 690 (by decide +kernel) rfl⟩
theorem mvX4_form : zMV yX4_form cX4_form 4 (some .int) 2 := ⟨⟨by decide, by decide, by decide +kernel⟩, zmem 1207 (by decide +kernel) rfl, zmem 71 (by decide +kernel) rfl, zmem 1205 (by decide +kernel) rfl, zmem 1206 (by decide +kernel) rfl⟩
theorem wL_185 : Cond.methodLink R_law 185 yX3_form ∈ zGT := zmem 688 (by decide +kernel) rfl
theorem wL_188 : Cond.methodLink R_law 188 yX4_form ∈ zGT := zmem 1204 (by decide +kernel) rfl
def so_weight (Rel : lRel) : Prop := ∀ (I : zMi) (J : zMl) (K : zMi) (M : zMl), Rel I J K M → ∀ (a1 : Int32), ∃ (r : Int32) (I' : zMi) (J' : zMl) (K' : zMi) (M' : zMl), f_X3_weight a1 I J = some (r, I', J') ∧ f_X4_weight a1 K M = some (r, K', M') ∧ Rel I' J' K' M'
theorem mvX3_weight : zMV yX3_weight cX3_weight 3 (some .int) 1 := ⟨⟨by decide, by decide, by decide +kernel⟩, zmem 695 (by decide +kernel) rfl, zmem 67 (by decide +kernel) rfl, zmem 693 (by decide +kernel) rfl, zmem 694 (by decide +kernel) rfl⟩
theorem mvX4_weight : zMV yX4_weight cX4_weight 10 (some .int) 1 := ⟨⟨by decide, by decide, by decide +kernel⟩, zmem 1211 (by decide +kernel) rfl, zmem 71 (by decide +kernel) rfl, zmem 1209 (by decide +kernel) rfl, zmem 1210 (by decide +kernel) rfl⟩
theorem wL_189 : Cond.methodLink R_law 189 yX3_weight ∈ zGT := zmem 692 (by decide +kernel) rfl
theorem wL_192 : Cond.methodLink R_law 192 yX4_weight ∈ zGT := zmem 1208 (by decide +kernel) rfl
def so_worthTold (Rel : lRel) : Prop := ∀ (I : zMi) (J : zMl) (K : zMi) (M : zMl), Rel I J K M → ∃ (r : Int64), f_X3_worthTold J = r ∧ f_X4_worthTold M = r ∧ Rel I J K M
theorem mvX3_worthTold : zMV yX3_worthTold cX3_worthTold 1 (some .long) 0 := ⟨⟨by decide, by decide, by decide +kernel⟩, zmem 703 (by decide +kernel) rfl, zmem 67 (by decide +kernel) rfl, zmem 701 (by decide +kernel) rfl, zmem 702 (by decide +kernel) rfl⟩
theorem mvX4_worthTold : zMV yX4_worthTold cX4_worthTold 1 (some .long) 0 := ⟨⟨by decide, by decide, by decide +kernel⟩, zmem 1215 (by decide +kernel) rfl, zmem 71 (by decide +kernel) rfl, zmem 1213 (by decide +kernel) rfl, zmem 1214 (by decide +kernel) rfl⟩
theorem wL_193 : Cond.methodLink R_law 193 yX3_worthTold ∈ zGT := zmem 700 (by decide +kernel) rfl
theorem wL_197 : Cond.methodLink R_law 197 yX4_worthTold ∈ zGT := zmem 1212 (by decide +kernel) rfl
def so_asked (Rel : lRel) : Prop := ∀ (I : zMi) (J : zMl) (K : zMi) (M : zMl), Rel I J K M → ∃ (r : Int32), f_X3_asked I = r ∧ f_X4_asked K = r ∧ Rel I J K M
theorem mvX3_asked : zMV yX3_asked cX3_asked 1 (some .int) 0 := ⟨⟨by decide, by decide, by decide +kernel⟩, zmem 707 (by decide +kernel) rfl, zmem 67 (by decide +kernel) rfl, zmem 705 (by decide +kernel) rfl, zmem 706 (by decide +kernel) rfl⟩
theorem mvX4_asked : zMV yX4_asked cX4_asked 1 (some .int) 0 := ⟨⟨by decide, by decide, by decide +kernel⟩, zmem 1219 (by decide +kernel) rfl, zmem 71 (by decide +kernel) rfl, zmem 1217 (by decide +kernel) rfl, zmem 1218 (by decide +kernel) rfl⟩
theorem wL_198 : Cond.methodLink R_law 198 yX3_asked ∈ zGT := zmem 704 (by decide +kernel) rfl
theorem wL_202 : Cond.methodLink R_law 202 yX4_asked ∈ zGT := zmem 1216 (by decide +kernel) rfl
def so_upper (Rel : lRel) : Prop := ∀ (I : zMi) (J : zMl) (K : zMi) (M : zMl), Rel I J K M → ∃ (r : Int64), f_X3_upper J = r ∧ f_X4_upper M = r ∧ Rel I J K M
theorem mvX3_upper : zMV yX3_upper cX3_upper 1 (some .long) 0 := ⟨⟨by decide, by decide, by decide +kernel⟩, zmem 711 (by decide +kernel) rfl, zmem 67 (by decide +kernel) rfl, zmem 709 (by decide +kernel) rfl, zmem 710 (by decide +kernel) rfl⟩
theorem mvX4_upper : zMV yX4_upper cX4_upper 1 (some .long) 0 := ⟨⟨by decide, by decide, by decide +kernel⟩, zmem 1223 (by decide +kernel) rfl, zmem 71 (by decide +kernel) rfl, zmem 1221 (by decide +kernel) rfl, zmem 1222 (by decide +kernel) rfl⟩
theorem wL_203 : Cond.methodLink R_law 203 yX3_upper ∈ zGT := zmem 708 (by decide +kernel) rfl
theorem wL_206 : Cond.methodLink R_law 206 yX4_upper ∈ zGT := zmem 1220 (by decide +kernel) rfl
def so_lower (Rel : lRel) : Prop := ∀ (I : zMi) (J : zMl) (K : zMi) (M : zMl), Rel I J K M → ∃ (r : Int64), f_X3_lower J = r ∧ f_X4_lower M = r ∧ Rel I J K M
theorem mvX3_lower : zMV yX3_lower cX3_lower 1 (some .long) 0 := ⟨⟨by decide, by decide, by decide +kernel⟩, zmem 715 (by decide +kernel) rfl, zmem 67 (by decide +kernel) rfl, zmem 713 (by decide +kernel) rfl, zmem 714 (by decide +kernel) rfl⟩
theorem mvX4_lower : zMV yX4_lower cX4_lower 1 (some .long) 0 := ⟨⟨by decide, by decide, by decide +kernel⟩, zmem 1227 (by decide +kernel) rfl, zmem 71 (by decide +kernel) rfl, zmem 1225 (by decide +kernel) rfl, zmem 1226 (by decide +kernel) rfl⟩
theorem wL_207 : Cond.methodLink R_law 207 yX3_lower ∈ zGT := zmem 712 (by decide +kernel) rfl
theorem wL_210 : Cond.methodLink R_law 210 yX4_lower ∈ zGT := zmem 1224 (by decide +kernel) rfl
def so_count (Rel : lRel) : Prop := ∀ (I : zMi) (J : zMl) (K : zMi) (M : zMl), Rel I J K M → ∀ (a1 : Int32), ∃ (r : Int32), f_X3_count a1 I = some r ∧ f_X4_count a1 K = some r ∧ Rel I J K M
theorem mvX3_count : zMV yX3_count cX3_count 2 (some .int) 1 := ⟨⟨by decide, by decide, by decide +kernel⟩, zmem 719 (by decide +kernel) rfl, zmem 67 (by decide +kernel) rfl, zmem 717 (by decide +kernel) rfl, zmem 718 (by decide +kernel) rfl⟩
theorem mvX4_count : zMV yX4_count cX4_count 5 (some .int) 1 := ⟨⟨by decide, by decide, by decide +kernel⟩, zmem 1231 (by decide +kernel) rfl, zmem 71 (by decide +kernel) rfl, zmem 1229 (by decide +kernel) rfl, zmem 1230 (by decide +kernel) rfl⟩
theorem wL_211 : Cond.methodLink R_law 211 yX3_count ∈ zGT := zmem 716 (by decide +kernel) rfl
theorem wL_214 : Cond.methodLink R_law 214 yX4_count ∈ zGT := zmem 1228 (by decide +kernel) rfl
def so_finding (Rel : lRel) : Prop := ∀ (I : zMi) (J : zMl) (K : zMi) (M : zMl), Rel I J K M → ∃ (r : Int32), f_X3_finding I = r ∧ f_X4_finding K = r ∧ Rel I J K M
theorem mvX3_finding : zMV yX3_finding cX3_finding 1 (some .int) 0 := ⟨⟨by decide, by decide, by decide +kernel⟩, zmem 731 (by decide +kernel) rfl, zmem 67 (by decide +kernel) rfl, zmem 729 (by decide +kernel) rfl, zmem 730 (by decide +kernel) rfl⟩
theorem mvX4_finding : zMV yX4_finding cX4_finding 1 (some .int) 0 := ⟨⟨by decide, by decide, by decide +kernel⟩, zmem 1235 (by decide +kernel) rfl, zmem 71 (by decide +kernel) rfl, zmem 1233 (by decide +kernel) rfl, zmem 1234 (by decide +kernel) rfl⟩
theorem wL_215 : Cond.methodLink R_law 215 yX3_finding ∈ zGT := zmem 728 (by decide +kernel) rfl
theorem wL_218 : Cond.methodLink R_law 218 yX4_finding ∈ zGT := zmem 1232 (by decide +kernel) rfl
def so_findings (Rel : lRel) : Prop := ∀ (I : zMi) (J : zMl) (K : zMi) (M : zMl), Rel I J K M → ∀ (a1 : Int32), ∃ (r : Int32), f_X3_findings a1 I = some r ∧ f_X4_findings a1 K = some r ∧ Rel I J K M
theorem mvX3_findings : zMV yX3_findings cX3_findings 2 (some .int) 1 := ⟨⟨by decide, by decide, by decide +kernel⟩, zmem 735 (by decide +kernel) rfl, zmem 67 (by decide +kernel) rfl, zmem 733 (by decide +kernel) rfl, zmem 734 (by decide +kernel) rfl⟩
theorem mvX4_findings : zMV yX4_findings cX4_findings 2 (some .int) 1 := ⟨⟨by decide, by decide, by decide +kernel⟩, zmem 1239 (by decide +kernel) rfl, zmem 71 (by decide +kernel) rfl, zmem 1237 (by decide +kernel) rfl, zmem 1238 (by decide +kernel) rfl⟩
theorem wL_219 : Cond.methodLink R_law 219 yX3_findings ∈ zGT := zmem 732 (by decide +kernel) rfl
theorem wL_222 : Cond.methodLink R_law 222 yX4_findings ∈ zGT := zmem 1236 (by decide +kernel) rfl
def so_digest (Rel : lRel) : Prop := ∀ (I : zMi) (J : zMl) (K : zMi) (M : zMl), Rel I J K M → ∃ (r : Int64) (M' : zMl), f_X3_digest I = some r ∧ f_X4_digest K M = some (r, M') ∧ Rel I J K M'
theorem mvX3_digest : zMV yX3_digest cX3_digest 4 (some .long) 0 := ⟨⟨by decide, by decide, by decide +kernel⟩, zmem 739 (by decide +kernel) rfl, zmem 67 (by decide +kernel) rfl, zmem 737 (by decide +kernel) rfl, zmem 738 (by decide +kernel) rfl⟩
theorem mvX4_digest : zMV yX4_digest cX4_digest 4 (some .long) 0 := ⟨⟨by decide, by decide, by decide +kernel⟩, zmem 1243 (by decide +kernel) rfl, zmem 71 (by decide +kernel) rfl, zmem 1241 (by decide +kernel) rfl, zmem 1242 (by decide +kernel) rfl⟩
theorem wL_223 : Cond.methodLink R_law 223 yX3_digest ∈ zGT := zmem 736 (by decide +kernel) rfl
theorem wL_226 : Cond.methodLink R_law 226 yX4_digest ∈ zGT := zmem 1240 (by decide +kernel) rfl
def so_all (Rel : lRel) : Prop := so_row Rel ∧ so_lay Rel ∧ so_tear Rel ∧ so_copy Rel ∧ so_mean Rel ∧ so_table Rel ∧ so_put Rel ∧ so_set Rel ∧ so_drop Rel ∧ so_at Rel ∧ so_told Rel ∧ so_mark Rel ∧ so_times Rel ∧ so_residues Rel ∧ so_bordered Rel ∧ so_four Rel ∧ so_turn Rel ∧ so_swap Rel ∧ so_flip Rel ∧ so_normal Rel ∧ so_worth Rel ∧ so_balanced Rel ∧ so_common Rel ∧ so_profile Rel ∧ so_mayBeLike Rel ∧ so_like Rel ∧ so_excess Rel ∧ so_peak Rel ∧ so_block Rel ∧ so_echo Rel ∧ so_side Rel ∧ so_cancels Rel ∧ so_pairs Rel ∧ so_leastSide Rel ∧ so_longer Rel ∧ so_switched Rel ∧ so_odd Rel ∧ so_alike Rel ∧ so_fewest Rel ∧ so_even Rel ∧ so_own Rel ∧ so_form Rel ∧ so_weight Rel ∧ so_worthTold Rel ∧ so_asked Rel ∧ so_upper Rel ∧ so_lower Rel ∧ so_count Rel ∧ so_finding Rel ∧ so_findings Rel ∧ so_digest Rel
theorem lc_row {β : lB} {D : va_G} {ad ad2 : Nat → Nat} {g : Nat → ClassId} (fx : lFX (lmk β D ad ad2 g)) {Rel : lRel} (hs : so_row Rel) {x : Int32} (hb : ∀ j : Nat, j < 6 → vp_in (x + nI j) (lL (lmk β D ad ad2 g))) (kk : ∀ (I : zMi) (J : zMl) (K : zMi) (M : zMl), Rel I J K M → lAt (lmk β D ad ad2 g) 1933 (llv β ad ad2 x) [] I J K M) {I : zMi} {J : zMl} {K : zMi} {M : zMl} (hR : Rel I J K M) : lAt (lmk β D ad ad2 g) 252 (llv β ad ad2 x) [] I J K M := by
  refine l_aload_n fx dL_252 rfl ?_
  refine l_aload_n fx dL_253 rfl ?_
  refine l_iload_n fx dL_254 rfl ?_
  refine l_iconst (v := nI 1) fx dL_255 (by decide) ?_
  refine l_iadd fx dL_256 ?_
  refine l_sld fx (hb 1 (by decide)) dL_257 ?_
  refine l_aload_n fx dL_258 rfl ?_
  refine l_iload_n fx dL_259 rfl ?_
  refine l_iconst (v := nI 2) fx dL_260 (by decide) ?_
  refine l_iadd fx dL_261 ?_
  refine l_sld fx (hb 2 (by decide)) dL_262 ?_
  obtain ⟨r, I9, K9, e1, e2, hR2⟩ := hs _ _ _ _ hR (lxs (lmk β D ad ad2 g) (x + nI 1).toNatClampNeg) (lxs (lmk β D ad ad2 g) (x + nI 2).toNatClampNeg) 
  refine l_call1 (k := 0) (rest := []) fx (c_X3_row (ll_ (lmk β D ad ad2 g)) D ad g (lxs (lmk β D ad ad2 g) (x + nI 1).toNatClampNeg) (lxs (lmk β D ad ad2 g) (x + nI 2).toNatClampNeg) I J e1) rcS mvX3_row wL_13 dL_263 rfl ⟨rfl, rfl⟩ rfl rfl rfl ?_
  refine l_aload_n fx dL_266 rfl ?_
  refine l_aload_n fx dL_267 rfl ?_
  refine l_iload_n fx dL_268 rfl ?_
  refine l_iconst (v := nI 1) fx dL_269 (by decide) ?_
  refine l_iadd fx dL_270 ?_
  refine l_sld fx (hb 1 (by decide)) dL_271 ?_
  refine l_aload_n fx dL_272 rfl ?_
  refine l_iload_n fx dL_273 rfl ?_
  refine l_iconst (v := nI 2) fx dL_274 (by decide) ?_
  refine l_iadd fx dL_275 ?_
  refine l_sld fx (hb 2 (by decide)) dL_276 ?_
  refine l_call2 (k := 0) (rest := [.int r]) fx (c_X4_row (ll_ (lmk β D ad ad2 g)) D ad2 g (lxs (lmk β D ad ad2 g) (x + nI 1).toNatClampNeg) (lxs (lmk β D ad ad2 g) (x + nI 2).toNatClampNeg) K M e2) rcM mvX4_row wL_17 dL_277 rfl ⟨rfl, rfl⟩ rfl rfl rfl ?_
  refine l_icmp_eq (tgt := 1933) fx dL_280 (by decide) (fun _ => ?_) (fun q8 => absurd rfl q8)
  exact kk _ _ _ _ hR2
theorem lc_lay {β : lB} {D : va_G} {ad ad2 : Nat → Nat} {g : Nat → ClassId} (fx : lFX (lmk β D ad ad2 g)) {Rel : lRel} (hs : so_lay Rel) {x : Int32} (hb : ∀ j : Nat, j < 6 → vp_in (x + nI j) (lL (lmk β D ad ad2 g))) (kk : ∀ (I : zMi) (J : zMl) (K : zMi) (M : zMl), Rel I J K M → lAt (lmk β D ad ad2 g) 1933 (llv β ad ad2 x) [] I J K M) {I : zMi} {J : zMl} {K : zMi} {M : zMl} (hR : Rel I J K M) : lAt (lmk β D ad ad2 g) 285 (llv β ad ad2 x) [] I J K M := by
  refine l_aload_n fx dL_285 rfl ?_
  refine l_aload_n fx dL_286 rfl ?_
  refine l_iload_n fx dL_287 rfl ?_
  refine l_iconst (v := nI 1) fx dL_288 (by decide) ?_
  refine l_iadd fx dL_289 ?_
  refine l_sld fx (hb 1 (by decide)) dL_290 ?_
  refine l_aload_n fx dL_291 rfl ?_
  refine l_iload_n fx dL_292 rfl ?_
  refine l_iconst (v := nI 2) fx dL_293 (by decide) ?_
  refine l_iadd fx dL_294 ?_
  refine l_sld fx (hb 2 (by decide)) dL_295 ?_
  refine l_aload_n fx dL_296 rfl ?_
  refine l_iload_n fx dL_297 rfl ?_
  refine l_iconst (v := nI 3) fx dL_298 (by decide) ?_
  refine l_iadd fx dL_299 ?_
  refine l_sld fx (hb 3 (by decide)) dL_300 ?_
  obtain ⟨r, I9, K9, e1, e2, hR2⟩ := hs _ _ _ _ hR (lxs (lmk β D ad ad2 g) (x + nI 1).toNatClampNeg) (lxs (lmk β D ad ad2 g) (x + nI 2).toNatClampNeg) (lxs (lmk β D ad ad2 g) (x + nI 3).toNatClampNeg) 
  refine l_call1 (k := 0) (rest := []) fx (c_X3_lay (ll_ (lmk β D ad ad2 g)) D ad g (lxs (lmk β D ad ad2 g) (x + nI 1).toNatClampNeg) (lxs (lmk β D ad ad2 g) (x + nI 2).toNatClampNeg) (lxs (lmk β D ad ad2 g) (x + nI 3).toNatClampNeg) I J e1) rcS mvX3_lay wL_18 dL_301 rfl ⟨rfl, rfl⟩ rfl rfl rfl ?_
  refine l_aload_n fx dL_304 rfl ?_
  refine l_aload_n fx dL_305 rfl ?_
  refine l_iload_n fx dL_306 rfl ?_
  refine l_iconst (v := nI 1) fx dL_307 (by decide) ?_
  refine l_iadd fx dL_308 ?_
  refine l_sld fx (hb 1 (by decide)) dL_309 ?_
  refine l_aload_n fx dL_310 rfl ?_
  refine l_iload_n fx dL_311 rfl ?_
  refine l_iconst (v := nI 2) fx dL_312 (by decide) ?_
  refine l_iadd fx dL_313 ?_
  refine l_sld fx (hb 2 (by decide)) dL_314 ?_
  refine l_aload_n fx dL_315 rfl ?_
  refine l_iload_n fx dL_316 rfl ?_
  refine l_iconst (v := nI 3) fx dL_317 (by decide) ?_
  refine l_iadd fx dL_318 ?_
  refine l_sld fx (hb 3 (by decide)) dL_319 ?_
  refine l_call2 (k := 0) (rest := [.int r]) fx (c_X4_lay (ll_ (lmk β D ad ad2 g)) D ad2 g (lxs (lmk β D ad ad2 g) (x + nI 1).toNatClampNeg) (lxs (lmk β D ad ad2 g) (x + nI 2).toNatClampNeg) (lxs (lmk β D ad ad2 g) (x + nI 3).toNatClampNeg) K M e2) rcM mvX4_lay wL_22 dL_320 rfl ⟨rfl, rfl⟩ rfl rfl rfl ?_
  refine l_icmp_eq (tgt := 1933) fx dL_323 (by decide) (fun _ => ?_) (fun q8 => absurd rfl q8)
  exact kk _ _ _ _ hR2
theorem lc_tear {β : lB} {D : va_G} {ad ad2 : Nat → Nat} {g : Nat → ClassId} (fx : lFX (lmk β D ad ad2 g)) {Rel : lRel} (hs : so_tear Rel) {x : Int32} (hb : ∀ j : Nat, j < 6 → vp_in (x + nI j) (lL (lmk β D ad ad2 g))) (kk : ∀ (I : zMi) (J : zMl) (K : zMi) (M : zMl), Rel I J K M → lAt (lmk β D ad ad2 g) 1933 (llv β ad ad2 x) [] I J K M) {I : zMi} {J : zMl} {K : zMi} {M : zMl} (hR : Rel I J K M) : lAt (lmk β D ad ad2 g) 328 (llv β ad ad2 x) [] I J K M := by
  refine l_aload_n fx dL_328 rfl ?_
  refine l_aload_n fx dL_329 rfl ?_
  refine l_iload_n fx dL_330 rfl ?_
  refine l_iconst (v := nI 1) fx dL_331 (by decide) ?_
  refine l_iadd fx dL_332 ?_
  refine l_sld fx (hb 1 (by decide)) dL_333 ?_
  obtain ⟨r, I9, K9, e1, e2, hR2⟩ := hs _ _ _ _ hR (lxs (lmk β D ad ad2 g) (x + nI 1).toNatClampNeg) 
  refine l_call1 (k := 0) (rest := []) fx (c_X3_tear (ll_ (lmk β D ad ad2 g)) D ad g (lxs (lmk β D ad ad2 g) (x + nI 1).toNatClampNeg) I J e1) rcS mvX3_tear wL_23 dL_334 rfl ⟨rfl, rfl⟩ rfl rfl rfl ?_
  refine l_aload_n fx dL_337 rfl ?_
  refine l_aload_n fx dL_338 rfl ?_
  refine l_iload_n fx dL_339 rfl ?_
  refine l_iconst (v := nI 1) fx dL_340 (by decide) ?_
  refine l_iadd fx dL_341 ?_
  refine l_sld fx (hb 1 (by decide)) dL_342 ?_
  refine l_call2 (k := 0) (rest := [.int r]) fx (c_X4_tear (ll_ (lmk β D ad ad2 g)) D ad2 g (lxs (lmk β D ad ad2 g) (x + nI 1).toNatClampNeg) K M e2) rcM mvX4_tear wL_27 dL_343 rfl ⟨rfl, rfl⟩ rfl rfl rfl ?_
  refine l_icmp_eq (tgt := 1933) fx dL_346 (by decide) (fun _ => ?_) (fun q8 => absurd rfl q8)
  exact kk _ _ _ _ hR2
theorem lc_copy {β : lB} {D : va_G} {ad ad2 : Nat → Nat} {g : Nat → ClassId} (fx : lFX (lmk β D ad ad2 g)) {Rel : lRel} (hs : so_copy Rel) {x : Int32} (hb : ∀ j : Nat, j < 6 → vp_in (x + nI j) (lL (lmk β D ad ad2 g))) (kk : ∀ (I : zMi) (J : zMl) (K : zMi) (M : zMl), Rel I J K M → lAt (lmk β D ad ad2 g) 1933 (llv β ad ad2 x) [] I J K M) {I : zMi} {J : zMl} {K : zMi} {M : zMl} (hR : Rel I J K M) : lAt (lmk β D ad ad2 g) 351 (llv β ad ad2 x) [] I J K M := by
  refine l_aload_n fx dL_351 rfl ?_
  refine l_aload_n fx dL_352 rfl ?_
  refine l_iload_n fx dL_353 rfl ?_
  refine l_iconst (v := nI 1) fx dL_354 (by decide) ?_
  refine l_iadd fx dL_355 ?_
  refine l_sld fx (hb 1 (by decide)) dL_356 ?_
  refine l_aload_n fx dL_357 rfl ?_
  refine l_iload_n fx dL_358 rfl ?_
  refine l_iconst (v := nI 2) fx dL_359 (by decide) ?_
  refine l_iadd fx dL_360 ?_
  refine l_sld fx (hb 2 (by decide)) dL_361 ?_
  refine l_aload_n fx dL_362 rfl ?_
  refine l_iload_n fx dL_363 rfl ?_
  refine l_iconst (v := nI 3) fx dL_364 (by decide) ?_
  refine l_iadd fx dL_365 ?_
  refine l_sld fx (hb 3 (by decide)) dL_366 ?_
  refine l_aload_n fx dL_367 rfl ?_
  refine l_iload_n fx dL_368 rfl ?_
  refine l_iconst (v := nI 4) fx dL_369 (by decide) ?_
  refine l_iadd fx dL_370 ?_
  refine l_sld fx (hb 4 (by decide)) dL_371 ?_
  refine l_aload_n fx dL_372 rfl ?_
  refine l_iload_n fx dL_373 rfl ?_
  refine l_iconst (v := nI 5) fx dL_374 (by decide) ?_
  refine l_iadd fx dL_375 ?_
  refine l_sld fx (hb 5 (by decide)) dL_376 ?_
  obtain ⟨r, I9, K9, e1, e2, hR2⟩ := hs _ _ _ _ hR (lxs (lmk β D ad ad2 g) (x + nI 1).toNatClampNeg) (lxs (lmk β D ad ad2 g) (x + nI 2).toNatClampNeg) (lxs (lmk β D ad ad2 g) (x + nI 3).toNatClampNeg) (lxs (lmk β D ad ad2 g) (x + nI 4).toNatClampNeg) (lxs (lmk β D ad ad2 g) (x + nI 5).toNatClampNeg) 
  refine l_call1 (k := 0) (rest := []) fx (c_X3_copy (ll_ (lmk β D ad ad2 g)) D ad g (lxs (lmk β D ad ad2 g) (x + nI 1).toNatClampNeg) (lxs (lmk β D ad ad2 g) (x + nI 2).toNatClampNeg) (lxs (lmk β D ad ad2 g) (x + nI 3).toNatClampNeg) (lxs (lmk β D ad ad2 g) (x + nI 4).toNatClampNeg) (lxs (lmk β D ad ad2 g) (x + nI 5).toNatClampNeg) I J e1) rcS mvX3_copy wL_28 dL_377 rfl ⟨rfl, rfl⟩ rfl rfl rfl ?_
  refine l_aload_n fx dL_380 rfl ?_
  refine l_aload_n fx dL_381 rfl ?_
  refine l_iload_n fx dL_382 rfl ?_
  refine l_iconst (v := nI 1) fx dL_383 (by decide) ?_
  refine l_iadd fx dL_384 ?_
  refine l_sld fx (hb 1 (by decide)) dL_385 ?_
  refine l_aload_n fx dL_386 rfl ?_
  refine l_iload_n fx dL_387 rfl ?_
  refine l_iconst (v := nI 2) fx dL_388 (by decide) ?_
  refine l_iadd fx dL_389 ?_
  refine l_sld fx (hb 2 (by decide)) dL_390 ?_
  refine l_aload_n fx dL_391 rfl ?_
  refine l_iload_n fx dL_392 rfl ?_
  refine l_iconst (v := nI 3) fx dL_393 (by decide) ?_
  refine l_iadd fx dL_394 ?_
  refine l_sld fx (hb 3 (by decide)) dL_395 ?_
  refine l_aload_n fx dL_396 rfl ?_
  refine l_iload_n fx dL_397 rfl ?_
  refine l_iconst (v := nI 4) fx dL_398 (by decide) ?_
  refine l_iadd fx dL_399 ?_
  refine l_sld fx (hb 4 (by decide)) dL_400 ?_
  refine l_aload_n fx dL_401 rfl ?_
  refine l_iload_n fx dL_402 rfl ?_
  refine l_iconst (v := nI 5) fx dL_403 (by decide) ?_
  refine l_iadd fx dL_404 ?_
  refine l_sld fx (hb 5 (by decide)) dL_405 ?_
  refine l_call2 (k := 0) (rest := [.int r]) fx (c_X4_copy (ll_ (lmk β D ad ad2 g)) D ad2 g (lxs (lmk β D ad ad2 g) (x + nI 1).toNatClampNeg) (lxs (lmk β D ad ad2 g) (x + nI 2).toNatClampNeg) (lxs (lmk β D ad ad2 g) (x + nI 3).toNatClampNeg) (lxs (lmk β D ad ad2 g) (x + nI 4).toNatClampNeg) (lxs (lmk β D ad ad2 g) (x + nI 5).toNatClampNeg) K M e2) rcM mvX4_copy wL_32 dL_406 rfl ⟨rfl, rfl⟩ rfl rfl rfl ?_
  refine l_icmp_eq (tgt := 1933) fx dL_409 (by decide) (fun _ => ?_) (fun q8 => absurd rfl q8)
  exact kk _ _ _ _ hR2
theorem lc_mean {β : lB} {D : va_G} {ad ad2 : Nat → Nat} {g : Nat → ClassId} (fx : lFX (lmk β D ad ad2 g)) {Rel : lRel} (hs : so_mean Rel) {x : Int32} (hb : ∀ j : Nat, j < 6 → vp_in (x + nI j) (lL (lmk β D ad ad2 g))) (kk : ∀ (I : zMi) (J : zMl) (K : zMi) (M : zMl), Rel I J K M → lAt (lmk β D ad ad2 g) 1933 (llv β ad ad2 x) [] I J K M) {I : zMi} {J : zMl} {K : zMi} {M : zMl} (hR : Rel I J K M) : lAt (lmk β D ad ad2 g) 414 (llv β ad ad2 x) [] I J K M := by
  refine l_aload_n fx dL_414 rfl ?_
  refine l_aload_n fx dL_415 rfl ?_
  refine l_iload_n fx dL_416 rfl ?_
  refine l_iconst (v := nI 1) fx dL_417 (by decide) ?_
  refine l_iadd fx dL_418 ?_
  refine l_sld fx (hb 1 (by decide)) dL_419 ?_
  obtain ⟨r, I9, K9, e1, e2, hR2⟩ := hs _ _ _ _ hR (lxs (lmk β D ad ad2 g) (x + nI 1).toNatClampNeg) 
  refine l_call1 (k := 0) (rest := []) fx (c_X3_mean (ll_ (lmk β D ad ad2 g)) D ad g (lxs (lmk β D ad ad2 g) (x + nI 1).toNatClampNeg) I J e1) rcS mvX3_mean wL_33 dL_420 rfl ⟨rfl, rfl⟩ rfl rfl rfl ?_
  refine l_aload_n fx dL_423 rfl ?_
  refine l_aload_n fx dL_424 rfl ?_
  refine l_iload_n fx dL_425 rfl ?_
  refine l_iconst (v := nI 1) fx dL_426 (by decide) ?_
  refine l_iadd fx dL_427 ?_
  refine l_sld fx (hb 1 (by decide)) dL_428 ?_
  refine l_call2 (k := 0) (rest := [.int r]) fx (c_X4_mean (ll_ (lmk β D ad ad2 g)) D ad2 g (lxs (lmk β D ad ad2 g) (x + nI 1).toNatClampNeg) K M e2) rcM mvX4_mean wL_36 dL_429 rfl ⟨rfl, rfl⟩ rfl rfl rfl ?_
  refine l_icmp_eq (tgt := 1933) fx dL_432 (by decide) (fun _ => ?_) (fun q8 => absurd rfl q8)
  exact kk _ _ _ _ hR2
theorem lc_table {β : lB} {D : va_G} {ad ad2 : Nat → Nat} {g : Nat → ClassId} (fx : lFX (lmk β D ad ad2 g)) {Rel : lRel} (hs : so_table Rel) {x : Int32} (hb : ∀ j : Nat, j < 6 → vp_in (x + nI j) (lL (lmk β D ad ad2 g))) (kk : ∀ (I : zMi) (J : zMl) (K : zMi) (M : zMl), Rel I J K M → lAt (lmk β D ad ad2 g) 1933 (llv β ad ad2 x) [] I J K M) {I : zMi} {J : zMl} {K : zMi} {M : zMl} (hR : Rel I J K M) : lAt (lmk β D ad ad2 g) 437 (llv β ad ad2 x) [] I J K M := by
  refine l_aload_n fx dL_437 rfl ?_
  refine l_aload_n fx dL_438 rfl ?_
  refine l_iload_n fx dL_439 rfl ?_
  refine l_iconst (v := nI 1) fx dL_440 (by decide) ?_
  refine l_iadd fx dL_441 ?_
  refine l_sld fx (hb 1 (by decide)) dL_442 ?_
  refine l_aload_n fx dL_443 rfl ?_
  refine l_iload_n fx dL_444 rfl ?_
  refine l_iconst (v := nI 2) fx dL_445 (by decide) ?_
  refine l_iadd fx dL_446 ?_
  refine l_sld fx (hb 2 (by decide)) dL_447 ?_
  obtain ⟨r, I9, K9, e1, e2, hR2⟩ := hs _ _ _ _ hR (lxs (lmk β D ad ad2 g) (x + nI 1).toNatClampNeg) (lxs (lmk β D ad ad2 g) (x + nI 2).toNatClampNeg) 
  refine l_call1 (k := 0) (rest := []) fx (c_X3_table (ll_ (lmk β D ad ad2 g)) D ad g (lxs (lmk β D ad ad2 g) (x + nI 1).toNatClampNeg) (lxs (lmk β D ad ad2 g) (x + nI 2).toNatClampNeg) I J e1) rcS mvX3_table wL_37 dL_448 rfl ⟨rfl, rfl⟩ rfl rfl rfl ?_
  refine l_aload_n fx dL_451 rfl ?_
  refine l_aload_n fx dL_452 rfl ?_
  refine l_iload_n fx dL_453 rfl ?_
  refine l_iconst (v := nI 1) fx dL_454 (by decide) ?_
  refine l_iadd fx dL_455 ?_
  refine l_sld fx (hb 1 (by decide)) dL_456 ?_
  refine l_aload_n fx dL_457 rfl ?_
  refine l_iload_n fx dL_458 rfl ?_
  refine l_iconst (v := nI 2) fx dL_459 (by decide) ?_
  refine l_iadd fx dL_460 ?_
  refine l_sld fx (hb 2 (by decide)) dL_461 ?_
  refine l_call2 (k := 0) (rest := [.int r]) fx (c_X4_table (ll_ (lmk β D ad ad2 g)) D ad2 g (lxs (lmk β D ad ad2 g) (x + nI 1).toNatClampNeg) (lxs (lmk β D ad ad2 g) (x + nI 2).toNatClampNeg) K M e2) rcM mvX4_table wL_40 dL_462 rfl ⟨rfl, rfl⟩ rfl rfl rfl ?_
  refine l_icmp_eq (tgt := 1933) fx dL_465 (by decide) (fun _ => ?_) (fun q8 => absurd rfl q8)
  exact kk _ _ _ _ hR2
theorem lc_put {β : lB} {D : va_G} {ad ad2 : Nat → Nat} {g : Nat → ClassId} (fx : lFX (lmk β D ad ad2 g)) {Rel : lRel} (hs : so_put Rel) {x : Int32} (hb : ∀ j : Nat, j < 6 → vp_in (x + nI j) (lL (lmk β D ad ad2 g))) (kk : ∀ (I : zMi) (J : zMl) (K : zMi) (M : zMl), Rel I J K M → lAt (lmk β D ad ad2 g) 1933 (llv β ad ad2 x) [] I J K M) {I : zMi} {J : zMl} {K : zMi} {M : zMl} (hR : Rel I J K M) : lAt (lmk β D ad ad2 g) 470 (llv β ad ad2 x) [] I J K M := by
  refine l_aload_n fx dL_470 rfl ?_
  refine l_aload_n fx dL_471 rfl ?_
  refine l_iload_n fx dL_472 rfl ?_
  refine l_iconst (v := nI 1) fx dL_473 (by decide) ?_
  refine l_iadd fx dL_474 ?_
  refine l_sld fx (hb 1 (by decide)) dL_475 ?_
  refine l_aload_n fx dL_476 rfl ?_
  refine l_iload_n fx dL_477 rfl ?_
  refine l_iconst (v := nI 2) fx dL_478 (by decide) ?_
  refine l_iadd fx dL_479 ?_
  refine l_sld fx (hb 2 (by decide)) dL_480 ?_
  refine l_aload_n fx dL_481 rfl ?_
  refine l_iload_n fx dL_482 rfl ?_
  refine l_iconst (v := nI 3) fx dL_483 (by decide) ?_
  refine l_iadd fx dL_484 ?_
  refine l_sld fx (hb 3 (by decide)) dL_485 ?_
  obtain ⟨r, I9, K9, e1, e2, hR2⟩ := hs _ _ _ _ hR (lxs (lmk β D ad ad2 g) (x + nI 1).toNatClampNeg) (lxs (lmk β D ad ad2 g) (x + nI 2).toNatClampNeg) (lxs (lmk β D ad ad2 g) (x + nI 3).toNatClampNeg) 
  refine l_call1 (k := 0) (rest := []) fx (c_X3_put (ll_ (lmk β D ad ad2 g)) D ad g (lxs (lmk β D ad ad2 g) (x + nI 1).toNatClampNeg) (lxs (lmk β D ad ad2 g) (x + nI 2).toNatClampNeg) (lxs (lmk β D ad ad2 g) (x + nI 3).toNatClampNeg) I J e1) rcS mvX3_put wL_41 dL_486 rfl ⟨rfl, rfl⟩ rfl rfl rfl ?_
  refine l_aload_n fx dL_489 rfl ?_
  refine l_aload_n fx dL_490 rfl ?_
  refine l_iload_n fx dL_491 rfl ?_
  refine l_iconst (v := nI 1) fx dL_492 (by decide) ?_
  refine l_iadd fx dL_493 ?_
  refine l_sld fx (hb 1 (by decide)) dL_494 ?_
  refine l_aload_n fx dL_495 rfl ?_
  refine l_iload_n fx dL_496 rfl ?_
  refine l_iconst (v := nI 2) fx dL_497 (by decide) ?_
  refine l_iadd fx dL_498 ?_
  refine l_sld fx (hb 2 (by decide)) dL_499 ?_
  refine l_aload_n fx dL_500 rfl ?_
  refine l_iload_n fx dL_501 rfl ?_
  refine l_iconst (v := nI 3) fx dL_502 (by decide) ?_
  refine l_iadd fx dL_503 ?_
  refine l_sld fx (hb 3 (by decide)) dL_504 ?_
  refine l_call2 (k := 0) (rest := [.int r]) fx (c_X4_put (ll_ (lmk β D ad ad2 g)) D ad2 g (lxs (lmk β D ad ad2 g) (x + nI 1).toNatClampNeg) (lxs (lmk β D ad ad2 g) (x + nI 2).toNatClampNeg) (lxs (lmk β D ad ad2 g) (x + nI 3).toNatClampNeg) K M e2) rcM mvX4_put wL_44 dL_505 rfl ⟨rfl, rfl⟩ rfl rfl rfl ?_
  refine l_icmp_eq (tgt := 1933) fx dL_508 (by decide) (fun _ => ?_) (fun q8 => absurd rfl q8)
  exact kk _ _ _ _ hR2
theorem lc_set {β : lB} {D : va_G} {ad ad2 : Nat → Nat} {g : Nat → ClassId} (fx : lFX (lmk β D ad ad2 g)) {Rel : lRel} (hs : so_set Rel) {x : Int32} (hb : ∀ j : Nat, j < 6 → vp_in (x + nI j) (lL (lmk β D ad ad2 g))) (kk : ∀ (I : zMi) (J : zMl) (K : zMi) (M : zMl), Rel I J K M → lAt (lmk β D ad ad2 g) 1933 (llv β ad ad2 x) [] I J K M) {I : zMi} {J : zMl} {K : zMi} {M : zMl} (hR : Rel I J K M) : lAt (lmk β D ad ad2 g) 513 (llv β ad ad2 x) [] I J K M := by
  refine l_aload_n fx dL_513 rfl ?_
  refine l_aload_n fx dL_514 rfl ?_
  refine l_iload_n fx dL_515 rfl ?_
  refine l_iconst (v := nI 1) fx dL_516 (by decide) ?_
  refine l_iadd fx dL_517 ?_
  refine l_sld fx (hb 1 (by decide)) dL_518 ?_
  refine l_aload_n fx dL_519 rfl ?_
  refine l_iload_n fx dL_520 rfl ?_
  refine l_iconst (v := nI 2) fx dL_521 (by decide) ?_
  refine l_iadd fx dL_522 ?_
  refine l_sld fx (hb 2 (by decide)) dL_523 ?_
  refine l_aload_n fx dL_524 rfl ?_
  refine l_iload_n fx dL_525 rfl ?_
  refine l_iconst (v := nI 3) fx dL_526 (by decide) ?_
  refine l_iadd fx dL_527 ?_
  refine l_sld fx (hb 3 (by decide)) dL_528 ?_
  refine l_aload_n fx dL_529 rfl ?_
  refine l_iload_n fx dL_530 rfl ?_
  refine l_iconst (v := nI 4) fx dL_531 (by decide) ?_
  refine l_iadd fx dL_532 ?_
  refine l_sld fx (hb 4 (by decide)) dL_533 ?_
  refine l_aload_n fx dL_534 rfl ?_
  refine l_iload_n fx dL_535 rfl ?_
  refine l_iconst (v := nI 5) fx dL_536 (by decide) ?_
  refine l_iadd fx dL_537 ?_
  refine l_sld fx (hb 5 (by decide)) dL_538 ?_
  refine l_if_eq (tgt := 546) fx dL_539 (by decide) (fun q5 => ?_) (fun q5 => ?_)
  · skip
    refine l_iconst (v := nI 0) fx dL_546 (by decide) ?_
    obtain ⟨r, I9, K9, e1, e2, hR2⟩ := hs _ _ _ _ hR (lxs (lmk β D ad ad2 g) (x + nI 1).toNatClampNeg) (lxs (lmk β D ad ad2 g) (x + nI 2).toNatClampNeg) (lxs (lmk β D ad ad2 g) (x + nI 3).toNatClampNeg) (lxs (lmk β D ad ad2 g) (x + nI 4).toNatClampNeg) (nI 0) (Or.inl (by decide))
    refine l_call1 (k := 0) (rest := []) fx (c_X3_set (ll_ (lmk β D ad ad2 g)) D ad g (lxs (lmk β D ad ad2 g) (x + nI 1).toNatClampNeg) (lxs (lmk β D ad ad2 g) (x + nI 2).toNatClampNeg) (lxs (lmk β D ad ad2 g) (x + nI 3).toNatClampNeg) (lxs (lmk β D ad ad2 g) (x + nI 4).toNatClampNeg) (nI 0) I J e1) rcS mvX3_set wL_45 dL_547 rfl ⟨rfl, rfl⟩ rfl rfl rfl ?_
    refine l_aload_n fx dL_550 rfl ?_
    refine l_aload_n fx dL_551 rfl ?_
    refine l_iload_n fx dL_552 rfl ?_
    refine l_iconst (v := nI 1) fx dL_553 (by decide) ?_
    refine l_iadd fx dL_554 ?_
    refine l_sld fx (hb 1 (by decide)) dL_555 ?_
    refine l_aload_n fx dL_556 rfl ?_
    refine l_iload_n fx dL_557 rfl ?_
    refine l_iconst (v := nI 2) fx dL_558 (by decide) ?_
    refine l_iadd fx dL_559 ?_
    refine l_sld fx (hb 2 (by decide)) dL_560 ?_
    refine l_aload_n fx dL_561 rfl ?_
    refine l_iload_n fx dL_562 rfl ?_
    refine l_iconst (v := nI 3) fx dL_563 (by decide) ?_
    refine l_iadd fx dL_564 ?_
    refine l_sld fx (hb 3 (by decide)) dL_565 ?_
    refine l_aload_n fx dL_566 rfl ?_
    refine l_iload_n fx dL_567 rfl ?_
    refine l_iconst (v := nI 4) fx dL_568 (by decide) ?_
    refine l_iadd fx dL_569 ?_
    refine l_sld fx (hb 4 (by decide)) dL_570 ?_
    refine l_aload_n fx dL_571 rfl ?_
    refine l_iload_n fx dL_572 rfl ?_
    refine l_iconst (v := nI 5) fx dL_573 (by decide) ?_
    refine l_iadd fx dL_574 ?_
    refine l_sld fx (hb 5 (by decide)) dL_575 ?_
    refine l_if_eq (tgt := 583) fx dL_576 (by decide) (fun q9 => ?_) (fun q9 => ?_)
    · skip
      refine l_iconst (v := nI 0) fx dL_583 (by decide) ?_
      refine l_call2 (k := 0) (rest := [.int r]) fx (c_X4_set (ll_ (lmk β D ad ad2 g)) D ad2 g (lxs (lmk β D ad ad2 g) (x + nI 1).toNatClampNeg) (lxs (lmk β D ad ad2 g) (x + nI 2).toNatClampNeg) (lxs (lmk β D ad ad2 g) (x + nI 3).toNatClampNeg) (lxs (lmk β D ad ad2 g) (x + nI 4).toNatClampNeg) (nI 0) K M e2) rcM mvX4_set wL_49 dL_584 rfl ⟨rfl, rfl⟩ rfl rfl rfl ?_
      refine l_icmp_eq (tgt := 1933) fx dL_587 (by decide) (fun _ => ?_) (fun q8 => absurd rfl q8)
      exact kk _ _ _ _ hR2
    · exact absurd q5 q9
  · skip
    refine l_iconst (v := nI 1) fx dL_542 (by decide) ?_
    refine l_goto (tgt := 547) fx dL_543 (by decide) ?_
    obtain ⟨r, I9, K9, e1, e2, hR2⟩ := hs _ _ _ _ hR (lxs (lmk β D ad ad2 g) (x + nI 1).toNatClampNeg) (lxs (lmk β D ad ad2 g) (x + nI 2).toNatClampNeg) (lxs (lmk β D ad ad2 g) (x + nI 3).toNatClampNeg) (lxs (lmk β D ad ad2 g) (x + nI 4).toNatClampNeg) (nI 1) (Or.inr (by decide))
    refine l_call1 (k := 0) (rest := []) fx (c_X3_set (ll_ (lmk β D ad ad2 g)) D ad g (lxs (lmk β D ad ad2 g) (x + nI 1).toNatClampNeg) (lxs (lmk β D ad ad2 g) (x + nI 2).toNatClampNeg) (lxs (lmk β D ad ad2 g) (x + nI 3).toNatClampNeg) (lxs (lmk β D ad ad2 g) (x + nI 4).toNatClampNeg) (nI 1) I J e1) rcS mvX3_set wL_45 dL_547 rfl ⟨rfl, rfl⟩ rfl rfl rfl ?_
    refine l_aload_n fx dL_550 rfl ?_
    refine l_aload_n fx dL_551 rfl ?_
    refine l_iload_n fx dL_552 rfl ?_
    refine l_iconst (v := nI 1) fx dL_553 (by decide) ?_
    refine l_iadd fx dL_554 ?_
    refine l_sld fx (hb 1 (by decide)) dL_555 ?_
    refine l_aload_n fx dL_556 rfl ?_
    refine l_iload_n fx dL_557 rfl ?_
    refine l_iconst (v := nI 2) fx dL_558 (by decide) ?_
    refine l_iadd fx dL_559 ?_
    refine l_sld fx (hb 2 (by decide)) dL_560 ?_
    refine l_aload_n fx dL_561 rfl ?_
    refine l_iload_n fx dL_562 rfl ?_
    refine l_iconst (v := nI 3) fx dL_563 (by decide) ?_
    refine l_iadd fx dL_564 ?_
    refine l_sld fx (hb 3 (by decide)) dL_565 ?_
    refine l_aload_n fx dL_566 rfl ?_
    refine l_iload_n fx dL_567 rfl ?_
    refine l_iconst (v := nI 4) fx dL_568 (by decide) ?_
    refine l_iadd fx dL_569 ?_
    refine l_sld fx (hb 4 (by decide)) dL_570 ?_
    refine l_aload_n fx dL_571 rfl ?_
    refine l_iload_n fx dL_572 rfl ?_
    refine l_iconst (v := nI 5) fx dL_573 (by decide) ?_
    refine l_iadd fx dL_574 ?_
    refine l_sld fx (hb 5 (by decide)) dL_575 ?_
    refine l_if_eq (tgt := 583) fx dL_576 (by decide) (fun q9 => ?_) (fun q9 => ?_)
    · exact absurd q9 q5
    · skip
      refine l_iconst (v := nI 1) fx dL_579 (by decide) ?_
      refine l_goto (tgt := 584) fx dL_580 (by decide) ?_
      refine l_call2 (k := 0) (rest := [.int r]) fx (c_X4_set (ll_ (lmk β D ad ad2 g)) D ad2 g (lxs (lmk β D ad ad2 g) (x + nI 1).toNatClampNeg) (lxs (lmk β D ad ad2 g) (x + nI 2).toNatClampNeg) (lxs (lmk β D ad ad2 g) (x + nI 3).toNatClampNeg) (lxs (lmk β D ad ad2 g) (x + nI 4).toNatClampNeg) (nI 1) K M e2) rcM mvX4_set wL_49 dL_584 rfl ⟨rfl, rfl⟩ rfl rfl rfl ?_
      refine l_icmp_eq (tgt := 1933) fx dL_587 (by decide) (fun _ => ?_) (fun q8 => absurd rfl q8)
      exact kk _ _ _ _ hR2
theorem lc_drop {β : lB} {D : va_G} {ad ad2 : Nat → Nat} {g : Nat → ClassId} (fx : lFX (lmk β D ad ad2 g)) {Rel : lRel} (hs : so_drop Rel) {x : Int32} (hb : ∀ j : Nat, j < 6 → vp_in (x + nI j) (lL (lmk β D ad ad2 g))) (kk : ∀ (I : zMi) (J : zMl) (K : zMi) (M : zMl), Rel I J K M → lAt (lmk β D ad ad2 g) 1933 (llv β ad ad2 x) [] I J K M) {I : zMi} {J : zMl} {K : zMi} {M : zMl} (hR : Rel I J K M) : lAt (lmk β D ad ad2 g) 592 (llv β ad ad2 x) [] I J K M := by
  refine l_aload_n fx dL_592 rfl ?_
  refine l_aload_n fx dL_593 rfl ?_
  refine l_iload_n fx dL_594 rfl ?_
  refine l_iconst (v := nI 1) fx dL_595 (by decide) ?_
  refine l_iadd fx dL_596 ?_
  refine l_sld fx (hb 1 (by decide)) dL_597 ?_
  obtain ⟨r, I9, K9, e1, e2, hR2⟩ := hs _ _ _ _ hR (lxs (lmk β D ad ad2 g) (x + nI 1).toNatClampNeg) 
  refine l_call1 (k := 0) (rest := []) fx (c_X3_drop (ll_ (lmk β D ad ad2 g)) D ad g (lxs (lmk β D ad ad2 g) (x + nI 1).toNatClampNeg) I J e1) rcS mvX3_drop wL_50 dL_598 rfl ⟨rfl, rfl⟩ rfl rfl rfl ?_
  refine l_aload_n fx dL_601 rfl ?_
  refine l_aload_n fx dL_602 rfl ?_
  refine l_iload_n fx dL_603 rfl ?_
  refine l_iconst (v := nI 1) fx dL_604 (by decide) ?_
  refine l_iadd fx dL_605 ?_
  refine l_sld fx (hb 1 (by decide)) dL_606 ?_
  refine l_call2 (k := 0) (rest := [.int r]) fx (c_X4_drop (ll_ (lmk β D ad ad2 g)) D ad2 g (lxs (lmk β D ad ad2 g) (x + nI 1).toNatClampNeg) K M e2) rcM mvX4_drop wL_53 dL_607 rfl ⟨rfl, rfl⟩ rfl rfl rfl ?_
  refine l_icmp_eq (tgt := 1933) fx dL_610 (by decide) (fun _ => ?_) (fun q8 => absurd rfl q8)
  exact kk _ _ _ _ hR2
theorem lc_at {β : lB} {D : va_G} {ad ad2 : Nat → Nat} {g : Nat → ClassId} (fx : lFX (lmk β D ad ad2 g)) {Rel : lRel} (hs : so_at Rel) {x : Int32} (hb : ∀ j : Nat, j < 6 → vp_in (x + nI j) (lL (lmk β D ad ad2 g))) (kk : ∀ (I : zMi) (J : zMl) (K : zMi) (M : zMl), Rel I J K M → lAt (lmk β D ad ad2 g) 1933 (llv β ad ad2 x) [] I J K M) {I : zMi} {J : zMl} {K : zMi} {M : zMl} (hR : Rel I J K M) : lAt (lmk β D ad ad2 g) 615 (llv β ad ad2 x) [] I J K M := by
  refine l_aload_n fx dL_615 rfl ?_
  refine l_aload_n fx dL_616 rfl ?_
  refine l_iload_n fx dL_617 rfl ?_
  refine l_iconst (v := nI 1) fx dL_618 (by decide) ?_
  refine l_iadd fx dL_619 ?_
  refine l_sld fx (hb 1 (by decide)) dL_620 ?_
  refine l_aload_n fx dL_621 rfl ?_
  refine l_iload_n fx dL_622 rfl ?_
  refine l_iconst (v := nI 2) fx dL_623 (by decide) ?_
  refine l_iadd fx dL_624 ?_
  refine l_sld fx (hb 2 (by decide)) dL_625 ?_
  refine l_aload_n fx dL_626 rfl ?_
  refine l_iload_n fx dL_627 rfl ?_
  refine l_iconst (v := nI 3) fx dL_628 (by decide) ?_
  refine l_iadd fx dL_629 ?_
  refine l_sld fx (hb 3 (by decide)) dL_630 ?_
  obtain ⟨r, I9, K9, e1, e2, hR2⟩ := hs _ _ _ _ hR (lxs (lmk β D ad ad2 g) (x + nI 1).toNatClampNeg) (lxs (lmk β D ad ad2 g) (x + nI 2).toNatClampNeg) (lxs (lmk β D ad ad2 g) (x + nI 3).toNatClampNeg) 
  refine l_call1 (k := 0) (rest := []) fx (c_X3_at (ll_ (lmk β D ad ad2 g)) D ad g (lxs (lmk β D ad ad2 g) (x + nI 1).toNatClampNeg) (lxs (lmk β D ad ad2 g) (x + nI 2).toNatClampNeg) (lxs (lmk β D ad ad2 g) (x + nI 3).toNatClampNeg) I J e1) rcS mvX3_at wL_54 dL_631 rfl ⟨rfl, rfl⟩ rfl rfl rfl ?_
  refine l_aload_n fx dL_634 rfl ?_
  refine l_aload_n fx dL_635 rfl ?_
  refine l_iload_n fx dL_636 rfl ?_
  refine l_iconst (v := nI 1) fx dL_637 (by decide) ?_
  refine l_iadd fx dL_638 ?_
  refine l_sld fx (hb 1 (by decide)) dL_639 ?_
  refine l_aload_n fx dL_640 rfl ?_
  refine l_iload_n fx dL_641 rfl ?_
  refine l_iconst (v := nI 2) fx dL_642 (by decide) ?_
  refine l_iadd fx dL_643 ?_
  refine l_sld fx (hb 2 (by decide)) dL_644 ?_
  refine l_aload_n fx dL_645 rfl ?_
  refine l_iload_n fx dL_646 rfl ?_
  refine l_iconst (v := nI 3) fx dL_647 (by decide) ?_
  refine l_iadd fx dL_648 ?_
  refine l_sld fx (hb 3 (by decide)) dL_649 ?_
  refine l_call2 (k := 0) (rest := [.int r]) fx (c_X4_at (ll_ (lmk β D ad ad2 g)) D ad2 g (lxs (lmk β D ad ad2 g) (x + nI 1).toNatClampNeg) (lxs (lmk β D ad ad2 g) (x + nI 2).toNatClampNeg) (lxs (lmk β D ad ad2 g) (x + nI 3).toNatClampNeg) K M e2) rcM mvX4_at wL_57 dL_650 rfl ⟨rfl, rfl⟩ rfl rfl rfl ?_
  refine l_icmp_eq (tgt := 1933) fx dL_653 (by decide) (fun _ => ?_) (fun q8 => absurd rfl q8)
  exact kk _ _ _ _ hR2
theorem lc_told {β : lB} {D : va_G} {ad ad2 : Nat → Nat} {g : Nat → ClassId} (fx : lFX (lmk β D ad ad2 g)) {Rel : lRel} (hs : so_told Rel) {x : Int32} (hb : ∀ j : Nat, j < 6 → vp_in (x + nI j) (lL (lmk β D ad ad2 g))) (kk : ∀ (I : zMi) (J : zMl) (K : zMi) (M : zMl), Rel I J K M → lAt (lmk β D ad ad2 g) 1933 (llv β ad ad2 x) [] I J K M) {I : zMi} {J : zMl} {K : zMi} {M : zMl} (hR : Rel I J K M) : lAt (lmk β D ad ad2 g) 658 (llv β ad ad2 x) [] I J K M := by
  refine l_aload_n fx dL_658 rfl ?_
  refine l_aload_n fx dL_659 rfl ?_
  refine l_iload_n fx dL_660 rfl ?_
  refine l_iconst (v := nI 1) fx dL_661 (by decide) ?_
  refine l_iadd fx dL_662 ?_
  refine l_sld fx (hb 1 (by decide)) dL_663 ?_
  refine l_aload_n fx dL_664 rfl ?_
  refine l_iload_n fx dL_665 rfl ?_
  refine l_iconst (v := nI 2) fx dL_666 (by decide) ?_
  refine l_iadd fx dL_667 ?_
  refine l_sld fx (hb 2 (by decide)) dL_668 ?_
  obtain ⟨r, I9, K9, e1, e2, hR2⟩ := hs _ _ _ _ hR (lxs (lmk β D ad ad2 g) (x + nI 1).toNatClampNeg) (lxs (lmk β D ad ad2 g) (x + nI 2).toNatClampNeg) 
  refine l_call1 (k := 0) (rest := []) fx (c_X3_told (ll_ (lmk β D ad ad2 g)) D ad g (lxs (lmk β D ad ad2 g) (x + nI 1).toNatClampNeg) (lxs (lmk β D ad ad2 g) (x + nI 2).toNatClampNeg) I J e1) rcS mvX3_told wL_58 dL_669 rfl ⟨rfl, rfl⟩ rfl rfl rfl ?_
  refine l_aload_n fx dL_672 rfl ?_
  refine l_aload_n fx dL_673 rfl ?_
  refine l_iload_n fx dL_674 rfl ?_
  refine l_iconst (v := nI 1) fx dL_675 (by decide) ?_
  refine l_iadd fx dL_676 ?_
  refine l_sld fx (hb 1 (by decide)) dL_677 ?_
  refine l_aload_n fx dL_678 rfl ?_
  refine l_iload_n fx dL_679 rfl ?_
  refine l_iconst (v := nI 2) fx dL_680 (by decide) ?_
  refine l_iadd fx dL_681 ?_
  refine l_sld fx (hb 2 (by decide)) dL_682 ?_
  refine l_call2 (k := 0) (rest := [.int r]) fx (c_X4_told (ll_ (lmk β D ad ad2 g)) D ad2 g (lxs (lmk β D ad ad2 g) (x + nI 1).toNatClampNeg) (lxs (lmk β D ad ad2 g) (x + nI 2).toNatClampNeg) K M e2) rcM mvX4_told wL_61 dL_683 rfl ⟨rfl, rfl⟩ rfl rfl rfl ?_
  refine l_icmp_eq (tgt := 1933) fx dL_686 (by decide) (fun _ => ?_) (fun q8 => absurd rfl q8)
  exact kk _ _ _ _ hR2
theorem lc_mark {β : lB} {D : va_G} {ad ad2 : Nat → Nat} {g : Nat → ClassId} (fx : lFX (lmk β D ad ad2 g)) {Rel : lRel} (hs : so_mark Rel) {x : Int32} (hb : ∀ j : Nat, j < 6 → vp_in (x + nI j) (lL (lmk β D ad ad2 g))) (kk : ∀ (I : zMi) (J : zMl) (K : zMi) (M : zMl), Rel I J K M → lAt (lmk β D ad ad2 g) 1933 (llv β ad ad2 x) [] I J K M) {I : zMi} {J : zMl} {K : zMi} {M : zMl} (hR : Rel I J K M) : lAt (lmk β D ad ad2 g) 691 (llv β ad ad2 x) [] I J K M := by
  refine l_aload_n fx dL_691 rfl ?_
  refine l_aload_n fx dL_692 rfl ?_
  refine l_iload_n fx dL_693 rfl ?_
  refine l_iconst (v := nI 1) fx dL_694 (by decide) ?_
  refine l_iadd fx dL_695 ?_
  refine l_sld fx (hb 1 (by decide)) dL_696 ?_
  refine l_aload_n fx dL_697 rfl ?_
  refine l_iload_n fx dL_698 rfl ?_
  refine l_iconst (v := nI 2) fx dL_699 (by decide) ?_
  refine l_iadd fx dL_700 ?_
  refine l_sld fx (hb 2 (by decide)) dL_701 ?_
  obtain ⟨r, I9, K9, e1, e2, hR2⟩ := hs _ _ _ _ hR (lxs (lmk β D ad ad2 g) (x + nI 1).toNatClampNeg) (lxs (lmk β D ad ad2 g) (x + nI 2).toNatClampNeg) 
  refine l_call1 (k := 0) (rest := []) fx (c_X3_mark (ll_ (lmk β D ad ad2 g)) D ad g (lxs (lmk β D ad ad2 g) (x + nI 1).toNatClampNeg) (lxs (lmk β D ad ad2 g) (x + nI 2).toNatClampNeg) I J e1) rcS mvX3_mark wL_62 dL_702 rfl ⟨rfl, rfl⟩ rfl rfl rfl ?_
  refine l_aload_n fx dL_705 rfl ?_
  refine l_aload_n fx dL_706 rfl ?_
  refine l_iload_n fx dL_707 rfl ?_
  refine l_iconst (v := nI 1) fx dL_708 (by decide) ?_
  refine l_iadd fx dL_709 ?_
  refine l_sld fx (hb 1 (by decide)) dL_710 ?_
  refine l_aload_n fx dL_711 rfl ?_
  refine l_iload_n fx dL_712 rfl ?_
  refine l_iconst (v := nI 2) fx dL_713 (by decide) ?_
  refine l_iadd fx dL_714 ?_
  refine l_sld fx (hb 2 (by decide)) dL_715 ?_
  refine l_call2 (k := 0) (rest := [.int r]) fx (c_X4_mark (ll_ (lmk β D ad ad2 g)) D ad2 g (lxs (lmk β D ad ad2 g) (x + nI 1).toNatClampNeg) (lxs (lmk β D ad ad2 g) (x + nI 2).toNatClampNeg) K M e2) rcM mvX4_mark wL_65 dL_716 rfl ⟨rfl, rfl⟩ rfl rfl rfl ?_
  refine l_icmp_eq (tgt := 1933) fx dL_719 (by decide) (fun _ => ?_) (fun q8 => absurd rfl q8)
  exact kk _ _ _ _ hR2
theorem lc_times {β : lB} {D : va_G} {ad ad2 : Nat → Nat} {g : Nat → ClassId} (fx : lFX (lmk β D ad ad2 g)) {Rel : lRel} (hs : so_times Rel) {x : Int32} (hb : ∀ j : Nat, j < 6 → vp_in (x + nI j) (lL (lmk β D ad ad2 g))) (kk : ∀ (I : zMi) (J : zMl) (K : zMi) (M : zMl), Rel I J K M → lAt (lmk β D ad ad2 g) 1933 (llv β ad ad2 x) [] I J K M) {I : zMi} {J : zMl} {K : zMi} {M : zMl} (hR : Rel I J K M) : lAt (lmk β D ad ad2 g) 724 (llv β ad ad2 x) [] I J K M := by
  refine l_aload_n fx dL_724 rfl ?_
  refine l_aload_n fx dL_725 rfl ?_
  refine l_iload_n fx dL_726 rfl ?_
  refine l_iconst (v := nI 1) fx dL_727 (by decide) ?_
  refine l_iadd fx dL_728 ?_
  refine l_sld fx (hb 1 (by decide)) dL_729 ?_
  refine l_aload_n fx dL_730 rfl ?_
  refine l_iload_n fx dL_731 rfl ?_
  refine l_iconst (v := nI 2) fx dL_732 (by decide) ?_
  refine l_iadd fx dL_733 ?_
  refine l_sld fx (hb 2 (by decide)) dL_734 ?_
  refine l_aload_n fx dL_735 rfl ?_
  refine l_iload_n fx dL_736 rfl ?_
  refine l_iconst (v := nI 3) fx dL_737 (by decide) ?_
  refine l_iadd fx dL_738 ?_
  refine l_sld fx (hb 3 (by decide)) dL_739 ?_
  obtain ⟨r, I9, K9, e1, e2, hR2⟩ := hs _ _ _ _ hR (lxs (lmk β D ad ad2 g) (x + nI 1).toNatClampNeg) (lxs (lmk β D ad ad2 g) (x + nI 2).toNatClampNeg) (lxs (lmk β D ad ad2 g) (x + nI 3).toNatClampNeg) 
  refine l_call1 (k := 0) (rest := []) fx (c_X3_times (ll_ (lmk β D ad ad2 g)) D ad g (lxs (lmk β D ad ad2 g) (x + nI 1).toNatClampNeg) (lxs (lmk β D ad ad2 g) (x + nI 2).toNatClampNeg) (lxs (lmk β D ad ad2 g) (x + nI 3).toNatClampNeg) I J e1) rcS mvX3_times wL_66 dL_740 rfl ⟨rfl, rfl⟩ rfl rfl rfl ?_
  refine l_aload_n fx dL_743 rfl ?_
  refine l_aload_n fx dL_744 rfl ?_
  refine l_iload_n fx dL_745 rfl ?_
  refine l_iconst (v := nI 1) fx dL_746 (by decide) ?_
  refine l_iadd fx dL_747 ?_
  refine l_sld fx (hb 1 (by decide)) dL_748 ?_
  refine l_aload_n fx dL_749 rfl ?_
  refine l_iload_n fx dL_750 rfl ?_
  refine l_iconst (v := nI 2) fx dL_751 (by decide) ?_
  refine l_iadd fx dL_752 ?_
  refine l_sld fx (hb 2 (by decide)) dL_753 ?_
  refine l_aload_n fx dL_754 rfl ?_
  refine l_iload_n fx dL_755 rfl ?_
  refine l_iconst (v := nI 3) fx dL_756 (by decide) ?_
  refine l_iadd fx dL_757 ?_
  refine l_sld fx (hb 3 (by decide)) dL_758 ?_
  refine l_call2 (k := 0) (rest := [.int r]) fx (c_X4_times (ll_ (lmk β D ad ad2 g)) D ad2 g (lxs (lmk β D ad ad2 g) (x + nI 1).toNatClampNeg) (lxs (lmk β D ad ad2 g) (x + nI 2).toNatClampNeg) (lxs (lmk β D ad ad2 g) (x + nI 3).toNatClampNeg) K M e2) rcM mvX4_times wL_69 dL_759 rfl ⟨rfl, rfl⟩ rfl rfl rfl ?_
  refine l_icmp_eq (tgt := 1933) fx dL_762 (by decide) (fun _ => ?_) (fun q8 => absurd rfl q8)
  exact kk _ _ _ _ hR2
theorem lc_residues {β : lB} {D : va_G} {ad ad2 : Nat → Nat} {g : Nat → ClassId} (fx : lFX (lmk β D ad ad2 g)) {Rel : lRel} (hs : so_residues Rel) {x : Int32} (hb : ∀ j : Nat, j < 6 → vp_in (x + nI j) (lL (lmk β D ad ad2 g))) (kk : ∀ (I : zMi) (J : zMl) (K : zMi) (M : zMl), Rel I J K M → lAt (lmk β D ad ad2 g) 1933 (llv β ad ad2 x) [] I J K M) {I : zMi} {J : zMl} {K : zMi} {M : zMl} (hR : Rel I J K M) : lAt (lmk β D ad ad2 g) 767 (llv β ad ad2 x) [] I J K M := by
  refine l_aload_n fx dL_767 rfl ?_
  refine l_aload_n fx dL_768 rfl ?_
  refine l_iload_n fx dL_769 rfl ?_
  refine l_iconst (v := nI 1) fx dL_770 (by decide) ?_
  refine l_iadd fx dL_771 ?_
  refine l_sld fx (hb 1 (by decide)) dL_772 ?_
  refine l_aload_n fx dL_773 rfl ?_
  refine l_iload_n fx dL_774 rfl ?_
  refine l_iconst (v := nI 2) fx dL_775 (by decide) ?_
  refine l_iadd fx dL_776 ?_
  refine l_sld fx (hb 2 (by decide)) dL_777 ?_
  obtain ⟨r, I9, K9, e1, e2, hR2⟩ := hs _ _ _ _ hR (lxs (lmk β D ad ad2 g) (x + nI 1).toNatClampNeg) (lxs (lmk β D ad ad2 g) (x + nI 2).toNatClampNeg) 
  refine l_call1 (k := 0) (rest := []) fx (c_X3_residues (ll_ (lmk β D ad ad2 g)) D ad g (lxs (lmk β D ad ad2 g) (x + nI 1).toNatClampNeg) (lxs (lmk β D ad ad2 g) (x + nI 2).toNatClampNeg) I J e1) rcS mvX3_residues wL_70 dL_778 rfl ⟨rfl, rfl⟩ rfl rfl rfl ?_
  refine l_aload_n fx dL_781 rfl ?_
  refine l_aload_n fx dL_782 rfl ?_
  refine l_iload_n fx dL_783 rfl ?_
  refine l_iconst (v := nI 1) fx dL_784 (by decide) ?_
  refine l_iadd fx dL_785 ?_
  refine l_sld fx (hb 1 (by decide)) dL_786 ?_
  refine l_aload_n fx dL_787 rfl ?_
  refine l_iload_n fx dL_788 rfl ?_
  refine l_iconst (v := nI 2) fx dL_789 (by decide) ?_
  refine l_iadd fx dL_790 ?_
  refine l_sld fx (hb 2 (by decide)) dL_791 ?_
  refine l_call2 (k := 0) (rest := [.int r]) fx (c_X4_residues (ll_ (lmk β D ad ad2 g)) D ad2 g (lxs (lmk β D ad ad2 g) (x + nI 1).toNatClampNeg) (lxs (lmk β D ad ad2 g) (x + nI 2).toNatClampNeg) K M e2) rcM mvX4_residues wL_73 dL_792 rfl ⟨rfl, rfl⟩ rfl rfl rfl ?_
  refine l_icmp_eq (tgt := 1933) fx dL_795 (by decide) (fun _ => ?_) (fun q8 => absurd rfl q8)
  exact kk _ _ _ _ hR2
theorem lc_bordered {β : lB} {D : va_G} {ad ad2 : Nat → Nat} {g : Nat → ClassId} (fx : lFX (lmk β D ad ad2 g)) {Rel : lRel} (hs : so_bordered Rel) {x : Int32} (hb : ∀ j : Nat, j < 6 → vp_in (x + nI j) (lL (lmk β D ad ad2 g))) (kk : ∀ (I : zMi) (J : zMl) (K : zMi) (M : zMl), Rel I J K M → lAt (lmk β D ad ad2 g) 1933 (llv β ad ad2 x) [] I J K M) {I : zMi} {J : zMl} {K : zMi} {M : zMl} (hR : Rel I J K M) : lAt (lmk β D ad ad2 g) 800 (llv β ad ad2 x) [] I J K M := by
  refine l_aload_n fx dL_800 rfl ?_
  refine l_aload_n fx dL_801 rfl ?_
  refine l_iload_n fx dL_802 rfl ?_
  refine l_iconst (v := nI 1) fx dL_803 (by decide) ?_
  refine l_iadd fx dL_804 ?_
  refine l_sld fx (hb 1 (by decide)) dL_805 ?_
  refine l_aload_n fx dL_806 rfl ?_
  refine l_iload_n fx dL_807 rfl ?_
  refine l_iconst (v := nI 2) fx dL_808 (by decide) ?_
  refine l_iadd fx dL_809 ?_
  refine l_sld fx (hb 2 (by decide)) dL_810 ?_
  obtain ⟨r, I9, K9, e1, e2, hR2⟩ := hs _ _ _ _ hR (lxs (lmk β D ad ad2 g) (x + nI 1).toNatClampNeg) (lxs (lmk β D ad ad2 g) (x + nI 2).toNatClampNeg) 
  refine l_call1 (k := 0) (rest := []) fx (c_X3_bordered (ll_ (lmk β D ad ad2 g)) D ad g (lxs (lmk β D ad ad2 g) (x + nI 1).toNatClampNeg) (lxs (lmk β D ad ad2 g) (x + nI 2).toNatClampNeg) I J e1) rcS mvX3_bordered wL_74 dL_811 rfl ⟨rfl, rfl⟩ rfl rfl rfl ?_
  refine l_aload_n fx dL_814 rfl ?_
  refine l_aload_n fx dL_815 rfl ?_
  refine l_iload_n fx dL_816 rfl ?_
  refine l_iconst (v := nI 1) fx dL_817 (by decide) ?_
  refine l_iadd fx dL_818 ?_
  refine l_sld fx (hb 1 (by decide)) dL_819 ?_
  refine l_aload_n fx dL_820 rfl ?_
  refine l_iload_n fx dL_821 rfl ?_
  refine l_iconst (v := nI 2) fx dL_822 (by decide) ?_
  refine l_iadd fx dL_823 ?_
  refine l_sld fx (hb 2 (by decide)) dL_824 ?_
  refine l_call2 (k := 0) (rest := [.int r]) fx (c_X4_bordered (ll_ (lmk β D ad ad2 g)) D ad2 g (lxs (lmk β D ad ad2 g) (x + nI 1).toNatClampNeg) (lxs (lmk β D ad ad2 g) (x + nI 2).toNatClampNeg) K M e2) rcM mvX4_bordered wL_77 dL_825 rfl ⟨rfl, rfl⟩ rfl rfl rfl ?_
  refine l_icmp_eq (tgt := 1933) fx dL_828 (by decide) (fun _ => ?_) (fun q8 => absurd rfl q8)
  exact kk _ _ _ _ hR2
theorem lc_four {β : lB} {D : va_G} {ad ad2 : Nat → Nat} {g : Nat → ClassId} (fx : lFX (lmk β D ad ad2 g)) {Rel : lRel} (hs : so_four Rel) {x : Int32} (hb : ∀ j : Nat, j < 6 → vp_in (x + nI j) (lL (lmk β D ad ad2 g))) (kk : ∀ (I : zMi) (J : zMl) (K : zMi) (M : zMl), Rel I J K M → lAt (lmk β D ad ad2 g) 1933 (llv β ad ad2 x) [] I J K M) {I : zMi} {J : zMl} {K : zMi} {M : zMl} (hR : Rel I J K M) : lAt (lmk β D ad ad2 g) 833 (llv β ad ad2 x) [] I J K M := by
  refine l_aload_n fx dL_833 rfl ?_
  refine l_aload_n fx dL_834 rfl ?_
  refine l_iload_n fx dL_835 rfl ?_
  refine l_iconst (v := nI 1) fx dL_836 (by decide) ?_
  refine l_iadd fx dL_837 ?_
  refine l_sld fx (hb 1 (by decide)) dL_838 ?_
  refine l_aload_n fx dL_839 rfl ?_
  refine l_iload_n fx dL_840 rfl ?_
  refine l_iconst (v := nI 2) fx dL_841 (by decide) ?_
  refine l_iadd fx dL_842 ?_
  refine l_sld fx (hb 2 (by decide)) dL_843 ?_
  refine l_aload_n fx dL_844 rfl ?_
  refine l_iload_n fx dL_845 rfl ?_
  refine l_iconst (v := nI 3) fx dL_846 (by decide) ?_
  refine l_iadd fx dL_847 ?_
  refine l_sld fx (hb 3 (by decide)) dL_848 ?_
  refine l_aload_n fx dL_849 rfl ?_
  refine l_iload_n fx dL_850 rfl ?_
  refine l_iconst (v := nI 4) fx dL_851 (by decide) ?_
  refine l_iadd fx dL_852 ?_
  refine l_sld fx (hb 4 (by decide)) dL_853 ?_
  refine l_aload_n fx dL_854 rfl ?_
  refine l_iload_n fx dL_855 rfl ?_
  refine l_iconst (v := nI 5) fx dL_856 (by decide) ?_
  refine l_iadd fx dL_857 ?_
  refine l_sld fx (hb 5 (by decide)) dL_858 ?_
  obtain ⟨r, I9, K9, e1, e2, hR2⟩ := hs _ _ _ _ hR (lxs (lmk β D ad ad2 g) (x + nI 1).toNatClampNeg) (lxs (lmk β D ad ad2 g) (x + nI 2).toNatClampNeg) (lxs (lmk β D ad ad2 g) (x + nI 3).toNatClampNeg) (lxs (lmk β D ad ad2 g) (x + nI 4).toNatClampNeg) (lxs (lmk β D ad ad2 g) (x + nI 5).toNatClampNeg) 
  refine l_call1 (k := 0) (rest := []) fx (c_X3_four (ll_ (lmk β D ad ad2 g)) D ad g (lxs (lmk β D ad ad2 g) (x + nI 1).toNatClampNeg) (lxs (lmk β D ad ad2 g) (x + nI 2).toNatClampNeg) (lxs (lmk β D ad ad2 g) (x + nI 3).toNatClampNeg) (lxs (lmk β D ad ad2 g) (x + nI 4).toNatClampNeg) (lxs (lmk β D ad ad2 g) (x + nI 5).toNatClampNeg) I J e1) rcS mvX3_four wL_78 dL_859 rfl ⟨rfl, rfl⟩ rfl rfl rfl ?_
  refine l_aload_n fx dL_862 rfl ?_
  refine l_aload_n fx dL_863 rfl ?_
  refine l_iload_n fx dL_864 rfl ?_
  refine l_iconst (v := nI 1) fx dL_865 (by decide) ?_
  refine l_iadd fx dL_866 ?_
  refine l_sld fx (hb 1 (by decide)) dL_867 ?_
  refine l_aload_n fx dL_868 rfl ?_
  refine l_iload_n fx dL_869 rfl ?_
  refine l_iconst (v := nI 2) fx dL_870 (by decide) ?_
  refine l_iadd fx dL_871 ?_
  refine l_sld fx (hb 2 (by decide)) dL_872 ?_
  refine l_aload_n fx dL_873 rfl ?_
  refine l_iload_n fx dL_874 rfl ?_
  refine l_iconst (v := nI 3) fx dL_875 (by decide) ?_
  refine l_iadd fx dL_876 ?_
  refine l_sld fx (hb 3 (by decide)) dL_877 ?_
  refine l_aload_n fx dL_878 rfl ?_
  refine l_iload_n fx dL_879 rfl ?_
  refine l_iconst (v := nI 4) fx dL_880 (by decide) ?_
  refine l_iadd fx dL_881 ?_
  refine l_sld fx (hb 4 (by decide)) dL_882 ?_
  refine l_aload_n fx dL_883 rfl ?_
  refine l_iload_n fx dL_884 rfl ?_
  refine l_iconst (v := nI 5) fx dL_885 (by decide) ?_
  refine l_iadd fx dL_886 ?_
  refine l_sld fx (hb 5 (by decide)) dL_887 ?_
  refine l_call2 (k := 0) (rest := [.int r]) fx (c_X4_four (ll_ (lmk β D ad ad2 g)) D ad2 g (lxs (lmk β D ad ad2 g) (x + nI 1).toNatClampNeg) (lxs (lmk β D ad ad2 g) (x + nI 2).toNatClampNeg) (lxs (lmk β D ad ad2 g) (x + nI 3).toNatClampNeg) (lxs (lmk β D ad ad2 g) (x + nI 4).toNatClampNeg) (lxs (lmk β D ad ad2 g) (x + nI 5).toNatClampNeg) K M e2) rcM mvX4_four wL_81 dL_888 rfl ⟨rfl, rfl⟩ rfl rfl rfl ?_
  refine l_icmp_eq (tgt := 1933) fx dL_891 (by decide) (fun _ => ?_) (fun q8 => absurd rfl q8)
  exact kk _ _ _ _ hR2
theorem lc_turn {β : lB} {D : va_G} {ad ad2 : Nat → Nat} {g : Nat → ClassId} (fx : lFX (lmk β D ad ad2 g)) {Rel : lRel} (hs : so_turn Rel) {x : Int32} (hb : ∀ j : Nat, j < 6 → vp_in (x + nI j) (lL (lmk β D ad ad2 g))) (kk : ∀ (I : zMi) (J : zMl) (K : zMi) (M : zMl), Rel I J K M → lAt (lmk β D ad ad2 g) 1933 (llv β ad ad2 x) [] I J K M) {I : zMi} {J : zMl} {K : zMi} {M : zMl} (hR : Rel I J K M) : lAt (lmk β D ad ad2 g) 896 (llv β ad ad2 x) [] I J K M := by
  refine l_aload_n fx dL_896 rfl ?_
  refine l_aload_n fx dL_897 rfl ?_
  refine l_iload_n fx dL_898 rfl ?_
  refine l_iconst (v := nI 1) fx dL_899 (by decide) ?_
  refine l_iadd fx dL_900 ?_
  refine l_sld fx (hb 1 (by decide)) dL_901 ?_
  refine l_aload_n fx dL_902 rfl ?_
  refine l_iload_n fx dL_903 rfl ?_
  refine l_iconst (v := nI 2) fx dL_904 (by decide) ?_
  refine l_iadd fx dL_905 ?_
  refine l_sld fx (hb 2 (by decide)) dL_906 ?_
  refine l_aload_n fx dL_907 rfl ?_
  refine l_iload_n fx dL_908 rfl ?_
  refine l_iconst (v := nI 3) fx dL_909 (by decide) ?_
  refine l_iadd fx dL_910 ?_
  refine l_sld fx (hb 3 (by decide)) dL_911 ?_
  obtain ⟨r, I9, K9, e1, e2, hR2⟩ := hs _ _ _ _ hR (lxs (lmk β D ad ad2 g) (x + nI 1).toNatClampNeg) (lxs (lmk β D ad ad2 g) (x + nI 2).toNatClampNeg) (lxs (lmk β D ad ad2 g) (x + nI 3).toNatClampNeg) 
  refine l_call1 (k := 0) (rest := []) fx (c_X3_turn (ll_ (lmk β D ad ad2 g)) D ad g (lxs (lmk β D ad ad2 g) (x + nI 1).toNatClampNeg) (lxs (lmk β D ad ad2 g) (x + nI 2).toNatClampNeg) (lxs (lmk β D ad ad2 g) (x + nI 3).toNatClampNeg) I J e1) rcS mvX3_turn wL_82 dL_912 rfl ⟨rfl, rfl⟩ rfl rfl rfl ?_
  refine l_aload_n fx dL_915 rfl ?_
  refine l_aload_n fx dL_916 rfl ?_
  refine l_iload_n fx dL_917 rfl ?_
  refine l_iconst (v := nI 1) fx dL_918 (by decide) ?_
  refine l_iadd fx dL_919 ?_
  refine l_sld fx (hb 1 (by decide)) dL_920 ?_
  refine l_aload_n fx dL_921 rfl ?_
  refine l_iload_n fx dL_922 rfl ?_
  refine l_iconst (v := nI 2) fx dL_923 (by decide) ?_
  refine l_iadd fx dL_924 ?_
  refine l_sld fx (hb 2 (by decide)) dL_925 ?_
  refine l_aload_n fx dL_926 rfl ?_
  refine l_iload_n fx dL_927 rfl ?_
  refine l_iconst (v := nI 3) fx dL_928 (by decide) ?_
  refine l_iadd fx dL_929 ?_
  refine l_sld fx (hb 3 (by decide)) dL_930 ?_
  refine l_call2 (k := 0) (rest := [.int r]) fx (c_X4_turn (ll_ (lmk β D ad ad2 g)) D ad2 g (lxs (lmk β D ad ad2 g) (x + nI 1).toNatClampNeg) (lxs (lmk β D ad ad2 g) (x + nI 2).toNatClampNeg) (lxs (lmk β D ad ad2 g) (x + nI 3).toNatClampNeg) K M e2) rcM mvX4_turn wL_85 dL_931 rfl ⟨rfl, rfl⟩ rfl rfl rfl ?_
  refine l_icmp_eq (tgt := 1933) fx dL_934 (by decide) (fun _ => ?_) (fun q8 => absurd rfl q8)
  exact kk _ _ _ _ hR2
theorem lc_swap {β : lB} {D : va_G} {ad ad2 : Nat → Nat} {g : Nat → ClassId} (fx : lFX (lmk β D ad ad2 g)) {Rel : lRel} (hs : so_swap Rel) {x : Int32} (hb : ∀ j : Nat, j < 6 → vp_in (x + nI j) (lL (lmk β D ad ad2 g))) (kk : ∀ (I : zMi) (J : zMl) (K : zMi) (M : zMl), Rel I J K M → lAt (lmk β D ad ad2 g) 1933 (llv β ad ad2 x) [] I J K M) {I : zMi} {J : zMl} {K : zMi} {M : zMl} (hR : Rel I J K M) : lAt (lmk β D ad ad2 g) 939 (llv β ad ad2 x) [] I J K M := by
  refine l_aload_n fx dL_939 rfl ?_
  refine l_aload_n fx dL_940 rfl ?_
  refine l_iload_n fx dL_941 rfl ?_
  refine l_iconst (v := nI 1) fx dL_942 (by decide) ?_
  refine l_iadd fx dL_943 ?_
  refine l_sld fx (hb 1 (by decide)) dL_944 ?_
  refine l_aload_n fx dL_945 rfl ?_
  refine l_iload_n fx dL_946 rfl ?_
  refine l_iconst (v := nI 2) fx dL_947 (by decide) ?_
  refine l_iadd fx dL_948 ?_
  refine l_sld fx (hb 2 (by decide)) dL_949 ?_
  refine l_if_eq (tgt := 957) fx dL_950 (by decide) (fun q2 => ?_) (fun q2 => ?_)
  · skip
    refine l_iconst (v := nI 0) fx dL_957 (by decide) ?_
    refine l_aload_n fx dL_958 rfl ?_
    refine l_iload_n fx dL_959 rfl ?_
    refine l_iconst (v := nI 3) fx dL_960 (by decide) ?_
    refine l_iadd fx dL_961 ?_
    refine l_sld fx (hb 3 (by decide)) dL_962 ?_
    refine l_aload_n fx dL_963 rfl ?_
    refine l_iload_n fx dL_964 rfl ?_
    refine l_iconst (v := nI 4) fx dL_965 (by decide) ?_
    refine l_iadd fx dL_966 ?_
    refine l_sld fx (hb 4 (by decide)) dL_967 ?_
    obtain ⟨r, I9, K9, e1, e2, hR2⟩ := hs _ _ _ _ hR (lxs (lmk β D ad ad2 g) (x + nI 1).toNatClampNeg) (nI 0) (lxs (lmk β D ad ad2 g) (x + nI 3).toNatClampNeg) (lxs (lmk β D ad ad2 g) (x + nI 4).toNatClampNeg) (Or.inl (by decide))
    refine l_call1 (k := 0) (rest := []) fx (c_X3_swap (ll_ (lmk β D ad ad2 g)) D ad g (lxs (lmk β D ad ad2 g) (x + nI 1).toNatClampNeg) (nI 0) (lxs (lmk β D ad ad2 g) (x + nI 3).toNatClampNeg) (lxs (lmk β D ad ad2 g) (x + nI 4).toNatClampNeg) I J e1) rcS mvX3_swap wL_86 dL_968 rfl ⟨rfl, rfl⟩ rfl rfl rfl ?_
    refine l_aload_n fx dL_971 rfl ?_
    refine l_aload_n fx dL_972 rfl ?_
    refine l_iload_n fx dL_973 rfl ?_
    refine l_iconst (v := nI 1) fx dL_974 (by decide) ?_
    refine l_iadd fx dL_975 ?_
    refine l_sld fx (hb 1 (by decide)) dL_976 ?_
    refine l_aload_n fx dL_977 rfl ?_
    refine l_iload_n fx dL_978 rfl ?_
    refine l_iconst (v := nI 2) fx dL_979 (by decide) ?_
    refine l_iadd fx dL_980 ?_
    refine l_sld fx (hb 2 (by decide)) dL_981 ?_
    refine l_if_eq (tgt := 989) fx dL_982 (by decide) (fun q9 => ?_) (fun q9 => ?_)
    · skip
      refine l_iconst (v := nI 0) fx dL_989 (by decide) ?_
      refine l_aload_n fx dL_990 rfl ?_
      refine l_iload_n fx dL_991 rfl ?_
      refine l_iconst (v := nI 3) fx dL_992 (by decide) ?_
      refine l_iadd fx dL_993 ?_
      refine l_sld fx (hb 3 (by decide)) dL_994 ?_
      refine l_aload_n fx dL_995 rfl ?_
      refine l_iload_n fx dL_996 rfl ?_
      refine l_iconst (v := nI 4) fx dL_997 (by decide) ?_
      refine l_iadd fx dL_998 ?_
      refine l_sld fx (hb 4 (by decide)) dL_999 ?_
      refine l_call2 (k := 0) (rest := [.int r]) fx (c_X4_swap (ll_ (lmk β D ad ad2 g)) D ad2 g (lxs (lmk β D ad ad2 g) (x + nI 1).toNatClampNeg) (nI 0) (lxs (lmk β D ad ad2 g) (x + nI 3).toNatClampNeg) (lxs (lmk β D ad ad2 g) (x + nI 4).toNatClampNeg) K M e2) rcM mvX4_swap wL_90 dL_1000 rfl ⟨rfl, rfl⟩ rfl rfl rfl ?_
      refine l_icmp_eq (tgt := 1933) fx dL_1003 (by decide) (fun _ => ?_) (fun q8 => absurd rfl q8)
      exact kk _ _ _ _ hR2
    · exact absurd q2 q9
  · skip
    refine l_iconst (v := nI 1) fx dL_953 (by decide) ?_
    refine l_goto (tgt := 958) fx dL_954 (by decide) ?_
    refine l_aload_n fx dL_958 rfl ?_
    refine l_iload_n fx dL_959 rfl ?_
    refine l_iconst (v := nI 3) fx dL_960 (by decide) ?_
    refine l_iadd fx dL_961 ?_
    refine l_sld fx (hb 3 (by decide)) dL_962 ?_
    refine l_aload_n fx dL_963 rfl ?_
    refine l_iload_n fx dL_964 rfl ?_
    refine l_iconst (v := nI 4) fx dL_965 (by decide) ?_
    refine l_iadd fx dL_966 ?_
    refine l_sld fx (hb 4 (by decide)) dL_967 ?_
    obtain ⟨r, I9, K9, e1, e2, hR2⟩ := hs _ _ _ _ hR (lxs (lmk β D ad ad2 g) (x + nI 1).toNatClampNeg) (nI 1) (lxs (lmk β D ad ad2 g) (x + nI 3).toNatClampNeg) (lxs (lmk β D ad ad2 g) (x + nI 4).toNatClampNeg) (Or.inr (by decide))
    refine l_call1 (k := 0) (rest := []) fx (c_X3_swap (ll_ (lmk β D ad ad2 g)) D ad g (lxs (lmk β D ad ad2 g) (x + nI 1).toNatClampNeg) (nI 1) (lxs (lmk β D ad ad2 g) (x + nI 3).toNatClampNeg) (lxs (lmk β D ad ad2 g) (x + nI 4).toNatClampNeg) I J e1) rcS mvX3_swap wL_86 dL_968 rfl ⟨rfl, rfl⟩ rfl rfl rfl ?_
    refine l_aload_n fx dL_971 rfl ?_
    refine l_aload_n fx dL_972 rfl ?_
    refine l_iload_n fx dL_973 rfl ?_
    refine l_iconst (v := nI 1) fx dL_974 (by decide) ?_
    refine l_iadd fx dL_975 ?_
    refine l_sld fx (hb 1 (by decide)) dL_976 ?_
    refine l_aload_n fx dL_977 rfl ?_
    refine l_iload_n fx dL_978 rfl ?_
    refine l_iconst (v := nI 2) fx dL_979 (by decide) ?_
    refine l_iadd fx dL_980 ?_
    refine l_sld fx (hb 2 (by decide)) dL_981 ?_
    refine l_if_eq (tgt := 989) fx dL_982 (by decide) (fun q9 => ?_) (fun q9 => ?_)
    · exact absurd q9 q2
    · skip
      refine l_iconst (v := nI 1) fx dL_985 (by decide) ?_
      refine l_goto (tgt := 990) fx dL_986 (by decide) ?_
      refine l_aload_n fx dL_990 rfl ?_
      refine l_iload_n fx dL_991 rfl ?_
      refine l_iconst (v := nI 3) fx dL_992 (by decide) ?_
      refine l_iadd fx dL_993 ?_
      refine l_sld fx (hb 3 (by decide)) dL_994 ?_
      refine l_aload_n fx dL_995 rfl ?_
      refine l_iload_n fx dL_996 rfl ?_
      refine l_iconst (v := nI 4) fx dL_997 (by decide) ?_
      refine l_iadd fx dL_998 ?_
      refine l_sld fx (hb 4 (by decide)) dL_999 ?_
      refine l_call2 (k := 0) (rest := [.int r]) fx (c_X4_swap (ll_ (lmk β D ad ad2 g)) D ad2 g (lxs (lmk β D ad ad2 g) (x + nI 1).toNatClampNeg) (nI 1) (lxs (lmk β D ad ad2 g) (x + nI 3).toNatClampNeg) (lxs (lmk β D ad ad2 g) (x + nI 4).toNatClampNeg) K M e2) rcM mvX4_swap wL_90 dL_1000 rfl ⟨rfl, rfl⟩ rfl rfl rfl ?_
      refine l_icmp_eq (tgt := 1933) fx dL_1003 (by decide) (fun _ => ?_) (fun q8 => absurd rfl q8)
      exact kk _ _ _ _ hR2
theorem lc_flip {β : lB} {D : va_G} {ad ad2 : Nat → Nat} {g : Nat → ClassId} (fx : lFX (lmk β D ad ad2 g)) {Rel : lRel} (hs : so_flip Rel) {x : Int32} (hb : ∀ j : Nat, j < 6 → vp_in (x + nI j) (lL (lmk β D ad ad2 g))) (kk : ∀ (I : zMi) (J : zMl) (K : zMi) (M : zMl), Rel I J K M → lAt (lmk β D ad ad2 g) 1933 (llv β ad ad2 x) [] I J K M) {I : zMi} {J : zMl} {K : zMi} {M : zMl} (hR : Rel I J K M) : lAt (lmk β D ad ad2 g) 1008 (llv β ad ad2 x) [] I J K M := by
  refine l_aload_n fx dL_1008 rfl ?_
  refine l_aload_n fx dL_1009 rfl ?_
  refine l_iload_n fx dL_1010 rfl ?_
  refine l_iconst (v := nI 1) fx dL_1011 (by decide) ?_
  refine l_iadd fx dL_1012 ?_
  refine l_sld fx (hb 1 (by decide)) dL_1013 ?_
  obtain ⟨r, I9, K9, e1, e2, hR2⟩ := hs _ _ _ _ hR (lxs (lmk β D ad ad2 g) (x + nI 1).toNatClampNeg) 
  refine l_call1 (k := 0) (rest := []) fx (c_X3_flip (ll_ (lmk β D ad ad2 g)) D ad g (lxs (lmk β D ad ad2 g) (x + nI 1).toNatClampNeg) I J e1) rcS mvX3_flip wL_91 dL_1014 rfl ⟨rfl, rfl⟩ rfl rfl rfl ?_
  refine l_aload_n fx dL_1017 rfl ?_
  refine l_aload_n fx dL_1018 rfl ?_
  refine l_iload_n fx dL_1019 rfl ?_
  refine l_iconst (v := nI 1) fx dL_1020 (by decide) ?_
  refine l_iadd fx dL_1021 ?_
  refine l_sld fx (hb 1 (by decide)) dL_1022 ?_
  refine l_call2 (k := 0) (rest := [.int r]) fx (c_X4_flip (ll_ (lmk β D ad ad2 g)) D ad2 g (lxs (lmk β D ad ad2 g) (x + nI 1).toNatClampNeg) K M e2) rcM mvX4_flip wL_94 dL_1023 rfl ⟨rfl, rfl⟩ rfl rfl rfl ?_
  refine l_icmp_eq (tgt := 1933) fx dL_1026 (by decide) (fun _ => ?_) (fun q8 => absurd rfl q8)
  exact kk _ _ _ _ hR2
theorem lc_normal {β : lB} {D : va_G} {ad ad2 : Nat → Nat} {g : Nat → ClassId} (fx : lFX (lmk β D ad ad2 g)) {Rel : lRel} (hs : so_normal Rel) {x : Int32} (hb : ∀ j : Nat, j < 6 → vp_in (x + nI j) (lL (lmk β D ad ad2 g))) (kk : ∀ (I : zMi) (J : zMl) (K : zMi) (M : zMl), Rel I J K M → lAt (lmk β D ad ad2 g) 1933 (llv β ad ad2 x) [] I J K M) {I : zMi} {J : zMl} {K : zMi} {M : zMl} (hR : Rel I J K M) : lAt (lmk β D ad ad2 g) 1031 (llv β ad ad2 x) [] I J K M := by
  refine l_aload_n fx dL_1031 rfl ?_
  refine l_aload_n fx dL_1032 rfl ?_
  refine l_iload_n fx dL_1033 rfl ?_
  refine l_iconst (v := nI 1) fx dL_1034 (by decide) ?_
  refine l_iadd fx dL_1035 ?_
  refine l_sld fx (hb 1 (by decide)) dL_1036 ?_
  obtain ⟨r, I9, K9, e1, e2, hR2⟩ := hs _ _ _ _ hR (lxs (lmk β D ad ad2 g) (x + nI 1).toNatClampNeg) 
  refine l_call1 (k := 0) (rest := []) fx (c_X3_normal (ll_ (lmk β D ad ad2 g)) D ad g (lxs (lmk β D ad ad2 g) (x + nI 1).toNatClampNeg) I J e1) rcS mvX3_normal wL_95 dL_1037 rfl ⟨rfl, rfl⟩ rfl rfl rfl ?_
  refine l_aload_n fx dL_1040 rfl ?_
  refine l_aload_n fx dL_1041 rfl ?_
  refine l_iload_n fx dL_1042 rfl ?_
  refine l_iconst (v := nI 1) fx dL_1043 (by decide) ?_
  refine l_iadd fx dL_1044 ?_
  refine l_sld fx (hb 1 (by decide)) dL_1045 ?_
  refine l_call2 (k := 0) (rest := [.int r]) fx (c_X4_normal (ll_ (lmk β D ad ad2 g)) D ad2 g (lxs (lmk β D ad ad2 g) (x + nI 1).toNatClampNeg) K M e2) rcM mvX4_normal wL_98 dL_1046 rfl ⟨rfl, rfl⟩ rfl rfl rfl ?_
  refine l_icmp_eq (tgt := 1933) fx dL_1049 (by decide) (fun _ => ?_) (fun q8 => absurd rfl q8)
  exact kk _ _ _ _ hR2
theorem lc_worth {β : lB} {D : va_G} {ad ad2 : Nat → Nat} {g : Nat → ClassId} (fx : lFX (lmk β D ad ad2 g)) {Rel : lRel} (hs : so_worth Rel) {x : Int32} (hb : ∀ j : Nat, j < 6 → vp_in (x + nI j) (lL (lmk β D ad ad2 g))) (kk : ∀ (I : zMi) (J : zMl) (K : zMi) (M : zMl), Rel I J K M → lAt (lmk β D ad ad2 g) 1933 (llv β ad ad2 x) [] I J K M) {I : zMi} {J : zMl} {K : zMi} {M : zMl} (hR : Rel I J K M) : lAt (lmk β D ad ad2 g) 1054 (llv β ad ad2 x) [] I J K M := by
  refine l_aload_n fx dL_1054 rfl ?_
  refine l_aload_n fx dL_1055 rfl ?_
  refine l_iload_n fx dL_1056 rfl ?_
  refine l_iconst (v := nI 1) fx dL_1057 (by decide) ?_
  refine l_iadd fx dL_1058 ?_
  refine l_sld fx (hb 1 (by decide)) dL_1059 ?_
  obtain ⟨r, I9, J9, K9, M9, e1, e2, hR2⟩ := hs _ _ _ _ hR (lxs (lmk β D ad ad2 g) (x + nI 1).toNatClampNeg) 
  refine l_call1 (k := 0) (rest := []) fx (c_X3_worth (ll_ (lmk β D ad ad2 g)) D ad g (lxs (lmk β D ad ad2 g) (x + nI 1).toNatClampNeg) I J e1) rcS mvX3_worth wL_99 dL_1060 rfl ⟨rfl, rfl⟩ rfl rfl rfl ?_
  refine l_aload_n fx dL_1063 rfl ?_
  refine l_aload_n fx dL_1064 rfl ?_
  refine l_iload_n fx dL_1065 rfl ?_
  refine l_iconst (v := nI 1) fx dL_1066 (by decide) ?_
  refine l_iadd fx dL_1067 ?_
  refine l_sld fx (hb 1 (by decide)) dL_1068 ?_
  refine l_call2 (k := 0) (rest := [.int r]) fx (c_X4_worth (ll_ (lmk β D ad ad2 g)) D ad2 g (lxs (lmk β D ad ad2 g) (x + nI 1).toNatClampNeg) K M e2) rcM mvX4_worth wL_102 dL_1069 rfl ⟨rfl, rfl⟩ rfl rfl rfl ?_
  refine l_icmp_eq (tgt := 1933) fx dL_1072 (by decide) (fun _ => ?_) (fun q8 => absurd rfl q8)
  exact kk _ _ _ _ hR2
theorem lc_balanced {β : lB} {D : va_G} {ad ad2 : Nat → Nat} {g : Nat → ClassId} (fx : lFX (lmk β D ad ad2 g)) {Rel : lRel} (hs : so_balanced Rel) {x : Int32} (hb : ∀ j : Nat, j < 6 → vp_in (x + nI j) (lL (lmk β D ad ad2 g))) (kk : ∀ (I : zMi) (J : zMl) (K : zMi) (M : zMl), Rel I J K M → lAt (lmk β D ad ad2 g) 1933 (llv β ad ad2 x) [] I J K M) {I : zMi} {J : zMl} {K : zMi} {M : zMl} (hR : Rel I J K M) : lAt (lmk β D ad ad2 g) 1077 (llv β ad ad2 x) [] I J K M := by
  refine l_aload_n fx dL_1077 rfl ?_
  refine l_aload_n fx dL_1078 rfl ?_
  refine l_iload_n fx dL_1079 rfl ?_
  refine l_iconst (v := nI 1) fx dL_1080 (by decide) ?_
  refine l_iadd fx dL_1081 ?_
  refine l_sld fx (hb 1 (by decide)) dL_1082 ?_
  obtain ⟨r, I9, K9, e1, e2, hR2⟩ := hs _ _ _ _ hR (lxs (lmk β D ad ad2 g) (x + nI 1).toNatClampNeg) 
  refine l_call1 (k := 0) (rest := []) fx (c_X3_balanced (ll_ (lmk β D ad ad2 g)) D ad g (lxs (lmk β D ad ad2 g) (x + nI 1).toNatClampNeg) I J e1) rcS mvX3_balanced wL_103 dL_1083 rfl ⟨rfl, rfl⟩ rfl rfl rfl ?_
  refine l_aload_n fx dL_1086 rfl ?_
  refine l_aload_n fx dL_1087 rfl ?_
  refine l_iload_n fx dL_1088 rfl ?_
  refine l_iconst (v := nI 1) fx dL_1089 (by decide) ?_
  refine l_iadd fx dL_1090 ?_
  refine l_sld fx (hb 1 (by decide)) dL_1091 ?_
  refine l_call2 (k := 0) (rest := [.int r]) fx (c_X4_balanced (ll_ (lmk β D ad ad2 g)) D ad2 g (lxs (lmk β D ad ad2 g) (x + nI 1).toNatClampNeg) K M e2) rcM mvX4_balanced wL_106 dL_1092 rfl ⟨rfl, rfl⟩ rfl rfl rfl ?_
  refine l_icmp_eq (tgt := 1933) fx dL_1095 (by decide) (fun _ => ?_) (fun q8 => absurd rfl q8)
  exact kk _ _ _ _ hR2
theorem lc_common {β : lB} {D : va_G} {ad ad2 : Nat → Nat} {g : Nat → ClassId} (fx : lFX (lmk β D ad ad2 g)) {Rel : lRel} (hs : so_common Rel) {x : Int32} (hb : ∀ j : Nat, j < 6 → vp_in (x + nI j) (lL (lmk β D ad ad2 g))) (kk : ∀ (I : zMi) (J : zMl) (K : zMi) (M : zMl), Rel I J K M → lAt (lmk β D ad ad2 g) 1933 (llv β ad ad2 x) [] I J K M) {I : zMi} {J : zMl} {K : zMi} {M : zMl} (hR : Rel I J K M) : lAt (lmk β D ad ad2 g) 1100 (llv β ad ad2 x) [] I J K M := by
  refine l_aload_n fx dL_1100 rfl ?_
  refine l_aload_n fx dL_1101 rfl ?_
  refine l_iload_n fx dL_1102 rfl ?_
  refine l_iconst (v := nI 1) fx dL_1103 (by decide) ?_
  refine l_iadd fx dL_1104 ?_
  refine l_sld fx (hb 1 (by decide)) dL_1105 ?_
  refine l_aload_n fx dL_1106 rfl ?_
  refine l_iload_n fx dL_1107 rfl ?_
  refine l_iconst (v := nI 2) fx dL_1108 (by decide) ?_
  refine l_iadd fx dL_1109 ?_
  refine l_sld fx (hb 2 (by decide)) dL_1110 ?_
  obtain ⟨r, I9, K9, e1, e2, hR2⟩ := hs _ _ _ _ hR (lxs (lmk β D ad ad2 g) (x + nI 1).toNatClampNeg) (lxs (lmk β D ad ad2 g) (x + nI 2).toNatClampNeg) 
  refine l_call1 (k := 0) (rest := []) fx (c_X3_common (ll_ (lmk β D ad ad2 g)) D ad g (lxs (lmk β D ad ad2 g) (x + nI 1).toNatClampNeg) (lxs (lmk β D ad ad2 g) (x + nI 2).toNatClampNeg) I J e1) rcS mvX3_common wL_107 dL_1111 rfl ⟨rfl, rfl⟩ rfl rfl rfl ?_
  refine l_aload_n fx dL_1114 rfl ?_
  refine l_aload_n fx dL_1115 rfl ?_
  refine l_iload_n fx dL_1116 rfl ?_
  refine l_iconst (v := nI 1) fx dL_1117 (by decide) ?_
  refine l_iadd fx dL_1118 ?_
  refine l_sld fx (hb 1 (by decide)) dL_1119 ?_
  refine l_aload_n fx dL_1120 rfl ?_
  refine l_iload_n fx dL_1121 rfl ?_
  refine l_iconst (v := nI 2) fx dL_1122 (by decide) ?_
  refine l_iadd fx dL_1123 ?_
  refine l_sld fx (hb 2 (by decide)) dL_1124 ?_
  refine l_call2 (k := 0) (rest := [.int r]) fx (c_X4_common (ll_ (lmk β D ad ad2 g)) D ad2 g (lxs (lmk β D ad ad2 g) (x + nI 1).toNatClampNeg) (lxs (lmk β D ad ad2 g) (x + nI 2).toNatClampNeg) K M e2) rcM mvX4_common wL_110 dL_1125 rfl ⟨rfl, rfl⟩ rfl rfl rfl ?_
  refine l_icmp_eq (tgt := 1933) fx dL_1128 (by decide) (fun _ => ?_) (fun q8 => absurd rfl q8)
  exact kk _ _ _ _ hR2
theorem lc_profile {β : lB} {D : va_G} {ad ad2 : Nat → Nat} {g : Nat → ClassId} (fx : lFX (lmk β D ad ad2 g)) {Rel : lRel} (hs : so_profile Rel) {x : Int32} (hb : ∀ j : Nat, j < 6 → vp_in (x + nI j) (lL (lmk β D ad ad2 g))) (kk : ∀ (I : zMi) (J : zMl) (K : zMi) (M : zMl), Rel I J K M → lAt (lmk β D ad ad2 g) 1933 (llv β ad ad2 x) [] I J K M) {I : zMi} {J : zMl} {K : zMi} {M : zMl} (hR : Rel I J K M) : lAt (lmk β D ad ad2 g) 1133 (llv β ad ad2 x) [] I J K M := by
  refine l_aload_n fx dL_1133 rfl ?_
  refine l_aload_n fx dL_1134 rfl ?_
  refine l_iload_n fx dL_1135 rfl ?_
  refine l_iconst (v := nI 1) fx dL_1136 (by decide) ?_
  refine l_iadd fx dL_1137 ?_
  refine l_sld fx (hb 1 (by decide)) dL_1138 ?_
  refine l_aload_n fx dL_1139 rfl ?_
  refine l_iload_n fx dL_1140 rfl ?_
  refine l_iconst (v := nI 2) fx dL_1141 (by decide) ?_
  refine l_iadd fx dL_1142 ?_
  refine l_sld fx (hb 2 (by decide)) dL_1143 ?_
  refine l_aload_n fx dL_1144 rfl ?_
  refine l_iload_n fx dL_1145 rfl ?_
  refine l_iconst (v := nI 3) fx dL_1146 (by decide) ?_
  refine l_iadd fx dL_1147 ?_
  refine l_sld fx (hb 3 (by decide)) dL_1148 ?_
  obtain ⟨r, I9, K9, e1, e2, hR2⟩ := hs _ _ _ _ hR (lxs (lmk β D ad ad2 g) (x + nI 1).toNatClampNeg) (lxs (lmk β D ad ad2 g) (x + nI 2).toNatClampNeg) (lxs (lmk β D ad ad2 g) (x + nI 3).toNatClampNeg) 
  refine l_call1 (k := 0) (rest := []) fx (c_X3_profile (ll_ (lmk β D ad ad2 g)) D ad g (lxs (lmk β D ad ad2 g) (x + nI 1).toNatClampNeg) (lxs (lmk β D ad ad2 g) (x + nI 2).toNatClampNeg) (lxs (lmk β D ad ad2 g) (x + nI 3).toNatClampNeg) I J e1) rcS mvX3_profile wL_111 dL_1149 rfl ⟨rfl, rfl⟩ rfl rfl rfl ?_
  refine l_aload_n fx dL_1152 rfl ?_
  refine l_aload_n fx dL_1153 rfl ?_
  refine l_iload_n fx dL_1154 rfl ?_
  refine l_iconst (v := nI 1) fx dL_1155 (by decide) ?_
  refine l_iadd fx dL_1156 ?_
  refine l_sld fx (hb 1 (by decide)) dL_1157 ?_
  refine l_aload_n fx dL_1158 rfl ?_
  refine l_iload_n fx dL_1159 rfl ?_
  refine l_iconst (v := nI 2) fx dL_1160 (by decide) ?_
  refine l_iadd fx dL_1161 ?_
  refine l_sld fx (hb 2 (by decide)) dL_1162 ?_
  refine l_aload_n fx dL_1163 rfl ?_
  refine l_iload_n fx dL_1164 rfl ?_
  refine l_iconst (v := nI 3) fx dL_1165 (by decide) ?_
  refine l_iadd fx dL_1166 ?_
  refine l_sld fx (hb 3 (by decide)) dL_1167 ?_
  refine l_call2 (k := 0) (rest := [.int r]) fx (c_X4_profile (ll_ (lmk β D ad ad2 g)) D ad2 g (lxs (lmk β D ad ad2 g) (x + nI 1).toNatClampNeg) (lxs (lmk β D ad ad2 g) (x + nI 2).toNatClampNeg) (lxs (lmk β D ad ad2 g) (x + nI 3).toNatClampNeg) K M e2) rcM mvX4_profile wL_114 dL_1168 rfl ⟨rfl, rfl⟩ rfl rfl rfl ?_
  refine l_icmp_eq (tgt := 1933) fx dL_1171 (by decide) (fun _ => ?_) (fun q8 => absurd rfl q8)
  exact kk _ _ _ _ hR2
theorem lc_mayBeLike {β : lB} {D : va_G} {ad ad2 : Nat → Nat} {g : Nat → ClassId} (fx : lFX (lmk β D ad ad2 g)) {Rel : lRel} (hs : so_mayBeLike Rel) {x : Int32} (hb : ∀ j : Nat, j < 6 → vp_in (x + nI j) (lL (lmk β D ad ad2 g))) (kk : ∀ (I : zMi) (J : zMl) (K : zMi) (M : zMl), Rel I J K M → lAt (lmk β D ad ad2 g) 1933 (llv β ad ad2 x) [] I J K M) {I : zMi} {J : zMl} {K : zMi} {M : zMl} (hR : Rel I J K M) : lAt (lmk β D ad ad2 g) 1176 (llv β ad ad2 x) [] I J K M := by
  refine l_aload_n fx dL_1176 rfl ?_
  refine l_aload_n fx dL_1177 rfl ?_
  refine l_iload_n fx dL_1178 rfl ?_
  refine l_iconst (v := nI 1) fx dL_1179 (by decide) ?_
  refine l_iadd fx dL_1180 ?_
  refine l_sld fx (hb 1 (by decide)) dL_1181 ?_
  refine l_aload_n fx dL_1182 rfl ?_
  refine l_iload_n fx dL_1183 rfl ?_
  refine l_iconst (v := nI 2) fx dL_1184 (by decide) ?_
  refine l_iadd fx dL_1185 ?_
  refine l_sld fx (hb 2 (by decide)) dL_1186 ?_
  obtain ⟨r, I9, K9, e1, e2, hR2⟩ := hs _ _ _ _ hR (lxs (lmk β D ad ad2 g) (x + nI 1).toNatClampNeg) (lxs (lmk β D ad ad2 g) (x + nI 2).toNatClampNeg) 
  refine l_call1 (k := 0) (rest := []) fx (c_X3_mayBeLike (ll_ (lmk β D ad ad2 g)) D ad g (lxs (lmk β D ad ad2 g) (x + nI 1).toNatClampNeg) (lxs (lmk β D ad ad2 g) (x + nI 2).toNatClampNeg) I J e1) rcS mvX3_mayBeLike wL_115 dL_1187 rfl ⟨rfl, rfl⟩ rfl rfl rfl ?_
  refine l_aload_n fx dL_1190 rfl ?_
  refine l_aload_n fx dL_1191 rfl ?_
  refine l_iload_n fx dL_1192 rfl ?_
  refine l_iconst (v := nI 1) fx dL_1193 (by decide) ?_
  refine l_iadd fx dL_1194 ?_
  refine l_sld fx (hb 1 (by decide)) dL_1195 ?_
  refine l_aload_n fx dL_1196 rfl ?_
  refine l_iload_n fx dL_1197 rfl ?_
  refine l_iconst (v := nI 2) fx dL_1198 (by decide) ?_
  refine l_iadd fx dL_1199 ?_
  refine l_sld fx (hb 2 (by decide)) dL_1200 ?_
  refine l_call2 (k := 0) (rest := [.int r]) fx (c_X4_mayBeLike (ll_ (lmk β D ad ad2 g)) D ad2 g (lxs (lmk β D ad ad2 g) (x + nI 1).toNatClampNeg) (lxs (lmk β D ad ad2 g) (x + nI 2).toNatClampNeg) K M e2) rcM mvX4_mayBeLike wL_118 dL_1201 rfl ⟨rfl, rfl⟩ rfl rfl rfl ?_
  refine l_icmp_eq (tgt := 1933) fx dL_1204 (by decide) (fun _ => ?_) (fun q8 => absurd rfl q8)
  exact kk _ _ _ _ hR2
theorem lc_like {β : lB} {D : va_G} {ad ad2 : Nat → Nat} {g : Nat → ClassId} (fx : lFX (lmk β D ad ad2 g)) {Rel : lRel} (hs : so_like Rel) {x : Int32} (hb : ∀ j : Nat, j < 6 → vp_in (x + nI j) (lL (lmk β D ad ad2 g))) (kk : ∀ (I : zMi) (J : zMl) (K : zMi) (M : zMl), Rel I J K M → lAt (lmk β D ad ad2 g) 1933 (llv β ad ad2 x) [] I J K M) {I : zMi} {J : zMl} {K : zMi} {M : zMl} (hR : Rel I J K M) : lAt (lmk β D ad ad2 g) 1209 (llv β ad ad2 x) [] I J K M := by
  refine l_aload_n fx dL_1209 rfl ?_
  refine l_aload_n fx dL_1210 rfl ?_
  refine l_iload_n fx dL_1211 rfl ?_
  refine l_iconst (v := nI 1) fx dL_1212 (by decide) ?_
  refine l_iadd fx dL_1213 ?_
  refine l_sld fx (hb 1 (by decide)) dL_1214 ?_
  refine l_aload_n fx dL_1215 rfl ?_
  refine l_iload_n fx dL_1216 rfl ?_
  refine l_iconst (v := nI 2) fx dL_1217 (by decide) ?_
  refine l_iadd fx dL_1218 ?_
  refine l_sld fx (hb 2 (by decide)) dL_1219 ?_
  obtain ⟨r, I9, K9, e1, e2, hR2⟩ := hs _ _ _ _ hR (lxs (lmk β D ad ad2 g) (x + nI 1).toNatClampNeg) (lxs (lmk β D ad ad2 g) (x + nI 2).toNatClampNeg) 
  refine l_call1 (k := 0) (rest := []) fx (c_X3_like (ll_ (lmk β D ad ad2 g)) D ad g (lxs (lmk β D ad ad2 g) (x + nI 1).toNatClampNeg) (lxs (lmk β D ad ad2 g) (x + nI 2).toNatClampNeg) I J e1) rcS mvX3_like wL_119 dL_1220 rfl ⟨rfl, rfl⟩ rfl rfl rfl ?_
  refine l_aload_n fx dL_1223 rfl ?_
  refine l_aload_n fx dL_1224 rfl ?_
  refine l_iload_n fx dL_1225 rfl ?_
  refine l_iconst (v := nI 1) fx dL_1226 (by decide) ?_
  refine l_iadd fx dL_1227 ?_
  refine l_sld fx (hb 1 (by decide)) dL_1228 ?_
  refine l_aload_n fx dL_1229 rfl ?_
  refine l_iload_n fx dL_1230 rfl ?_
  refine l_iconst (v := nI 2) fx dL_1231 (by decide) ?_
  refine l_iadd fx dL_1232 ?_
  refine l_sld fx (hb 2 (by decide)) dL_1233 ?_
  refine l_call2 (k := 0) (rest := [.int r]) fx (c_X4_like (ll_ (lmk β D ad ad2 g)) D ad2 g (lxs (lmk β D ad ad2 g) (x + nI 1).toNatClampNeg) (lxs (lmk β D ad ad2 g) (x + nI 2).toNatClampNeg) K M e2) rcM mvX4_like wL_122 dL_1234 rfl ⟨rfl, rfl⟩ rfl rfl rfl ?_
  refine l_icmp_eq (tgt := 1933) fx dL_1237 (by decide) (fun _ => ?_) (fun q8 => absurd rfl q8)
  exact kk _ _ _ _ hR2
theorem lc_excess {β : lB} {D : va_G} {ad ad2 : Nat → Nat} {g : Nat → ClassId} (fx : lFX (lmk β D ad ad2 g)) {Rel : lRel} (hs : so_excess Rel) {x : Int32} (hb : ∀ j : Nat, j < 6 → vp_in (x + nI j) (lL (lmk β D ad ad2 g))) (kk : ∀ (I : zMi) (J : zMl) (K : zMi) (M : zMl), Rel I J K M → lAt (lmk β D ad ad2 g) 1933 (llv β ad ad2 x) [] I J K M) {I : zMi} {J : zMl} {K : zMi} {M : zMl} (hR : Rel I J K M) : lAt (lmk β D ad ad2 g) 1242 (llv β ad ad2 x) [] I J K M := by
  refine l_aload_n fx dL_1242 rfl ?_
  refine l_aload_n fx dL_1243 rfl ?_
  refine l_iload_n fx dL_1244 rfl ?_
  refine l_iconst (v := nI 1) fx dL_1245 (by decide) ?_
  refine l_iadd fx dL_1246 ?_
  refine l_sld fx (hb 1 (by decide)) dL_1247 ?_
  obtain ⟨r, I9, K9, e1, e2, hR2⟩ := hs _ _ _ _ hR (lxs (lmk β D ad ad2 g) (x + nI 1).toNatClampNeg) 
  refine l_call1 (k := 0) (rest := []) fx (c_X3_excess (ll_ (lmk β D ad ad2 g)) D ad g (lxs (lmk β D ad ad2 g) (x + nI 1).toNatClampNeg) I J e1) rcS mvX3_excess wL_123 dL_1248 rfl ⟨rfl, rfl⟩ rfl rfl rfl ?_
  refine l_aload_n fx dL_1251 rfl ?_
  refine l_aload_n fx dL_1252 rfl ?_
  refine l_iload_n fx dL_1253 rfl ?_
  refine l_iconst (v := nI 1) fx dL_1254 (by decide) ?_
  refine l_iadd fx dL_1255 ?_
  refine l_sld fx (hb 1 (by decide)) dL_1256 ?_
  refine l_call2 (k := 0) (rest := [.int r]) fx (c_X4_excess (ll_ (lmk β D ad ad2 g)) D ad2 g (lxs (lmk β D ad ad2 g) (x + nI 1).toNatClampNeg) K M e2) rcM mvX4_excess wL_126 dL_1257 rfl ⟨rfl, rfl⟩ rfl rfl rfl ?_
  refine l_icmp_eq (tgt := 1933) fx dL_1260 (by decide) (fun _ => ?_) (fun q8 => absurd rfl q8)
  exact kk _ _ _ _ hR2
theorem lc_peak {β : lB} {D : va_G} {ad ad2 : Nat → Nat} {g : Nat → ClassId} (fx : lFX (lmk β D ad ad2 g)) {Rel : lRel} (hs : so_peak Rel) {x : Int32} (hb : ∀ j : Nat, j < 6 → vp_in (x + nI j) (lL (lmk β D ad ad2 g))) (kk : ∀ (I : zMi) (J : zMl) (K : zMi) (M : zMl), Rel I J K M → lAt (lmk β D ad ad2 g) 1933 (llv β ad ad2 x) [] I J K M) {I : zMi} {J : zMl} {K : zMi} {M : zMl} (hR : Rel I J K M) : lAt (lmk β D ad ad2 g) 1265 (llv β ad ad2 x) [] I J K M := by
  refine l_aload_n fx dL_1265 rfl ?_
  refine l_aload_n fx dL_1266 rfl ?_
  refine l_iload_n fx dL_1267 rfl ?_
  refine l_iconst (v := nI 1) fx dL_1268 (by decide) ?_
  refine l_iadd fx dL_1269 ?_
  refine l_sld fx (hb 1 (by decide)) dL_1270 ?_
  obtain ⟨r, I9, K9, e1, e2, hR2⟩ := hs _ _ _ _ hR (lxs (lmk β D ad ad2 g) (x + nI 1).toNatClampNeg) 
  refine l_call1 (k := 0) (rest := []) fx (c_X3_peak (ll_ (lmk β D ad ad2 g)) D ad g (lxs (lmk β D ad ad2 g) (x + nI 1).toNatClampNeg) I J e1) rcS mvX3_peak wL_127 dL_1271 rfl ⟨rfl, rfl⟩ rfl rfl rfl ?_
  refine l_aload_n fx dL_1274 rfl ?_
  refine l_aload_n fx dL_1275 rfl ?_
  refine l_iload_n fx dL_1276 rfl ?_
  refine l_iconst (v := nI 1) fx dL_1277 (by decide) ?_
  refine l_iadd fx dL_1278 ?_
  refine l_sld fx (hb 1 (by decide)) dL_1279 ?_
  refine l_call2 (k := 0) (rest := [.int r]) fx (c_X4_peak (ll_ (lmk β D ad ad2 g)) D ad2 g (lxs (lmk β D ad ad2 g) (x + nI 1).toNatClampNeg) K M e2) rcM mvX4_peak wL_130 dL_1280 rfl ⟨rfl, rfl⟩ rfl rfl rfl ?_
  refine l_icmp_eq (tgt := 1933) fx dL_1283 (by decide) (fun _ => ?_) (fun q8 => absurd rfl q8)
  exact kk _ _ _ _ hR2
theorem lc_block {β : lB} {D : va_G} {ad ad2 : Nat → Nat} {g : Nat → ClassId} (fx : lFX (lmk β D ad ad2 g)) {Rel : lRel} (hs : so_block Rel) {x : Int32} (hb : ∀ j : Nat, j < 6 → vp_in (x + nI j) (lL (lmk β D ad ad2 g))) (kk : ∀ (I : zMi) (J : zMl) (K : zMi) (M : zMl), Rel I J K M → lAt (lmk β D ad ad2 g) 1933 (llv β ad ad2 x) [] I J K M) {I : zMi} {J : zMl} {K : zMi} {M : zMl} (hR : Rel I J K M) : lAt (lmk β D ad ad2 g) 1288 (llv β ad ad2 x) [] I J K M := by
  refine l_aload_n fx dL_1288 rfl ?_
  refine l_aload_n fx dL_1289 rfl ?_
  refine l_iload_n fx dL_1290 rfl ?_
  refine l_iconst (v := nI 1) fx dL_1291 (by decide) ?_
  refine l_iadd fx dL_1292 ?_
  refine l_sld fx (hb 1 (by decide)) dL_1293 ?_
  refine l_aload_n fx dL_1294 rfl ?_
  refine l_iload_n fx dL_1295 rfl ?_
  refine l_iconst (v := nI 2) fx dL_1296 (by decide) ?_
  refine l_iadd fx dL_1297 ?_
  refine l_sld fx (hb 2 (by decide)) dL_1298 ?_
  obtain ⟨r, I9, K9, e1, e2, hR2⟩ := hs _ _ _ _ hR (lxs (lmk β D ad ad2 g) (x + nI 1).toNatClampNeg) (lxs (lmk β D ad ad2 g) (x + nI 2).toNatClampNeg) 
  refine l_call1 (k := 0) (rest := []) fx (c_X3_block (ll_ (lmk β D ad ad2 g)) D ad g (lxs (lmk β D ad ad2 g) (x + nI 1).toNatClampNeg) (lxs (lmk β D ad ad2 g) (x + nI 2).toNatClampNeg) I J e1) rcS mvX3_block wL_131 dL_1299 rfl ⟨rfl, rfl⟩ rfl rfl rfl ?_
  refine l_aload_n fx dL_1302 rfl ?_
  refine l_aload_n fx dL_1303 rfl ?_
  refine l_iload_n fx dL_1304 rfl ?_
  refine l_iconst (v := nI 1) fx dL_1305 (by decide) ?_
  refine l_iadd fx dL_1306 ?_
  refine l_sld fx (hb 1 (by decide)) dL_1307 ?_
  refine l_aload_n fx dL_1308 rfl ?_
  refine l_iload_n fx dL_1309 rfl ?_
  refine l_iconst (v := nI 2) fx dL_1310 (by decide) ?_
  refine l_iadd fx dL_1311 ?_
  refine l_sld fx (hb 2 (by decide)) dL_1312 ?_
  refine l_call2 (k := 0) (rest := [.int r]) fx (c_X4_block (ll_ (lmk β D ad ad2 g)) D ad2 g (lxs (lmk β D ad ad2 g) (x + nI 1).toNatClampNeg) (lxs (lmk β D ad ad2 g) (x + nI 2).toNatClampNeg) K M e2) rcM mvX4_block wL_134 dL_1313 rfl ⟨rfl, rfl⟩ rfl rfl rfl ?_
  refine l_icmp_eq (tgt := 1933) fx dL_1316 (by decide) (fun _ => ?_) (fun q8 => absurd rfl q8)
  exact kk _ _ _ _ hR2
theorem lc_echo {β : lB} {D : va_G} {ad ad2 : Nat → Nat} {g : Nat → ClassId} (fx : lFX (lmk β D ad ad2 g)) {Rel : lRel} (hs : so_echo Rel) {x : Int32} (hb : ∀ j : Nat, j < 6 → vp_in (x + nI j) (lL (lmk β D ad ad2 g))) (kk : ∀ (I : zMi) (J : zMl) (K : zMi) (M : zMl), Rel I J K M → lAt (lmk β D ad ad2 g) 1933 (llv β ad ad2 x) [] I J K M) {I : zMi} {J : zMl} {K : zMi} {M : zMl} (hR : Rel I J K M) : lAt (lmk β D ad ad2 g) 1321 (llv β ad ad2 x) [] I J K M := by
  refine l_aload_n fx dL_1321 rfl ?_
  refine l_aload_n fx dL_1322 rfl ?_
  refine l_iload_n fx dL_1323 rfl ?_
  refine l_iconst (v := nI 1) fx dL_1324 (by decide) ?_
  refine l_iadd fx dL_1325 ?_
  refine l_sld fx (hb 1 (by decide)) dL_1326 ?_
  refine l_aload_n fx dL_1327 rfl ?_
  refine l_iload_n fx dL_1328 rfl ?_
  refine l_iconst (v := nI 2) fx dL_1329 (by decide) ?_
  refine l_iadd fx dL_1330 ?_
  refine l_sld fx (hb 2 (by decide)) dL_1331 ?_
  refine l_aload_n fx dL_1332 rfl ?_
  refine l_iload_n fx dL_1333 rfl ?_
  refine l_iconst (v := nI 3) fx dL_1334 (by decide) ?_
  refine l_iadd fx dL_1335 ?_
  refine l_sld fx (hb 3 (by decide)) dL_1336 ?_
  refine l_if_eq (tgt := 1344) fx dL_1337 (by decide) (fun q3 => ?_) (fun q3 => ?_)
  · skip
    refine l_iconst (v := nI 0) fx dL_1344 (by decide) ?_
    obtain ⟨r, I9, K9, e1, e2, hR2⟩ := hs _ _ _ _ hR (lxs (lmk β D ad ad2 g) (x + nI 1).toNatClampNeg) (lxs (lmk β D ad ad2 g) (x + nI 2).toNatClampNeg) (nI 0) (Or.inl (by decide))
    refine l_call1 (k := 0) (rest := []) fx (c_X3_echo (ll_ (lmk β D ad ad2 g)) D ad g (lxs (lmk β D ad ad2 g) (x + nI 1).toNatClampNeg) (lxs (lmk β D ad ad2 g) (x + nI 2).toNatClampNeg) (nI 0) I J e1) rcS mvX3_echo wL_135 dL_1345 rfl ⟨rfl, rfl⟩ rfl rfl rfl ?_
    refine l_aload_n fx dL_1348 rfl ?_
    refine l_aload_n fx dL_1349 rfl ?_
    refine l_iload_n fx dL_1350 rfl ?_
    refine l_iconst (v := nI 1) fx dL_1351 (by decide) ?_
    refine l_iadd fx dL_1352 ?_
    refine l_sld fx (hb 1 (by decide)) dL_1353 ?_
    refine l_aload_n fx dL_1354 rfl ?_
    refine l_iload_n fx dL_1355 rfl ?_
    refine l_iconst (v := nI 2) fx dL_1356 (by decide) ?_
    refine l_iadd fx dL_1357 ?_
    refine l_sld fx (hb 2 (by decide)) dL_1358 ?_
    refine l_aload_n fx dL_1359 rfl ?_
    refine l_iload_n fx dL_1360 rfl ?_
    refine l_iconst (v := nI 3) fx dL_1361 (by decide) ?_
    refine l_iadd fx dL_1362 ?_
    refine l_sld fx (hb 3 (by decide)) dL_1363 ?_
    refine l_if_eq (tgt := 1371) fx dL_1364 (by decide) (fun q9 => ?_) (fun q9 => ?_)
    · skip
      refine l_iconst (v := nI 0) fx dL_1371 (by decide) ?_
      refine l_call2 (k := 0) (rest := [.int r]) fx (c_X4_echo (ll_ (lmk β D ad ad2 g)) D ad2 g (lxs (lmk β D ad ad2 g) (x + nI 1).toNatClampNeg) (lxs (lmk β D ad ad2 g) (x + nI 2).toNatClampNeg) (nI 0) K M e2) rcM mvX4_echo wL_139 dL_1372 rfl ⟨rfl, rfl⟩ rfl rfl rfl ?_
      refine l_icmp_eq (tgt := 1933) fx dL_1375 (by decide) (fun _ => ?_) (fun q8 => absurd rfl q8)
      exact kk _ _ _ _ hR2
    · exact absurd q3 q9
  · skip
    refine l_iconst (v := nI 1) fx dL_1340 (by decide) ?_
    refine l_goto (tgt := 1345) fx dL_1341 (by decide) ?_
    obtain ⟨r, I9, K9, e1, e2, hR2⟩ := hs _ _ _ _ hR (lxs (lmk β D ad ad2 g) (x + nI 1).toNatClampNeg) (lxs (lmk β D ad ad2 g) (x + nI 2).toNatClampNeg) (nI 1) (Or.inr (by decide))
    refine l_call1 (k := 0) (rest := []) fx (c_X3_echo (ll_ (lmk β D ad ad2 g)) D ad g (lxs (lmk β D ad ad2 g) (x + nI 1).toNatClampNeg) (lxs (lmk β D ad ad2 g) (x + nI 2).toNatClampNeg) (nI 1) I J e1) rcS mvX3_echo wL_135 dL_1345 rfl ⟨rfl, rfl⟩ rfl rfl rfl ?_
    refine l_aload_n fx dL_1348 rfl ?_
    refine l_aload_n fx dL_1349 rfl ?_
    refine l_iload_n fx dL_1350 rfl ?_
    refine l_iconst (v := nI 1) fx dL_1351 (by decide) ?_
    refine l_iadd fx dL_1352 ?_
    refine l_sld fx (hb 1 (by decide)) dL_1353 ?_
    refine l_aload_n fx dL_1354 rfl ?_
    refine l_iload_n fx dL_1355 rfl ?_
    refine l_iconst (v := nI 2) fx dL_1356 (by decide) ?_
    refine l_iadd fx dL_1357 ?_
    refine l_sld fx (hb 2 (by decide)) dL_1358 ?_
    refine l_aload_n fx dL_1359 rfl ?_
    refine l_iload_n fx dL_1360 rfl ?_
    refine l_iconst (v := nI 3) fx dL_1361 (by decide) ?_
    refine l_iadd fx dL_1362 ?_
    refine l_sld fx (hb 3 (by decide)) dL_1363 ?_
    refine l_if_eq (tgt := 1371) fx dL_1364 (by decide) (fun q9 => ?_) (fun q9 => ?_)
    · exact absurd q9 q3
    · skip
      refine l_iconst (v := nI 1) fx dL_1367 (by decide) ?_
      refine l_goto (tgt := 1372) fx dL_1368 (by decide) ?_
      refine l_call2 (k := 0) (rest := [.int r]) fx (c_X4_echo (ll_ (lmk β D ad ad2 g)) D ad2 g (lxs (lmk β D ad ad2 g) (x + nI 1).toNatClampNeg) (lxs (lmk β D ad ad2 g) (x + nI 2).toNatClampNeg) (nI 1) K M e2) rcM mvX4_echo wL_139 dL_1372 rfl ⟨rfl, rfl⟩ rfl rfl rfl ?_
      refine l_icmp_eq (tgt := 1933) fx dL_1375 (by decide) (fun _ => ?_) (fun q8 => absurd rfl q8)
      exact kk _ _ _ _ hR2
theorem lc_side {β : lB} {D : va_G} {ad ad2 : Nat → Nat} {g : Nat → ClassId} (fx : lFX (lmk β D ad ad2 g)) {Rel : lRel} (hs : so_side Rel) {x : Int32} (hb : ∀ j : Nat, j < 6 → vp_in (x + nI j) (lL (lmk β D ad ad2 g))) (kk : ∀ (I : zMi) (J : zMl) (K : zMi) (M : zMl), Rel I J K M → lAt (lmk β D ad ad2 g) 1933 (llv β ad ad2 x) [] I J K M) {I : zMi} {J : zMl} {K : zMi} {M : zMl} (hR : Rel I J K M) : lAt (lmk β D ad ad2 g) 1380 (llv β ad ad2 x) [] I J K M := by
  refine l_aload_n fx dL_1380 rfl ?_
  refine l_aload_n fx dL_1381 rfl ?_
  refine l_iload_n fx dL_1382 rfl ?_
  refine l_iconst (v := nI 1) fx dL_1383 (by decide) ?_
  refine l_iadd fx dL_1384 ?_
  refine l_sld fx (hb 1 (by decide)) dL_1385 ?_
  obtain ⟨r, I9, K9, e1, e2, hR2⟩ := hs _ _ _ _ hR (lxs (lmk β D ad ad2 g) (x + nI 1).toNatClampNeg) 
  refine l_call1 (k := 0) (rest := []) fx (c_X3_side (ll_ (lmk β D ad ad2 g)) D ad g (lxs (lmk β D ad ad2 g) (x + nI 1).toNatClampNeg) I J e1) rcS mvX3_side wL_140 dL_1386 rfl ⟨rfl, rfl⟩ rfl rfl rfl ?_
  refine l_aload_n fx dL_1389 rfl ?_
  refine l_aload_n fx dL_1390 rfl ?_
  refine l_iload_n fx dL_1391 rfl ?_
  refine l_iconst (v := nI 1) fx dL_1392 (by decide) ?_
  refine l_iadd fx dL_1393 ?_
  refine l_sld fx (hb 1 (by decide)) dL_1394 ?_
  refine l_call2 (k := 0) (rest := [.int r]) fx (c_X4_side (ll_ (lmk β D ad ad2 g)) D ad2 g (lxs (lmk β D ad ad2 g) (x + nI 1).toNatClampNeg) K M e2) rcM mvX4_side wL_143 dL_1395 rfl ⟨rfl, rfl⟩ rfl rfl rfl ?_
  refine l_icmp_eq (tgt := 1933) fx dL_1398 (by decide) (fun _ => ?_) (fun q8 => absurd rfl q8)
  exact kk _ _ _ _ hR2
theorem lc_cancels {β : lB} {D : va_G} {ad ad2 : Nat → Nat} {g : Nat → ClassId} (fx : lFX (lmk β D ad ad2 g)) {Rel : lRel} (hs : so_cancels Rel) {x : Int32} (hb : ∀ j : Nat, j < 6 → vp_in (x + nI j) (lL (lmk β D ad ad2 g))) (kk : ∀ (I : zMi) (J : zMl) (K : zMi) (M : zMl), Rel I J K M → lAt (lmk β D ad ad2 g) 1933 (llv β ad ad2 x) [] I J K M) {I : zMi} {J : zMl} {K : zMi} {M : zMl} (hR : Rel I J K M) : lAt (lmk β D ad ad2 g) 1403 (llv β ad ad2 x) [] I J K M := by
  refine l_aload_n fx dL_1403 rfl ?_
  refine l_aload_n fx dL_1404 rfl ?_
  refine l_iload_n fx dL_1405 rfl ?_
  refine l_iconst (v := nI 1) fx dL_1406 (by decide) ?_
  refine l_iadd fx dL_1407 ?_
  refine l_sld fx (hb 1 (by decide)) dL_1408 ?_
  refine l_aload_n fx dL_1409 rfl ?_
  refine l_iload_n fx dL_1410 rfl ?_
  refine l_iconst (v := nI 2) fx dL_1411 (by decide) ?_
  refine l_iadd fx dL_1412 ?_
  refine l_sld fx (hb 2 (by decide)) dL_1413 ?_
  refine l_aload_n fx dL_1414 rfl ?_
  refine l_iload_n fx dL_1415 rfl ?_
  refine l_iconst (v := nI 3) fx dL_1416 (by decide) ?_
  refine l_iadd fx dL_1417 ?_
  refine l_sld fx (hb 3 (by decide)) dL_1418 ?_
  refine l_if_eq (tgt := 1426) fx dL_1419 (by decide) (fun q3 => ?_) (fun q3 => ?_)
  · skip
    refine l_iconst (v := nI 0) fx dL_1426 (by decide) ?_
    obtain ⟨r, I9, K9, e1, e2, hR2⟩ := hs _ _ _ _ hR (lxs (lmk β D ad ad2 g) (x + nI 1).toNatClampNeg) (lxs (lmk β D ad ad2 g) (x + nI 2).toNatClampNeg) (nI 0) (Or.inl (by decide))
    refine l_call1 (k := 0) (rest := []) fx (c_X3_cancels (ll_ (lmk β D ad ad2 g)) D ad g (lxs (lmk β D ad ad2 g) (x + nI 1).toNatClampNeg) (lxs (lmk β D ad ad2 g) (x + nI 2).toNatClampNeg) (nI 0) I J e1) rcS mvX3_cancels wL_144 dL_1427 rfl ⟨rfl, rfl⟩ rfl rfl rfl ?_
    refine l_aload_n fx dL_1430 rfl ?_
    refine l_aload_n fx dL_1431 rfl ?_
    refine l_iload_n fx dL_1432 rfl ?_
    refine l_iconst (v := nI 1) fx dL_1433 (by decide) ?_
    refine l_iadd fx dL_1434 ?_
    refine l_sld fx (hb 1 (by decide)) dL_1435 ?_
    refine l_aload_n fx dL_1436 rfl ?_
    refine l_iload_n fx dL_1437 rfl ?_
    refine l_iconst (v := nI 2) fx dL_1438 (by decide) ?_
    refine l_iadd fx dL_1439 ?_
    refine l_sld fx (hb 2 (by decide)) dL_1440 ?_
    refine l_aload_n fx dL_1441 rfl ?_
    refine l_iload_n fx dL_1442 rfl ?_
    refine l_iconst (v := nI 3) fx dL_1443 (by decide) ?_
    refine l_iadd fx dL_1444 ?_
    refine l_sld fx (hb 3 (by decide)) dL_1445 ?_
    refine l_if_eq (tgt := 1453) fx dL_1446 (by decide) (fun q9 => ?_) (fun q9 => ?_)
    · skip
      refine l_iconst (v := nI 0) fx dL_1453 (by decide) ?_
      refine l_call2 (k := 0) (rest := [.int r]) fx (c_X4_cancels (ll_ (lmk β D ad ad2 g)) D ad2 g (lxs (lmk β D ad ad2 g) (x + nI 1).toNatClampNeg) (lxs (lmk β D ad ad2 g) (x + nI 2).toNatClampNeg) (nI 0) K M e2) rcM mvX4_cancels wL_147 dL_1454 rfl ⟨rfl, rfl⟩ rfl rfl rfl ?_
      refine l_icmp_eq (tgt := 1933) fx dL_1457 (by decide) (fun _ => ?_) (fun q8 => absurd rfl q8)
      exact kk _ _ _ _ hR2
    · exact absurd q3 q9
  · skip
    refine l_iconst (v := nI 1) fx dL_1422 (by decide) ?_
    refine l_goto (tgt := 1427) fx dL_1423 (by decide) ?_
    obtain ⟨r, I9, K9, e1, e2, hR2⟩ := hs _ _ _ _ hR (lxs (lmk β D ad ad2 g) (x + nI 1).toNatClampNeg) (lxs (lmk β D ad ad2 g) (x + nI 2).toNatClampNeg) (nI 1) (Or.inr (by decide))
    refine l_call1 (k := 0) (rest := []) fx (c_X3_cancels (ll_ (lmk β D ad ad2 g)) D ad g (lxs (lmk β D ad ad2 g) (x + nI 1).toNatClampNeg) (lxs (lmk β D ad ad2 g) (x + nI 2).toNatClampNeg) (nI 1) I J e1) rcS mvX3_cancels wL_144 dL_1427 rfl ⟨rfl, rfl⟩ rfl rfl rfl ?_
    refine l_aload_n fx dL_1430 rfl ?_
    refine l_aload_n fx dL_1431 rfl ?_
    refine l_iload_n fx dL_1432 rfl ?_
    refine l_iconst (v := nI 1) fx dL_1433 (by decide) ?_
    refine l_iadd fx dL_1434 ?_
    refine l_sld fx (hb 1 (by decide)) dL_1435 ?_
    refine l_aload_n fx dL_1436 rfl ?_
    refine l_iload_n fx dL_1437 rfl ?_
    refine l_iconst (v := nI 2) fx dL_1438 (by decide) ?_
    refine l_iadd fx dL_1439 ?_
    refine l_sld fx (hb 2 (by decide)) dL_1440 ?_
    refine l_aload_n fx dL_1441 rfl ?_
    refine l_iload_n fx dL_1442 rfl ?_
    refine l_iconst (v := nI 3) fx dL_1443 (by decide) ?_
    refine l_iadd fx dL_1444 ?_
    refine l_sld fx (hb 3 (by decide)) dL_1445 ?_
    refine l_if_eq (tgt := 1453) fx dL_1446 (by decide) (fun q9 => ?_) (fun q9 => ?_)
    · exact absurd q9 q3
    · skip
      refine l_iconst (v := nI 1) fx dL_1449 (by decide) ?_
      refine l_goto (tgt := 1454) fx dL_1450 (by decide) ?_
      refine l_call2 (k := 0) (rest := [.int r]) fx (c_X4_cancels (ll_ (lmk β D ad ad2 g)) D ad2 g (lxs (lmk β D ad ad2 g) (x + nI 1).toNatClampNeg) (lxs (lmk β D ad ad2 g) (x + nI 2).toNatClampNeg) (nI 1) K M e2) rcM mvX4_cancels wL_147 dL_1454 rfl ⟨rfl, rfl⟩ rfl rfl rfl ?_
      refine l_icmp_eq (tgt := 1933) fx dL_1457 (by decide) (fun _ => ?_) (fun q8 => absurd rfl q8)
      exact kk _ _ _ _ hR2
theorem lc_pairs {β : lB} {D : va_G} {ad ad2 : Nat → Nat} {g : Nat → ClassId} (fx : lFX (lmk β D ad ad2 g)) {Rel : lRel} (hs : so_pairs Rel) {x : Int32} (hb : ∀ j : Nat, j < 6 → vp_in (x + nI j) (lL (lmk β D ad ad2 g))) (kk : ∀ (I : zMi) (J : zMl) (K : zMi) (M : zMl), Rel I J K M → lAt (lmk β D ad ad2 g) 1933 (llv β ad ad2 x) [] I J K M) {I : zMi} {J : zMl} {K : zMi} {M : zMl} (hR : Rel I J K M) : lAt (lmk β D ad ad2 g) 1462 (llv β ad ad2 x) [] I J K M := by
  refine l_aload_n fx dL_1462 rfl ?_
  refine l_aload_n fx dL_1463 rfl ?_
  refine l_iload_n fx dL_1464 rfl ?_
  refine l_iconst (v := nI 1) fx dL_1465 (by decide) ?_
  refine l_iadd fx dL_1466 ?_
  refine l_sld fx (hb 1 (by decide)) dL_1467 ?_
  obtain ⟨r, J9, K9, e1, e2, hR2⟩ := hs _ _ _ _ hR (lxs (lmk β D ad ad2 g) (x + nI 1).toNatClampNeg) 
  refine l_call1 (k := 0) (rest := []) fx (c_X3_pairs (ll_ (lmk β D ad ad2 g)) D ad g (lxs (lmk β D ad ad2 g) (x + nI 1).toNatClampNeg) I J e1) rcS mvX3_pairs wL_148 dL_1468 rfl ⟨rfl, rfl⟩ rfl rfl rfl ?_
  refine l_aload_n fx dL_1471 rfl ?_
  refine l_aload_n fx dL_1472 rfl ?_
  refine l_iload_n fx dL_1473 rfl ?_
  refine l_iconst (v := nI 1) fx dL_1474 (by decide) ?_
  refine l_iadd fx dL_1475 ?_
  refine l_sld fx (hb 1 (by decide)) dL_1476 ?_
  refine l_call2 (k := 0) (rest := [.int r]) fx (c_X4_pairs (ll_ (lmk β D ad ad2 g)) D ad2 g (lxs (lmk β D ad ad2 g) (x + nI 1).toNatClampNeg) K M e2) rcM mvX4_pairs wL_151 dL_1477 rfl ⟨rfl, rfl⟩ rfl rfl rfl ?_
  refine l_icmp_eq (tgt := 1933) fx dL_1480 (by decide) (fun _ => ?_) (fun q8 => absurd rfl q8)
  exact kk _ _ _ _ hR2
theorem lc_leastSide {β : lB} {D : va_G} {ad ad2 : Nat → Nat} {g : Nat → ClassId} (fx : lFX (lmk β D ad ad2 g)) {Rel : lRel} (hs : so_leastSide Rel) {x : Int32} (hb : ∀ j : Nat, j < 6 → vp_in (x + nI j) (lL (lmk β D ad ad2 g))) (kk : ∀ (I : zMi) (J : zMl) (K : zMi) (M : zMl), Rel I J K M → lAt (lmk β D ad ad2 g) 1933 (llv β ad ad2 x) [] I J K M) {I : zMi} {J : zMl} {K : zMi} {M : zMl} (hR : Rel I J K M) : lAt (lmk β D ad ad2 g) 1485 (llv β ad ad2 x) [] I J K M := by
  refine l_aload_n fx dL_1485 rfl ?_
  refine l_aload_n fx dL_1486 rfl ?_
  refine l_iload_n fx dL_1487 rfl ?_
  refine l_iconst (v := nI 1) fx dL_1488 (by decide) ?_
  refine l_iadd fx dL_1489 ?_
  refine l_sld fx (hb 1 (by decide)) dL_1490 ?_
  refine l_aload_n fx dL_1491 rfl ?_
  refine l_iload_n fx dL_1492 rfl ?_
  refine l_iconst (v := nI 2) fx dL_1493 (by decide) ?_
  refine l_iadd fx dL_1494 ?_
  refine l_sld fx (hb 2 (by decide)) dL_1495 ?_
  obtain ⟨r, I9, K9, e1, e2, hR2⟩ := hs _ _ _ _ hR (lxs (lmk β D ad ad2 g) (x + nI 1).toNatClampNeg) (lxs (lmk β D ad ad2 g) (x + nI 2).toNatClampNeg) 
  refine l_call1 (k := 0) (rest := []) fx (c_X3_leastSide (ll_ (lmk β D ad ad2 g)) D ad g (lxs (lmk β D ad ad2 g) (x + nI 1).toNatClampNeg) (lxs (lmk β D ad ad2 g) (x + nI 2).toNatClampNeg) I J e1) rcS mvX3_leastSide wL_152 dL_1496 rfl ⟨rfl, rfl⟩ rfl rfl rfl ?_
  refine l_aload_n fx dL_1499 rfl ?_
  refine l_aload_n fx dL_1500 rfl ?_
  refine l_iload_n fx dL_1501 rfl ?_
  refine l_iconst (v := nI 1) fx dL_1502 (by decide) ?_
  refine l_iadd fx dL_1503 ?_
  refine l_sld fx (hb 1 (by decide)) dL_1504 ?_
  refine l_aload_n fx dL_1505 rfl ?_
  refine l_iload_n fx dL_1506 rfl ?_
  refine l_iconst (v := nI 2) fx dL_1507 (by decide) ?_
  refine l_iadd fx dL_1508 ?_
  refine l_sld fx (hb 2 (by decide)) dL_1509 ?_
  refine l_call2 (k := 0) (rest := [.int r]) fx (c_X4_leastSide (ll_ (lmk β D ad ad2 g)) D ad2 g (lxs (lmk β D ad ad2 g) (x + nI 1).toNatClampNeg) (lxs (lmk β D ad ad2 g) (x + nI 2).toNatClampNeg) K M e2) rcM mvX4_leastSide wL_155 dL_1510 rfl ⟨rfl, rfl⟩ rfl rfl rfl ?_
  refine l_icmp_eq (tgt := 1933) fx dL_1513 (by decide) (fun _ => ?_) (fun q8 => absurd rfl q8)
  exact kk _ _ _ _ hR2
theorem lc_longer {β : lB} {D : va_G} {ad ad2 : Nat → Nat} {g : Nat → ClassId} (fx : lFX (lmk β D ad ad2 g)) {Rel : lRel} (hs : so_longer Rel) {x : Int32} (hb : ∀ j : Nat, j < 6 → vp_in (x + nI j) (lL (lmk β D ad ad2 g))) (kk : ∀ (I : zMi) (J : zMl) (K : zMi) (M : zMl), Rel I J K M → lAt (lmk β D ad ad2 g) 1933 (llv β ad ad2 x) [] I J K M) {I : zMi} {J : zMl} {K : zMi} {M : zMl} (hR : Rel I J K M) : lAt (lmk β D ad ad2 g) 1518 (llv β ad ad2 x) [] I J K M := by
  refine l_aload_n fx dL_1518 rfl ?_
  refine l_aload_n fx dL_1519 rfl ?_
  refine l_iload_n fx dL_1520 rfl ?_
  refine l_iconst (v := nI 1) fx dL_1521 (by decide) ?_
  refine l_iadd fx dL_1522 ?_
  refine l_sld fx (hb 1 (by decide)) dL_1523 ?_
  refine l_aload_n fx dL_1524 rfl ?_
  refine l_iload_n fx dL_1525 rfl ?_
  refine l_iconst (v := nI 2) fx dL_1526 (by decide) ?_
  refine l_iadd fx dL_1527 ?_
  refine l_sld fx (hb 2 (by decide)) dL_1528 ?_
  refine l_aload_n fx dL_1529 rfl ?_
  refine l_iload_n fx dL_1530 rfl ?_
  refine l_iconst (v := nI 3) fx dL_1531 (by decide) ?_
  refine l_iadd fx dL_1532 ?_
  refine l_sld fx (hb 3 (by decide)) dL_1533 ?_
  refine l_aload_n fx dL_1534 rfl ?_
  refine l_iload_n fx dL_1535 rfl ?_
  refine l_iconst (v := nI 4) fx dL_1536 (by decide) ?_
  refine l_iadd fx dL_1537 ?_
  refine l_sld fx (hb 4 (by decide)) dL_1538 ?_
  obtain ⟨r, I9, K9, e1, e2, hR2⟩ := hs _ _ _ _ hR (lxs (lmk β D ad ad2 g) (x + nI 1).toNatClampNeg) (lxs (lmk β D ad ad2 g) (x + nI 2).toNatClampNeg) (lxs (lmk β D ad ad2 g) (x + nI 3).toNatClampNeg) (lxs (lmk β D ad ad2 g) (x + nI 4).toNatClampNeg) 
  refine l_call1 (k := 0) (rest := []) fx (c_X3_longer (ll_ (lmk β D ad ad2 g)) D ad g (lxs (lmk β D ad ad2 g) (x + nI 1).toNatClampNeg) (lxs (lmk β D ad ad2 g) (x + nI 2).toNatClampNeg) (lxs (lmk β D ad ad2 g) (x + nI 3).toNatClampNeg) (lxs (lmk β D ad ad2 g) (x + nI 4).toNatClampNeg) I J e1) rcS mvX3_longer wL_156 dL_1539 rfl ⟨rfl, rfl⟩ rfl rfl rfl ?_
  refine l_aload_n fx dL_1542 rfl ?_
  refine l_aload_n fx dL_1543 rfl ?_
  refine l_iload_n fx dL_1544 rfl ?_
  refine l_iconst (v := nI 1) fx dL_1545 (by decide) ?_
  refine l_iadd fx dL_1546 ?_
  refine l_sld fx (hb 1 (by decide)) dL_1547 ?_
  refine l_aload_n fx dL_1548 rfl ?_
  refine l_iload_n fx dL_1549 rfl ?_
  refine l_iconst (v := nI 2) fx dL_1550 (by decide) ?_
  refine l_iadd fx dL_1551 ?_
  refine l_sld fx (hb 2 (by decide)) dL_1552 ?_
  refine l_aload_n fx dL_1553 rfl ?_
  refine l_iload_n fx dL_1554 rfl ?_
  refine l_iconst (v := nI 3) fx dL_1555 (by decide) ?_
  refine l_iadd fx dL_1556 ?_
  refine l_sld fx (hb 3 (by decide)) dL_1557 ?_
  refine l_aload_n fx dL_1558 rfl ?_
  refine l_iload_n fx dL_1559 rfl ?_
  refine l_iconst (v := nI 4) fx dL_1560 (by decide) ?_
  refine l_iadd fx dL_1561 ?_
  refine l_sld fx (hb 4 (by decide)) dL_1562 ?_
  refine l_call2 (k := 0) (rest := [.int r]) fx (c_X4_longer (ll_ (lmk β D ad ad2 g)) D ad2 g (lxs (lmk β D ad ad2 g) (x + nI 1).toNatClampNeg) (lxs (lmk β D ad ad2 g) (x + nI 2).toNatClampNeg) (lxs (lmk β D ad ad2 g) (x + nI 3).toNatClampNeg) (lxs (lmk β D ad ad2 g) (x + nI 4).toNatClampNeg) K M e2) rcM mvX4_longer wL_160 dL_1563 rfl ⟨rfl, rfl⟩ rfl rfl rfl ?_
  refine l_icmp_eq (tgt := 1933) fx dL_1566 (by decide) (fun _ => ?_) (fun q8 => absurd rfl q8)
  exact kk _ _ _ _ hR2
theorem lc_switched {β : lB} {D : va_G} {ad ad2 : Nat → Nat} {g : Nat → ClassId} (fx : lFX (lmk β D ad ad2 g)) {Rel : lRel} (hs : so_switched Rel) {x : Int32} (hb : ∀ j : Nat, j < 6 → vp_in (x + nI j) (lL (lmk β D ad ad2 g))) (kk : ∀ (I : zMi) (J : zMl) (K : zMi) (M : zMl), Rel I J K M → lAt (lmk β D ad ad2 g) 1933 (llv β ad ad2 x) [] I J K M) {I : zMi} {J : zMl} {K : zMi} {M : zMl} (hR : Rel I J K M) : lAt (lmk β D ad ad2 g) 1571 (llv β ad ad2 x) [] I J K M := by
  refine l_aload_n fx dL_1571 rfl ?_
  refine l_aload_n fx dL_1572 rfl ?_
  refine l_iload_n fx dL_1573 rfl ?_
  refine l_iconst (v := nI 1) fx dL_1574 (by decide) ?_
  refine l_iadd fx dL_1575 ?_
  refine l_sld fx (hb 1 (by decide)) dL_1576 ?_
  refine l_aload_n fx dL_1577 rfl ?_
  refine l_iload_n fx dL_1578 rfl ?_
  refine l_iconst (v := nI 2) fx dL_1579 (by decide) ?_
  refine l_iadd fx dL_1580 ?_
  refine l_sld fx (hb 2 (by decide)) dL_1581 ?_
  obtain ⟨r, I9, K9, e1, e2, hR2⟩ := hs _ _ _ _ hR (lxs (lmk β D ad ad2 g) (x + nI 1).toNatClampNeg) (lxs (lmk β D ad ad2 g) (x + nI 2).toNatClampNeg) 
  refine l_call1 (k := 0) (rest := []) fx (c_X3_switched (ll_ (lmk β D ad ad2 g)) D ad g (lxs (lmk β D ad ad2 g) (x + nI 1).toNatClampNeg) (lxs (lmk β D ad ad2 g) (x + nI 2).toNatClampNeg) I J e1) rcS mvX3_switched wL_161 dL_1582 rfl ⟨rfl, rfl⟩ rfl rfl rfl ?_
  refine l_aload_n fx dL_1585 rfl ?_
  refine l_aload_n fx dL_1586 rfl ?_
  refine l_iload_n fx dL_1587 rfl ?_
  refine l_iconst (v := nI 1) fx dL_1588 (by decide) ?_
  refine l_iadd fx dL_1589 ?_
  refine l_sld fx (hb 1 (by decide)) dL_1590 ?_
  refine l_aload_n fx dL_1591 rfl ?_
  refine l_iload_n fx dL_1592 rfl ?_
  refine l_iconst (v := nI 2) fx dL_1593 (by decide) ?_
  refine l_iadd fx dL_1594 ?_
  refine l_sld fx (hb 2 (by decide)) dL_1595 ?_
  refine l_call2 (k := 0) (rest := [.int r]) fx (c_X4_switched (ll_ (lmk β D ad ad2 g)) D ad2 g (lxs (lmk β D ad ad2 g) (x + nI 1).toNatClampNeg) (lxs (lmk β D ad ad2 g) (x + nI 2).toNatClampNeg) K M e2) rcM mvX4_switched wL_164 dL_1596 rfl ⟨rfl, rfl⟩ rfl rfl rfl ?_
  refine l_icmp_eq (tgt := 1933) fx dL_1599 (by decide) (fun _ => ?_) (fun q8 => absurd rfl q8)
  exact kk _ _ _ _ hR2
theorem lc_odd {β : lB} {D : va_G} {ad ad2 : Nat → Nat} {g : Nat → ClassId} (fx : lFX (lmk β D ad ad2 g)) {Rel : lRel} (hs : so_odd Rel) {x : Int32} (hb : ∀ j : Nat, j < 6 → vp_in (x + nI j) (lL (lmk β D ad ad2 g))) (kk : ∀ (I : zMi) (J : zMl) (K : zMi) (M : zMl), Rel I J K M → lAt (lmk β D ad ad2 g) 1933 (llv β ad ad2 x) [] I J K M) {I : zMi} {J : zMl} {K : zMi} {M : zMl} (hR : Rel I J K M) : lAt (lmk β D ad ad2 g) 1604 (llv β ad ad2 x) [] I J K M := by
  refine l_aload_n fx dL_1604 rfl ?_
  refine l_aload_n fx dL_1605 rfl ?_
  refine l_iload_n fx dL_1606 rfl ?_
  refine l_iconst (v := nI 1) fx dL_1607 (by decide) ?_
  refine l_iadd fx dL_1608 ?_
  refine l_sld fx (hb 1 (by decide)) dL_1609 ?_
  obtain ⟨r, I9, K9, e1, e2, hR2⟩ := hs _ _ _ _ hR (lxs (lmk β D ad ad2 g) (x + nI 1).toNatClampNeg) 
  refine l_call1 (k := 0) (rest := []) fx (c_X3_odd (ll_ (lmk β D ad ad2 g)) D ad g (lxs (lmk β D ad ad2 g) (x + nI 1).toNatClampNeg) I J e1) rcS mvX3_odd wL_165 dL_1610 rfl ⟨rfl, rfl⟩ rfl rfl rfl ?_
  refine l_aload_n fx dL_1613 rfl ?_
  refine l_aload_n fx dL_1614 rfl ?_
  refine l_iload_n fx dL_1615 rfl ?_
  refine l_iconst (v := nI 1) fx dL_1616 (by decide) ?_
  refine l_iadd fx dL_1617 ?_
  refine l_sld fx (hb 1 (by decide)) dL_1618 ?_
  refine l_call2 (k := 0) (rest := [.int r]) fx (c_X4_odd (ll_ (lmk β D ad ad2 g)) D ad2 g (lxs (lmk β D ad ad2 g) (x + nI 1).toNatClampNeg) K M e2) rcM mvX4_odd wL_168 dL_1619 rfl ⟨rfl, rfl⟩ rfl rfl rfl ?_
  refine l_icmp_eq (tgt := 1933) fx dL_1622 (by decide) (fun _ => ?_) (fun q8 => absurd rfl q8)
  exact kk _ _ _ _ hR2
theorem lc_alike {β : lB} {D : va_G} {ad ad2 : Nat → Nat} {g : Nat → ClassId} (fx : lFX (lmk β D ad ad2 g)) {Rel : lRel} (hs : so_alike Rel) {x : Int32} (hb : ∀ j : Nat, j < 6 → vp_in (x + nI j) (lL (lmk β D ad ad2 g))) (kk : ∀ (I : zMi) (J : zMl) (K : zMi) (M : zMl), Rel I J K M → lAt (lmk β D ad ad2 g) 1933 (llv β ad ad2 x) [] I J K M) {I : zMi} {J : zMl} {K : zMi} {M : zMl} (hR : Rel I J K M) : lAt (lmk β D ad ad2 g) 1627 (llv β ad ad2 x) [] I J K M := by
  refine l_aload_n fx dL_1627 rfl ?_
  refine l_aload_n fx dL_1628 rfl ?_
  refine l_iload_n fx dL_1629 rfl ?_
  refine l_iconst (v := nI 1) fx dL_1630 (by decide) ?_
  refine l_iadd fx dL_1631 ?_
  refine l_sld fx (hb 1 (by decide)) dL_1632 ?_
  refine l_aload_n fx dL_1633 rfl ?_
  refine l_iload_n fx dL_1634 rfl ?_
  refine l_iconst (v := nI 2) fx dL_1635 (by decide) ?_
  refine l_iadd fx dL_1636 ?_
  refine l_sld fx (hb 2 (by decide)) dL_1637 ?_
  obtain ⟨r, I9, K9, e1, e2, hR2⟩ := hs _ _ _ _ hR (lxs (lmk β D ad ad2 g) (x + nI 1).toNatClampNeg) (lxs (lmk β D ad ad2 g) (x + nI 2).toNatClampNeg) 
  refine l_call1 (k := 0) (rest := []) fx (c_X3_alike (ll_ (lmk β D ad ad2 g)) D ad g (lxs (lmk β D ad ad2 g) (x + nI 1).toNatClampNeg) (lxs (lmk β D ad ad2 g) (x + nI 2).toNatClampNeg) I J e1) rcS mvX3_alike wL_169 dL_1638 rfl ⟨rfl, rfl⟩ rfl rfl rfl ?_
  refine l_aload_n fx dL_1641 rfl ?_
  refine l_aload_n fx dL_1642 rfl ?_
  refine l_iload_n fx dL_1643 rfl ?_
  refine l_iconst (v := nI 1) fx dL_1644 (by decide) ?_
  refine l_iadd fx dL_1645 ?_
  refine l_sld fx (hb 1 (by decide)) dL_1646 ?_
  refine l_aload_n fx dL_1647 rfl ?_
  refine l_iload_n fx dL_1648 rfl ?_
  refine l_iconst (v := nI 2) fx dL_1649 (by decide) ?_
  refine l_iadd fx dL_1650 ?_
  refine l_sld fx (hb 2 (by decide)) dL_1651 ?_
  refine l_call2 (k := 0) (rest := [.int r]) fx (c_X4_alike (ll_ (lmk β D ad ad2 g)) D ad2 g (lxs (lmk β D ad ad2 g) (x + nI 1).toNatClampNeg) (lxs (lmk β D ad ad2 g) (x + nI 2).toNatClampNeg) K M e2) rcM mvX4_alike wL_172 dL_1652 rfl ⟨rfl, rfl⟩ rfl rfl rfl ?_
  refine l_icmp_eq (tgt := 1933) fx dL_1655 (by decide) (fun _ => ?_) (fun q8 => absurd rfl q8)
  exact kk _ _ _ _ hR2
theorem lc_fewest {β : lB} {D : va_G} {ad ad2 : Nat → Nat} {g : Nat → ClassId} (fx : lFX (lmk β D ad ad2 g)) {Rel : lRel} (hs : so_fewest Rel) {x : Int32} (hb : ∀ j : Nat, j < 6 → vp_in (x + nI j) (lL (lmk β D ad ad2 g))) (kk : ∀ (I : zMi) (J : zMl) (K : zMi) (M : zMl), Rel I J K M → lAt (lmk β D ad ad2 g) 1933 (llv β ad ad2 x) [] I J K M) {I : zMi} {J : zMl} {K : zMi} {M : zMl} (hR : Rel I J K M) : lAt (lmk β D ad ad2 g) 1660 (llv β ad ad2 x) [] I J K M := by
  refine l_aload_n fx dL_1660 rfl ?_
  refine l_aload_n fx dL_1661 rfl ?_
  refine l_iload_n fx dL_1662 rfl ?_
  refine l_iconst (v := nI 1) fx dL_1663 (by decide) ?_
  refine l_iadd fx dL_1664 ?_
  refine l_sld fx (hb 1 (by decide)) dL_1665 ?_
  obtain ⟨r, I9, K9, e1, e2, hR2⟩ := hs _ _ _ _ hR (lxs (lmk β D ad ad2 g) (x + nI 1).toNatClampNeg) 
  refine l_call1 (k := 0) (rest := []) fx (c_X3_fewest (ll_ (lmk β D ad ad2 g)) D ad g (lxs (lmk β D ad ad2 g) (x + nI 1).toNatClampNeg) I J e1) rcS mvX3_fewest wL_173 dL_1666 rfl ⟨rfl, rfl⟩ rfl rfl rfl ?_
  refine l_aload_n fx dL_1669 rfl ?_
  refine l_aload_n fx dL_1670 rfl ?_
  refine l_iload_n fx dL_1671 rfl ?_
  refine l_iconst (v := nI 1) fx dL_1672 (by decide) ?_
  refine l_iadd fx dL_1673 ?_
  refine l_sld fx (hb 1 (by decide)) dL_1674 ?_
  refine l_call2 (k := 0) (rest := [.int r]) fx (c_X4_fewest (ll_ (lmk β D ad ad2 g)) D ad2 g (lxs (lmk β D ad ad2 g) (x + nI 1).toNatClampNeg) K M e2) rcM mvX4_fewest wL_176 dL_1675 rfl ⟨rfl, rfl⟩ rfl rfl rfl ?_
  refine l_icmp_eq (tgt := 1933) fx dL_1678 (by decide) (fun _ => ?_) (fun q8 => absurd rfl q8)
  exact kk _ _ _ _ hR2
theorem lc_even {β : lB} {D : va_G} {ad ad2 : Nat → Nat} {g : Nat → ClassId} (fx : lFX (lmk β D ad ad2 g)) {Rel : lRel} (hs : so_even Rel) {x : Int32} (hb : ∀ j : Nat, j < 6 → vp_in (x + nI j) (lL (lmk β D ad ad2 g))) (kk : ∀ (I : zMi) (J : zMl) (K : zMi) (M : zMl), Rel I J K M → lAt (lmk β D ad ad2 g) 1933 (llv β ad ad2 x) [] I J K M) {I : zMi} {J : zMl} {K : zMi} {M : zMl} (hR : Rel I J K M) : lAt (lmk β D ad ad2 g) 1683 (llv β ad ad2 x) [] I J K M := by
  refine l_aload_n fx dL_1683 rfl ?_
  refine l_aload_n fx dL_1684 rfl ?_
  refine l_iload_n fx dL_1685 rfl ?_
  refine l_iconst (v := nI 1) fx dL_1686 (by decide) ?_
  refine l_iadd fx dL_1687 ?_
  refine l_sld fx (hb 1 (by decide)) dL_1688 ?_
  refine l_aload_n fx dL_1689 rfl ?_
  refine l_iload_n fx dL_1690 rfl ?_
  refine l_iconst (v := nI 2) fx dL_1691 (by decide) ?_
  refine l_iadd fx dL_1692 ?_
  refine l_sld fx (hb 2 (by decide)) dL_1693 ?_
  obtain ⟨r, I9, K9, e1, e2, hR2⟩ := hs _ _ _ _ hR (lxs (lmk β D ad ad2 g) (x + nI 1).toNatClampNeg) (lxs (lmk β D ad ad2 g) (x + nI 2).toNatClampNeg) 
  refine l_call1 (k := 0) (rest := []) fx (c_X3_even (ll_ (lmk β D ad ad2 g)) D ad g (lxs (lmk β D ad ad2 g) (x + nI 1).toNatClampNeg) (lxs (lmk β D ad ad2 g) (x + nI 2).toNatClampNeg) I J e1) rcS mvX3_even wL_177 dL_1694 rfl ⟨rfl, rfl⟩ rfl rfl rfl ?_
  refine l_aload_n fx dL_1697 rfl ?_
  refine l_aload_n fx dL_1698 rfl ?_
  refine l_iload_n fx dL_1699 rfl ?_
  refine l_iconst (v := nI 1) fx dL_1700 (by decide) ?_
  refine l_iadd fx dL_1701 ?_
  refine l_sld fx (hb 1 (by decide)) dL_1702 ?_
  refine l_aload_n fx dL_1703 rfl ?_
  refine l_iload_n fx dL_1704 rfl ?_
  refine l_iconst (v := nI 2) fx dL_1705 (by decide) ?_
  refine l_iadd fx dL_1706 ?_
  refine l_sld fx (hb 2 (by decide)) dL_1707 ?_
  refine l_call2 (k := 0) (rest := [.int r]) fx (c_X4_even (ll_ (lmk β D ad ad2 g)) D ad2 g (lxs (lmk β D ad ad2 g) (x + nI 1).toNatClampNeg) (lxs (lmk β D ad ad2 g) (x + nI 2).toNatClampNeg) K M e2) rcM mvX4_even wL_180 dL_1708 rfl ⟨rfl, rfl⟩ rfl rfl rfl ?_
  refine l_icmp_eq (tgt := 1933) fx dL_1711 (by decide) (fun _ => ?_) (fun q8 => absurd rfl q8)
  exact kk _ _ _ _ hR2
theorem lc_own {β : lB} {D : va_G} {ad ad2 : Nat → Nat} {g : Nat → ClassId} (fx : lFX (lmk β D ad ad2 g)) {Rel : lRel} (hs : so_own Rel) {x : Int32} (hb : ∀ j : Nat, j < 6 → vp_in (x + nI j) (lL (lmk β D ad ad2 g))) (kk : ∀ (I : zMi) (J : zMl) (K : zMi) (M : zMl), Rel I J K M → lAt (lmk β D ad ad2 g) 1933 (llv β ad ad2 x) [] I J K M) {I : zMi} {J : zMl} {K : zMi} {M : zMl} (hR : Rel I J K M) : lAt (lmk β D ad ad2 g) 1716 (llv β ad ad2 x) [] I J K M := by
  refine l_aload_n fx dL_1716 rfl ?_
  refine l_aload_n fx dL_1717 rfl ?_
  refine l_iload_n fx dL_1718 rfl ?_
  refine l_iconst (v := nI 1) fx dL_1719 (by decide) ?_
  refine l_iadd fx dL_1720 ?_
  refine l_sld fx (hb 1 (by decide)) dL_1721 ?_
  refine l_aload_n fx dL_1722 rfl ?_
  refine l_iload_n fx dL_1723 rfl ?_
  refine l_iconst (v := nI 2) fx dL_1724 (by decide) ?_
  refine l_iadd fx dL_1725 ?_
  refine l_sld fx (hb 2 (by decide)) dL_1726 ?_
  obtain ⟨r, I9, J9, K9, M9, e1, e2, hR2⟩ := hs _ _ _ _ hR (lxs (lmk β D ad ad2 g) (x + nI 1).toNatClampNeg) (lxs (lmk β D ad ad2 g) (x + nI 2).toNatClampNeg) 
  refine l_call1 (k := 0) (rest := []) fx (c_X3_own (ll_ (lmk β D ad ad2 g)) D ad g (lxs (lmk β D ad ad2 g) (x + nI 1).toNatClampNeg) (lxs (lmk β D ad ad2 g) (x + nI 2).toNatClampNeg) I J e1) rcS mvX3_own wL_181 dL_1727 rfl ⟨rfl, rfl⟩ rfl rfl rfl ?_
  refine l_aload_n fx dL_1730 rfl ?_
  refine l_aload_n fx dL_1731 rfl ?_
  refine l_iload_n fx dL_1732 rfl ?_
  refine l_iconst (v := nI 1) fx dL_1733 (by decide) ?_
  refine l_iadd fx dL_1734 ?_
  refine l_sld fx (hb 1 (by decide)) dL_1735 ?_
  refine l_aload_n fx dL_1736 rfl ?_
  refine l_iload_n fx dL_1737 rfl ?_
  refine l_iconst (v := nI 2) fx dL_1738 (by decide) ?_
  refine l_iadd fx dL_1739 ?_
  refine l_sld fx (hb 2 (by decide)) dL_1740 ?_
  refine l_call2 (k := 0) (rest := [.int r]) fx (c_X4_own (ll_ (lmk β D ad ad2 g)) D ad2 g (lxs (lmk β D ad ad2 g) (x + nI 1).toNatClampNeg) (lxs (lmk β D ad ad2 g) (x + nI 2).toNatClampNeg) K M e2) rcM mvX4_own wL_184 dL_1741 rfl ⟨rfl, rfl⟩ rfl rfl rfl ?_
  refine l_icmp_eq (tgt := 1933) fx dL_1744 (by decide) (fun _ => ?_) (fun q8 => absurd rfl q8)
  exact kk _ _ _ _ hR2
theorem lc_form {β : lB} {D : va_G} {ad ad2 : Nat → Nat} {g : Nat → ClassId} (fx : lFX (lmk β D ad ad2 g)) {Rel : lRel} (hs : so_form Rel) {x : Int32} (hb : ∀ j : Nat, j < 6 → vp_in (x + nI j) (lL (lmk β D ad ad2 g))) (kk : ∀ (I : zMi) (J : zMl) (K : zMi) (M : zMl), Rel I J K M → lAt (lmk β D ad ad2 g) 1933 (llv β ad ad2 x) [] I J K M) {I : zMi} {J : zMl} {K : zMi} {M : zMl} (hR : Rel I J K M) : lAt (lmk β D ad ad2 g) 1749 (llv β ad ad2 x) [] I J K M := by
  refine l_aload_n fx dL_1749 rfl ?_
  refine l_aload_n fx dL_1750 rfl ?_
  refine l_iload_n fx dL_1751 rfl ?_
  refine l_iconst (v := nI 1) fx dL_1752 (by decide) ?_
  refine l_iadd fx dL_1753 ?_
  refine l_sld fx (hb 1 (by decide)) dL_1754 ?_
  refine l_aload_n fx dL_1755 rfl ?_
  refine l_iload_n fx dL_1756 rfl ?_
  refine l_iconst (v := nI 2) fx dL_1757 (by decide) ?_
  refine l_iadd fx dL_1758 ?_
  refine l_sld fx (hb 2 (by decide)) dL_1759 ?_
  obtain ⟨r, I9, J9, K9, M9, e1, e2, hR2⟩ := hs _ _ _ _ hR (lxs (lmk β D ad ad2 g) (x + nI 1).toNatClampNeg) (lxs (lmk β D ad ad2 g) (x + nI 2).toNatClampNeg) 
  refine l_call1 (k := 0) (rest := []) fx (c_X3_form (ll_ (lmk β D ad ad2 g)) D ad g (lxs (lmk β D ad ad2 g) (x + nI 1).toNatClampNeg) (lxs (lmk β D ad ad2 g) (x + nI 2).toNatClampNeg) I J e1) rcS mvX3_form wL_185 dL_1760 rfl ⟨rfl, rfl⟩ rfl rfl rfl ?_
  refine l_aload_n fx dL_1763 rfl ?_
  refine l_aload_n fx dL_1764 rfl ?_
  refine l_iload_n fx dL_1765 rfl ?_
  refine l_iconst (v := nI 1) fx dL_1766 (by decide) ?_
  refine l_iadd fx dL_1767 ?_
  refine l_sld fx (hb 1 (by decide)) dL_1768 ?_
  refine l_aload_n fx dL_1769 rfl ?_
  refine l_iload_n fx dL_1770 rfl ?_
  refine l_iconst (v := nI 2) fx dL_1771 (by decide) ?_
  refine l_iadd fx dL_1772 ?_
  refine l_sld fx (hb 2 (by decide)) dL_1773 ?_
  refine l_call2 (k := 0) (rest := [.int r]) fx (c_X4_form (ll_ (lmk β D ad ad2 g)) D ad2 g (lxs (lmk β D ad ad2 g) (x + nI 1).toNatClampNeg) (lxs (lmk β D ad ad2 g) (x + nI 2).toNatClampNeg) K M e2) rcM mvX4_form wL_188 dL_1774 rfl ⟨rfl, rfl⟩ rfl rfl rfl ?_
  refine l_icmp_eq (tgt := 1933) fx dL_1777 (by decide) (fun _ => ?_) (fun q8 => absurd rfl q8)
  exact kk _ _ _ _ hR2
theorem lc_weight {β : lB} {D : va_G} {ad ad2 : Nat → Nat} {g : Nat → ClassId} (fx : lFX (lmk β D ad ad2 g)) {Rel : lRel} (hs : so_weight Rel) {x : Int32} (hb : ∀ j : Nat, j < 6 → vp_in (x + nI j) (lL (lmk β D ad ad2 g))) (kk : ∀ (I : zMi) (J : zMl) (K : zMi) (M : zMl), Rel I J K M → lAt (lmk β D ad ad2 g) 1933 (llv β ad ad2 x) [] I J K M) {I : zMi} {J : zMl} {K : zMi} {M : zMl} (hR : Rel I J K M) : lAt (lmk β D ad ad2 g) 1782 (llv β ad ad2 x) [] I J K M := by
  refine l_aload_n fx dL_1782 rfl ?_
  refine l_aload_n fx dL_1783 rfl ?_
  refine l_iload_n fx dL_1784 rfl ?_
  refine l_iconst (v := nI 1) fx dL_1785 (by decide) ?_
  refine l_iadd fx dL_1786 ?_
  refine l_sld fx (hb 1 (by decide)) dL_1787 ?_
  obtain ⟨r, I9, J9, K9, M9, e1, e2, hR2⟩ := hs _ _ _ _ hR (lxs (lmk β D ad ad2 g) (x + nI 1).toNatClampNeg) 
  refine l_call1 (k := 0) (rest := []) fx (c_X3_weight (ll_ (lmk β D ad ad2 g)) D ad g (lxs (lmk β D ad ad2 g) (x + nI 1).toNatClampNeg) I J e1) rcS mvX3_weight wL_189 dL_1788 rfl ⟨rfl, rfl⟩ rfl rfl rfl ?_
  refine l_aload_n fx dL_1791 rfl ?_
  refine l_aload_n fx dL_1792 rfl ?_
  refine l_iload_n fx dL_1793 rfl ?_
  refine l_iconst (v := nI 1) fx dL_1794 (by decide) ?_
  refine l_iadd fx dL_1795 ?_
  refine l_sld fx (hb 1 (by decide)) dL_1796 ?_
  refine l_call2 (k := 0) (rest := [.int r]) fx (c_X4_weight (ll_ (lmk β D ad ad2 g)) D ad2 g (lxs (lmk β D ad ad2 g) (x + nI 1).toNatClampNeg) K M e2) rcM mvX4_weight wL_192 dL_1797 rfl ⟨rfl, rfl⟩ rfl rfl rfl ?_
  refine l_icmp_eq (tgt := 1933) fx dL_1800 (by decide) (fun _ => ?_) (fun q8 => absurd rfl q8)
  exact kk _ _ _ _ hR2
theorem lc_worthTold {β : lB} {D : va_G} {ad ad2 : Nat → Nat} {g : Nat → ClassId} (fx : lFX (lmk β D ad ad2 g)) {Rel : lRel} (hs : so_worthTold Rel) {x : Int32} (hb : ∀ j : Nat, j < 6 → vp_in (x + nI j) (lL (lmk β D ad ad2 g))) (kk : ∀ (I : zMi) (J : zMl) (K : zMi) (M : zMl), Rel I J K M → lAt (lmk β D ad ad2 g) 1933 (llv β ad ad2 x) [] I J K M) {I : zMi} {J : zMl} {K : zMi} {M : zMl} (hR : Rel I J K M) : lAt (lmk β D ad ad2 g) 1805 (llv β ad ad2 x) [] I J K M := by
  refine l_aload_n fx dL_1805 rfl ?_
  obtain ⟨r, e1, e2, hR2⟩ := hs _ _ _ _ hR  
  refine l_call1 (k := 0) (rest := []) fx (c_X3_worthTold (ll_ (lmk β D ad ad2 g)) D ad g  I J e1) rcS mvX3_worthTold wL_193 dL_1806 rfl ⟨rfl, rfl⟩ rfl rfl rfl ?_
  refine l_aload_n fx dL_1809 rfl ?_
  refine l_call2 (k := 0) (rest := [.long r]) fx (c_X4_worthTold (ll_ (lmk β D ad ad2 g)) D ad2 g  K M e2) rcM mvX4_worthTold wL_197 dL_1810 rfl ⟨rfl, rfl⟩ rfl rfl rfl ?_
  refine l_lcmp fx dL_1813 ?_
  refine l_if_eq (tgt := 1933) fx dL_1814 (by decide) (fun _ => ?_) (fun q8 => absurd (lg_cmp_self _) q8)
  exact kk _ _ _ _ hR2
theorem lc_asked {β : lB} {D : va_G} {ad ad2 : Nat → Nat} {g : Nat → ClassId} (fx : lFX (lmk β D ad ad2 g)) {Rel : lRel} (hs : so_asked Rel) {x : Int32} (hb : ∀ j : Nat, j < 6 → vp_in (x + nI j) (lL (lmk β D ad ad2 g))) (kk : ∀ (I : zMi) (J : zMl) (K : zMi) (M : zMl), Rel I J K M → lAt (lmk β D ad ad2 g) 1933 (llv β ad ad2 x) [] I J K M) {I : zMi} {J : zMl} {K : zMi} {M : zMl} (hR : Rel I J K M) : lAt (lmk β D ad ad2 g) 1819 (llv β ad ad2 x) [] I J K M := by
  refine l_aload_n fx dL_1819 rfl ?_
  obtain ⟨r, e1, e2, hR2⟩ := hs _ _ _ _ hR  
  refine l_call1 (k := 0) (rest := []) fx (c_X3_asked (ll_ (lmk β D ad ad2 g)) D ad g  I J e1) rcS mvX3_asked wL_198 dL_1820 rfl ⟨rfl, rfl⟩ rfl rfl rfl ?_
  refine l_aload_n fx dL_1823 rfl ?_
  refine l_call2 (k := 0) (rest := [.int r]) fx (c_X4_asked (ll_ (lmk β D ad ad2 g)) D ad2 g  K M e2) rcM mvX4_asked wL_202 dL_1824 rfl ⟨rfl, rfl⟩ rfl rfl rfl ?_
  refine l_icmp_eq (tgt := 1933) fx dL_1827 (by decide) (fun _ => ?_) (fun q8 => absurd rfl q8)
  exact kk _ _ _ _ hR2
theorem lc_upper {β : lB} {D : va_G} {ad ad2 : Nat → Nat} {g : Nat → ClassId} (fx : lFX (lmk β D ad ad2 g)) {Rel : lRel} (hs : so_upper Rel) {x : Int32} (hb : ∀ j : Nat, j < 6 → vp_in (x + nI j) (lL (lmk β D ad ad2 g))) (kk : ∀ (I : zMi) (J : zMl) (K : zMi) (M : zMl), Rel I J K M → lAt (lmk β D ad ad2 g) 1933 (llv β ad ad2 x) [] I J K M) {I : zMi} {J : zMl} {K : zMi} {M : zMl} (hR : Rel I J K M) : lAt (lmk β D ad ad2 g) 1832 (llv β ad ad2 x) [] I J K M := by
  refine l_aload_n fx dL_1832 rfl ?_
  obtain ⟨r, e1, e2, hR2⟩ := hs _ _ _ _ hR  
  refine l_call1 (k := 0) (rest := []) fx (c_X3_upper (ll_ (lmk β D ad ad2 g)) D ad g  I J e1) rcS mvX3_upper wL_203 dL_1833 rfl ⟨rfl, rfl⟩ rfl rfl rfl ?_
  refine l_aload_n fx dL_1836 rfl ?_
  refine l_call2 (k := 0) (rest := [.long r]) fx (c_X4_upper (ll_ (lmk β D ad ad2 g)) D ad2 g  K M e2) rcM mvX4_upper wL_206 dL_1837 rfl ⟨rfl, rfl⟩ rfl rfl rfl ?_
  refine l_lcmp fx dL_1840 ?_
  refine l_if_eq (tgt := 1933) fx dL_1841 (by decide) (fun _ => ?_) (fun q8 => absurd (lg_cmp_self _) q8)
  exact kk _ _ _ _ hR2
theorem lc_lower {β : lB} {D : va_G} {ad ad2 : Nat → Nat} {g : Nat → ClassId} (fx : lFX (lmk β D ad ad2 g)) {Rel : lRel} (hs : so_lower Rel) {x : Int32} (hb : ∀ j : Nat, j < 6 → vp_in (x + nI j) (lL (lmk β D ad ad2 g))) (kk : ∀ (I : zMi) (J : zMl) (K : zMi) (M : zMl), Rel I J K M → lAt (lmk β D ad ad2 g) 1933 (llv β ad ad2 x) [] I J K M) {I : zMi} {J : zMl} {K : zMi} {M : zMl} (hR : Rel I J K M) : lAt (lmk β D ad ad2 g) 1846 (llv β ad ad2 x) [] I J K M := by
  refine l_aload_n fx dL_1846 rfl ?_
  obtain ⟨r, e1, e2, hR2⟩ := hs _ _ _ _ hR  
  refine l_call1 (k := 0) (rest := []) fx (c_X3_lower (ll_ (lmk β D ad ad2 g)) D ad g  I J e1) rcS mvX3_lower wL_207 dL_1847 rfl ⟨rfl, rfl⟩ rfl rfl rfl ?_
  refine l_aload_n fx dL_1850 rfl ?_
  refine l_call2 (k := 0) (rest := [.long r]) fx (c_X4_lower (ll_ (lmk β D ad ad2 g)) D ad2 g  K M e2) rcM mvX4_lower wL_210 dL_1851 rfl ⟨rfl, rfl⟩ rfl rfl rfl ?_
  refine l_lcmp fx dL_1854 ?_
  refine l_if_eq (tgt := 1933) fx dL_1855 (by decide) (fun _ => ?_) (fun q8 => absurd (lg_cmp_self _) q8)
  exact kk _ _ _ _ hR2
theorem lc_count {β : lB} {D : va_G} {ad ad2 : Nat → Nat} {g : Nat → ClassId} (fx : lFX (lmk β D ad ad2 g)) {Rel : lRel} (hs : so_count Rel) {x : Int32} (hb : ∀ j : Nat, j < 6 → vp_in (x + nI j) (lL (lmk β D ad ad2 g))) (kk : ∀ (I : zMi) (J : zMl) (K : zMi) (M : zMl), Rel I J K M → lAt (lmk β D ad ad2 g) 1933 (llv β ad ad2 x) [] I J K M) {I : zMi} {J : zMl} {K : zMi} {M : zMl} (hR : Rel I J K M) : lAt (lmk β D ad ad2 g) 1860 (llv β ad ad2 x) [] I J K M := by
  refine l_aload_n fx dL_1860 rfl ?_
  refine l_aload_n fx dL_1861 rfl ?_
  refine l_iload_n fx dL_1862 rfl ?_
  refine l_iconst (v := nI 1) fx dL_1863 (by decide) ?_
  refine l_iadd fx dL_1864 ?_
  refine l_sld fx (hb 1 (by decide)) dL_1865 ?_
  obtain ⟨r, e1, e2, hR2⟩ := hs _ _ _ _ hR (lxs (lmk β D ad ad2 g) (x + nI 1).toNatClampNeg) 
  refine l_call1 (k := 0) (rest := []) fx (c_X3_count (ll_ (lmk β D ad ad2 g)) D ad g (lxs (lmk β D ad ad2 g) (x + nI 1).toNatClampNeg) I J e1) rcS mvX3_count wL_211 dL_1866 rfl ⟨rfl, rfl⟩ rfl rfl rfl ?_
  refine l_aload_n fx dL_1869 rfl ?_
  refine l_aload_n fx dL_1870 rfl ?_
  refine l_iload_n fx dL_1871 rfl ?_
  refine l_iconst (v := nI 1) fx dL_1872 (by decide) ?_
  refine l_iadd fx dL_1873 ?_
  refine l_sld fx (hb 1 (by decide)) dL_1874 ?_
  refine l_call2 (k := 0) (rest := [.int r]) fx (c_X4_count (ll_ (lmk β D ad ad2 g)) D ad2 g (lxs (lmk β D ad ad2 g) (x + nI 1).toNatClampNeg) K M e2) rcM mvX4_count wL_214 dL_1875 rfl ⟨rfl, rfl⟩ rfl rfl rfl ?_
  refine l_icmp_eq (tgt := 1933) fx dL_1878 (by decide) (fun _ => ?_) (fun q8 => absurd rfl q8)
  exact kk _ _ _ _ hR2
theorem lc_finding {β : lB} {D : va_G} {ad ad2 : Nat → Nat} {g : Nat → ClassId} (fx : lFX (lmk β D ad ad2 g)) {Rel : lRel} (hs : so_finding Rel) {x : Int32} (hb : ∀ j : Nat, j < 6 → vp_in (x + nI j) (lL (lmk β D ad ad2 g))) (kk : ∀ (I : zMi) (J : zMl) (K : zMi) (M : zMl), Rel I J K M → lAt (lmk β D ad ad2 g) 1933 (llv β ad ad2 x) [] I J K M) {I : zMi} {J : zMl} {K : zMi} {M : zMl} (hR : Rel I J K M) : lAt (lmk β D ad ad2 g) 1883 (llv β ad ad2 x) [] I J K M := by
  refine l_aload_n fx dL_1883 rfl ?_
  obtain ⟨r, e1, e2, hR2⟩ := hs _ _ _ _ hR  
  refine l_call1 (k := 0) (rest := []) fx (c_X3_finding (ll_ (lmk β D ad ad2 g)) D ad g  I J e1) rcS mvX3_finding wL_215 dL_1884 rfl ⟨rfl, rfl⟩ rfl rfl rfl ?_
  refine l_aload_n fx dL_1887 rfl ?_
  refine l_call2 (k := 0) (rest := [.int r]) fx (c_X4_finding (ll_ (lmk β D ad ad2 g)) D ad2 g  K M e2) rcM mvX4_finding wL_218 dL_1888 rfl ⟨rfl, rfl⟩ rfl rfl rfl ?_
  refine l_icmp_eq (tgt := 1933) fx dL_1891 (by decide) (fun _ => ?_) (fun q8 => absurd rfl q8)
  exact kk _ _ _ _ hR2
theorem lc_findings {β : lB} {D : va_G} {ad ad2 : Nat → Nat} {g : Nat → ClassId} (fx : lFX (lmk β D ad ad2 g)) {Rel : lRel} (hs : so_findings Rel) {x : Int32} (hb : ∀ j : Nat, j < 6 → vp_in (x + nI j) (lL (lmk β D ad ad2 g))) (kk : ∀ (I : zMi) (J : zMl) (K : zMi) (M : zMl), Rel I J K M → lAt (lmk β D ad ad2 g) 1933 (llv β ad ad2 x) [] I J K M) {I : zMi} {J : zMl} {K : zMi} {M : zMl} (hR : Rel I J K M) : lAt (lmk β D ad ad2 g) 1896 (llv β ad ad2 x) [] I J K M := by
  refine l_aload_n fx dL_1896 rfl ?_
  refine l_aload_n fx dL_1897 rfl ?_
  refine l_iload_n fx dL_1898 rfl ?_
  refine l_iconst (v := nI 1) fx dL_1899 (by decide) ?_
  refine l_iadd fx dL_1900 ?_
  refine l_sld fx (hb 1 (by decide)) dL_1901 ?_
  obtain ⟨r, e1, e2, hR2⟩ := hs _ _ _ _ hR (lxs (lmk β D ad ad2 g) (x + nI 1).toNatClampNeg) 
  refine l_call1 (k := 0) (rest := []) fx (c_X3_findings (ll_ (lmk β D ad ad2 g)) D ad g (lxs (lmk β D ad ad2 g) (x + nI 1).toNatClampNeg) I J e1) rcS mvX3_findings wL_219 dL_1902 rfl ⟨rfl, rfl⟩ rfl rfl rfl ?_
  refine l_aload_n fx dL_1905 rfl ?_
  refine l_aload_n fx dL_1906 rfl ?_
  refine l_iload_n fx dL_1907 rfl ?_
  refine l_iconst (v := nI 1) fx dL_1908 (by decide) ?_
  refine l_iadd fx dL_1909 ?_
  refine l_sld fx (hb 1 (by decide)) dL_1910 ?_
  refine l_call2 (k := 0) (rest := [.int r]) fx (c_X4_findings (ll_ (lmk β D ad ad2 g)) D ad2 g (lxs (lmk β D ad ad2 g) (x + nI 1).toNatClampNeg) K M e2) rcM mvX4_findings wL_222 dL_1911 rfl ⟨rfl, rfl⟩ rfl rfl rfl ?_
  refine l_icmp_eq (tgt := 1933) fx dL_1914 (by decide) (fun _ => ?_) (fun q8 => absurd rfl q8)
  exact kk _ _ _ _ hR2
theorem lc_digest {β : lB} {D : va_G} {ad ad2 : Nat → Nat} {g : Nat → ClassId} (fx : lFX (lmk β D ad ad2 g)) {Rel : lRel} (hs : so_digest Rel) {x : Int32} (hb : ∀ j : Nat, j < 6 → vp_in (x + nI j) (lL (lmk β D ad ad2 g))) (kk : ∀ (I : zMi) (J : zMl) (K : zMi) (M : zMl), Rel I J K M → lAt (lmk β D ad ad2 g) 1933 (llv β ad ad2 x) [] I J K M) {I : zMi} {J : zMl} {K : zMi} {M : zMl} (hR : Rel I J K M) : lAt (lmk β D ad ad2 g) 1919 (llv β ad ad2 x) [] I J K M := by
  refine l_aload_n fx dL_1919 rfl ?_
  obtain ⟨r, M9, e1, e2, hR2⟩ := hs _ _ _ _ hR  
  refine l_call1 (k := 0) (rest := []) fx (c_X3_digest (ll_ (lmk β D ad ad2 g)) D ad g  I J e1) rcS mvX3_digest wL_223 dL_1920 rfl ⟨rfl, rfl⟩ rfl rfl rfl ?_
  refine l_aload_n fx dL_1923 rfl ?_
  refine l_call2 (k := 0) (rest := [.long r]) fx (c_X4_digest (ll_ (lmk β D ad ad2 g)) D ad2 g  K M e2) rcM mvX4_digest wL_226 dL_1924 rfl ⟨rfl, rfl⟩ rfl rfl rfl ?_
  refine l_lcmp fx dL_1927 ?_
  refine l_if_eq (tgt := 1933) fx dL_1928 (by decide) (fun _ => ?_) (fun q8 => absurd (lg_cmp_self _) q8)
  exact kk _ _ _ _ hR2
theorem l_sw {β : lB} {D : va_G} {ad ad2 : Nat → Nat} {g : Nat → ClassId} (fx : lFX (lmk β D ad ad2 g)) {Rel : lRel} (hs : so_all Rel) {x : Int32} (hb : ∀ j : Nat, j < 6 → vp_in (x + nI j) (lL (lmk β D ad ad2 g))) (kk : ∀ (I : zMi) (J : zMl) (K : zMi) (M : zMl), Rel I J K M → lAt (lmk β D ad ad2 g) 1933 (llv β ad ad2 x) [] I J K M) {I : zMi} {J : zMl} {K : zMi} {M : zMl} (hR : Rel I J K M) : ∀ j : Nat, j < 64 → lAt (lmk β D ad ad2 g) 33 (llv β ad ad2 x) [.int (nI j)] I J K M
  | 0, _ => l_tin (off := 219) (tgt := 252) fx dL_33 (by decide) (by decide) (by decide) (by decide) (lc_row fx hs.1 hb kk hR)
  | 1, _ => l_tin (off := 252) (tgt := 285) fx dL_33 (by decide) (by decide) (by decide) (by decide) (lc_lay fx hs.2.1 hb kk hR)
  | 2, _ => l_tin (off := 295) (tgt := 328) fx dL_33 (by decide) (by decide) (by decide) (by decide) (lc_tear fx hs.2.2.1 hb kk hR)
  | 3, _ => l_tin (off := 318) (tgt := 351) fx dL_33 (by decide) (by decide) (by decide) (by decide) (lc_copy fx hs.2.2.2.1 hb kk hR)
  | 4, _ => l_tin (off := 381) (tgt := 414) fx dL_33 (by decide) (by decide) (by decide) (by decide) (lc_mean fx hs.2.2.2.2.1 hb kk hR)
  | 5, _ => l_tin (off := 404) (tgt := 437) fx dL_33 (by decide) (by decide) (by decide) (by decide) (lc_table fx hs.2.2.2.2.2.1 hb kk hR)
  | 6, _ => l_tin (off := 437) (tgt := 470) fx dL_33 (by decide) (by decide) (by decide) (by decide) (lc_put fx hs.2.2.2.2.2.2.1 hb kk hR)
  | 7, _ => l_tin (off := 480) (tgt := 513) fx dL_33 (by decide) (by decide) (by decide) (by decide) (lc_set fx hs.2.2.2.2.2.2.2.1 hb kk hR)
  | 8, _ => l_tin (off := 559) (tgt := 592) fx dL_33 (by decide) (by decide) (by decide) (by decide) (lc_drop fx hs.2.2.2.2.2.2.2.2.1 hb kk hR)
  | 9, _ => l_tin (off := 582) (tgt := 615) fx dL_33 (by decide) (by decide) (by decide) (by decide) (lc_at fx hs.2.2.2.2.2.2.2.2.2.1 hb kk hR)
  | 10, _ => l_tin (off := 625) (tgt := 658) fx dL_33 (by decide) (by decide) (by decide) (by decide) (lc_told fx hs.2.2.2.2.2.2.2.2.2.2.1 hb kk hR)
  | 11, _ => l_tin (off := 658) (tgt := 691) fx dL_33 (by decide) (by decide) (by decide) (by decide) (lc_mark fx hs.2.2.2.2.2.2.2.2.2.2.2.1 hb kk hR)
  | 12, _ => l_tin (off := 691) (tgt := 724) fx dL_33 (by decide) (by decide) (by decide) (by decide) (lc_times fx hs.2.2.2.2.2.2.2.2.2.2.2.2.1 hb kk hR)
  | 13, _ => l_tin (off := 734) (tgt := 767) fx dL_33 (by decide) (by decide) (by decide) (by decide) (lc_residues fx hs.2.2.2.2.2.2.2.2.2.2.2.2.2.1 hb kk hR)
  | 14, _ => l_tin (off := 767) (tgt := 800) fx dL_33 (by decide) (by decide) (by decide) (by decide) (lc_bordered fx hs.2.2.2.2.2.2.2.2.2.2.2.2.2.2.1 hb kk hR)
  | 15, _ => l_tin (off := 800) (tgt := 833) fx dL_33 (by decide) (by decide) (by decide) (by decide) (lc_four fx hs.2.2.2.2.2.2.2.2.2.2.2.2.2.2.2.1 hb kk hR)
  | 16, _ => l_tin (off := 863) (tgt := 896) fx dL_33 (by decide) (by decide) (by decide) (by decide) (lc_turn fx hs.2.2.2.2.2.2.2.2.2.2.2.2.2.2.2.2.1 hb kk hR)
  | 17, _ => l_tin (off := 906) (tgt := 939) fx dL_33 (by decide) (by decide) (by decide) (by decide) (lc_swap fx hs.2.2.2.2.2.2.2.2.2.2.2.2.2.2.2.2.2.1 hb kk hR)
  | 18, _ => l_tin (off := 975) (tgt := 1008) fx dL_33 (by decide) (by decide) (by decide) (by decide) (lc_flip fx hs.2.2.2.2.2.2.2.2.2.2.2.2.2.2.2.2.2.2.1 hb kk hR)
  | 19, _ => l_tin (off := 998) (tgt := 1031) fx dL_33 (by decide) (by decide) (by decide) (by decide) (lc_normal fx hs.2.2.2.2.2.2.2.2.2.2.2.2.2.2.2.2.2.2.2.1 hb kk hR)
  | 20, _ => l_tin (off := 1021) (tgt := 1054) fx dL_33 (by decide) (by decide) (by decide) (by decide) (lc_worth fx hs.2.2.2.2.2.2.2.2.2.2.2.2.2.2.2.2.2.2.2.2.1 hb kk hR)
  | 21, _ => l_tin (off := 1044) (tgt := 1077) fx dL_33 (by decide) (by decide) (by decide) (by decide) (lc_balanced fx hs.2.2.2.2.2.2.2.2.2.2.2.2.2.2.2.2.2.2.2.2.2.1 hb kk hR)
  | 22, _ => l_tin (off := 1067) (tgt := 1100) fx dL_33 (by decide) (by decide) (by decide) (by decide) (lc_common fx hs.2.2.2.2.2.2.2.2.2.2.2.2.2.2.2.2.2.2.2.2.2.2.1 hb kk hR)
  | 23, _ => l_tin (off := 1100) (tgt := 1133) fx dL_33 (by decide) (by decide) (by decide) (by decide) (lc_profile fx hs.2.2.2.2.2.2.2.2.2.2.2.2.2.2.2.2.2.2.2.2.2.2.2.1 hb kk hR)
  | 24, _ => l_tin (off := 1143) (tgt := 1176) fx dL_33 (by decide) (by decide) (by decide) (by decide) (lc_mayBeLike fx hs.2.2.2.2.2.2.2.2.2.2.2.2.2.2.2.2.2.2.2.2.2.2.2.2.1 hb kk hR)
  | 25, _ => l_tin (off := 1176) (tgt := 1209) fx dL_33 (by decide) (by decide) (by decide) (by decide) (lc_like fx hs.2.2.2.2.2.2.2.2.2.2.2.2.2.2.2.2.2.2.2.2.2.2.2.2.2.1 hb kk hR)
  | 26, _ => l_tin (off := 1209) (tgt := 1242) fx dL_33 (by decide) (by decide) (by decide) (by decide) (lc_excess fx hs.2.2.2.2.2.2.2.2.2.2.2.2.2.2.2.2.2.2.2.2.2.2.2.2.2.2.1 hb kk hR)
  | 27, _ => l_tin (off := 1232) (tgt := 1265) fx dL_33 (by decide) (by decide) (by decide) (by decide) (lc_peak fx hs.2.2.2.2.2.2.2.2.2.2.2.2.2.2.2.2.2.2.2.2.2.2.2.2.2.2.2.1 hb kk hR)
  | 28, _ => l_tin (off := 1255) (tgt := 1288) fx dL_33 (by decide) (by decide) (by decide) (by decide) (lc_block fx hs.2.2.2.2.2.2.2.2.2.2.2.2.2.2.2.2.2.2.2.2.2.2.2.2.2.2.2.2.1 hb kk hR)
  | 29, _ => l_tin (off := 1288) (tgt := 1321) fx dL_33 (by decide) (by decide) (by decide) (by decide) (lc_echo fx hs.2.2.2.2.2.2.2.2.2.2.2.2.2.2.2.2.2.2.2.2.2.2.2.2.2.2.2.2.2.1 hb kk hR)
  | 30, _ => l_tin (off := 1347) (tgt := 1380) fx dL_33 (by decide) (by decide) (by decide) (by decide) (lc_side fx hs.2.2.2.2.2.2.2.2.2.2.2.2.2.2.2.2.2.2.2.2.2.2.2.2.2.2.2.2.2.2.1 hb kk hR)
  | 31, _ => l_tin (off := 1370) (tgt := 1403) fx dL_33 (by decide) (by decide) (by decide) (by decide) (lc_cancels fx hs.2.2.2.2.2.2.2.2.2.2.2.2.2.2.2.2.2.2.2.2.2.2.2.2.2.2.2.2.2.2.2.1 hb kk hR)
  | 32, _ => l_tin (off := 1429) (tgt := 1462) fx dL_33 (by decide) (by decide) (by decide) (by decide) (lc_pairs fx hs.2.2.2.2.2.2.2.2.2.2.2.2.2.2.2.2.2.2.2.2.2.2.2.2.2.2.2.2.2.2.2.2.1 hb kk hR)
  | 33, _ => l_tin (off := 1452) (tgt := 1485) fx dL_33 (by decide) (by decide) (by decide) (by decide) (lc_leastSide fx hs.2.2.2.2.2.2.2.2.2.2.2.2.2.2.2.2.2.2.2.2.2.2.2.2.2.2.2.2.2.2.2.2.2.1 hb kk hR)
  | 34, _ => l_tin (off := 1485) (tgt := 1518) fx dL_33 (by decide) (by decide) (by decide) (by decide) (lc_longer fx hs.2.2.2.2.2.2.2.2.2.2.2.2.2.2.2.2.2.2.2.2.2.2.2.2.2.2.2.2.2.2.2.2.2.2.1 hb kk hR)
  | 35, _ => l_tin (off := 1538) (tgt := 1571) fx dL_33 (by decide) (by decide) (by decide) (by decide) (lc_switched fx hs.2.2.2.2.2.2.2.2.2.2.2.2.2.2.2.2.2.2.2.2.2.2.2.2.2.2.2.2.2.2.2.2.2.2.2.1 hb kk hR)
  | 36, _ => l_tin (off := 1571) (tgt := 1604) fx dL_33 (by decide) (by decide) (by decide) (by decide) (lc_odd fx hs.2.2.2.2.2.2.2.2.2.2.2.2.2.2.2.2.2.2.2.2.2.2.2.2.2.2.2.2.2.2.2.2.2.2.2.2.1 hb kk hR)
  | 37, _ => l_tin (off := 1594) (tgt := 1627) fx dL_33 (by decide) (by decide) (by decide) (by decide) (lc_alike fx hs.2.2.2.2.2.2.2.2.2.2.2.2.2.2.2.2.2.2.2.2.2.2.2.2.2.2.2.2.2.2.2.2.2.2.2.2.2.1 hb kk hR)
  | 38, _ => l_tin (off := 1627) (tgt := 1660) fx dL_33 (by decide) (by decide) (by decide) (by decide) (lc_fewest fx hs.2.2.2.2.2.2.2.2.2.2.2.2.2.2.2.2.2.2.2.2.2.2.2.2.2.2.2.2.2.2.2.2.2.2.2.2.2.2.1 hb kk hR)
  | 39, _ => l_tin (off := 1650) (tgt := 1683) fx dL_33 (by decide) (by decide) (by decide) (by decide) (lc_even fx hs.2.2.2.2.2.2.2.2.2.2.2.2.2.2.2.2.2.2.2.2.2.2.2.2.2.2.2.2.2.2.2.2.2.2.2.2.2.2.2.1 hb kk hR)
  | 40, _ => l_tin (off := 1683) (tgt := 1716) fx dL_33 (by decide) (by decide) (by decide) (by decide) (lc_own fx hs.2.2.2.2.2.2.2.2.2.2.2.2.2.2.2.2.2.2.2.2.2.2.2.2.2.2.2.2.2.2.2.2.2.2.2.2.2.2.2.2.1 hb kk hR)
  | 41, _ => l_tin (off := 1716) (tgt := 1749) fx dL_33 (by decide) (by decide) (by decide) (by decide) (lc_form fx hs.2.2.2.2.2.2.2.2.2.2.2.2.2.2.2.2.2.2.2.2.2.2.2.2.2.2.2.2.2.2.2.2.2.2.2.2.2.2.2.2.2.1 hb kk hR)
  | 42, _ => l_tin (off := 1749) (tgt := 1782) fx dL_33 (by decide) (by decide) (by decide) (by decide) (lc_weight fx hs.2.2.2.2.2.2.2.2.2.2.2.2.2.2.2.2.2.2.2.2.2.2.2.2.2.2.2.2.2.2.2.2.2.2.2.2.2.2.2.2.2.2.1 hb kk hR)
  | 43, _ => l_tin (off := 1772) (tgt := 1805) fx dL_33 (by decide) (by decide) (by decide) (by decide) (lc_worthTold fx hs.2.2.2.2.2.2.2.2.2.2.2.2.2.2.2.2.2.2.2.2.2.2.2.2.2.2.2.2.2.2.2.2.2.2.2.2.2.2.2.2.2.2.2.1 hb kk hR)
  | 44, _ => l_tin (off := 1786) (tgt := 1819) fx dL_33 (by decide) (by decide) (by decide) (by decide) (lc_asked fx hs.2.2.2.2.2.2.2.2.2.2.2.2.2.2.2.2.2.2.2.2.2.2.2.2.2.2.2.2.2.2.2.2.2.2.2.2.2.2.2.2.2.2.2.2.1 hb kk hR)
  | 45, _ => l_tin (off := 1799) (tgt := 1832) fx dL_33 (by decide) (by decide) (by decide) (by decide) (lc_upper fx hs.2.2.2.2.2.2.2.2.2.2.2.2.2.2.2.2.2.2.2.2.2.2.2.2.2.2.2.2.2.2.2.2.2.2.2.2.2.2.2.2.2.2.2.2.2.1 hb kk hR)
  | 46, _ => l_tin (off := 1813) (tgt := 1846) fx dL_33 (by decide) (by decide) (by decide) (by decide) (lc_lower fx hs.2.2.2.2.2.2.2.2.2.2.2.2.2.2.2.2.2.2.2.2.2.2.2.2.2.2.2.2.2.2.2.2.2.2.2.2.2.2.2.2.2.2.2.2.2.2.1 hb kk hR)
  | 47, _ => l_tin (off := 1827) (tgt := 1860) fx dL_33 (by decide) (by decide) (by decide) (by decide) (lc_count fx hs.2.2.2.2.2.2.2.2.2.2.2.2.2.2.2.2.2.2.2.2.2.2.2.2.2.2.2.2.2.2.2.2.2.2.2.2.2.2.2.2.2.2.2.2.2.2.2.1 hb kk hR)
  | 48, _ => l_tin (off := 1850) (tgt := 1883) fx dL_33 (by decide) (by decide) (by decide) (by decide) (lc_finding fx hs.2.2.2.2.2.2.2.2.2.2.2.2.2.2.2.2.2.2.2.2.2.2.2.2.2.2.2.2.2.2.2.2.2.2.2.2.2.2.2.2.2.2.2.2.2.2.2.2.1 hb kk hR)
  | 49, _ => l_tin (off := 1863) (tgt := 1896) fx dL_33 (by decide) (by decide) (by decide) (by decide) (lc_findings fx hs.2.2.2.2.2.2.2.2.2.2.2.2.2.2.2.2.2.2.2.2.2.2.2.2.2.2.2.2.2.2.2.2.2.2.2.2.2.2.2.2.2.2.2.2.2.2.2.2.2.1 hb kk hR)
  | 50, _ => l_tin (off := 1886) (tgt := 1919) fx dL_33 (by decide) (by decide) (by decide) (by decide) (lc_digest fx hs.2.2.2.2.2.2.2.2.2.2.2.2.2.2.2.2.2.2.2.2.2.2.2.2.2.2.2.2.2.2.2.2.2.2.2.2.2.2.2.2.2.2.2.2.2.2.2.2.2.2 hb kk hR)
  | n + 51, hj => l_tout (tgt := 1933) fx dL_33 (Or.inr (by rw [nI_toInt (by omega)]; omega)) (by decide) (kk I J K M hR)
theorem l_loop {β : lB} {D : va_G} {ad ad2 : Nat → Nat} {g : Nat → ClassId} (fx : lFX (lmk β D ad ad2 g)) {Rel : lRel} (hs : so_all Rel) (hL : lL (lmk β D ad ad2 g) ≤ 3072) : ∀ (n k : Nat), k ≤ 3078 → 3079 ≤ k + n → ∀ (I : zMi) (J : zMl) (K : zMi) (M : zMl), Rel I J K M → lAt (lmk β D ad ad2 g) 18 (llv β ad ad2 (nI k)) [] I J K M := by
  intro n
  induction n with
  | zero => intro k h1 h2; omega
  | succ n ih =>
    intro k hk hn I J K M hR
    refine l_iload_n fx dL_18 rfl ?_
    refine l_aload_n fx dL_19 rfl ?_
    refine l_slen fx dL_20 ?_
    refine l_bipush (v := nI 6) fx dL_21 (by decide) ?_
    refine l_isub fx dL_23 ?_
    refine l_icmp_gt (tgt := 1939) fx dL_24 (by decide) (fun q => ?_) (fun q => ?_)
    · refine l_iconst (v := 1) fx dL_1939 rfl ?_
      exact l_ret fx dL_1940
    · have hk6 : k + 6 ≤ lL (lmk β D ad ad2 g) := by
        rw [Int32.lt_iff_toInt_lt, pk_sub_toInt (by omega) (by omega), nI_toInt (by omega)] at q
        omega
      have hb : ∀ j : Nat, j < 6 → vp_in (nI k + nI j) (lL (lmk β D ad ad2 g)) := fun j hj => by
        rw [nI_add]
        exact vp_in_nI (by omega) (by omega)
      have hb0 : vp_in (nI k) (lL (lmk β D ad ad2 g)) := vp_in_nI (by omega) (by omega)
      refine l_aload_n fx dL_27 rfl ?_
      refine l_iload_n fx dL_28 rfl ?_
      refine l_sld fx hb0 dL_29 ?_
      refine l_bipush (v := 63) fx dL_30 (by decide) ?_
      refine l_iand fx dL_32 ?_
      obtain ⟨j, hj, e⟩ := pk_andE (lxs (lmk β D ad ad2 g) (nI k).toNatClampNeg) (m := 63) 6 (by decide)
      rw [e]
      refine l_sw fx hs hb (fun I J K M hR => ?_) hR j hj
      refine l_iinc (v := nI (k + 6)) (lv' := llv β ad ad2 (nI (k + 6))) fx dL_1933 rfl (by rw [← nI_add]; rfl) (by decide) rfl rfl ?_
      refine l_goto (tgt := 18) fx dL_1936 (by decide) ?_
      exact ih (k + 6) (by omega) (by omega) I J K M hR
