theorem dX4_four_148 : decode cX4_four 148 = .ok (.invokestatic 73, 3) := by decide +kernel
theorem dX4_four_151 : decode cX4_four 151 = .ok (.ifCond .eq 7, 3) := by decide +kernel
theorem dX4_four_154 : decode cX4_four 154 = .ok (.iconst 1, 1) := by decide +kernel
theorem dX4_four_155 : decode cX4_four 155 = .ok (.goto 4, 3) := by decide +kernel
theorem dX4_four_158 : decode cX4_four 158 = .ok (.iconst 0, 1) := by decide +kernel
theorem dX4_four_159 : decode cX4_four 159 = .ok (.istore 7, 2) := by decide +kernel
theorem dX4_four_161 : decode cX4_four 161 = .ok (.iinc 9 1, 3) := by decide +kernel
theorem dX4_four_164 : decode cX4_four 164 = .ok (.goto (-83), 3) := by decide +kernel
theorem dX4_four_167 : decode cX4_four 167 = .ok (.iload 6, 2) := by decide +kernel
theorem dX4_four_169 : decode cX4_four 169 = .ok (.ifCond .ne 9, 3) := by decide +kernel
theorem dX4_four_172 : decode cX4_four 172 = .ok (.aload_n 0, 1) := by decide +kernel
theorem dX4_four_173 : decode cX4_four 173 = .ok (.iconst 1, 1) := by decide +kernel
theorem dX4_four_174 : decode cX4_four 174 = .ok (.invokevirtual 81, 3) := by decide +kernel
theorem dX4_four_177 : decode cX4_four 177 = .ok (.ireturn, 1) := by decide +kernel
theorem dX4_four_178 : decode cX4_four 178 = .ok (.iload 7, 2) := by decide +kernel
theorem dX4_four_180 : decode cX4_four 180 = .ok (.ifCond .ne 9, 3) := by decide +kernel
theorem dX4_four_183 : decode cX4_four 183 = .ok (.aload_n 0, 1) := by decide +kernel
theorem dX4_four_184 : decode cX4_four 184 = .ok (.iconst 5, 1) := by decide +kernel
theorem dX4_four_185 : decode cX4_four 185 = .ok (.invokevirtual 81, 3) := by decide +kernel
theorem dX4_four_188 : decode cX4_four 188 = .ok (.ireturn, 1) := by decide +kernel
theorem dX4_four_189 : decode cX4_four 189 = .ok (.aload_n 0, 1) := by decide +kernel
theorem dX4_four_190 : decode cX4_four 190 = .ok (.getfield 17, 3) := by decide +kernel
theorem dX4_four_193 : decode cX4_four 193 = .ok (.iload_n 2, 1) := by decide +kernel
theorem dX4_four_194 : decode cX4_four 194 = .ok (.iaload, 1) := by decide +kernel
theorem dX4_four_195 : decode cX4_four 195 = .ok (.istore 9, 2) := by decide +kernel
theorem dX4_four_197 : decode cX4_four 197 = .ok (.iconst 0, 1) := by decide +kernel
theorem dX4_four_198 : decode cX4_four 198 = .ok (.istore 10, 2) := by decide +kernel
theorem dX4_four_200 : decode cX4_four 200 = .ok (.iload 10, 2) := by decide +kernel
theorem dX4_four_202 : decode cX4_four 202 = .ok (.iconst 4, 1) := by decide +kernel
theorem dX4_four_203 : decode cX4_four 203 = .ok (.if_icmp .ge 105, 3) := by decide +kernel
theorem dX4_four_206 : decode cX4_four 206 = .ok (.iload 8, 2) := by decide +kernel
theorem dX4_four_208 : decode cX4_four 208 = .ok (.ifCond .eq 21, 3) := by decide +kernel
theorem dX4_four_211 : decode cX4_four 211 = .ok (.aload_n 0, 1) := by decide +kernel
theorem dX4_four_212 : decode cX4_four 212 = .ok (.aload_n 0, 1) := by decide +kernel
theorem dX4_four_213 : decode cX4_four 213 = .ok (.getfield 38, 3) := by decide +kernel
theorem dX4_four_216 : decode cX4_four 216 = .ok (.iload 10, 2) := by decide +kernel
theorem dX4_four_218 : decode cX4_four 218 = .ok (.iaload, 1) := by decide +kernel
theorem dX4_four_219 : decode cX4_four 219 = .ok (.invokevirtual 168, 3) := by decide +kernel
theorem dX4_four_222 : decode cX4_four 222 = .ok (.ifCond .eq 7, 3) := by decide +kernel
theorem dX4_four_225 : decode cX4_four 225 = .ok (.iconst 1, 1) := by decide +kernel
theorem dX4_four_226 : decode cX4_four 226 = .ok (.goto 4, 3) := by decide +kernel
theorem dX4_four_229 : decode cX4_four 229 = .ok (.iconst 0, 1) := by decide +kernel
theorem dX4_four_230 : decode cX4_four 230 = .ok (.istore 8, 2) := by decide +kernel
theorem dX4_four_232 : decode cX4_four 232 = .ok (.iconst 1, 1) := by decide +kernel
theorem dX4_four_233 : decode cX4_four 233 = .ok (.istore 11, 2) := by decide +kernel
theorem dX4_four_235 : decode cX4_four 235 = .ok (.iload 11, 2) := by decide +kernel
theorem dX4_four_237 : decode cX4_four 237 = .ok (.iload 9, 2) := by decide +kernel
theorem dX4_four_239 : decode cX4_four 239 = .ok (.if_icmp .ge 63, 3) := by decide +kernel
theorem dX4_four_242 : decode cX4_four 242 = .ok (.iload 8, 2) := by decide +kernel
theorem dX4_four_244 : decode cX4_four 244 = .ok (.ifCond .eq 49, 3) := by decide +kernel
theorem dX4_four_247 : decode cX4_four 247 = .ok (.aload_n 0, 1) := by decide +kernel
theorem dX4_four_248 : decode cX4_four 248 = .ok (.getfield 20, 3) := by decide +kernel
theorem dX4_four_251 : decode cX4_four 251 = .ok (.bipush 24, 2) := by decide +kernel
theorem dX4_four_253 : decode cX4_four 253 = .ok (.aload_n 0, 1) := by decide +kernel
theorem dX4_four_254 : decode cX4_four 254 = .ok (.getfield 38, 3) := by decide +kernel
theorem dX4_four_257 : decode cX4_four 257 = .ok (.iload 10, 2) := by decide +kernel
theorem dX4_four_259 : decode cX4_four 259 = .ok (.iaload, 1) := by decide +kernel
theorem dX4_four_260 : decode cX4_four 260 = .ok (.imul, 1) := by decide +kernel
theorem dX4_four_261 : decode cX4_four 261 = .ok (.iload 11, 2) := by decide +kernel
theorem dX4_four_263 : decode cX4_four 263 = .ok (.iadd, 1) := by decide +kernel
theorem dX4_four_264 : decode cX4_four 264 = .ok (.iaload, 1) := by decide +kernel
theorem dX4_four_265 : decode cX4_four 265 = .ok (.aload_n 0, 1) := by decide +kernel
theorem dX4_four_266 : decode cX4_four 266 = .ok (.getfield 20, 3) := by decide +kernel
theorem dX4_four_269 : decode cX4_four 269 = .ok (.bipush 24, 2) := by decide +kernel
theorem dX4_four_271 : decode cX4_four 271 = .ok (.aload_n 0, 1) := by decide +kernel
theorem dX4_four_272 : decode cX4_four 272 = .ok (.getfield 38, 3) := by decide +kernel
theorem dX4_four_275 : decode cX4_four 275 = .ok (.iload 10, 2) := by decide +kernel
theorem dX4_four_277 : decode cX4_four 277 = .ok (.iaload, 1) := by decide +kernel
theorem dX4_four_278 : decode cX4_four 278 = .ok (.imul, 1) := by decide +kernel
theorem dX4_four_279 : decode cX4_four 279 = .ok (.iload 9, 2) := by decide +kernel
theorem dX4_four_281 : decode cX4_four 281 = .ok (.iadd, 1) := by decide +kernel
theorem dX4_four_282 : decode cX4_four 282 = .ok (.iload 11, 2) := by decide +kernel
theorem dX4_four_284 : decode cX4_four 284 = .ok (.isub, 1) := by decide +kernel
theorem dX4_four_285 : decode cX4_four 285 = .ok (.iaload, 1) := by decide +kernel
theorem dX4_four_286 : decode cX4_four 286 = .ok (.if_icmp .ne 7, 3) := by decide +kernel
theorem dX4_four_289 : decode cX4_four 289 = .ok (.iconst 1, 1) := by decide +kernel
theorem dX4_four_290 : decode cX4_four 290 = .ok (.goto 4, 3) := by decide +kernel
theorem dX4_four_293 : decode cX4_four 293 = .ok (.iconst 0, 1) := by decide +kernel
theorem dX4_four_294 : decode cX4_four 294 = .ok (.istore 8, 2) := by decide +kernel
theorem dX4_four_296 : decode cX4_four 296 = .ok (.iinc 11 1, 3) := by decide +kernel
theorem dX4_four_299 : decode cX4_four 299 = .ok (.goto (-64), 3) := by decide +kernel
theorem dX4_four_302 : decode cX4_four 302 = .ok (.iinc 10 1, 3) := by decide +kernel
theorem dX4_four_305 : decode cX4_four 305 = .ok (.goto (-105), 3) := by decide +kernel
theorem dX4_four_308 : decode cX4_four 308 = .ok (.iload 8, 2) := by decide +kernel
theorem dX4_four_310 : decode cX4_four 310 = .ok (.ifCond .ne 9, 3) := by decide +kernel
theorem dX4_four_313 : decode cX4_four 313 = .ok (.aload_n 0, 1) := by decide +kernel
theorem dX4_four_314 : decode cX4_four 314 = .ok (.iconst 3, 1) := by decide +kernel
theorem dX4_four_315 : decode cX4_four 315 = .ok (.invokevirtual 81, 3) := by decide +kernel
theorem dX4_four_318 : decode cX4_four 318 = .ok (.ireturn, 1) := by decide +kernel
theorem dX4_four_319 : decode cX4_four 319 = .ok (.iconst 1, 1) := by decide +kernel
theorem dX4_four_320 : decode cX4_four 320 = .ok (.istore 10, 2) := by decide +kernel
theorem dX4_four_322 : decode cX4_four 322 = .ok (.iload 10, 2) := by decide +kernel
theorem dX4_four_324 : decode cX4_four 324 = .ok (.iload 9, 2) := by decide +kernel
theorem dX4_four_326 : decode cX4_four 326 = .ok (.if_icmp .ge 48, 3) := by decide +kernel
theorem dX4_four_329 : decode cX4_four 329 = .ok (.aload_n 0, 1) := by decide +kernel
theorem dX4_four_330 : decode cX4_four 330 = .ok (.iload_n 2, 1) := by decide +kernel
theorem dX4_four_331 : decode cX4_four 331 = .ok (.iload 10, 2) := by decide +kernel
theorem dX4_four_333 : decode cX4_four 333 = .ok (.invokevirtual 171, 3) := by decide +kernel
theorem dX4_four_336 : decode cX4_four 336 = .ok (.aload_n 0, 1) := by decide +kernel
theorem dX4_four_337 : decode cX4_four 337 = .ok (.iload_n 3, 1) := by decide +kernel
theorem dX4_four_338 : decode cX4_four 338 = .ok (.iload 10, 2) := by decide +kernel
theorem dX4_four_340 : decode cX4_four 340 = .ok (.invokevirtual 171, 3) := by decide +kernel
theorem dX4_four_343 : decode cX4_four 343 = .ok (.iadd, 1) := by decide +kernel
theorem dX4_four_344 : decode cX4_four 344 = .ok (.aload_n 0, 1) := by decide +kernel
theorem dX4_four_345 : decode cX4_four 345 = .ok (.iload 4, 2) := by decide +kernel
theorem dX4_four_347 : decode cX4_four 347 = .ok (.iload 10, 2) := by decide +kernel
theorem dX4_four_349 : decode cX4_four 349 = .ok (.invokevirtual 171, 3) := by decide +kernel
theorem dX4_four_352 : decode cX4_four 352 = .ok (.iadd, 1) := by decide +kernel
theorem dX4_four_353 : decode cX4_four 353 = .ok (.aload_n 0, 1) := by decide +kernel
theorem dX4_four_354 : decode cX4_four 354 = .ok (.iload 5, 2) := by decide +kernel
theorem dX4_four_356 : decode cX4_four 356 = .ok (.iload 10, 2) := by decide +kernel
theorem dX4_four_358 : decode cX4_four 358 = .ok (.invokevirtual 171, 3) := by decide +kernel
theorem dX4_four_361 : decode cX4_four 361 = .ok (.iadd, 1) := by decide +kernel
theorem dX4_four_362 : decode cX4_four 362 = .ok (.ifCond .eq 6, 3) := by decide +kernel
theorem dX4_four_365 : decode cX4_four 365 = .ok (.bipush (-4), 2) := by decide +kernel
theorem dX4_four_367 : decode cX4_four 367 = .ok (.ireturn, 1) := by decide +kernel
theorem dX4_four_368 : decode cX4_four 368 = .ok (.iinc 10 1, 3) := by decide +kernel
theorem dX4_four_371 : decode cX4_four 371 = .ok (.goto (-49), 3) := by decide +kernel
theorem dX4_four_374 : decode cX4_four 374 = .ok (.iconst 0, 1) := by decide +kernel
theorem dX4_four_375 : decode cX4_four 375 = .ok (.istore 10, 2) := by decide +kernel
theorem dX4_four_377 : decode cX4_four 377 = .ok (.iload 10, 2) := by decide +kernel
theorem dX4_four_379 : decode cX4_four 379 = .ok (.iconst 4, 1) := by decide +kernel
theorem dX4_four_380 : decode cX4_four 380 = .ok (.iload 9, 2) := by decide +kernel
theorem dX4_four_382 : decode cX4_four 382 = .ok (.imul, 1) := by decide +kernel
theorem dX4_four_383 : decode cX4_four 383 = .ok (.if_icmp .ge 112, 3) := by decide +kernel
theorem dX4_four_386 : decode cX4_four 386 = .ok (.iconst 0, 1) := by decide +kernel
theorem dX4_four_387 : decode cX4_four 387 = .ok (.istore 11, 2) := by decide +kernel
theorem dX4_four_389 : decode cX4_four 389 = .ok (.iload 11, 2) := by decide +kernel
theorem dX4_four_391 : decode cX4_four 391 = .ok (.iconst 4, 1) := by decide +kernel
theorem dX4_four_392 : decode cX4_four 392 = .ok (.iload 9, 2) := by decide +kernel
theorem dX4_four_394 : decode cX4_four 394 = .ok (.imul, 1) := by decide +kernel
theorem dX4_four_395 : decode cX4_four 395 = .ok (.if_icmp .ge 94, 3) := by decide +kernel
theorem dX4_four_398 : decode cX4_four 398 = .ok (.iload 10, 2) := by decide +kernel
theorem dX4_four_400 : decode cX4_four 400 = .ok (.iload 9, 2) := by decide +kernel
theorem dX4_four_402 : decode cX4_four 402 = .ok (.idiv, 1) := by decide +kernel
theorem dX4_four_403 : decode cX4_four 403 = .ok (.iload 11, 2) := by decide +kernel
theorem dX4_four_405 : decode cX4_four 405 = .ok (.iload 9, 2) := by decide +kernel
theorem dX4_four_407 : decode cX4_four 407 = .ok (.idiv, 1) := by decide +kernel
theorem dX4_four_408 : decode cX4_four 408 = .ok (.invokestatic 174, 3) := by decide +kernel
theorem dX4_four_411 : decode cX4_four 411 = .ok (.istore 12, 2) := by decide +kernel
theorem dX4_four_413 : decode cX4_four 413 = .ok (.iload 12, 2) := by decide +kernel
theorem dX4_four_415 : decode cX4_four 415 = .ok (.ifCond .ge 7, 3) := by decide +kernel
theorem dX4_four_418 : decode cX4_four 418 = .ok (.iconst (-1), 1) := by decide +kernel
theorem dX4_four_419 : decode cX4_four 419 = .ok (.goto 4, 3) := by decide +kernel
theorem dX4_four_422 : decode cX4_four 422 = .ok (.iconst 1, 1) := by decide +kernel
theorem dX4_four_423 : decode cX4_four 423 = .ok (.istore 13, 2) := by decide +kernel
theorem dX4_four_425 : decode cX4_four 425 = .ok (.aload_n 0, 1) := by decide +kernel
theorem dX4_four_426 : decode cX4_four 426 = .ok (.getfield 38, 3) := by decide +kernel
theorem dX4_four_429 : decode cX4_four 429 = .ok (.iload 12, 2) := by decide +kernel
theorem dX4_four_431 : decode cX4_four 431 = .ok (.invokestatic 177, 3) := by decide +kernel
theorem dX4_four_434 : decode cX4_four 434 = .ok (.iconst 1, 1) := by decide +kernel
theorem dX4_four_435 : decode cX4_four 435 = .ok (.isub, 1) := by decide +kernel
theorem dX4_four_436 : decode cX4_four 436 = .ok (.iaload, 1) := by decide +kernel
theorem dX4_four_437 : decode cX4_four 437 = .ok (.istore 14, 2) := by decide +kernel
theorem dX4_four_439 : decode cX4_four 439 = .ok (.aload_n 0, 1) := by decide +kernel
theorem dX4_four_440 : decode cX4_four 440 = .ok (.getfield 35, 3) := by decide +kernel
theorem dX4_four_443 : decode cX4_four 443 = .ok (.bipush 12, 2) := by decide +kernel
theorem dX4_four_445 : decode cX4_four 445 = .ok (.iload 10, 2) := by decide +kernel
theorem dX4_four_447 : decode cX4_four 447 = .ok (.imul, 1) := by decide +kernel
theorem dX4_four_448 : decode cX4_four 448 = .ok (.iload 11, 2) := by decide +kernel
theorem dX4_four_450 : decode cX4_four 450 = .ok (.iadd, 1) := by decide +kernel
theorem dX4_four_451 : decode cX4_four 451 = .ok (.iload 13, 2) := by decide +kernel
theorem dX4_four_453 : decode cX4_four 453 = .ok (.aload_n 0, 1) := by decide +kernel
theorem dX4_four_454 : decode cX4_four 454 = .ok (.getfield 20, 3) := by decide +kernel
theorem dX4_four_457 : decode cX4_four 457 = .ok (.bipush 24, 2) := by decide +kernel
theorem dX4_four_459 : decode cX4_four 459 = .ok (.iload 14, 2) := by decide +kernel
theorem dX4_four_461 : decode cX4_four 461 = .ok (.imul, 1) := by decide +kernel
theorem dX4_four_462 : decode cX4_four 462 = .ok (.iload 11, 2) := by decide +kernel
theorem dX4_four_464 : decode cX4_four 464 = .ok (.iload 9, 2) := by decide +kernel
theorem dX4_four_466 : decode cX4_four 466 = .ok (.irem, 1) := by decide +kernel
theorem dX4_four_467 : decode cX4_four 467 = .ok (.iload 10, 2) := by decide +kernel
theorem dX4_four_469 : decode cX4_four 469 = .ok (.iload 9, 2) := by decide +kernel
theorem dX4_four_471 : decode cX4_four 471 = .ok (.irem, 1) := by decide +kernel
theorem dX4_four_472 : decode cX4_four 472 = .ok (.isub, 1) := by decide +kernel
theorem dX4_four_473 : decode cX4_four 473 = .ok (.iload 9, 2) := by decide +kernel
theorem dX4_four_475 : decode cX4_four 475 = .ok (.iadd, 1) := by decide +kernel
theorem dX4_four_476 : decode cX4_four 476 = .ok (.iload 9, 2) := by decide +kernel
theorem dX4_four_478 : decode cX4_four 478 = .ok (.irem, 1) := by decide +kernel
theorem dX4_four_479 : decode cX4_four 479 = .ok (.iadd, 1) := by decide +kernel
theorem dX4_four_480 : decode cX4_four 480 = .ok (.iaload, 1) := by decide +kernel
theorem dX4_four_481 : decode cX4_four 481 = .ok (.imul, 1) := by decide +kernel
theorem dX4_four_482 : decode cX4_four 482 = .ok (.iastore, 1) := by decide +kernel
theorem dX4_four_483 : decode cX4_four 483 = .ok (.iinc 11 1, 3) := by decide +kernel
theorem dX4_four_486 : decode cX4_four 486 = .ok (.goto (-97), 3) := by decide +kernel
theorem dX4_four_489 : decode cX4_four 489 = .ok (.iinc 10 1, 3) := by decide +kernel
theorem dX4_four_492 : decode cX4_four 492 = .ok (.goto (-115), 3) := by decide +kernel
theorem dX4_four_495 : decode cX4_four 495 = .ok (.aload_n 0, 1) := by decide +kernel
theorem dX4_four_496 : decode cX4_four 496 = .ok (.iload_n 1, 1) := by decide +kernel
theorem dX4_four_497 : decode cX4_four 497 = .ok (.iconst 4, 1) := by decide +kernel
theorem dX4_four_498 : decode cX4_four 498 = .ok (.iload 9, 2) := by decide +kernel
theorem dX4_four_500 : decode cX4_four 500 = .ok (.imul, 1) := by decide +kernel
theorem dX4_four_501 : decode cX4_four 501 = .ok (.invokevirtual 162, 3) := by decide +kernel
theorem dX4_four_504 : decode cX4_four 504 = .ok (.ireturn, 1) := by decide +kernel
theorem dX4_partAt_0 : decode cX4_partAt 0 = .ok (.iconst 4, 1) := by decide +kernel
theorem dX4_partAt_1 : decode cX4_partAt 1 = .ok (.iload_n 0, 1) := by decide +kernel
theorem dX4_partAt_2 : decode cX4_partAt 2 = .ok (.imul, 1) := by decide +kernel
theorem dX4_partAt_3 : decode cX4_partAt 3 = .ok (.iload_n 1, 1) := by decide +kernel
theorem dX4_partAt_4 : decode cX4_partAt 4 = .ok (.iadd, 1) := by decide +kernel
theorem dX4_partAt_5 : decode cX4_partAt 5 = .ok (.tableswitch 111 0 14 #[75, 77, 79, 81, 83, 86, 88, 91, 93, 96, 98, 100, 103, 106, 109], 75) := by decide +kernel
theorem dX4_partAt_80 : decode cX4_partAt 80 = .ok (.iconst 1, 1) := by decide +kernel
theorem dX4_partAt_81 : decode cX4_partAt 81 = .ok (.ireturn, 1) := by decide +kernel
theorem dX4_partAt_82 : decode cX4_partAt 82 = .ok (.iconst 2, 1) := by decide +kernel
theorem dX4_partAt_83 : decode cX4_partAt 83 = .ok (.ireturn, 1) := by decide +kernel
theorem dX4_partAt_84 : decode cX4_partAt 84 = .ok (.iconst 3, 1) := by decide +kernel
theorem dX4_partAt_85 : decode cX4_partAt 85 = .ok (.ireturn, 1) := by decide +kernel
theorem dX4_partAt_86 : decode cX4_partAt 86 = .ok (.iconst 4, 1) := by decide +kernel
theorem dX4_partAt_87 : decode cX4_partAt 87 = .ok (.ireturn, 1) := by decide +kernel
theorem dX4_partAt_88 : decode cX4_partAt 88 = .ok (.bipush (-2), 2) := by decide +kernel
theorem dX4_partAt_90 : decode cX4_partAt 90 = .ok (.ireturn, 1) := by decide +kernel
theorem dX4_partAt_91 : decode cX4_partAt 91 = .ok (.iconst 1, 1) := by decide +kernel
theorem dX4_partAt_92 : decode cX4_partAt 92 = .ok (.ireturn, 1) := by decide +kernel
theorem dX4_partAt_93 : decode cX4_partAt 93 = .ok (.bipush (-4), 2) := by decide +kernel
theorem dX4_partAt_95 : decode cX4_partAt 95 = .ok (.ireturn, 1) := by decide +kernel
theorem dX4_partAt_96 : decode cX4_partAt 96 = .ok (.iconst 3, 1) := by decide +kernel
theorem dX4_partAt_97 : decode cX4_partAt 97 = .ok (.ireturn, 1) := by decide +kernel
theorem dX4_partAt_98 : decode cX4_partAt 98 = .ok (.bipush (-3), 2) := by decide +kernel
theorem dX4_partAt_100 : decode cX4_partAt 100 = .ok (.ireturn, 1) := by decide +kernel
theorem dX4_partAt_101 : decode cX4_partAt 101 = .ok (.iconst 4, 1) := by decide +kernel
theorem dX4_partAt_102 : decode cX4_partAt 102 = .ok (.ireturn, 1) := by decide +kernel
theorem dX4_partAt_103 : decode cX4_partAt 103 = .ok (.iconst 1, 1) := by decide +kernel
theorem dX4_partAt_104 : decode cX4_partAt 104 = .ok (.ireturn, 1) := by decide +kernel
theorem dX4_partAt_105 : decode cX4_partAt 105 = .ok (.bipush (-2), 2) := by decide +kernel
theorem dX4_partAt_107 : decode cX4_partAt 107 = .ok (.ireturn, 1) := by decide +kernel
theorem dX4_partAt_108 : decode cX4_partAt 108 = .ok (.bipush (-4), 2) := by decide +kernel
theorem dX4_partAt_110 : decode cX4_partAt 110 = .ok (.ireturn, 1) := by decide +kernel
theorem dX4_partAt_111 : decode cX4_partAt 111 = .ok (.bipush (-3), 2) := by decide +kernel
theorem dX4_partAt_113 : decode cX4_partAt 113 = .ok (.ireturn, 1) := by decide +kernel
theorem dX4_partAt_114 : decode cX4_partAt 114 = .ok (.iconst 2, 1) := by decide +kernel
theorem dX4_partAt_115 : decode cX4_partAt 115 = .ok (.ireturn, 1) := by decide +kernel
theorem dX4_partAt_116 : decode cX4_partAt 116 = .ok (.iconst 1, 1) := by decide +kernel
theorem dX4_partAt_117 : decode cX4_partAt 117 = .ok (.ireturn, 1) := by decide +kernel
theorem dX4_turnRow_0 : decode cX4_turnRow 0 = .ok (.iconst 0, 1) := by decide +kernel
theorem dX4_turnRow_1 : decode cX4_turnRow 1 = .ok (.istore_n 3, 1) := by decide +kernel
theorem dX4_turnRow_2 : decode cX4_turnRow 2 = .ok (.iload_n 3, 1) := by decide +kernel
theorem dX4_turnRow_3 : decode cX4_turnRow 3 = .ok (.aload_n 0, 1) := by decide +kernel
theorem dX4_turnRow_4 : decode cX4_turnRow 4 = .ok (.getfield 26, 3) := by decide +kernel
theorem dX4_turnRow_7 : decode cX4_turnRow 7 = .ok (.iload_n 1, 1) := by decide +kernel
theorem dX4_turnRow_8 : decode cX4_turnRow 8 = .ok (.iaload, 1) := by decide +kernel
theorem dX4_turnRow_9 : decode cX4_turnRow 9 = .ok (.if_icmp .ge 24, 3) := by decide +kernel
theorem dX4_turnRow_12 : decode cX4_turnRow 12 = .ok (.aload_n 0, 1) := by decide +kernel
theorem dX4_turnRow_13 : decode cX4_turnRow 13 = .ok (.iload_n 1, 1) := by decide +kernel
theorem dX4_turnRow_14 : decode cX4_turnRow 14 = .ok (.iload_n 2, 1) := by decide +kernel
theorem dX4_turnRow_15 : decode cX4_turnRow 15 = .ok (.iload_n 3, 1) := by decide +kernel
theorem dX4_turnRow_16 : decode cX4_turnRow 16 = .ok (.aload_n 0, 1) := by decide +kernel
theorem dX4_turnRow_17 : decode cX4_turnRow 17 = .ok (.iload_n 1, 1) := by decide +kernel
theorem dX4_turnRow_18 : decode cX4_turnRow 18 = .ok (.iload_n 2, 1) := by decide +kernel
theorem dX4_turnRow_19 : decode cX4_turnRow 19 = .ok (.iload_n 3, 1) := by decide +kernel
theorem dX4_turnRow_20 : decode cX4_turnRow 20 = .ok (.invokevirtual 102, 3) := by decide +kernel
theorem dX4_turnRow_23 : decode cX4_turnRow 23 = .ok (.ineg, 1) := by decide +kernel
theorem dX4_turnRow_24 : decode cX4_turnRow 24 = .ok (.invokevirtual 133, 3) := by decide +kernel
theorem dX4_turnRow_27 : decode cX4_turnRow 27 = .ok (.iinc 3 1, 3) := by decide +kernel
theorem dX4_turnRow_30 : decode cX4_turnRow 30 = .ok (.goto (-28), 3) := by decide +kernel
theorem dX4_turnRow_33 : decode cX4_turnRow 33 = .ok (.return_, 1) := by decide +kernel
theorem dX4_turnColumn_0 : decode cX4_turnColumn 0 = .ok (.iconst 0, 1) := by decide +kernel
theorem dX4_turnColumn_1 : decode cX4_turnColumn 1 = .ok (.istore_n 3, 1) := by decide +kernel
theorem dX4_turnColumn_2 : decode cX4_turnColumn 2 = .ok (.iload_n 3, 1) := by decide +kernel
theorem dX4_turnColumn_3 : decode cX4_turnColumn 3 = .ok (.aload_n 0, 1) := by decide +kernel
theorem dX4_turnColumn_4 : decode cX4_turnColumn 4 = .ok (.getfield 26, 3) := by decide +kernel
theorem dX4_turnColumn_7 : decode cX4_turnColumn 7 = .ok (.iload_n 1, 1) := by decide +kernel
theorem dX4_turnColumn_8 : decode cX4_turnColumn 8 = .ok (.iaload, 1) := by decide +kernel
theorem dX4_turnColumn_9 : decode cX4_turnColumn 9 = .ok (.if_icmp .ge 24, 3) := by decide +kernel
theorem dX4_turnColumn_12 : decode cX4_turnColumn 12 = .ok (.aload_n 0, 1) := by decide +kernel
theorem dX4_turnColumn_13 : decode cX4_turnColumn 13 = .ok (.iload_n 1, 1) := by decide +kernel
theorem dX4_turnColumn_14 : decode cX4_turnColumn 14 = .ok (.iload_n 3, 1) := by decide +kernel
theorem dX4_turnColumn_15 : decode cX4_turnColumn 15 = .ok (.iload_n 2, 1) := by decide +kernel
theorem dX4_turnColumn_16 : decode cX4_turnColumn 16 = .ok (.aload_n 0, 1) := by decide +kernel
theorem dX4_turnColumn_17 : decode cX4_turnColumn 17 = .ok (.iload_n 1, 1) := by decide +kernel
theorem dX4_turnColumn_18 : decode cX4_turnColumn 18 = .ok (.iload_n 3, 1) := by decide +kernel
theorem dX4_turnColumn_19 : decode cX4_turnColumn 19 = .ok (.iload_n 2, 1) := by decide +kernel
theorem dX4_turnColumn_20 : decode cX4_turnColumn 20 = .ok (.invokevirtual 102, 3) := by decide +kernel
theorem dX4_turnColumn_23 : decode cX4_turnColumn 23 = .ok (.ineg, 1) := by decide +kernel
theorem dX4_turnColumn_24 : decode cX4_turnColumn 24 = .ok (.invokevirtual 133, 3) := by decide +kernel
theorem dX4_turnColumn_27 : decode cX4_turnColumn 27 = .ok (.iinc 3 1, 3) := by decide +kernel
theorem dX4_turnColumn_30 : decode cX4_turnColumn 30 = .ok (.goto (-28), 3) := by decide +kernel
theorem dX4_turnColumn_33 : decode cX4_turnColumn 33 = .ok (.return_, 1) := by decide +kernel
theorem dX4_isSet_0 : decode cX4_isSet 0 = .ok (.iload_n 2, 1) := by decide +kernel
theorem dX4_isSet_1 : decode cX4_isSet 1 = .ok (.iconst 0, 1) := by decide +kernel
theorem dX4_isSet_2 : decode cX4_isSet 2 = .ok (.iconst 1, 1) := by decide +kernel
theorem dX4_isSet_3 : decode cX4_isSet 3 = .ok (.aload_n 0, 1) := by decide +kernel
theorem dX4_isSet_4 : decode cX4_isSet 4 = .ok (.getfield 26, 3) := by decide +kernel
theorem dX4_isSet_7 : decode cX4_isSet 7 = .ok (.iload_n 1, 1) := by decide +kernel
theorem dX4_isSet_8 : decode cX4_isSet 8 = .ok (.iaload, 1) := by decide +kernel
theorem dX4_isSet_9 : decode cX4_isSet 9 = .ok (.ishl, 1) := by decide +kernel
theorem dX4_isSet_10 : decode cX4_isSet 10 = .ok (.iconst 1, 1) := by decide +kernel
theorem dX4_isSet_11 : decode cX4_isSet 11 = .ok (.isub, 1) := by decide +kernel
theorem dX4_isSet_12 : decode cX4_isSet 12 = .ok (.invokestatic 73, 3) := by decide +kernel
theorem dX4_isSet_15 : decode cX4_isSet 15 = .ok (.ireturn, 1) := by decide +kernel
theorem dX4_turn_0 : decode cX4_turn 0 = .ok (.aload_n 0, 1) := by decide +kernel
theorem dX4_turn_1 : decode cX4_turn 1 = .ok (.iload_n 1, 1) := by decide +kernel
theorem dX4_turn_2 : decode cX4_turn 2 = .ok (.invokevirtual 143, 3) := by decide +kernel
theorem dX4_turn_5 : decode cX4_turn 5 = .ok (.istore 4, 2) := by decide +kernel
theorem dX4_turn_7 : decode cX4_turn 7 = .ok (.iload 4, 2) := by decide +kernel
theorem dX4_turn_9 : decode cX4_turn 9 = .ok (.ifCond .ge 6, 3) := by decide +kernel
theorem dX4_turn_12 : decode cX4_turn 12 = .ok (.iload 4, 2) := by decide +kernel
theorem dX4_turn_14 : decode cX4_turn 14 = .ok (.ireturn, 1) := by decide +kernel
theorem dX4_turn_15 : decode cX4_turn 15 = .ok (.aload_n 0, 1) := by decide +kernel
theorem dX4_turn_16 : decode cX4_turn 16 = .ok (.iload_n 1, 1) := by decide +kernel
theorem dX4_turn_17 : decode cX4_turn 17 = .ok (.iload_n 2, 1) := by decide +kernel
theorem dX4_turn_18 : decode cX4_turn 18 = .ok (.invokevirtual 180, 3) := by decide +kernel
theorem dX4_turn_21 : decode cX4_turn 21 = .ok (.ifCond .eq 12, 3) := by decide +kernel
theorem dX4_turn_24 : decode cX4_turn 24 = .ok (.aload_n 0, 1) := by decide +kernel
theorem dX4_turn_25 : decode cX4_turn 25 = .ok (.iload_n 1, 1) := by decide +kernel
theorem dX4_turn_26 : decode cX4_turn 26 = .ok (.iload_n 3, 1) := by decide +kernel
theorem dX4_turn_27 : decode cX4_turn 27 = .ok (.invokevirtual 180, 3) := by decide +kernel
theorem dX4_turn_30 : decode cX4_turn 30 = .ok (.ifCond .ne 5, 3) := by decide +kernel
theorem dX4_turn_33 : decode cX4_turn 33 = .ok (.iconst (-1), 1) := by decide +kernel
theorem dX4_turn_34 : decode cX4_turn 34 = .ok (.ireturn, 1) := by decide +kernel
theorem dX4_turn_35 : decode cX4_turn 35 = .ok (.iconst 0, 1) := by decide +kernel
theorem dX4_turn_36 : decode cX4_turn 36 = .ok (.istore 5, 2) := by decide +kernel
theorem dX4_turn_38 : decode cX4_turn 38 = .ok (.iload 5, 2) := by decide +kernel
theorem dX4_turn_40 : decode cX4_turn 40 = .ok (.aload_n 0, 1) := by decide +kernel
theorem dX4_turn_41 : decode cX4_turn 41 = .ok (.getfield 26, 3) := by decide +kernel
theorem dX4_turn_44 : decode cX4_turn 44 = .ok (.iload_n 1, 1) := by decide +kernel
theorem dX4_turn_45 : decode cX4_turn 45 = .ok (.iaload, 1) := by decide +kernel
theorem dX4_turn_46 : decode cX4_turn 46 = .ok (.if_icmp .ge 43, 3) := by decide +kernel
theorem dX4_turn_49 : decode cX4_turn 49 = .ok (.iload_n 2, 1) := by decide +kernel
theorem dX4_turn_50 : decode cX4_turn 50 = .ok (.iload 5, 2) := by decide +kernel
theorem dX4_turn_52 : decode cX4_turn 52 = .ok (.ishr, 1) := by decide +kernel
theorem dX4_turn_53 : decode cX4_turn 53 = .ok (.iconst 1, 1) := by decide +kernel
theorem dX4_turn_54 : decode cX4_turn 54 = .ok (.iand, 1) := by decide +kernel
theorem dX4_turn_55 : decode cX4_turn 55 = .ok (.iconst 1, 1) := by decide +kernel
theorem dX4_turn_56 : decode cX4_turn 56 = .ok (.if_icmp .ne 10, 3) := by decide +kernel
theorem dX4_turn_59 : decode cX4_turn 59 = .ok (.aload_n 0, 1) := by decide +kernel
theorem dX4_turn_60 : decode cX4_turn 60 = .ok (.iload_n 1, 1) := by decide +kernel
theorem dX4_turn_61 : decode cX4_turn 61 = .ok (.iload 5, 2) := by decide +kernel
theorem dX4_turn_63 : decode cX4_turn 63 = .ok (.invokevirtual 183, 3) := by decide +kernel
theorem dX4_turn_66 : decode cX4_turn 66 = .ok (.iload_n 3, 1) := by decide +kernel
theorem dX4_turn_67 : decode cX4_turn 67 = .ok (.iload 5, 2) := by decide +kernel
theorem dX4_turn_69 : decode cX4_turn 69 = .ok (.ishr, 1) := by decide +kernel
theorem dX4_turn_70 : decode cX4_turn 70 = .ok (.iconst 1, 1) := by decide +kernel
theorem dX4_turn_71 : decode cX4_turn 71 = .ok (.iand, 1) := by decide +kernel
theorem dX4_turn_72 : decode cX4_turn 72 = .ok (.iconst 1, 1) := by decide +kernel
theorem dX4_turn_73 : decode cX4_turn 73 = .ok (.if_icmp .ne 10, 3) := by decide +kernel
theorem dX4_turn_76 : decode cX4_turn 76 = .ok (.aload_n 0, 1) := by decide +kernel
theorem dX4_turn_77 : decode cX4_turn 77 = .ok (.iload_n 1, 1) := by decide +kernel
theorem dX4_turn_78 : decode cX4_turn 78 = .ok (.iload 5, 2) := by decide +kernel
theorem dX4_turn_80 : decode cX4_turn 80 = .ok (.invokevirtual 186, 3) := by decide +kernel
theorem dX4_turn_83 : decode cX4_turn 83 = .ok (.iinc 5 1, 3) := by decide +kernel
theorem dX4_turn_86 : decode cX4_turn 86 = .ok (.goto (-48), 3) := by decide +kernel
theorem dX4_turn_89 : decode cX4_turn 89 = .ok (.aload_n 0, 1) := by decide +kernel
theorem dX4_turn_90 : decode cX4_turn 90 = .ok (.iload_n 1, 1) := by decide +kernel
theorem dX4_turn_91 : decode cX4_turn 91 = .ok (.invokevirtual 137, 3) := by decide +kernel
theorem dX4_turn_94 : decode cX4_turn 94 = .ok (.ireturn, 1) := by decide +kernel
theorem dX4_swap_0 : decode cX4_swap 0 = .ok (.aload_n 0, 1) := by decide +kernel
theorem dX4_swap_1 : decode cX4_swap 1 = .ok (.iload_n 1, 1) := by decide +kernel
theorem dX4_swap_2 : decode cX4_swap 2 = .ok (.invokevirtual 143, 3) := by decide +kernel
theorem dX4_swap_5 : decode cX4_swap 5 = .ok (.istore 5, 2) := by decide +kernel
theorem dX4_swap_7 : decode cX4_swap 7 = .ok (.iload 5, 2) := by decide +kernel
theorem dX4_swap_9 : decode cX4_swap 9 = .ok (.ifCond .ge 6, 3) := by decide +kernel
theorem dX4_swap_12 : decode cX4_swap 12 = .ok (.iload 5, 2) := by decide +kernel
theorem dX4_swap_14 : decode cX4_swap 14 = .ok (.ireturn, 1) := by decide +kernel
theorem dX4_swap_15 : decode cX4_swap 15 = .ok (.aload_n 0, 1) := by decide +kernel
theorem dX4_swap_16 : decode cX4_swap 16 = .ok (.iload_n 1, 1) := by decide +kernel
theorem dX4_swap_17 : decode cX4_swap 17 = .ok (.iload_n 3, 1) := by decide +kernel
theorem dX4_swap_18 : decode cX4_swap 18 = .ok (.iload 4, 2) := by decide +kernel
theorem dX4_swap_20 : decode cX4_swap 20 = .ok (.invokevirtual 146, 3) := by decide +kernel
theorem dX4_swap_23 : decode cX4_swap 23 = .ok (.ifCond .ne 9, 3) := by decide +kernel
theorem dX4_swap_26 : decode cX4_swap 26 = .ok (.aload_n 0, 1) := by decide +kernel
theorem dX4_swap_27 : decode cX4_swap 27 = .ok (.iconst 2, 1) := by decide +kernel
theorem dX4_swap_28 : decode cX4_swap 28 = .ok (.invokevirtual 81, 3) := by decide +kernel
theorem dX4_swap_31 : decode cX4_swap 31 = .ok (.ireturn, 1) := by decide +kernel
theorem dX4_swap_32 : decode cX4_swap 32 = .ok (.iconst 0, 1) := by decide +kernel
theorem dX4_swap_33 : decode cX4_swap 33 = .ok (.istore 6, 2) := by decide +kernel
theorem dX4_swap_35 : decode cX4_swap 35 = .ok (.iload 6, 2) := by decide +kernel
theorem dX4_swap_37 : decode cX4_swap 37 = .ok (.aload_n 0, 1) := by decide +kernel
theorem dX4_swap_38 : decode cX4_swap 38 = .ok (.getfield 26, 3) := by decide +kernel
theorem dX4_swap_41 : decode cX4_swap 41 = .ok (.iload_n 1, 1) := by decide +kernel
theorem dX4_swap_42 : decode cX4_swap 42 = .ok (.iaload, 1) := by decide +kernel
theorem dX4_swap_43 : decode cX4_swap 43 = .ok (.if_icmp .ge 117, 3) := by decide +kernel
theorem dX4_swap_46 : decode cX4_swap 46 = .ok (.iload_n 2, 1) := by decide +kernel
theorem dX4_swap_47 : decode cX4_swap 47 = .ok (.ifCond .eq 14, 3) := by decide +kernel
theorem dX4_swap_50 : decode cX4_swap 50 = .ok (.aload_n 0, 1) := by decide +kernel
theorem dX4_swap_51 : decode cX4_swap 51 = .ok (.iload_n 1, 1) := by decide +kernel
theorem dX4_swap_52 : decode cX4_swap 52 = .ok (.iload 6, 2) := by decide +kernel
theorem dX4_swap_54 : decode cX4_swap 54 = .ok (.iload_n 3, 1) := by decide +kernel
theorem dX4_swap_55 : decode cX4_swap 55 = .ok (.invokevirtual 102, 3) := by decide +kernel
theorem dX4_swap_58 : decode cX4_swap 58 = .ok (.goto 11, 3) := by decide +kernel
theorem dX4_swap_61 : decode cX4_swap 61 = .ok (.aload_n 0, 1) := by decide +kernel
theorem dX4_swap_62 : decode cX4_swap 62 = .ok (.iload_n 1, 1) := by decide +kernel
theorem dX4_swap_63 : decode cX4_swap 63 = .ok (.iload_n 3, 1) := by decide +kernel
theorem dX4_swap_64 : decode cX4_swap 64 = .ok (.iload 6, 2) := by decide +kernel
theorem dX4_swap_66 : decode cX4_swap 66 = .ok (.invokevirtual 102, 3) := by decide +kernel
theorem dX4_swap_69 : decode cX4_swap 69 = .ok (.istore 7, 2) := by decide +kernel
theorem dX4_swap_71 : decode cX4_swap 71 = .ok (.iload_n 2, 1) := by decide +kernel
theorem dX4_swap_72 : decode cX4_swap 72 = .ok (.ifCond .eq 15, 3) := by decide +kernel
theorem dX4_swap_75 : decode cX4_swap 75 = .ok (.aload_n 0, 1) := by decide +kernel
theorem dX4_swap_76 : decode cX4_swap 76 = .ok (.iload_n 1, 1) := by decide +kernel
theorem dX4_swap_77 : decode cX4_swap 77 = .ok (.iload 6, 2) := by decide +kernel
theorem dX4_swap_79 : decode cX4_swap 79 = .ok (.iload 4, 2) := by decide +kernel
theorem dX4_swap_81 : decode cX4_swap 81 = .ok (.invokevirtual 102, 3) := by decide +kernel
theorem dX4_swap_84 : decode cX4_swap 84 = .ok (.goto 12, 3) := by decide +kernel
theorem dX4_swap_87 : decode cX4_swap 87 = .ok (.aload_n 0, 1) := by decide +kernel
theorem dX4_swap_88 : decode cX4_swap 88 = .ok (.iload_n 1, 1) := by decide +kernel
theorem dX4_swap_89 : decode cX4_swap 89 = .ok (.iload 4, 2) := by decide +kernel
theorem dX4_swap_91 : decode cX4_swap 91 = .ok (.iload 6, 2) := by decide +kernel
theorem dX4_swap_93 : decode cX4_swap 93 = .ok (.invokevirtual 102, 3) := by decide +kernel
theorem dX4_swap_96 : decode cX4_swap 96 = .ok (.istore 8, 2) := by decide +kernel
theorem dX4_swap_98 : decode cX4_swap 98 = .ok (.aload_n 0, 1) := by decide +kernel
theorem dX4_swap_99 : decode cX4_swap 99 = .ok (.iload_n 1, 1) := by decide +kernel
theorem dX4_swap_100 : decode cX4_swap 100 = .ok (.iload_n 2, 1) := by decide +kernel
theorem dX4_swap_101 : decode cX4_swap 101 = .ok (.ifCond .eq 8, 3) := by decide +kernel
theorem dX4_swap_104 : decode cX4_swap 104 = .ok (.iload 6, 2) := by decide +kernel
theorem dX4_swap_106 : decode cX4_swap 106 = .ok (.goto 4, 3) := by decide +kernel
theorem dX4_swap_109 : decode cX4_swap 109 = .ok (.iload_n 3, 1) := by decide +kernel
theorem dX4_swap_110 : decode cX4_swap 110 = .ok (.iload_n 2, 1) := by decide +kernel
theorem dX4_swap_111 : decode cX4_swap 111 = .ok (.ifCond .eq 7, 3) := by decide +kernel
theorem dX4_swap_114 : decode cX4_swap 114 = .ok (.iload_n 3, 1) := by decide +kernel
theorem dX4_swap_115 : decode cX4_swap 115 = .ok (.goto 5, 3) := by decide +kernel
theorem dX4_swap_118 : decode cX4_swap 118 = .ok (.iload 6, 2) := by decide +kernel
theorem dX4_swap_120 : decode cX4_swap 120 = .ok (.iload 8, 2) := by decide +kernel
theorem dX4_swap_122 : decode cX4_swap 122 = .ok (.invokevirtual 133, 3) := by decide +kernel
theorem dX4_swap_125 : decode cX4_swap 125 = .ok (.aload_n 0, 1) := by decide +kernel
theorem dX4_swap_126 : decode cX4_swap 126 = .ok (.iload_n 1, 1) := by decide +kernel
theorem dX4_swap_127 : decode cX4_swap 127 = .ok (.iload_n 2, 1) := by decide +kernel
theorem dX4_swap_128 : decode cX4_swap 128 = .ok (.ifCond .eq 8, 3) := by decide +kernel
theorem dX4_swap_131 : decode cX4_swap 131 = .ok (.iload 6, 2) := by decide +kernel
theorem dX4_swap_133 : decode cX4_swap 133 = .ok (.goto 5, 3) := by decide +kernel
theorem dX4_swap_136 : decode cX4_swap 136 = .ok (.iload 4, 2) := by decide +kernel
theorem dX4_swap_138 : decode cX4_swap 138 = .ok (.iload_n 2, 1) := by decide +kernel
theorem dX4_swap_139 : decode cX4_swap 139 = .ok (.ifCond .eq 8, 3) := by decide +kernel
theorem dX4_swap_142 : decode cX4_swap 142 = .ok (.iload 4, 2) := by decide +kernel
theorem dX4_swap_144 : decode cX4_swap 144 = .ok (.goto 5, 3) := by decide +kernel
theorem dX4_swap_147 : decode cX4_swap 147 = .ok (.iload 6, 2) := by decide +kernel
theorem dX4_swap_149 : decode cX4_swap 149 = .ok (.iload 7, 2) := by decide +kernel
theorem dX4_swap_151 : decode cX4_swap 151 = .ok (.invokevirtual 133, 3) := by decide +kernel
theorem dX4_swap_154 : decode cX4_swap 154 = .ok (.iinc 6 1, 3) := by decide +kernel
theorem dX4_swap_157 : decode cX4_swap 157 = .ok (.goto (-122), 3) := by decide +kernel
theorem dX4_swap_160 : decode cX4_swap 160 = .ok (.aload_n 0, 1) := by decide +kernel
theorem dX4_swap_161 : decode cX4_swap 161 = .ok (.iload_n 1, 1) := by decide +kernel
theorem dX4_swap_162 : decode cX4_swap 162 = .ok (.invokevirtual 137, 3) := by decide +kernel
theorem dX4_swap_165 : decode cX4_swap 165 = .ok (.ireturn, 1) := by decide +kernel
theorem dX4_flip_0 : decode cX4_flip 0 = .ok (.aload_n 0, 1) := by decide +kernel
theorem dX4_flip_1 : decode cX4_flip 1 = .ok (.iload_n 1, 1) := by decide +kernel
theorem dX4_flip_2 : decode cX4_flip 2 = .ok (.invokevirtual 143, 3) := by decide +kernel
theorem dX4_flip_5 : decode cX4_flip 5 = .ok (.istore_n 2, 1) := by decide +kernel
theorem dX4_flip_6 : decode cX4_flip 6 = .ok (.iload_n 2, 1) := by decide +kernel
theorem dX4_flip_7 : decode cX4_flip 7 = .ok (.ifCond .ge 5, 3) := by decide +kernel
theorem dX4_flip_10 : decode cX4_flip 10 = .ok (.iload_n 2, 1) := by decide +kernel
theorem dX4_flip_11 : decode cX4_flip 11 = .ok (.ireturn, 1) := by decide +kernel
theorem dX4_flip_12 : decode cX4_flip 12 = .ok (.iconst 0, 1) := by decide +kernel
theorem dX4_flip_13 : decode cX4_flip 13 = .ok (.istore_n 3, 1) := by decide +kernel
theorem dX4_flip_14 : decode cX4_flip 14 = .ok (.iload_n 3, 1) := by decide +kernel
theorem dX4_flip_15 : decode cX4_flip 15 = .ok (.aload_n 0, 1) := by decide +kernel
theorem dX4_flip_16 : decode cX4_flip 16 = .ok (.getfield 26, 3) := by decide +kernel
theorem dX4_flip_19 : decode cX4_flip 19 = .ok (.iload_n 1, 1) := by decide +kernel
theorem dX4_flip_20 : decode cX4_flip 20 = .ok (.iaload, 1) := by decide +kernel
theorem dX4_flip_21 : decode cX4_flip 21 = .ok (.if_icmp .ge 60, 3) := by decide +kernel
theorem dX4_flip_24 : decode cX4_flip 24 = .ok (.iconst 0, 1) := by decide +kernel
theorem dX4_flip_25 : decode cX4_flip 25 = .ok (.istore 4, 2) := by decide +kernel
theorem dX4_flip_27 : decode cX4_flip 27 = .ok (.iload 4, 2) := by decide +kernel
theorem dX4_flip_29 : decode cX4_flip 29 = .ok (.iload_n 3, 1) := by decide +kernel
theorem dX4_flip_30 : decode cX4_flip 30 = .ok (.if_icmp .ge 45, 3) := by decide +kernel
theorem dX4_flip_33 : decode cX4_flip 33 = .ok (.aload_n 0, 1) := by decide +kernel
theorem dX4_flip_34 : decode cX4_flip 34 = .ok (.iload_n 1, 1) := by decide +kernel
theorem dX4_flip_35 : decode cX4_flip 35 = .ok (.iload_n 3, 1) := by decide +kernel
theorem dX4_flip_36 : decode cX4_flip 36 = .ok (.iload 4, 2) := by decide +kernel
theorem dX4_flip_38 : decode cX4_flip 38 = .ok (.invokevirtual 102, 3) := by decide +kernel
theorem dX4_flip_41 : decode cX4_flip 41 = .ok (.istore 5, 2) := by decide +kernel
theorem dX4_flip_43 : decode cX4_flip 43 = .ok (.aload_n 0, 1) := by decide +kernel
theorem dX4_flip_44 : decode cX4_flip 44 = .ok (.iload_n 1, 1) := by decide +kernel
theorem dX4_flip_45 : decode cX4_flip 45 = .ok (.iload_n 3, 1) := by decide +kernel
theorem dX4_flip_46 : decode cX4_flip 46 = .ok (.iload 4, 2) := by decide +kernel
theorem dX4_flip_48 : decode cX4_flip 48 = .ok (.aload_n 0, 1) := by decide +kernel
theorem dX4_flip_49 : decode cX4_flip 49 = .ok (.iload_n 1, 1) := by decide +kernel
theorem dX4_flip_50 : decode cX4_flip 50 = .ok (.iload 4, 2) := by decide +kernel
theorem dX4_flip_52 : decode cX4_flip 52 = .ok (.iload_n 3, 1) := by decide +kernel
theorem dX4_flip_53 : decode cX4_flip 53 = .ok (.invokevirtual 102, 3) := by decide +kernel
theorem dX4_flip_56 : decode cX4_flip 56 = .ok (.invokevirtual 133, 3) := by decide +kernel
theorem dX4_flip_59 : decode cX4_flip 59 = .ok (.aload_n 0, 1) := by decide +kernel
theorem dX4_flip_60 : decode cX4_flip 60 = .ok (.iload_n 1, 1) := by decide +kernel
theorem dX4_flip_61 : decode cX4_flip 61 = .ok (.iload 4, 2) := by decide +kernel
theorem dX4_flip_63 : decode cX4_flip 63 = .ok (.iload_n 3, 1) := by decide +kernel
theorem dX4_flip_64 : decode cX4_flip 64 = .ok (.iload 5, 2) := by decide +kernel
theorem dX4_flip_66 : decode cX4_flip 66 = .ok (.invokevirtual 133, 3) := by decide +kernel
theorem dX4_flip_69 : decode cX4_flip 69 = .ok (.iinc 4 1, 3) := by decide +kernel
theorem dX4_flip_72 : decode cX4_flip 72 = .ok (.goto (-45), 3) := by decide +kernel
theorem dX4_flip_75 : decode cX4_flip 75 = .ok (.iinc 3 1, 3) := by decide +kernel
theorem dX4_flip_78 : decode cX4_flip 78 = .ok (.goto (-64), 3) := by decide +kernel
theorem dX4_flip_81 : decode cX4_flip 81 = .ok (.aload_n 0, 1) := by decide +kernel
theorem dX4_flip_82 : decode cX4_flip 82 = .ok (.iload_n 1, 1) := by decide +kernel
theorem dX4_flip_83 : decode cX4_flip 83 = .ok (.invokevirtual 137, 3) := by decide +kernel
theorem dX4_flip_86 : decode cX4_flip 86 = .ok (.ireturn, 1) := by decide +kernel
theorem dX4_normal_0 : decode cX4_normal 0 = .ok (.aload_n 0, 1) := by decide +kernel
theorem dX4_normal_1 : decode cX4_normal 1 = .ok (.iload_n 1, 1) := by decide +kernel
theorem dX4_normal_2 : decode cX4_normal 2 = .ok (.invokevirtual 143, 3) := by decide +kernel
theorem dX4_normal_5 : decode cX4_normal 5 = .ok (.istore_n 2, 1) := by decide +kernel
theorem dX4_normal_6 : decode cX4_normal 6 = .ok (.iload_n 2, 1) := by decide +kernel
theorem dX4_normal_7 : decode cX4_normal 7 = .ok (.ifCond .ge 5, 3) := by decide +kernel
theorem dX4_normal_10 : decode cX4_normal 10 = .ok (.iload_n 2, 1) := by decide +kernel
theorem dX4_normal_11 : decode cX4_normal 11 = .ok (.ireturn, 1) := by decide +kernel
theorem dX4_normal_12 : decode cX4_normal 12 = .ok (.aload_n 0, 1) := by decide +kernel
theorem dX4_normal_13 : decode cX4_normal 13 = .ok (.iload_n 1, 1) := by decide +kernel
theorem dX4_normal_14 : decode cX4_normal 14 = .ok (.invokevirtual 118, 3) := by decide +kernel
theorem dX4_normal_17 : decode cX4_normal 17 = .ok (.ifCond .eq 9, 3) := by decide +kernel
theorem dX4_normal_20 : decode cX4_normal 20 = .ok (.aload_n 0, 1) := by decide +kernel
theorem dX4_normal_21 : decode cX4_normal 21 = .ok (.iconst 3, 1) := by decide +kernel
theorem dX4_normal_22 : decode cX4_normal 22 = .ok (.invokevirtual 81, 3) := by decide +kernel
theorem dX4_normal_25 : decode cX4_normal 25 = .ok (.ireturn, 1) := by decide +kernel
theorem dX4_normal_26 : decode cX4_normal 26 = .ok (.iconst 0, 1) := by decide +kernel
theorem dX4_normal_27 : decode cX4_normal 27 = .ok (.istore_n 3, 1) := by decide +kernel
theorem dX4_normal_28 : decode cX4_normal 28 = .ok (.iconst 0, 1) := by decide +kernel
theorem dX4_normal_29 : decode cX4_normal 29 = .ok (.istore 4, 2) := by decide +kernel
theorem dX4_normal_31 : decode cX4_normal 31 = .ok (.iload 4, 2) := by decide +kernel
theorem dX4_normal_33 : decode cX4_normal 33 = .ok (.aload_n 0, 1) := by decide +kernel
theorem dX4_normal_34 : decode cX4_normal 34 = .ok (.getfield 26, 3) := by decide +kernel
theorem dX4_normal_37 : decode cX4_normal 37 = .ok (.iload_n 1, 1) := by decide +kernel
theorem dX4_normal_38 : decode cX4_normal 38 = .ok (.iaload, 1) := by decide +kernel
theorem dX4_normal_39 : decode cX4_normal 39 = .ok (.if_icmp .ge 30, 3) := by decide +kernel
theorem dX4_normal_42 : decode cX4_normal 42 = .ok (.aload_n 0, 1) := by decide +kernel
theorem dX4_normal_43 : decode cX4_normal 43 = .ok (.iload_n 1, 1) := by decide +kernel
theorem dX4_normal_44 : decode cX4_normal 44 = .ok (.iconst 0, 1) := by decide +kernel
theorem dX4_normal_45 : decode cX4_normal 45 = .ok (.iload 4, 2) := by decide +kernel
theorem dX4_normal_47 : decode cX4_normal 47 = .ok (.invokevirtual 102, 3) := by decide +kernel
theorem dX4_normal_50 : decode cX4_normal 50 = .ok (.ifCond .ge 13, 3) := by decide +kernel
theorem dX4_normal_53 : decode cX4_normal 53 = .ok (.aload_n 0, 1) := by decide +kernel
theorem dX4_normal_54 : decode cX4_normal 54 = .ok (.iload_n 1, 1) := by decide +kernel
theorem dX4_normal_55 : decode cX4_normal 55 = .ok (.iload 4, 2) := by decide +kernel
theorem dX4_normal_57 : decode cX4_normal 57 = .ok (.invokevirtual 186, 3) := by decide +kernel
theorem dX4_normal_60 : decode cX4_normal 60 = .ok (.iinc 3 1, 3) := by decide +kernel
theorem dX4_normal_63 : decode cX4_normal 63 = .ok (.iinc 4 1, 3) := by decide +kernel
theorem dX4_normal_66 : decode cX4_normal 66 = .ok (.goto (-35), 3) := by decide +kernel
theorem dX4_normal_69 : decode cX4_normal 69 = .ok (.iconst 0, 1) := by decide +kernel
theorem dX4_normal_70 : decode cX4_normal 70 = .ok (.istore 4, 2) := by decide +kernel
theorem dX4_normal_72 : decode cX4_normal 72 = .ok (.iload 4, 2) := by decide +kernel
theorem dX4_normal_74 : decode cX4_normal 74 = .ok (.aload_n 0, 1) := by decide +kernel
theorem dX4_normal_75 : decode cX4_normal 75 = .ok (.getfield 26, 3) := by decide +kernel
theorem dX4_normal_78 : decode cX4_normal 78 = .ok (.iload_n 1, 1) := by decide +kernel
theorem dX4_normal_79 : decode cX4_normal 79 = .ok (.iaload, 1) := by decide +kernel
theorem dX4_normal_80 : decode cX4_normal 80 = .ok (.if_icmp .ge 30, 3) := by decide +kernel
theorem dX4_normal_83 : decode cX4_normal 83 = .ok (.aload_n 0, 1) := by decide +kernel
theorem dX4_normal_84 : decode cX4_normal 84 = .ok (.iload_n 1, 1) := by decide +kernel
theorem dX4_normal_85 : decode cX4_normal 85 = .ok (.iload 4, 2) := by decide +kernel
theorem dX4_normal_87 : decode cX4_normal 87 = .ok (.iconst 0, 1) := by decide +kernel
theorem dX4_normal_88 : decode cX4_normal 88 = .ok (.invokevirtual 102, 3) := by decide +kernel
theorem dX4_normal_91 : decode cX4_normal 91 = .ok (.ifCond .ge 13, 3) := by decide +kernel
theorem dX4_normal_94 : decode cX4_normal 94 = .ok (.aload_n 0, 1) := by decide +kernel
theorem dX4_normal_95 : decode cX4_normal 95 = .ok (.iload_n 1, 1) := by decide +kernel
theorem dX4_normal_96 : decode cX4_normal 96 = .ok (.iload 4, 2) := by decide +kernel
theorem dX4_normal_98 : decode cX4_normal 98 = .ok (.invokevirtual 183, 3) := by decide +kernel
theorem dX4_normal_101 : decode cX4_normal 101 = .ok (.iinc 3 1, 3) := by decide +kernel
theorem dX4_normal_104 : decode cX4_normal 104 = .ok (.iinc 4 1, 3) := by decide +kernel
theorem dX4_normal_107 : decode cX4_normal 107 = .ok (.goto (-35), 3) := by decide +kernel
theorem dX4_normal_110 : decode cX4_normal 110 = .ok (.aload_n 0, 1) := by decide +kernel
theorem dX4_normal_111 : decode cX4_normal 111 = .ok (.iload_n 1, 1) := by decide +kernel
theorem dX4_normal_112 : decode cX4_normal 112 = .ok (.invokevirtual 137, 3) := by decide +kernel
theorem dX4_normal_115 : decode cX4_normal 115 = .ok (.pop, 1) := by decide +kernel
theorem dX4_normal_116 : decode cX4_normal 116 = .ok (.iload_n 3, 1) := by decide +kernel
theorem dX4_normal_117 : decode cX4_normal 117 = .ok (.ireturn, 1) := by decide +kernel
theorem dX4_worth_0 : decode cX4_worth 0 = .ok (.aload_n 0, 1) := by decide +kernel
theorem dX4_worth_1 : decode cX4_worth 1 = .ok (.iload_n 1, 1) := by decide +kernel
theorem dX4_worth_2 : decode cX4_worth 2 = .ok (.invokevirtual 143, 3) := by decide +kernel
theorem dX4_worth_5 : decode cX4_worth 5 = .ok (.istore_n 2, 1) := by decide +kernel
theorem dX4_worth_6 : decode cX4_worth 6 = .ok (.iload_n 2, 1) := by decide +kernel
theorem dX4_worth_7 : decode cX4_worth 7 = .ok (.ifCond .ge 5, 3) := by decide +kernel
theorem dX4_worth_10 : decode cX4_worth 10 = .ok (.iload_n 2, 1) := by decide +kernel
theorem dX4_worth_11 : decode cX4_worth 11 = .ok (.ireturn, 1) := by decide +kernel
theorem dX4_worth_12 : decode cX4_worth 12 = .ok (.aload_n 0, 1) := by decide +kernel
theorem dX4_worth_13 : decode cX4_worth 13 = .ok (.getfield 26, 3) := by decide +kernel
theorem dX4_worth_16 : decode cX4_worth 16 = .ok (.iload_n 1, 1) := by decide +kernel
theorem dX4_worth_17 : decode cX4_worth 17 = .ok (.iaload, 1) := by decide +kernel
theorem dX4_worth_18 : decode cX4_worth 18 = .ok (.istore_n 3, 1) := by decide +kernel
theorem dX4_worth_19 : decode cX4_worth 19 = .ok (.iconst 0, 1) := by decide +kernel
theorem dX4_worth_20 : decode cX4_worth 20 = .ok (.istore 4, 2) := by decide +kernel
theorem dX4_worth_22 : decode cX4_worth 22 = .ok (.iload 4, 2) := by decide +kernel
theorem dX4_worth_24 : decode cX4_worth 24 = .ok (.iload_n 3, 1) := by decide +kernel
theorem dX4_worth_25 : decode cX4_worth 25 = .ok (.if_icmp .ge 47, 3) := by decide +kernel
theorem dX4_worth_28 : decode cX4_worth 28 = .ok (.iconst 0, 1) := by decide +kernel
theorem dX4_worth_29 : decode cX4_worth 29 = .ok (.istore 5, 2) := by decide +kernel
theorem dX4_worth_31 : decode cX4_worth 31 = .ok (.iload 5, 2) := by decide +kernel
theorem dX4_worth_33 : decode cX4_worth 33 = .ok (.iload_n 3, 1) := by decide +kernel
theorem dX4_worth_34 : decode cX4_worth 34 = .ok (.if_icmp .ge 32, 3) := by decide +kernel
theorem dX4_worth_37 : decode cX4_worth 37 = .ok (.aload_n 0, 1) := by decide +kernel
theorem dX4_worth_38 : decode cX4_worth 38 = .ok (.getfield 41, 3) := by decide +kernel
theorem dX4_worth_41 : decode cX4_worth 41 = .ok (.bipush 12, 2) := by decide +kernel
theorem dX4_worth_43 : decode cX4_worth 43 = .ok (.iload 4, 2) := by decide +kernel
theorem dX4_worth_45 : decode cX4_worth 45 = .ok (.imul, 1) := by decide +kernel
theorem dX4_worth_46 : decode cX4_worth 46 = .ok (.iload 5, 2) := by decide +kernel
theorem dX4_worth_48 : decode cX4_worth 48 = .ok (.iadd, 1) := by decide +kernel
theorem dX4_worth_49 : decode cX4_worth 49 = .ok (.aload_n 0, 1) := by decide +kernel
theorem dX4_worth_50 : decode cX4_worth 50 = .ok (.iload_n 1, 1) := by decide +kernel
theorem dX4_worth_51 : decode cX4_worth 51 = .ok (.iload 4, 2) := by decide +kernel
theorem dX4_worth_53 : decode cX4_worth 53 = .ok (.iload 5, 2) := by decide +kernel
theorem dX4_worth_55 : decode cX4_worth 55 = .ok (.invokevirtual 102, 3) := by decide +kernel
theorem dX4_worth_58 : decode cX4_worth 58 = .ok (.i2l, 1) := by decide +kernel
theorem dX4_worth_59 : decode cX4_worth 59 = .ok (.lastore, 1) := by decide +kernel
theorem dX4_worth_60 : decode cX4_worth 60 = .ok (.iinc 5 1, 3) := by decide +kernel
theorem dX4_worth_63 : decode cX4_worth 63 = .ok (.goto (-32), 3) := by decide +kernel
theorem dX4_worth_66 : decode cX4_worth 66 = .ok (.iinc 4 1, 3) := by decide +kernel
theorem dX4_worth_69 : decode cX4_worth 69 = .ok (.goto (-47), 3) := by decide +kernel
theorem dX4_worth_72 : decode cX4_worth 72 = .ok (.aload_n 0, 1) := by decide +kernel
theorem dX4_worth_73 : decode cX4_worth 73 = .ok (.aload_n 0, 1) := by decide +kernel
theorem dX4_worth_74 : decode cX4_worth 74 = .ok (.iload_n 3, 1) := by decide +kernel
theorem dX4_worth_75 : decode cX4_worth 75 = .ok (.invokevirtual 189, 3) := by decide +kernel
theorem dX4_worth_78 : decode cX4_worth 78 = .ok (.putfield 193, 3) := by decide +kernel
theorem dX4_worth_81 : decode cX4_worth 81 = .ok (.iconst 1, 1) := by decide +kernel
theorem dX4_worth_82 : decode cX4_worth 82 = .ok (.ireturn, 1) := by decide +kernel
theorem dX4_clear_0 : decode cX4_clear 0 = .ok (.lconst 1, 1) := by decide +kernel
theorem dX4_clear_1 : decode cX4_clear 1 = .ok (.lstore_n 2, 1) := by decide +kernel
theorem dX4_clear_2 : decode cX4_clear 2 = .ok (.iconst 1, 1) := by decide +kernel
theorem dX4_clear_3 : decode cX4_clear 3 = .ok (.istore 4, 2) := by decide +kernel
theorem dX4_clear_5 : decode cX4_clear 5 = .ok (.iconst 0, 1) := by decide +kernel
theorem dX4_clear_6 : decode cX4_clear 6 = .ok (.istore 5, 2) := by decide +kernel
theorem dX4_clear_8 : decode cX4_clear 8 = .ok (.iload 5, 2) := by decide +kernel
theorem dX4_clear_10 : decode cX4_clear 10 = .ok (.iload_n 1, 1) := by decide +kernel
theorem dX4_clear_11 : decode cX4_clear 11 = .ok (.iconst 1, 1) := by decide +kernel
theorem dX4_clear_12 : decode cX4_clear 12 = .ok (.isub, 1) := by decide +kernel
theorem dX4_clear_13 : decode cX4_clear 13 = .ok (.if_icmp .ge 266, 3) := by decide +kernel
theorem dX4_clear_16 : decode cX4_clear 16 = .ok (.iload 5, 2) := by decide +kernel
theorem dX4_clear_18 : decode cX4_clear 18 = .ok (.istore 6, 2) := by decide +kernel
theorem dX4_clear_20 : decode cX4_clear 20 = .ok (.iload 6, 2) := by decide +kernel
theorem dX4_clear_22 : decode cX4_clear 22 = .ok (.iload_n 1, 1) := by decide +kernel
theorem dX4_clear_23 : decode cX4_clear 23 = .ok (.if_icmp .ge 27, 3) := by decide +kernel
theorem dX4_clear_26 : decode cX4_clear 26 = .ok (.aload_n 0, 1) := by decide +kernel
theorem dX4_clear_27 : decode cX4_clear 27 = .ok (.getfield 41, 3) := by decide +kernel
theorem dX4_clear_30 : decode cX4_clear 30 = .ok (.bipush 12, 2) := by decide +kernel
theorem dX4_clear_32 : decode cX4_clear 32 = .ok (.iload 6, 2) := by decide +kernel
theorem dX4_clear_34 : decode cX4_clear 34 = .ok (.imul, 1) := by decide +kernel
theorem dX4_clear_35 : decode cX4_clear 35 = .ok (.iload 5, 2) := by decide +kernel
theorem dX4_clear_37 : decode cX4_clear 37 = .ok (.iadd, 1) := by decide +kernel
theorem dX4_clear_38 : decode cX4_clear 38 = .ok (.laload, 1) := by decide +kernel
theorem dX4_clear_39 : decode cX4_clear 39 = .ok (.lconst 0, 1) := by decide +kernel
theorem dX4_clear_40 : decode cX4_clear 40 = .ok (.lcmp, 1) := by decide +kernel
theorem dX4_clear_41 : decode cX4_clear 41 = .ok (.ifCond .ne 9, 3) := by decide +kernel
theorem dX4_clear_44 : decode cX4_clear 44 = .ok (.iinc 6 1, 3) := by decide +kernel
theorem dX4_clear_47 : decode cX4_clear 47 = .ok (.goto (-27), 3) := by decide +kernel
theorem dX4_clear_50 : decode cX4_clear 50 = .ok (.iload 6, 2) := by decide +kernel
theorem dX4_clear_52 : decode cX4_clear 52 = .ok (.iload_n 1, 1) := by decide +kernel
theorem dX4_clear_53 : decode cX4_clear 53 = .ok (.if_icmp .ne 5, 3) := by decide +kernel
theorem dX4_clear_56 : decode cX4_clear 56 = .ok (.lconst 0, 1) := by decide +kernel
theorem dX4_clear_57 : decode cX4_clear 57 = .ok (.lreturn, 1) := by decide +kernel
theorem dX4_clear_58 : decode cX4_clear 58 = .ok (.iconst 0, 1) := by decide +kernel
theorem dX4_clear_59 : decode cX4_clear 59 = .ok (.istore 7, 2) := by decide +kernel
theorem dX4_clear_61 : decode cX4_clear 61 = .ok (.iload 7, 2) := by decide +kernel
theorem dX4_clear_63 : decode cX4_clear 63 = .ok (.iload_n 1, 1) := by decide +kernel
theorem dX4_clear_64 : decode cX4_clear 64 = .ok (.if_icmp .ge 72, 3) := by decide +kernel
theorem dX4_clear_67 : decode cX4_clear 67 = .ok (.iload 6, 2) := by decide +kernel
theorem dX4_clear_69 : decode cX4_clear 69 = .ok (.iload 5, 2) := by decide +kernel
theorem dX4_clear_71 : decode cX4_clear 71 = .ok (.if_icmp .eq 65, 3) := by decide +kernel
theorem dX4_clear_74 : decode cX4_clear 74 = .ok (.aload_n 0, 1) := by decide +kernel
theorem dX4_clear_75 : decode cX4_clear 75 = .ok (.getfield 41, 3) := by decide +kernel
theorem dX4_clear_78 : decode cX4_clear 78 = .ok (.bipush 12, 2) := by decide +kernel
theorem dX4_clear_80 : decode cX4_clear 80 = .ok (.iload 6, 2) := by decide +kernel
theorem dX4_clear_82 : decode cX4_clear 82 = .ok (.imul, 1) := by decide +kernel
theorem dX4_clear_83 : decode cX4_clear 83 = .ok (.iload 7, 2) := by decide +kernel
theorem dX4_clear_85 : decode cX4_clear 85 = .ok (.iadd, 1) := by decide +kernel
theorem dX4_clear_86 : decode cX4_clear 86 = .ok (.laload, 1) := by decide +kernel
theorem dX4_clear_87 : decode cX4_clear 87 = .ok (.lstore 8, 2) := by decide +kernel
theorem dX4_clear_89 : decode cX4_clear 89 = .ok (.aload_n 0, 1) := by decide +kernel
theorem dX4_clear_90 : decode cX4_clear 90 = .ok (.getfield 41, 3) := by decide +kernel
theorem dX4_clear_93 : decode cX4_clear 93 = .ok (.bipush 12, 2) := by decide +kernel
theorem dX4_clear_95 : decode cX4_clear 95 = .ok (.iload 6, 2) := by decide +kernel
theorem dX4_clear_97 : decode cX4_clear 97 = .ok (.imul, 1) := by decide +kernel
theorem dX4_clear_98 : decode cX4_clear 98 = .ok (.iload 7, 2) := by decide +kernel
theorem dX4_clear_100 : decode cX4_clear 100 = .ok (.iadd, 1) := by decide +kernel
theorem dX4_clear_101 : decode cX4_clear 101 = .ok (.aload_n 0, 1) := by decide +kernel
theorem dX4_clear_102 : decode cX4_clear 102 = .ok (.getfield 41, 3) := by decide +kernel
theorem dX4_clear_105 : decode cX4_clear 105 = .ok (.bipush 12, 2) := by decide +kernel
theorem dX4_clear_107 : decode cX4_clear 107 = .ok (.iload 5, 2) := by decide +kernel
theorem dX4_clear_109 : decode cX4_clear 109 = .ok (.imul, 1) := by decide +kernel
theorem dX4_clear_110 : decode cX4_clear 110 = .ok (.iload 7, 2) := by decide +kernel
theorem dX4_clear_112 : decode cX4_clear 112 = .ok (.iadd, 1) := by decide +kernel
theorem dX4_clear_113 : decode cX4_clear 113 = .ok (.laload, 1) := by decide +kernel
theorem dX4_clear_114 : decode cX4_clear 114 = .ok (.lastore, 1) := by decide +kernel
theorem dX4_clear_115 : decode cX4_clear 115 = .ok (.aload_n 0, 1) := by decide +kernel
theorem dX4_clear_116 : decode cX4_clear 116 = .ok (.getfield 41, 3) := by decide +kernel
theorem dX4_clear_119 : decode cX4_clear 119 = .ok (.bipush 12, 2) := by decide +kernel
theorem dX4_clear_121 : decode cX4_clear 121 = .ok (.iload 5, 2) := by decide +kernel
theorem dX4_clear_123 : decode cX4_clear 123 = .ok (.imul, 1) := by decide +kernel
theorem dX4_clear_124 : decode cX4_clear 124 = .ok (.iload 7, 2) := by decide +kernel
theorem dX4_clear_126 : decode cX4_clear 126 = .ok (.iadd, 1) := by decide +kernel
theorem dX4_clear_127 : decode cX4_clear 127 = .ok (.lload 8, 2) := by decide +kernel
theorem dX4_clear_129 : decode cX4_clear 129 = .ok (.lastore, 1) := by decide +kernel
theorem dX4_clear_130 : decode cX4_clear 130 = .ok (.iinc 7 1, 3) := by decide +kernel
theorem dX4_clear_133 : decode cX4_clear 133 = .ok (.goto (-72), 3) := by decide +kernel
theorem dX4_clear_136 : decode cX4_clear 136 = .ok (.iload 6, 2) := by decide +kernel
theorem dX4_clear_138 : decode cX4_clear 138 = .ok (.iload 5, 2) := by decide +kernel
theorem dX4_clear_140 : decode cX4_clear 140 = .ok (.if_icmp .ne 8, 3) := by decide +kernel
theorem dX4_clear_143 : decode cX4_clear 143 = .ok (.iload 4, 2) := by decide +kernel
theorem dX4_clear_145 : decode cX4_clear 145 = .ok (.goto 6, 3) := by decide +kernel
theorem dX4_clear_148 : decode cX4_clear 148 = .ok (.iload 4, 2) := by decide +kernel
theorem dX4_clear_150 : decode cX4_clear 150 = .ok (.ineg, 1) := by decide +kernel
theorem dX4_clear_151 : decode cX4_clear 151 = .ok (.istore 4, 2) := by decide +kernel
theorem dX4_clear_153 : decode cX4_clear 153 = .ok (.iload 5, 2) := by decide +kernel
theorem dX4_clear_155 : decode cX4_clear 155 = .ok (.iconst 1, 1) := by decide +kernel
theorem dX4_clear_156 : decode cX4_clear 156 = .ok (.iadd, 1) := by decide +kernel
theorem dX4_clear_157 : decode cX4_clear 157 = .ok (.istore 7, 2) := by decide +kernel
theorem dX4_clear_159 : decode cX4_clear 159 = .ok (.iload 7, 2) := by decide +kernel
theorem dX4_clear_161 : decode cX4_clear 161 = .ok (.iload_n 1, 1) := by decide +kernel
theorem dX4_clear_162 : decode cX4_clear 162 = .ok (.if_icmp .ge 97, 3) := by decide +kernel
theorem dX4_clear_165 : decode cX4_clear 165 = .ok (.iload 5, 2) := by decide +kernel
theorem dX4_clear_167 : decode cX4_clear 167 = .ok (.iconst 1, 1) := by decide +kernel
theorem dX4_clear_168 : decode cX4_clear 168 = .ok (.iadd, 1) := by decide +kernel
theorem dX4_clear_169 : decode cX4_clear 169 = .ok (.istore 8, 2) := by decide +kernel
theorem dX4_clear_171 : decode cX4_clear 171 = .ok (.iload 8, 2) := by decide +kernel
theorem dX4_clear_173 : decode cX4_clear 173 = .ok (.iload_n 1, 1) := by decide +kernel
theorem dX4_clear_174 : decode cX4_clear 174 = .ok (.if_icmp .ge 79, 3) := by decide +kernel
theorem dX4_clear_177 : decode cX4_clear 177 = .ok (.aload_n 0, 1) := by decide +kernel
theorem dX4_clear_178 : decode cX4_clear 178 = .ok (.getfield 41, 3) := by decide +kernel
theorem dX4_clear_181 : decode cX4_clear 181 = .ok (.bipush 12, 2) := by decide +kernel
theorem dX4_clear_183 : decode cX4_clear 183 = .ok (.iload 7, 2) := by decide +kernel
theorem dX4_clear_185 : decode cX4_clear 185 = .ok (.imul, 1) := by decide +kernel
theorem dX4_clear_186 : decode cX4_clear 186 = .ok (.iload 8, 2) := by decide +kernel
theorem dX4_clear_188 : decode cX4_clear 188 = .ok (.iadd, 1) := by decide +kernel
theorem dX4_clear_189 : decode cX4_clear 189 = .ok (.aload_n 0, 1) := by decide +kernel
theorem dX4_clear_190 : decode cX4_clear 190 = .ok (.getfield 41, 3) := by decide +kernel
theorem dX4_clear_193 : decode cX4_clear 193 = .ok (.bipush 12, 2) := by decide +kernel
theorem dX4_clear_195 : decode cX4_clear 195 = .ok (.iload 7, 2) := by decide +kernel
theorem dX4_clear_197 : decode cX4_clear 197 = .ok (.imul, 1) := by decide +kernel
theorem dX4_clear_198 : decode cX4_clear 198 = .ok (.iload 8, 2) := by decide +kernel
theorem dX4_clear_200 : decode cX4_clear 200 = .ok (.iadd, 1) := by decide +kernel
theorem dX4_clear_201 : decode cX4_clear 201 = .ok (.laload, 1) := by decide +kernel
theorem dX4_clear_202 : decode cX4_clear 202 = .ok (.aload_n 0, 1) := by decide +kernel
theorem dX4_clear_203 : decode cX4_clear 203 = .ok (.getfield 41, 3) := by decide +kernel
theorem dX4_clear_206 : decode cX4_clear 206 = .ok (.bipush 12, 2) := by decide +kernel
theorem dX4_clear_208 : decode cX4_clear 208 = .ok (.iload 5, 2) := by decide +kernel
theorem dX4_clear_210 : decode cX4_clear 210 = .ok (.imul, 1) := by decide +kernel
theorem dX4_clear_211 : decode cX4_clear 211 = .ok (.iload 5, 2) := by decide +kernel
theorem dX4_clear_213 : decode cX4_clear 213 = .ok (.iadd, 1) := by decide +kernel
theorem dX4_clear_214 : decode cX4_clear 214 = .ok (.laload, 1) := by decide +kernel
theorem dX4_clear_215 : decode cX4_clear 215 = .ok (.lmul, 1) := by decide +kernel
theorem dX4_clear_216 : decode cX4_clear 216 = .ok (.aload_n 0, 1) := by decide +kernel
theorem dX4_clear_217 : decode cX4_clear 217 = .ok (.getfield 41, 3) := by decide +kernel
theorem dX4_clear_220 : decode cX4_clear 220 = .ok (.bipush 12, 2) := by decide +kernel
theorem dX4_clear_222 : decode cX4_clear 222 = .ok (.iload 7, 2) := by decide +kernel
theorem dX4_clear_224 : decode cX4_clear 224 = .ok (.imul, 1) := by decide +kernel
theorem dX4_clear_225 : decode cX4_clear 225 = .ok (.iload 5, 2) := by decide +kernel
theorem dX4_clear_227 : decode cX4_clear 227 = .ok (.iadd, 1) := by decide +kernel
theorem dX4_clear_228 : decode cX4_clear 228 = .ok (.laload, 1) := by decide +kernel
theorem dX4_clear_229 : decode cX4_clear 229 = .ok (.aload_n 0, 1) := by decide +kernel
theorem dX4_clear_230 : decode cX4_clear 230 = .ok (.getfield 41, 3) := by decide +kernel
theorem dX4_clear_233 : decode cX4_clear 233 = .ok (.bipush 12, 2) := by decide +kernel
theorem dX4_clear_235 : decode cX4_clear 235 = .ok (.iload 5, 2) := by decide +kernel
theorem dX4_clear_237 : decode cX4_clear 237 = .ok (.imul, 1) := by decide +kernel
theorem dX4_clear_238 : decode cX4_clear 238 = .ok (.iload 8, 2) := by decide +kernel
theorem dX4_clear_240 : decode cX4_clear 240 = .ok (.iadd, 1) := by decide +kernel
theorem dX4_clear_241 : decode cX4_clear 241 = .ok (.laload, 1) := by decide +kernel
theorem dX4_clear_242 : decode cX4_clear 242 = .ok (.lmul, 1) := by decide +kernel
theorem dX4_clear_243 : decode cX4_clear 243 = .ok (.lsub, 1) := by decide +kernel
theorem dX4_clear_244 : decode cX4_clear 244 = .ok (.lload_n 2, 1) := by decide +kernel
theorem dX4_clear_245 : decode cX4_clear 245 = .ok (.ldiv, 1) := by decide +kernel
theorem dX4_clear_246 : decode cX4_clear 246 = .ok (.lastore, 1) := by decide +kernel
theorem dX4_clear_247 : decode cX4_clear 247 = .ok (.iinc 8 1, 3) := by decide +kernel
theorem dX4_clear_250 : decode cX4_clear 250 = .ok (.goto (-79), 3) := by decide +kernel
theorem dX4_clear_253 : decode cX4_clear 253 = .ok (.iinc 7 1, 3) := by decide +kernel
theorem dX4_clear_256 : decode cX4_clear 256 = .ok (.goto (-97), 3) := by decide +kernel
theorem dX4_clear_259 : decode cX4_clear 259 = .ok (.aload_n 0, 1) := by decide +kernel
theorem dX4_clear_260 : decode cX4_clear 260 = .ok (.getfield 41, 3) := by decide +kernel
theorem dX4_clear_263 : decode cX4_clear 263 = .ok (.bipush 12, 2) := by decide +kernel
theorem dX4_clear_265 : decode cX4_clear 265 = .ok (.iload 5, 2) := by decide +kernel
theorem dX4_clear_267 : decode cX4_clear 267 = .ok (.imul, 1) := by decide +kernel
theorem dX4_clear_268 : decode cX4_clear 268 = .ok (.iload 5, 2) := by decide +kernel
theorem dX4_clear_270 : decode cX4_clear 270 = .ok (.iadd, 1) := by decide +kernel
theorem dX4_clear_271 : decode cX4_clear 271 = .ok (.laload, 1) := by decide +kernel
theorem dX4_clear_272 : decode cX4_clear 272 = .ok (.lstore_n 2, 1) := by decide +kernel
theorem dX4_clear_273 : decode cX4_clear 273 = .ok (.iinc 5 1, 3) := by decide +kernel
theorem dX4_clear_276 : decode cX4_clear 276 = .ok (.goto (-268), 3) := by decide +kernel
theorem dX4_clear_279 : decode cX4_clear 279 = .ok (.iload 4, 2) := by decide +kernel
theorem dX4_clear_281 : decode cX4_clear 281 = .ok (.i2l, 1) := by decide +kernel
theorem dX4_clear_282 : decode cX4_clear 282 = .ok (.aload_n 0, 1) := by decide +kernel
theorem dX4_clear_283 : decode cX4_clear 283 = .ok (.getfield 41, 3) := by decide +kernel
theorem dX4_clear_286 : decode cX4_clear 286 = .ok (.bipush 12, 2) := by decide +kernel
theorem dX4_clear_288 : decode cX4_clear 288 = .ok (.iload_n 1, 1) := by decide +kernel
theorem dX4_clear_289 : decode cX4_clear 289 = .ok (.iconst 1, 1) := by decide +kernel
theorem dX4_clear_290 : decode cX4_clear 290 = .ok (.isub, 1) := by decide +kernel
theorem dX4_clear_291 : decode cX4_clear 291 = .ok (.imul, 1) := by decide +kernel
theorem dX4_clear_292 : decode cX4_clear 292 = .ok (.iload_n 1, 1) := by decide +kernel
theorem dX4_clear_293 : decode cX4_clear 293 = .ok (.iadd, 1) := by decide +kernel
theorem dX4_clear_294 : decode cX4_clear 294 = .ok (.iconst 1, 1) := by decide +kernel
theorem dX4_clear_295 : decode cX4_clear 295 = .ok (.isub, 1) := by decide +kernel
theorem dX4_clear_296 : decode cX4_clear 296 = .ok (.laload, 1) := by decide +kernel
theorem dX4_clear_297 : decode cX4_clear 297 = .ok (.lmul, 1) := by decide +kernel
theorem dX4_clear_298 : decode cX4_clear 298 = .ok (.lreturn, 1) := by decide +kernel
theorem dX4_balanced_0 : decode cX4_balanced 0 = .ok (.aload_n 0, 1) := by decide +kernel
theorem dX4_balanced_1 : decode cX4_balanced 1 = .ok (.iload_n 1, 1) := by decide +kernel
theorem dX4_balanced_2 : decode cX4_balanced 2 = .ok (.invokevirtual 143, 3) := by decide +kernel
theorem dX4_balanced_5 : decode cX4_balanced 5 = .ok (.istore_n 2, 1) := by decide +kernel
theorem dX4_balanced_6 : decode cX4_balanced 6 = .ok (.iload_n 2, 1) := by decide +kernel
theorem dX4_balanced_7 : decode cX4_balanced 7 = .ok (.ifCond .ge 7, 3) := by decide +kernel
theorem dX4_balanced_10 : decode cX4_balanced 10 = .ok (.iload_n 2, 1) := by decide +kernel
theorem dX4_balanced_11 : decode cX4_balanced 11 = .ok (.goto 8, 3) := by decide +kernel
theorem dX4_balanced_14 : decode cX4_balanced 14 = .ok (.aload_n 0, 1) := by decide +kernel
theorem dX4_balanced_15 : decode cX4_balanced 15 = .ok (.iload_n 1, 1) := by decide +kernel
theorem dX4_balanced_16 : decode cX4_balanced 16 = .ok (.invokevirtual 121, 3) := by decide +kernel
theorem dX4_balanced_19 : decode cX4_balanced 19 = .ok (.ireturn, 1) := by decide +kernel
theorem dX4_commonSum_0 : decode cX4_commonSum 0 = .ok (.iconst 0, 1) := by decide +kernel
theorem dX4_commonSum_1 : decode cX4_commonSum 1 = .ok (.istore 4, 2) := by decide +kernel
theorem dX4_commonSum_3 : decode cX4_commonSum 3 = .ok (.iconst 0, 1) := by decide +kernel
theorem dX4_commonSum_4 : decode cX4_commonSum 4 = .ok (.istore 5, 2) := by decide +kernel
theorem dX4_commonSum_6 : decode cX4_commonSum 6 = .ok (.iload 5, 2) := by decide +kernel
theorem dX4_commonSum_8 : decode cX4_commonSum 8 = .ok (.aload_n 0, 1) := by decide +kernel
theorem dX4_commonSum_9 : decode cX4_commonSum 9 = .ok (.getfield 26, 3) := by decide +kernel
theorem dX4_commonSum_12 : decode cX4_commonSum 12 = .ok (.iload_n 1, 1) := by decide +kernel
theorem dX4_commonSum_13 : decode cX4_commonSum 13 = .ok (.iaload, 1) := by decide +kernel
theorem dX4_commonSum_14 : decode cX4_commonSum 14 = .ok (.if_icmp .ge 82, 3) := by decide +kernel
theorem dX4_commonSum_17 : decode cX4_commonSum 17 = .ok (.iconst 1, 1) := by decide +kernel
theorem dX4_commonSum_18 : decode cX4_commonSum 18 = .ok (.istore 6, 2) := by decide +kernel
theorem dX4_commonSum_20 : decode cX4_commonSum 20 = .ok (.iconst 0, 1) := by decide +kernel
theorem dX4_commonSum_21 : decode cX4_commonSum 21 = .ok (.istore 7, 2) := by decide +kernel
theorem dX4_commonSum_23 : decode cX4_commonSum 23 = .ok (.iload 7, 2) := by decide +kernel
theorem dX4_commonSum_25 : decode cX4_commonSum 25 = .ok (.aload_n 0, 1) := by decide +kernel
theorem dX4_commonSum_26 : decode cX4_commonSum 26 = .ok (.getfield 26, 3) := by decide +kernel
theorem dX4_commonSum_29 : decode cX4_commonSum 29 = .ok (.iload_n 1, 1) := by decide +kernel
theorem dX4_commonSum_30 : decode cX4_commonSum 30 = .ok (.iaload, 1) := by decide +kernel
theorem dX4_commonSum_31 : decode cX4_commonSum 31 = .ok (.if_icmp .ge 52, 3) := by decide +kernel
theorem dX4_commonSum_34 : decode cX4_commonSum 34 = .ok (.iload 6, 2) := by decide +kernel
theorem dX4_commonSum_36 : decode cX4_commonSum 36 = .ok (.iload_n 2, 1) := by decide +kernel
theorem dX4_commonSum_37 : decode cX4_commonSum 37 = .ok (.iload 7, 2) := by decide +kernel
theorem dX4_commonSum_39 : decode cX4_commonSum 39 = .ok (.ishr, 1) := by decide +kernel
theorem dX4_commonSum_40 : decode cX4_commonSum 40 = .ok (.iconst 1, 1) := by decide +kernel
theorem dX4_commonSum_41 : decode cX4_commonSum 41 = .ok (.iand, 1) := by decide +kernel
theorem dX4_commonSum_42 : decode cX4_commonSum 42 = .ok (.ifCond .ne 7, 3) := by decide +kernel
theorem dX4_commonSum_45 : decode cX4_commonSum 45 = .ok (.iconst 1, 1) := by decide +kernel
theorem dX4_commonSum_46 : decode cX4_commonSum 46 = .ok (.goto 28, 3) := by decide +kernel
theorem dX4_commonSum_49 : decode cX4_commonSum 49 = .ok (.iload_n 3, 1) := by decide +kernel
theorem dX4_commonSum_50 : decode cX4_commonSum 50 = .ok (.ifCond .eq 15, 3) := by decide +kernel
theorem dX4_commonSum_53 : decode cX4_commonSum 53 = .ok (.aload_n 0, 1) := by decide +kernel
theorem dX4_commonSum_54 : decode cX4_commonSum 54 = .ok (.iload_n 1, 1) := by decide +kernel
theorem dX4_commonSum_55 : decode cX4_commonSum 55 = .ok (.iload 5, 2) := by decide +kernel
theorem dX4_commonSum_57 : decode cX4_commonSum 57 = .ok (.iload 7, 2) := by decide +kernel
theorem dX4_commonSum_59 : decode cX4_commonSum 59 = .ok (.invokevirtual 102, 3) := by decide +kernel
theorem dX4_commonSum_62 : decode cX4_commonSum 62 = .ok (.goto 12, 3) := by decide +kernel
theorem dX4_commonSum_65 : decode cX4_commonSum 65 = .ok (.aload_n 0, 1) := by decide +kernel
theorem dX4_commonSum_66 : decode cX4_commonSum 66 = .ok (.iload_n 1, 1) := by decide +kernel
theorem dX4_commonSum_67 : decode cX4_commonSum 67 = .ok (.iload 7, 2) := by decide +kernel
theorem dX4_commonSum_69 : decode cX4_commonSum 69 = .ok (.iload 5, 2) := by decide +kernel
theorem dX4_commonSum_71 : decode cX4_commonSum 71 = .ok (.invokevirtual 102, 3) := by decide +kernel
theorem dX4_commonSum_74 : decode cX4_commonSum 74 = .ok (.imul, 1) := by decide +kernel
theorem dX4_commonSum_75 : decode cX4_commonSum 75 = .ok (.istore 6, 2) := by decide +kernel
theorem dX4_commonSum_77 : decode cX4_commonSum 77 = .ok (.iinc 7 1, 3) := by decide +kernel
theorem dX4_commonSum_80 : decode cX4_commonSum 80 = .ok (.goto (-57), 3) := by decide +kernel
theorem dX4_commonSum_83 : decode cX4_commonSum 83 = .ok (.iload 4, 2) := by decide +kernel
theorem dX4_commonSum_85 : decode cX4_commonSum 85 = .ok (.iload 6, 2) := by decide +kernel
theorem dX4_commonSum_87 : decode cX4_commonSum 87 = .ok (.iadd, 1) := by decide +kernel
theorem dX4_commonSum_88 : decode cX4_commonSum 88 = .ok (.istore 4, 2) := by decide +kernel
theorem dX4_commonSum_90 : decode cX4_commonSum 90 = .ok (.iinc 5 1, 3) := by decide +kernel
theorem dX4_commonSum_93 : decode cX4_commonSum 93 = .ok (.goto (-87), 3) := by decide +kernel
theorem dX4_commonSum_96 : decode cX4_commonSum 96 = .ok (.iload 4, 2) := by decide +kernel
theorem dX4_commonSum_98 : decode cX4_commonSum 98 = .ok (.invokestatic 177, 3) := by decide +kernel
theorem dX4_commonSum_101 : decode cX4_commonSum 101 = .ok (.ireturn, 1) := by decide +kernel
theorem dX4_common_0 : decode cX4_common 0 = .ok (.aload_n 0, 1) := by decide +kernel
theorem dX4_common_1 : decode cX4_common 1 = .ok (.iload_n 1, 1) := by decide +kernel
theorem dX4_common_2 : decode cX4_common 2 = .ok (.invokevirtual 143, 3) := by decide +kernel
theorem dX4_common_5 : decode cX4_common 5 = .ok (.istore_n 3, 1) := by decide +kernel
theorem dX4_common_6 : decode cX4_common 6 = .ok (.iload_n 3, 1) := by decide +kernel
theorem dX4_common_7 : decode cX4_common 7 = .ok (.ifCond .ge 5, 3) := by decide +kernel
theorem dX4_common_10 : decode cX4_common 10 = .ok (.iload_n 3, 1) := by decide +kernel
theorem dX4_common_11 : decode cX4_common 11 = .ok (.ireturn, 1) := by decide +kernel
theorem dX4_common_12 : decode cX4_common 12 = .ok (.aload_n 0, 1) := by decide +kernel
theorem dX4_common_13 : decode cX4_common 13 = .ok (.iload_n 1, 1) := by decide +kernel
theorem dX4_common_14 : decode cX4_common 14 = .ok (.invokevirtual 118, 3) := by decide +kernel
theorem dX4_common_17 : decode cX4_common 17 = .ok (.ifCond .eq 9, 3) := by decide +kernel
theorem dX4_common_20 : decode cX4_common 20 = .ok (.aload_n 0, 1) := by decide +kernel
theorem dX4_common_21 : decode cX4_common 21 = .ok (.iconst 3, 1) := by decide +kernel
theorem dX4_common_22 : decode cX4_common 22 = .ok (.invokevirtual 81, 3) := by decide +kernel
theorem dX4_common_25 : decode cX4_common 25 = .ok (.ireturn, 1) := by decide +kernel
theorem dX4_common_26 : decode cX4_common 26 = .ok (.iload_n 2, 1) := by decide +kernel
theorem dX4_common_27 : decode cX4_common 27 = .ok (.ifCond .eq 12, 3) := by decide +kernel
theorem dX4_common_30 : decode cX4_common 30 = .ok (.aload_n 0, 1) := by decide +kernel
theorem dX4_common_31 : decode cX4_common 31 = .ok (.iload_n 1, 1) := by decide +kernel
theorem dX4_common_32 : decode cX4_common 32 = .ok (.iload_n 2, 1) := by decide +kernel
theorem dX4_common_33 : decode cX4_common 33 = .ok (.invokevirtual 180, 3) := by decide +kernel
theorem dX4_common_36 : decode cX4_common 36 = .ok (.ifCond .ne 11, 3) := by decide +kernel
theorem dX4_common_39 : decode cX4_common 39 = .ok (.aload_n 0, 1) := by decide +kernel
theorem dX4_common_40 : decode cX4_common 40 = .ok (.iconst 2, 1) := by decide +kernel
theorem dX4_common_41 : decode cX4_common 41 = .ok (.invokevirtual 81, 3) := by decide +kernel
theorem dX4_common_44 : decode cX4_common 44 = .ok (.goto 10, 3) := by decide +kernel
theorem dX4_common_47 : decode cX4_common 47 = .ok (.aload_n 0, 1) := by decide +kernel
theorem dX4_common_48 : decode cX4_common 48 = .ok (.iload_n 1, 1) := by decide +kernel
theorem dX4_common_49 : decode cX4_common 49 = .ok (.iload_n 2, 1) := by decide +kernel
theorem dX4_common_50 : decode cX4_common 50 = .ok (.iconst 0, 1) := by decide +kernel
theorem dX4_common_51 : decode cX4_common 51 = .ok (.invokevirtual 196, 3) := by decide +kernel
theorem dX4_common_54 : decode cX4_common 54 = .ok (.ireturn, 1) := by decide +kernel
theorem dX4_profileOf_0 : decode cX4_profileOf 0 = .ok (.iconst 0, 1) := by decide +kernel
theorem dX4_profileOf_1 : decode cX4_profileOf 1 = .ok (.istore 5, 2) := by decide +kernel
theorem dX4_profileOf_3 : decode cX4_profileOf 3 = .ok (.iconst 0, 1) := by decide +kernel
theorem dX4_profileOf_4 : decode cX4_profileOf 4 = .ok (.istore 6, 2) := by decide +kernel
theorem dX4_profileOf_6 : decode cX4_profileOf 6 = .ok (.iload 6, 2) := by decide +kernel
theorem dX4_profileOf_8 : decode cX4_profileOf 8 = .ok (.iconst 1, 1) := by decide +kernel
theorem dX4_profileOf_9 : decode cX4_profileOf 9 = .ok (.aload_n 0, 1) := by decide +kernel
theorem dX4_profileOf_10 : decode cX4_profileOf 10 = .ok (.getfield 26, 3) := by decide +kernel
theorem dX4_profileOf_13 : decode cX4_profileOf 13 = .ok (.iload_n 1, 1) := by decide +kernel
theorem dX4_profileOf_14 : decode cX4_profileOf 14 = .ok (.iaload, 1) := by decide +kernel
theorem dX4_profileOf_15 : decode cX4_profileOf 15 = .ok (.ishl, 1) := by decide +kernel
theorem dX4_profileOf_16 : decode cX4_profileOf 16 = .ok (.if_icmp .ge 41, 3) := by decide +kernel
theorem dX4_profileOf_19 : decode cX4_profileOf 19 = .ok (.iload 5, 2) := by decide +kernel
theorem dX4_profileOf_21 : decode cX4_profileOf 21 = .ok (.iload 6, 2) := by decide +kernel
theorem dX4_profileOf_23 : decode cX4_profileOf 23 = .ok (.invokestatic 200, 3) := by decide +kernel
theorem dX4_profileOf_26 : decode cX4_profileOf 26 = .ok (.iload_n 2, 1) := by decide +kernel
theorem dX4_profileOf_27 : decode cX4_profileOf 27 = .ok (.if_icmp .ne 20, 3) := by decide +kernel
theorem dX4_profileOf_30 : decode cX4_profileOf 30 = .ok (.aload_n 0, 1) := by decide +kernel
theorem dX4_profileOf_31 : decode cX4_profileOf 31 = .ok (.iload_n 1, 1) := by decide +kernel
theorem dX4_profileOf_32 : decode cX4_profileOf 32 = .ok (.iload 6, 2) := by decide +kernel
theorem dX4_profileOf_34 : decode cX4_profileOf 34 = .ok (.iload 4, 2) := by decide +kernel
theorem dX4_profileOf_36 : decode cX4_profileOf 36 = .ok (.invokevirtual 196, 3) := by decide +kernel
theorem dX4_profileOf_39 : decode cX4_profileOf 39 = .ok (.iload_n 3, 1) := by decide +kernel
theorem dX4_profileOf_40 : decode cX4_profileOf 40 = .ok (.if_icmp .ne 7, 3) := by decide +kernel
theorem dX4_profileOf_43 : decode cX4_profileOf 43 = .ok (.iconst 1, 1) := by decide +kernel
theorem dX4_profileOf_44 : decode cX4_profileOf 44 = .ok (.goto 4, 3) := by decide +kernel
theorem dX4_profileOf_47 : decode cX4_profileOf 47 = .ok (.iconst 0, 1) := by decide +kernel
theorem dX4_profileOf_48 : decode cX4_profileOf 48 = .ok (.iadd, 1) := by decide +kernel
theorem dX4_profileOf_49 : decode cX4_profileOf 49 = .ok (.istore 5, 2) := by decide +kernel
theorem dX4_profileOf_51 : decode cX4_profileOf 51 = .ok (.iinc 6 1, 3) := by decide +kernel
theorem dX4_profileOf_54 : decode cX4_profileOf 54 = .ok (.goto (-48), 3) := by decide +kernel
theorem dX4_profileOf_57 : decode cX4_profileOf 57 = .ok (.iload 5, 2) := by decide +kernel
theorem dX4_profileOf_59 : decode cX4_profileOf 59 = .ok (.ireturn, 1) := by decide +kernel
theorem dX4_profile_0 : decode cX4_profile 0 = .ok (.iload_n 2, 1) := by decide +kernel
theorem dX4_profile_1 : decode cX4_profile 1 = .ok (.iconst 2, 1) := by decide +kernel
theorem dX4_profile_2 : decode cX4_profile 2 = .ok (.iconst 4, 1) := by decide +kernel
theorem dX4_profile_3 : decode cX4_profile 3 = .ok (.invokestatic 73, 3) := by decide +kernel
theorem dX4_profile_6 : decode cX4_profile 6 = .ok (.ifCond .eq 13, 3) := by decide +kernel
theorem dX4_profile_9 : decode cX4_profile 9 = .ok (.iload_n 3, 1) := by decide +kernel
theorem dX4_profile_10 : decode cX4_profile 10 = .ok (.iconst 0, 1) := by decide +kernel
theorem dX4_profile_11 : decode cX4_profile 11 = .ok (.bipush 12, 2) := by decide +kernel
theorem dX4_profile_13 : decode cX4_profile 13 = .ok (.invokestatic 73, 3) := by decide +kernel
theorem dX4_profile_16 : decode cX4_profile 16 = .ok (.ifCond .ne 5, 3) := by decide +kernel
theorem dX4_profile_19 : decode cX4_profile 19 = .ok (.iconst (-1), 1) := by decide +kernel
theorem dX4_profile_20 : decode cX4_profile 20 = .ok (.ireturn, 1) := by decide +kernel
theorem dX4_profile_21 : decode cX4_profile 21 = .ok (.aload_n 0, 1) := by decide +kernel
theorem dX4_profile_22 : decode cX4_profile 22 = .ok (.iload_n 1, 1) := by decide +kernel
theorem dX4_profile_23 : decode cX4_profile 23 = .ok (.invokevirtual 143, 3) := by decide +kernel
theorem dX4_profile_26 : decode cX4_profile 26 = .ok (.istore 4, 2) := by decide +kernel
theorem dX4_profile_28 : decode cX4_profile 28 = .ok (.iload 4, 2) := by decide +kernel
theorem dX4_profile_30 : decode cX4_profile 30 = .ok (.ifCond .ge 6, 3) := by decide +kernel
theorem dX4_profile_33 : decode cX4_profile 33 = .ok (.iload 4, 2) := by decide +kernel
theorem dX4_profile_35 : decode cX4_profile 35 = .ok (.ireturn, 1) := by decide +kernel
theorem dX4_profile_36 : decode cX4_profile 36 = .ok (.aload_n 0, 1) := by decide +kernel
theorem dX4_profile_37 : decode cX4_profile 37 = .ok (.iload_n 1, 1) := by decide +kernel
theorem dX4_profile_38 : decode cX4_profile 38 = .ok (.invokevirtual 118, 3) := by decide +kernel
theorem dX4_profile_41 : decode cX4_profile 41 = .ok (.ifCond .eq 11, 3) := by decide +kernel
theorem dX4_profile_44 : decode cX4_profile 44 = .ok (.aload_n 0, 1) := by decide +kernel
theorem dX4_profile_45 : decode cX4_profile 45 = .ok (.iconst 3, 1) := by decide +kernel
theorem dX4_profile_46 : decode cX4_profile 46 = .ok (.invokevirtual 81, 3) := by decide +kernel
theorem dX4_profile_49 : decode cX4_profile 49 = .ok (.goto 11, 3) := by decide +kernel
theorem dX4_profile_52 : decode cX4_profile 52 = .ok (.aload_n 0, 1) := by decide +kernel
theorem dX4_profile_53 : decode cX4_profile 53 = .ok (.iload_n 1, 1) := by decide +kernel
theorem dX4_profile_54 : decode cX4_profile 54 = .ok (.iload_n 2, 1) := by decide +kernel
theorem dX4_profile_55 : decode cX4_profile 55 = .ok (.iload_n 3, 1) := by decide +kernel
theorem dX4_profile_56 : decode cX4_profile 56 = .ok (.iconst 0, 1) := by decide +kernel
theorem dX4_profile_57 : decode cX4_profile 57 = .ok (.invokevirtual 203, 3) := by decide +kernel
theorem dX4_profile_60 : decode cX4_profile 60 = .ok (.ireturn, 1) := by decide +kernel
theorem dX4_askedTwo_0 : decode cX4_askedTwo 0 = .ok (.iload_n 1, 1) := by decide +kernel
theorem dX4_askedTwo_1 : decode cX4_askedTwo 1 = .ok (.invokestatic 99, 3) := by decide +kernel
theorem dX4_askedTwo_4 : decode cX4_askedTwo 4 = .ok (.ifCond .eq 10, 3) := by decide +kernel
theorem dX4_askedTwo_7 : decode cX4_askedTwo 7 = .ok (.iload_n 2, 1) := by decide +kernel
theorem dX4_askedTwo_8 : decode cX4_askedTwo 8 = .ok (.invokestatic 99, 3) := by decide +kernel
theorem dX4_askedTwo_11 : decode cX4_askedTwo 11 = .ok (.ifCond .ne 5, 3) := by decide +kernel
theorem dX4_askedTwo_14 : decode cX4_askedTwo 14 = .ok (.iconst (-1), 1) := by decide +kernel
theorem dX4_askedTwo_15 : decode cX4_askedTwo 15 = .ok (.ireturn, 1) := by decide +kernel
theorem dX4_askedTwo_16 : decode cX4_askedTwo 16 = .ok (.aload_n 0, 1) := by decide +kernel
theorem dX4_askedTwo_17 : decode cX4_askedTwo 17 = .ok (.getfield 26, 3) := by decide +kernel
theorem dX4_askedTwo_20 : decode cX4_askedTwo 20 = .ok (.iload_n 1, 1) := by decide +kernel
theorem dX4_askedTwo_21 : decode cX4_askedTwo 21 = .ok (.iaload, 1) := by decide +kernel
theorem dX4_askedTwo_22 : decode cX4_askedTwo 22 = .ok (.ifCond .eq 12, 3) := by decide +kernel
theorem dX4_askedTwo_25 : decode cX4_askedTwo 25 = .ok (.aload_n 0, 1) := by decide +kernel
theorem dX4_askedTwo_26 : decode cX4_askedTwo 26 = .ok (.getfield 26, 3) := by decide +kernel
theorem dX4_askedTwo_29 : decode cX4_askedTwo 29 = .ok (.iload_n 2, 1) := by decide +kernel
theorem dX4_askedTwo_30 : decode cX4_askedTwo 30 = .ok (.iaload, 1) := by decide +kernel
theorem dX4_askedTwo_31 : decode cX4_askedTwo 31 = .ok (.ifCond .ne 9, 3) := by decide +kernel
theorem dX4_askedTwo_34 : decode cX4_askedTwo 34 = .ok (.aload_n 0, 1) := by decide +kernel
theorem dX4_askedTwo_35 : decode cX4_askedTwo 35 = .ok (.iconst 1, 1) := by decide +kernel
theorem dX4_askedTwo_36 : decode cX4_askedTwo 36 = .ok (.invokevirtual 81, 3) := by decide +kernel
theorem dX4_askedTwo_39 : decode cX4_askedTwo 39 = .ok (.ireturn, 1) := by decide +kernel
theorem dX4_askedTwo_40 : decode cX4_askedTwo 40 = .ok (.aload_n 0, 1) := by decide +kernel
theorem dX4_askedTwo_41 : decode cX4_askedTwo 41 = .ok (.iload_n 1, 1) := by decide +kernel
theorem dX4_askedTwo_42 : decode cX4_askedTwo 42 = .ok (.invokevirtual 118, 3) := by decide +kernel
theorem dX4_askedTwo_45 : decode cX4_askedTwo 45 = .ok (.ifCond .ne 26, 3) := by decide +kernel
theorem dX4_askedTwo_48 : decode cX4_askedTwo 48 = .ok (.aload_n 0, 1) := by decide +kernel
theorem dX4_askedTwo_49 : decode cX4_askedTwo 49 = .ok (.iload_n 2, 1) := by decide +kernel
theorem dX4_askedTwo_50 : decode cX4_askedTwo 50 = .ok (.invokevirtual 118, 3) := by decide +kernel
theorem dX4_askedTwo_53 : decode cX4_askedTwo 53 = .ok (.ifCond .ne 18, 3) := by decide +kernel
theorem dX4_askedTwo_56 : decode cX4_askedTwo 56 = .ok (.aload_n 0, 1) := by decide +kernel
theorem dX4_askedTwo_57 : decode cX4_askedTwo 57 = .ok (.getfield 26, 3) := by decide +kernel
theorem dX4_askedTwo_60 : decode cX4_askedTwo 60 = .ok (.iload_n 1, 1) := by decide +kernel
theorem dX4_askedTwo_61 : decode cX4_askedTwo 61 = .ok (.iaload, 1) := by decide +kernel
theorem dX4_askedTwo_62 : decode cX4_askedTwo 62 = .ok (.aload_n 0, 1) := by decide +kernel
theorem dX4_askedTwo_63 : decode cX4_askedTwo 63 = .ok (.getfield 26, 3) := by decide +kernel
theorem dX4_askedTwo_66 : decode cX4_askedTwo 66 = .ok (.iload_n 2, 1) := by decide +kernel
theorem dX4_askedTwo_67 : decode cX4_askedTwo 67 = .ok (.iaload, 1) := by decide +kernel
theorem dX4_askedTwo_68 : decode cX4_askedTwo 68 = .ok (.if_icmp .eq 11, 3) := by decide +kernel
theorem dX4_askedTwo_71 : decode cX4_askedTwo 71 = .ok (.aload_n 0, 1) := by decide +kernel
theorem dX4_askedTwo_72 : decode cX4_askedTwo 72 = .ok (.iconst 3, 1) := by decide +kernel
theorem dX4_askedTwo_73 : decode cX4_askedTwo 73 = .ok (.invokevirtual 81, 3) := by decide +kernel
theorem dX4_askedTwo_76 : decode cX4_askedTwo 76 = .ok (.goto 4, 3) := by decide +kernel
theorem dX4_askedTwo_79 : decode cX4_askedTwo 79 = .ok (.iconst 0, 1) := by decide +kernel
theorem dX4_askedTwo_80 : decode cX4_askedTwo 80 = .ok (.ireturn, 1) := by decide +kernel
theorem dX4_setProfile_0 : decode cX4_setProfile 0 = .ok (.iconst 0, 1) := by decide +kernel
theorem dX4_setProfile_1 : decode cX4_setProfile 1 = .ok (.istore_n 2, 1) := by decide +kernel
theorem dX4_setProfile_2 : decode cX4_setProfile 2 = .ok (.iload_n 2, 1) := by decide +kernel
theorem dX4_setProfile_3 : decode cX4_setProfile 3 = .ok (.bipush 78, 2) := by decide +kernel
theorem dX4_setProfile_5 : decode cX4_setProfile 5 = .ok (.if_icmp .ge 16, 3) := by decide +kernel
theorem dX4_setProfile_8 : decode cX4_setProfile 8 = .ok (.aload_n 0, 1) := by decide +kernel
theorem dX4_setProfile_9 : decode cX4_setProfile 9 = .ok (.getfield 45, 3) := by decide +kernel
theorem dX4_setProfile_12 : decode cX4_setProfile 12 = .ok (.iload_n 2, 1) := by decide +kernel
theorem dX4_setProfile_13 : decode cX4_setProfile 13 = .ok (.iconst 0, 1) := by decide +kernel
theorem dX4_setProfile_14 : decode cX4_setProfile 14 = .ok (.iastore, 1) := by decide +kernel
theorem dX4_setProfile_15 : decode cX4_setProfile 15 = .ok (.iinc 2 1, 3) := by decide +kernel
theorem dX4_setProfile_18 : decode cX4_setProfile 18 = .ok (.goto (-16), 3) := by decide +kernel
theorem dX4_setProfile_21 : decode cX4_setProfile 21 = .ok (.iconst 0, 1) := by decide +kernel
theorem dX4_setProfile_22 : decode cX4_setProfile 22 = .ok (.istore_n 2, 1) := by decide +kernel
theorem dX4_setProfile_23 : decode cX4_setProfile 23 = .ok (.iload_n 2, 1) := by decide +kernel
theorem dX4_setProfile_24 : decode cX4_setProfile 24 = .ok (.iconst 1, 1) := by decide +kernel
theorem dX4_setProfile_25 : decode cX4_setProfile 25 = .ok (.aload_n 0, 1) := by decide +kernel
theorem dX4_setProfile_26 : decode cX4_setProfile 26 = .ok (.getfield 26, 3) := by decide +kernel
theorem dX4_setProfile_29 : decode cX4_setProfile 29 = .ok (.iload_n 1, 1) := by decide +kernel
theorem dX4_setProfile_30 : decode cX4_setProfile 30 = .ok (.iaload, 1) := by decide +kernel
theorem dX4_setProfile_31 : decode cX4_setProfile 31 = .ok (.ishl, 1) := by decide +kernel
theorem dX4_setProfile_32 : decode cX4_setProfile 32 = .ok (.if_icmp .ge 73, 3) := by decide +kernel
theorem dX4_setProfile_35 : decode cX4_setProfile 35 = .ok (.iload_n 2, 1) := by decide +kernel
theorem dX4_setProfile_36 : decode cX4_setProfile 36 = .ok (.invokestatic 200, 3) := by decide +kernel
theorem dX4_setProfile_39 : decode cX4_setProfile 39 = .ok (.istore_n 3, 1) := by decide +kernel
theorem dX4_setProfile_40 : decode cX4_setProfile 40 = .ok (.iload_n 3, 1) := by decide +kernel
theorem dX4_setProfile_41 : decode cX4_setProfile 41 = .ok (.iconst 2, 1) := by decide +kernel
theorem dX4_setProfile_42 : decode cX4_setProfile 42 = .ok (.if_icmp .eq 8, 3) := by decide +kernel
theorem dX4_setProfile_45 : decode cX4_setProfile 45 = .ok (.iload_n 3, 1) := by decide +kernel
theorem dX4_setProfile_46 : decode cX4_setProfile 46 = .ok (.iconst 4, 1) := by decide +kernel
theorem dX4_setProfile_47 : decode cX4_setProfile 47 = .ok (.if_icmp .ne 52, 3) := by decide +kernel
theorem dX4_setProfile_50 : decode cX4_setProfile 50 = .ok (.aload_n 0, 1) := by decide +kernel
theorem dX4_setProfile_51 : decode cX4_setProfile 51 = .ok (.getfield 45, 3) := by decide +kernel
theorem dX4_setProfile_54 : decode cX4_setProfile 54 = .ok (.bipush 13, 2) := by decide +kernel
theorem dX4_setProfile_56 : decode cX4_setProfile 56 = .ok (.iload_n 3, 1) := by decide +kernel
theorem dX4_setProfile_57 : decode cX4_setProfile 57 = .ok (.iconst 2, 1) := by decide +kernel
theorem dX4_setProfile_58 : decode cX4_setProfile 58 = .ok (.isub, 1) := by decide +kernel
theorem dX4_setProfile_59 : decode cX4_setProfile 59 = .ok (.imul, 1) := by decide +kernel
theorem dX4_setProfile_60 : decode cX4_setProfile 60 = .ok (.aload_n 0, 1) := by decide +kernel
theorem dX4_setProfile_61 : decode cX4_setProfile 61 = .ok (.iload_n 1, 1) := by decide +kernel
theorem dX4_setProfile_62 : decode cX4_setProfile 62 = .ok (.iload_n 2, 1) := by decide +kernel
theorem dX4_setProfile_63 : decode cX4_setProfile 63 = .ok (.iconst 0, 1) := by decide +kernel
theorem dX4_setProfile_64 : decode cX4_setProfile 64 = .ok (.invokevirtual 196, 3) := by decide +kernel
theorem dX4_setProfile_67 : decode cX4_setProfile 67 = .ok (.iadd, 1) := by decide +kernel
theorem dX4_setProfile_68 : decode cX4_setProfile 68 = .ok (.dup2, 1) := by decide +kernel
theorem dX4_setProfile_69 : decode cX4_setProfile 69 = .ok (.iaload, 1) := by decide +kernel
theorem dX4_setProfile_70 : decode cX4_setProfile 70 = .ok (.iconst 1, 1) := by decide +kernel
theorem dX4_setProfile_71 : decode cX4_setProfile 71 = .ok (.iadd, 1) := by decide +kernel
theorem dX4_setProfile_72 : decode cX4_setProfile 72 = .ok (.iastore, 1) := by decide +kernel
theorem dX4_setProfile_73 : decode cX4_setProfile 73 = .ok (.aload_n 0, 1) := by decide +kernel
theorem dX4_setProfile_74 : decode cX4_setProfile 74 = .ok (.getfield 45, 3) := by decide +kernel
theorem dX4_setProfile_77 : decode cX4_setProfile 77 = .ok (.bipush 39, 2) := by decide +kernel
theorem dX4_setProfile_79 : decode cX4_setProfile 79 = .ok (.bipush 13, 2) := by decide +kernel
theorem dX4_setProfile_81 : decode cX4_setProfile 81 = .ok (.iload_n 3, 1) := by decide +kernel
theorem dX4_setProfile_82 : decode cX4_setProfile 82 = .ok (.iconst 2, 1) := by decide +kernel
theorem dX4_setProfile_83 : decode cX4_setProfile 83 = .ok (.isub, 1) := by decide +kernel
theorem dX4_setProfile_84 : decode cX4_setProfile 84 = .ok (.imul, 1) := by decide +kernel
theorem dX4_setProfile_85 : decode cX4_setProfile 85 = .ok (.iadd, 1) := by decide +kernel
theorem dX4_setProfile_86 : decode cX4_setProfile 86 = .ok (.aload_n 0, 1) := by decide +kernel
theorem dX4_setProfile_87 : decode cX4_setProfile 87 = .ok (.iload_n 1, 1) := by decide +kernel
theorem dX4_setProfile_88 : decode cX4_setProfile 88 = .ok (.iload_n 2, 1) := by decide +kernel
theorem dX4_setProfile_89 : decode cX4_setProfile 89 = .ok (.iconst 1, 1) := by decide +kernel
theorem dX4_setProfile_90 : decode cX4_setProfile 90 = .ok (.invokevirtual 196, 3) := by decide +kernel
theorem dX4_setProfile_93 : decode cX4_setProfile 93 = .ok (.iadd, 1) := by decide +kernel
theorem dX4_setProfile_94 : decode cX4_setProfile 94 = .ok (.dup2, 1) := by decide +kernel
theorem dX4_setProfile_95 : decode cX4_setProfile 95 = .ok (.iaload, 1) := by decide +kernel
theorem dX4_setProfile_96 : decode cX4_setProfile 96 = .ok (.iconst 1, 1) := by decide +kernel
theorem dX4_setProfile_97 : decode cX4_setProfile 97 = .ok (.iadd, 1) := by decide +kernel
theorem dX4_setProfile_98 : decode cX4_setProfile 98 = .ok (.iastore, 1) := by decide +kernel
theorem dX4_setProfile_99 : decode cX4_setProfile 99 = .ok (.iinc 2 1, 3) := by decide +kernel
theorem dX4_setProfile_102 : decode cX4_setProfile 102 = .ok (.goto (-79), 3) := by decide +kernel
theorem dX4_setProfile_105 : decode cX4_setProfile 105 = .ok (.return_, 1) := by decide +kernel
theorem dX4_mayBeLike_0 : decode cX4_mayBeLike 0 = .ok (.aload_n 0, 1) := by decide +kernel
theorem dX4_mayBeLike_1 : decode cX4_mayBeLike 1 = .ok (.iload_n 1, 1) := by decide +kernel
theorem dX4_mayBeLike_2 : decode cX4_mayBeLike 2 = .ok (.iload_n 2, 1) := by decide +kernel
theorem dX4_mayBeLike_3 : decode cX4_mayBeLike 3 = .ok (.invokevirtual 207, 3) := by decide +kernel
theorem dX4_mayBeLike_6 : decode cX4_mayBeLike 6 = .ok (.istore_n 3, 1) := by decide +kernel
theorem dX4_mayBeLike_7 : decode cX4_mayBeLike 7 = .ok (.iload_n 3, 1) := by decide +kernel
theorem dX4_mayBeLike_8 : decode cX4_mayBeLike 8 = .ok (.ifCond .ge 5, 3) := by decide +kernel
theorem dX4_mayBeLike_11 : decode cX4_mayBeLike 11 = .ok (.iload_n 3, 1) := by decide +kernel
theorem dX4_mayBeLike_12 : decode cX4_mayBeLike 12 = .ok (.ireturn, 1) := by decide +kernel
theorem dX4_mayBeLike_13 : decode cX4_mayBeLike 13 = .ok (.aload_n 0, 1) := by decide +kernel
theorem dX4_mayBeLike_14 : decode cX4_mayBeLike 14 = .ok (.iload_n 1, 1) := by decide +kernel
theorem dX4_mayBeLike_15 : decode cX4_mayBeLike 15 = .ok (.invokevirtual 210, 3) := by decide +kernel
theorem dX4_mayBeLike_18 : decode cX4_mayBeLike 18 = .ok (.iconst 0, 1) := by decide +kernel
theorem dX4_mayBeLike_19 : decode cX4_mayBeLike 19 = .ok (.istore 4, 2) := by decide +kernel
theorem dX4_mayBeLike_21 : decode cX4_mayBeLike 21 = .ok (.iload 4, 2) := by decide +kernel
theorem dX4_mayBeLike_23 : decode cX4_mayBeLike 23 = .ok (.bipush 78, 2) := by decide +kernel
theorem dX4_mayBeLike_25 : decode cX4_mayBeLike 25 = .ok (.if_icmp .ge 23, 3) := by decide +kernel
theorem dX4_mayBeLike_28 : decode cX4_mayBeLike 28 = .ok (.aload_n 0, 1) := by decide +kernel
theorem dX4_mayBeLike_29 : decode cX4_mayBeLike 29 = .ok (.getfield 48, 3) := by decide +kernel
theorem dX4_mayBeLike_32 : decode cX4_mayBeLike 32 = .ok (.iload 4, 2) := by decide +kernel
theorem dX4_mayBeLike_34 : decode cX4_mayBeLike 34 = .ok (.aload_n 0, 1) := by decide +kernel
theorem dX4_mayBeLike_35 : decode cX4_mayBeLike 35 = .ok (.getfield 45, 3) := by decide +kernel
theorem dX4_mayBeLike_38 : decode cX4_mayBeLike 38 = .ok (.iload 4, 2) := by decide +kernel
theorem dX4_mayBeLike_40 : decode cX4_mayBeLike 40 = .ok (.iaload, 1) := by decide +kernel
theorem dX4_mayBeLike_41 : decode cX4_mayBeLike 41 = .ok (.iastore, 1) := by decide +kernel
theorem dX4_mayBeLike_42 : decode cX4_mayBeLike 42 = .ok (.iinc 4 1, 3) := by decide +kernel
theorem dX4_mayBeLike_45 : decode cX4_mayBeLike 45 = .ok (.goto (-24), 3) := by decide +kernel
theorem dX4_mayBeLike_48 : decode cX4_mayBeLike 48 = .ok (.aload_n 0, 1) := by decide +kernel
theorem dX4_mayBeLike_49 : decode cX4_mayBeLike 49 = .ok (.iload_n 2, 1) := by decide +kernel
theorem dX4_mayBeLike_50 : decode cX4_mayBeLike 50 = .ok (.invokevirtual 210, 3) := by decide +kernel
theorem dX4_mayBeLike_53 : decode cX4_mayBeLike 53 = .ok (.iconst 1, 1) := by decide +kernel
theorem dX4_mayBeLike_54 : decode cX4_mayBeLike 54 = .ok (.istore 4, 2) := by decide +kernel
theorem dX4_mayBeLike_56 : decode cX4_mayBeLike 56 = .ok (.iconst 0, 1) := by decide +kernel
theorem dX4_mayBeLike_57 : decode cX4_mayBeLike 57 = .ok (.istore 5, 2) := by decide +kernel
theorem dX4_mayBeLike_59 : decode cX4_mayBeLike 59 = .ok (.iload 5, 2) := by decide +kernel
theorem dX4_mayBeLike_61 : decode cX4_mayBeLike 61 = .ok (.bipush 78, 2) := by decide +kernel
theorem dX4_mayBeLike_63 : decode cX4_mayBeLike 63 = .ok (.if_icmp .ge 38, 3) := by decide +kernel
theorem dX4_mayBeLike_66 : decode cX4_mayBeLike 66 = .ok (.iload 4, 2) := by decide +kernel
theorem dX4_mayBeLike_68 : decode cX4_mayBeLike 68 = .ok (.ifCond .eq 24, 3) := by decide +kernel
theorem dX4_mayBeLike_71 : decode cX4_mayBeLike 71 = .ok (.aload_n 0, 1) := by decide +kernel
theorem dX4_mayBeLike_72 : decode cX4_mayBeLike 72 = .ok (.getfield 48, 3) := by decide +kernel
theorem dX4_mayBeLike_75 : decode cX4_mayBeLike 75 = .ok (.iload 5, 2) := by decide +kernel
theorem dX4_mayBeLike_77 : decode cX4_mayBeLike 77 = .ok (.iaload, 1) := by decide +kernel
theorem dX4_mayBeLike_78 : decode cX4_mayBeLike 78 = .ok (.aload_n 0, 1) := by decide +kernel
theorem dX4_mayBeLike_79 : decode cX4_mayBeLike 79 = .ok (.getfield 45, 3) := by decide +kernel
theorem dX4_mayBeLike_82 : decode cX4_mayBeLike 82 = .ok (.iload 5, 2) := by decide +kernel
theorem dX4_mayBeLike_84 : decode cX4_mayBeLike 84 = .ok (.iaload, 1) := by decide +kernel
theorem dX4_mayBeLike_85 : decode cX4_mayBeLike 85 = .ok (.if_icmp .ne 7, 3) := by decide +kernel
theorem dX4_mayBeLike_88 : decode cX4_mayBeLike 88 = .ok (.iconst 1, 1) := by decide +kernel
theorem dX4_mayBeLike_89 : decode cX4_mayBeLike 89 = .ok (.goto 4, 3) := by decide +kernel
theorem dX4_mayBeLike_92 : decode cX4_mayBeLike 92 = .ok (.iconst 0, 1) := by decide +kernel
theorem dX4_mayBeLike_93 : decode cX4_mayBeLike 93 = .ok (.istore 4, 2) := by decide +kernel
theorem dX4_mayBeLike_95 : decode cX4_mayBeLike 95 = .ok (.iinc 5 1, 3) := by decide +kernel
theorem dX4_mayBeLike_98 : decode cX4_mayBeLike 98 = .ok (.goto (-39), 3) := by decide +kernel
theorem dX4_mayBeLike_101 : decode cX4_mayBeLike 101 = .ok (.iload 4, 2) := by decide +kernel
theorem dX4_mayBeLike_103 : decode cX4_mayBeLike 103 = .ok (.ifCond .eq 7, 3) := by decide +kernel
theorem dX4_mayBeLike_106 : decode cX4_mayBeLike 106 = .ok (.iconst 1, 1) := by decide +kernel
theorem dX4_mayBeLike_107 : decode cX4_mayBeLike 107 = .ok (.goto 4, 3) := by decide +kernel
theorem dX4_mayBeLike_110 : decode cX4_mayBeLike 110 = .ok (.iconst 0, 1) := by decide +kernel
theorem dX4_mayBeLike_111 : decode cX4_mayBeLike 111 = .ok (.ireturn, 1) := by decide +kernel
theorem dX4_isLike_0 : decode cX4_isLike 0 = .ok (.aload_n 0, 1) := by decide +kernel
theorem dX4_isLike_1 : decode cX4_isLike 1 = .ok (.getfield 26, 3) := by decide +kernel
theorem dX4_isLike_4 : decode cX4_isLike 4 = .ok (.iload_n 1, 1) := by decide +kernel
theorem dX4_isLike_5 : decode cX4_isLike 5 = .ok (.iaload, 1) := by decide +kernel
theorem dX4_isLike_6 : decode cX4_isLike 6 = .ok (.istore 5, 2) := by decide +kernel
theorem dX4_isLike_8 : decode cX4_isLike 8 = .ok (.iconst 1, 1) := by decide +kernel
theorem dX4_isLike_9 : decode cX4_isLike 9 = .ok (.istore 6, 2) := by decide +kernel
theorem dX4_isLike_11 : decode cX4_isLike 11 = .ok (.iconst 1, 1) := by decide +kernel
theorem dX4_isLike_12 : decode cX4_isLike 12 = .ok (.istore 7, 2) := by decide +kernel
theorem dX4_isLike_14 : decode cX4_isLike 14 = .ok (.iload 7, 2) := by decide +kernel
theorem dX4_isLike_16 : decode cX4_isLike 16 = .ok (.iload 5, 2) := by decide +kernel
theorem dX4_isLike_18 : decode cX4_isLike 18 = .ok (.if_icmp .ge 150, 3) := by decide +kernel
theorem dX4_isLike_21 : decode cX4_isLike 21 = .ok (.iconst 1, 1) := by decide +kernel
theorem dX4_isLike_22 : decode cX4_isLike 22 = .ok (.istore 8, 2) := by decide +kernel
theorem dX4_isLike_24 : decode cX4_isLike 24 = .ok (.iload 8, 2) := by decide +kernel
theorem dX4_isLike_26 : decode cX4_isLike 26 = .ok (.iload 5, 2) := by decide +kernel
theorem dX4_isLike_28 : decode cX4_isLike 28 = .ok (.if_icmp .ge 134, 3) := by decide +kernel
theorem dX4_isLike_31 : decode cX4_isLike 31 = .ok (.iload_n 3, 1) := by decide +kernel
theorem dX4_isLike_32 : decode cX4_isLike 32 = .ok (.iload 7, 2) := by decide +kernel
theorem dX4_isLike_34 : decode cX4_isLike 34 = .ok (.invokestatic 214, 3) := by decide +kernel
theorem dX4_isLike_37 : decode cX4_isLike 37 = .ok (.istore 9, 2) := by decide +kernel
theorem dX4_isLike_39 : decode cX4_isLike 39 = .ok (.iload 4, 2) := by decide +kernel
theorem dX4_isLike_41 : decode cX4_isLike 41 = .ok (.iload 8, 2) := by decide +kernel
theorem dX4_isLike_43 : decode cX4_isLike 43 = .ok (.invokestatic 214, 3) := by decide +kernel
theorem dX4_isLike_46 : decode cX4_isLike 46 = .ok (.istore 10, 2) := by decide +kernel
theorem dX4_isLike_48 : decode cX4_isLike 48 = .ok (.iload_n 3, 1) := by decide +kernel
theorem dX4_isLike_49 : decode cX4_isLike 49 = .ok (.iconst 0, 1) := by decide +kernel
theorem dX4_isLike_50 : decode cX4_isLike 50 = .ok (.invokestatic 214, 3) := by decide +kernel
theorem dX4_isLike_53 : decode cX4_isLike 53 = .ok (.istore 11, 2) := by decide +kernel
theorem dX4_isLike_55 : decode cX4_isLike 55 = .ok (.iload 4, 2) := by decide +kernel
theorem dX4_isLike_57 : decode cX4_isLike 57 = .ok (.iconst 0, 1) := by decide +kernel
theorem dX4_isLike_58 : decode cX4_isLike 58 = .ok (.invokestatic 214, 3) := by decide +kernel
theorem dX4_isLike_61 : decode cX4_isLike 61 = .ok (.istore 12, 2) := by decide +kernel
theorem dX4_isLike_63 : decode cX4_isLike 63 = .ok (.aload_n 0, 1) := by decide +kernel
theorem dX4_isLike_64 : decode cX4_isLike 64 = .ok (.iload_n 1, 1) := by decide +kernel
theorem dX4_isLike_65 : decode cX4_isLike 65 = .ok (.iload 9, 2) := by decide +kernel
theorem dX4_isLike_67 : decode cX4_isLike 67 = .ok (.iload 10, 2) := by decide +kernel
theorem dX4_isLike_69 : decode cX4_isLike 69 = .ok (.invokevirtual 102, 3) := by decide +kernel
theorem dX4_isLike_72 : decode cX4_isLike 72 = .ok (.aload_n 0, 1) := by decide +kernel
theorem dX4_isLike_73 : decode cX4_isLike 73 = .ok (.iload_n 1, 1) := by decide +kernel
theorem dX4_isLike_74 : decode cX4_isLike 74 = .ok (.iload 11, 2) := by decide +kernel
theorem dX4_isLike_76 : decode cX4_isLike 76 = .ok (.iload 10, 2) := by decide +kernel
theorem dX4_isLike_78 : decode cX4_isLike 78 = .ok (.invokevirtual 102, 3) := by decide +kernel
theorem dX4_isLike_81 : decode cX4_isLike 81 = .ok (.imul, 1) := by decide +kernel
theorem dX4_isLike_82 : decode cX4_isLike 82 = .ok (.aload_n 0, 1) := by decide +kernel
theorem dX4_isLike_83 : decode cX4_isLike 83 = .ok (.iload_n 1, 1) := by decide +kernel
theorem dX4_isLike_84 : decode cX4_isLike 84 = .ok (.iload 9, 2) := by decide +kernel
theorem dX4_isLike_86 : decode cX4_isLike 86 = .ok (.iload 12, 2) := by decide +kernel
theorem dX4_isLike_88 : decode cX4_isLike 88 = .ok (.invokevirtual 102, 3) := by decide +kernel
theorem dX4_isLike_91 : decode cX4_isLike 91 = .ok (.imul, 1) := by decide +kernel
theorem dX4_isLike_92 : decode cX4_isLike 92 = .ok (.aload_n 0, 1) := by decide +kernel
theorem dX4_isLike_93 : decode cX4_isLike 93 = .ok (.iload_n 1, 1) := by decide +kernel
theorem dX4_isLike_94 : decode cX4_isLike 94 = .ok (.iload 11, 2) := by decide +kernel
theorem dX4_isLike_96 : decode cX4_isLike 96 = .ok (.iload 12, 2) := by decide +kernel
theorem dX4_isLike_98 : decode cX4_isLike 98 = .ok (.invokevirtual 102, 3) := by decide +kernel
theorem dX4_isLike_101 : decode cX4_isLike 101 = .ok (.imul, 1) := by decide +kernel
theorem dX4_isLike_102 : decode cX4_isLike 102 = .ok (.istore 13, 2) := by decide +kernel
theorem dX4_isLike_104 : decode cX4_isLike 104 = .ok (.iload 6, 2) := by decide +kernel
theorem dX4_isLike_106 : decode cX4_isLike 106 = .ok (.ifCond .eq 47, 3) := by decide +kernel
theorem dX4_isLike_109 : decode cX4_isLike 109 = .ok (.iload 13, 2) := by decide +kernel
theorem dX4_isLike_111 : decode cX4_isLike 111 = .ok (.aload_n 0, 1) := by decide +kernel
theorem dX4_isLike_112 : decode cX4_isLike 112 = .ok (.iload_n 2, 1) := by decide +kernel
theorem dX4_isLike_113 : decode cX4_isLike 113 = .ok (.iload 7, 2) := by decide +kernel
theorem dX4_isLike_115 : decode cX4_isLike 115 = .ok (.iload 8, 2) := by decide +kernel
theorem dX4_isLike_117 : decode cX4_isLike 117 = .ok (.invokevirtual 102, 3) := by decide +kernel
theorem dX4_isLike_120 : decode cX4_isLike 120 = .ok (.aload_n 0, 1) := by decide +kernel
theorem dX4_isLike_121 : decode cX4_isLike 121 = .ok (.iload_n 2, 1) := by decide +kernel
theorem dX4_isLike_122 : decode cX4_isLike 122 = .ok (.iconst 0, 1) := by decide +kernel
theorem dX4_isLike_123 : decode cX4_isLike 123 = .ok (.iload 8, 2) := by decide +kernel
theorem dX4_isLike_125 : decode cX4_isLike 125 = .ok (.invokevirtual 102, 3) := by decide +kernel
theorem dX4_isLike_128 : decode cX4_isLike 128 = .ok (.imul, 1) := by decide +kernel
theorem dX4_isLike_129 : decode cX4_isLike 129 = .ok (.aload_n 0, 1) := by decide +kernel
theorem dX4_isLike_130 : decode cX4_isLike 130 = .ok (.iload_n 2, 1) := by decide +kernel
theorem dX4_isLike_131 : decode cX4_isLike 131 = .ok (.iload 7, 2) := by decide +kernel
theorem dX4_isLike_133 : decode cX4_isLike 133 = .ok (.iconst 0, 1) := by decide +kernel
theorem dX4_isLike_134 : decode cX4_isLike 134 = .ok (.invokevirtual 102, 3) := by decide +kernel
theorem dX4_isLike_137 : decode cX4_isLike 137 = .ok (.imul, 1) := by decide +kernel
theorem dX4_isLike_138 : decode cX4_isLike 138 = .ok (.aload_n 0, 1) := by decide +kernel
theorem dX4_isLike_139 : decode cX4_isLike 139 = .ok (.iload_n 2, 1) := by decide +kernel
theorem dX4_isLike_140 : decode cX4_isLike 140 = .ok (.iconst 0, 1) := by decide +kernel
theorem dX4_isLike_141 : decode cX4_isLike 141 = .ok (.iconst 0, 1) := by decide +kernel
theorem dX4_isLike_142 : decode cX4_isLike 142 = .ok (.invokevirtual 102, 3) := by decide +kernel
theorem dX4_isLike_145 : decode cX4_isLike 145 = .ok (.imul, 1) := by decide +kernel
theorem dX4_isLike_146 : decode cX4_isLike 146 = .ok (.if_icmp .ne 7, 3) := by decide +kernel
theorem dX4_isLike_149 : decode cX4_isLike 149 = .ok (.iconst 1, 1) := by decide +kernel
theorem dX4_isLike_150 : decode cX4_isLike 150 = .ok (.goto 4, 3) := by decide +kernel
theorem dX4_isLike_153 : decode cX4_isLike 153 = .ok (.iconst 0, 1) := by decide +kernel
theorem dX4_isLike_154 : decode cX4_isLike 154 = .ok (.istore 6, 2) := by decide +kernel
theorem dX4_isLike_156 : decode cX4_isLike 156 = .ok (.iinc 8 1, 3) := by decide +kernel
theorem dX4_isLike_159 : decode cX4_isLike 159 = .ok (.goto (-135), 3) := by decide +kernel
theorem dX4_isLike_162 : decode cX4_isLike 162 = .ok (.iinc 7 1, 3) := by decide +kernel
theorem dX4_isLike_165 : decode cX4_isLike 165 = .ok (.goto (-151), 3) := by decide +kernel
theorem dX4_isLike_168 : decode cX4_isLike 168 = .ok (.iload 6, 2) := by decide +kernel
theorem dX4_isLike_170 : decode cX4_isLike 170 = .ok (.ireturn, 1) := by decide +kernel
theorem dX4_order_0 : decode cX4_order 0 = .ok (.iload_n 0, 1) := by decide +kernel
theorem dX4_order_1 : decode cX4_order 1 = .ok (.iconst 2, 1) := by decide +kernel
theorem dX4_order_2 : decode cX4_order 2 = .ok (.iload_n 1, 1) := by decide +kernel
theorem dX4_order_3 : decode cX4_order 3 = .ok (.imul, 1) := by decide +kernel
theorem dX4_order_4 : decode cX4_order 4 = .ok (.ishr, 1) := by decide +kernel
theorem dX4_order_5 : decode cX4_order 5 = .ok (.iconst 3, 1) := by decide +kernel
theorem dX4_order_6 : decode cX4_order 6 = .ok (.iand, 1) := by decide +kernel
theorem dX4_order_7 : decode cX4_order 7 = .ok (.ireturn, 1) := by decide +kernel
theorem dX4_isOrder_0 : decode cX4_isOrder 0 = .ok (.iconst 0, 1) := by decide +kernel
theorem dX4_isOrder_1 : decode cX4_isOrder 1 = .ok (.istore_n 2, 1) := by decide +kernel
theorem dX4_isOrder_2 : decode cX4_isOrder 2 = .ok (.iconst 0, 1) := by decide +kernel
theorem dX4_isOrder_3 : decode cX4_isOrder 3 = .ok (.istore_n 3, 1) := by decide +kernel
theorem dX4_isOrder_4 : decode cX4_isOrder 4 = .ok (.iload_n 3, 1) := by decide +kernel
theorem dX4_isOrder_5 : decode cX4_isOrder 5 = .ok (.iload_n 1, 1) := by decide +kernel
theorem dX4_isOrder_6 : decode cX4_isOrder 6 = .ok (.if_icmp .ge 19, 3) := by decide +kernel
theorem dX4_isOrder_9 : decode cX4_isOrder 9 = .ok (.iload_n 2, 1) := by decide +kernel
theorem dX4_isOrder_10 : decode cX4_isOrder 10 = .ok (.iconst 1, 1) := by decide +kernel
theorem dX4_isOrder_11 : decode cX4_isOrder 11 = .ok (.iload_n 0, 1) := by decide +kernel
theorem dX4_isOrder_12 : decode cX4_isOrder 12 = .ok (.iload_n 3, 1) := by decide +kernel
theorem dX4_isOrder_13 : decode cX4_isOrder 13 = .ok (.invokestatic 214, 3) := by decide +kernel
theorem dX4_isOrder_16 : decode cX4_isOrder 16 = .ok (.ishl, 1) := by decide +kernel
theorem dX4_isOrder_17 : decode cX4_isOrder 17 = .ok (.ior, 1) := by decide +kernel
theorem dX4_isOrder_18 : decode cX4_isOrder 18 = .ok (.istore_n 2, 1) := by decide +kernel
theorem dX4_isOrder_19 : decode cX4_isOrder 19 = .ok (.iinc 3 1, 3) := by decide +kernel
theorem dX4_isOrder_22 : decode cX4_isOrder 22 = .ok (.goto (-18), 3) := by decide +kernel
theorem dX4_isOrder_25 : decode cX4_isOrder 25 = .ok (.iload_n 2, 1) := by decide +kernel
theorem dX4_isOrder_26 : decode cX4_isOrder 26 = .ok (.iconst 1, 1) := by decide +kernel
theorem dX4_isOrder_27 : decode cX4_isOrder 27 = .ok (.iload_n 1, 1) := by decide +kernel
theorem dX4_isOrder_28 : decode cX4_isOrder 28 = .ok (.ishl, 1) := by decide +kernel
theorem dX4_isOrder_29 : decode cX4_isOrder 29 = .ok (.iconst 1, 1) := by decide +kernel
theorem dX4_isOrder_30 : decode cX4_isOrder 30 = .ok (.isub, 1) := by decide +kernel
theorem dX4_isOrder_31 : decode cX4_isOrder 31 = .ok (.if_icmp .ne 7, 3) := by decide +kernel
theorem dX4_isOrder_34 : decode cX4_isOrder 34 = .ok (.iconst 1, 1) := by decide +kernel
theorem dX4_isOrder_35 : decode cX4_isOrder 35 = .ok (.goto 4, 3) := by decide +kernel
theorem dX4_isOrder_38 : decode cX4_isOrder 38 = .ok (.iconst 0, 1) := by decide +kernel
theorem dX4_isOrder_39 : decode cX4_isOrder 39 = .ok (.ireturn, 1) := by decide +kernel
theorem dX4_like_0 : decode cX4_like 0 = .ok (.aload_n 0, 1) := by decide +kernel
theorem dX4_like_1 : decode cX4_like 1 = .ok (.iload_n 1, 1) := by decide +kernel
theorem dX4_like_2 : decode cX4_like 2 = .ok (.iload_n 2, 1) := by decide +kernel
theorem dX4_like_3 : decode cX4_like 3 = .ok (.invokevirtual 207, 3) := by decide +kernel
theorem dX4_like_6 : decode cX4_like 6 = .ok (.istore_n 3, 1) := by decide +kernel
theorem dX4_like_7 : decode cX4_like 7 = .ok (.iload_n 3, 1) := by decide +kernel
theorem dX4_like_8 : decode cX4_like 8 = .ok (.ifCond .ge 5, 3) := by decide +kernel
theorem dX4_like_11 : decode cX4_like 11 = .ok (.iload_n 3, 1) := by decide +kernel
theorem dX4_like_12 : decode cX4_like 12 = .ok (.ireturn, 1) := by decide +kernel
theorem dX4_like_13 : decode cX4_like 13 = .ok (.aload_n 0, 1) := by decide +kernel
theorem dX4_like_14 : decode cX4_like 14 = .ok (.getfield 26, 3) := by decide +kernel
theorem dX4_like_17 : decode cX4_like 17 = .ok (.iload_n 1, 1) := by decide +kernel
theorem dX4_like_18 : decode cX4_like 18 = .ok (.iaload, 1) := by decide +kernel
theorem dX4_like_19 : decode cX4_like 19 = .ok (.istore 4, 2) := by decide +kernel
theorem dX4_like_21 : decode cX4_like 21 = .ok (.iload 4, 2) := by decide +kernel
theorem dX4_like_23 : decode cX4_like 23 = .ok (.iconst 4, 1) := by decide +kernel
theorem dX4_like_24 : decode cX4_like 24 = .ok (.if_icmp .le 9, 3) := by decide +kernel
theorem dX4_like_27 : decode cX4_like 27 = .ok (.aload_n 0, 1) := by decide +kernel
theorem dX4_like_28 : decode cX4_like 28 = .ok (.iconst 5, 1) := by decide +kernel
theorem dX4_like_29 : decode cX4_like 29 = .ok (.invokevirtual 81, 3) := by decide +kernel
theorem dX4_like_32 : decode cX4_like 32 = .ok (.ireturn, 1) := by decide +kernel
theorem dX4_like_33 : decode cX4_like 33 = .ok (.iconst 0, 1) := by decide +kernel
theorem dX4_like_34 : decode cX4_like 34 = .ok (.istore 5, 2) := by decide +kernel
theorem dX4_like_36 : decode cX4_like 36 = .ok (.iload 5, 2) := by decide +kernel
theorem dX4_like_38 : decode cX4_like 38 = .ok (.iconst 1, 1) := by decide +kernel
theorem dX4_like_39 : decode cX4_like 39 = .ok (.iconst 2, 1) := by decide +kernel
theorem dX4_like_40 : decode cX4_like 40 = .ok (.iload 4, 2) := by decide +kernel
theorem dX4_like_42 : decode cX4_like 42 = .ok (.imul, 1) := by decide +kernel
theorem dX4_like_43 : decode cX4_like 43 = .ok (.ishl, 1) := by decide +kernel
theorem dX4_like_44 : decode cX4_like 44 = .ok (.if_icmp .ge 64, 3) := by decide +kernel
theorem dX4_like_47 : decode cX4_like 47 = .ok (.iconst 0, 1) := by decide +kernel
theorem dX4_like_48 : decode cX4_like 48 = .ok (.istore 6, 2) := by decide +kernel
theorem dX4_like_50 : decode cX4_like 50 = .ok (.iload 6, 2) := by decide +kernel
theorem dX4_like_52 : decode cX4_like 52 = .ok (.iconst 1, 1) := by decide +kernel
theorem dX4_like_53 : decode cX4_like 53 = .ok (.iconst 2, 1) := by decide +kernel
theorem dX4_like_54 : decode cX4_like 54 = .ok (.iload 4, 2) := by decide +kernel
theorem dX4_like_56 : decode cX4_like 56 = .ok (.imul, 1) := by decide +kernel
theorem dX4_like_57 : decode cX4_like 57 = .ok (.ishl, 1) := by decide +kernel
theorem dX4_like_58 : decode cX4_like 58 = .ok (.if_icmp .ge 44, 3) := by decide +kernel
theorem dX4_like_61 : decode cX4_like 61 = .ok (.iload 5, 2) := by decide +kernel
theorem dX4_like_63 : decode cX4_like 63 = .ok (.iload 4, 2) := by decide +kernel
theorem dX4_like_65 : decode cX4_like 65 = .ok (.invokestatic 217, 3) := by decide +kernel
theorem dX4_like_68 : decode cX4_like 68 = .ok (.ifCond .eq 34, 3) := by decide +kernel
theorem dX4_like_71 : decode cX4_like 71 = .ok (.iload 6, 2) := by decide +kernel
theorem dX4_like_73 : decode cX4_like 73 = .ok (.iload 4, 2) := by decide +kernel
theorem dX4_like_75 : decode cX4_like 75 = .ok (.invokestatic 217, 3) := by decide +kernel
theorem dX4_like_78 : decode cX4_like 78 = .ok (.ifCond .eq 18, 3) := by decide +kernel
theorem dX4_like_81 : decode cX4_like 81 = .ok (.aload_n 0, 1) := by decide +kernel
theorem dX4_like_82 : decode cX4_like 82 = .ok (.iload_n 1, 1) := by decide +kernel
theorem dX4_like_83 : decode cX4_like 83 = .ok (.iload_n 2, 1) := by decide +kernel
theorem dX4_like_84 : decode cX4_like 84 = .ok (.iload 5, 2) := by decide +kernel
theorem dX4_like_86 : decode cX4_like 86 = .ok (.iload 6, 2) := by decide +kernel
theorem dX4_like_88 : decode cX4_like 88 = .ok (.invokevirtual 220, 3) := by decide +kernel
theorem dX4_like_91 : decode cX4_like 91 = .ok (.ifCond .eq 5, 3) := by decide +kernel
theorem dX4_like_94 : decode cX4_like 94 = .ok (.iconst 1, 1) := by decide +kernel
theorem dX4_like_95 : decode cX4_like 95 = .ok (.ireturn, 1) := by decide +kernel
theorem dX4_like_96 : decode cX4_like 96 = .ok (.iinc 6 1, 3) := by decide +kernel
theorem dX4_like_99 : decode cX4_like 99 = .ok (.goto (-49), 3) := by decide +kernel
theorem dX4_like_102 : decode cX4_like 102 = .ok (.iinc 5 1, 3) := by decide +kernel
theorem dX4_like_105 : decode cX4_like 105 = .ok (.goto (-69), 3) := by decide +kernel
theorem dX4_like_108 : decode cX4_like 108 = .ok (.iconst 0, 1) := by decide +kernel
theorem dX4_like_109 : decode cX4_like 109 = .ok (.ireturn, 1) := by decide +kernel
theorem dX4_turnedSum_0 : decode cX4_turnedSum 0 = .ok (.iconst 0, 1) := by decide +kernel
theorem dX4_turnedSum_1 : decode cX4_turnedSum 1 = .ok (.istore 4, 2) := by decide +kernel
theorem dX4_turnedSum_3 : decode cX4_turnedSum 3 = .ok (.iconst 0, 1) := by decide +kernel
theorem dX4_turnedSum_4 : decode cX4_turnedSum 4 = .ok (.istore 5, 2) := by decide +kernel
theorem dX4_turnedSum_6 : decode cX4_turnedSum 6 = .ok (.iload 5, 2) := by decide +kernel
theorem dX4_turnedSum_8 : decode cX4_turnedSum 8 = .ok (.aload_n 0, 1) := by decide +kernel
theorem dX4_turnedSum_9 : decode cX4_turnedSum 9 = .ok (.getfield 26, 3) := by decide +kernel
theorem dX4_turnedSum_12 : decode cX4_turnedSum 12 = .ok (.iload_n 1, 1) := by decide +kernel
theorem dX4_turnedSum_13 : decode cX4_turnedSum 13 = .ok (.iaload, 1) := by decide +kernel
theorem dX4_turnedSum_14 : decode cX4_turnedSum 14 = .ok (.if_icmp .ge 44, 3) := by decide +kernel
theorem dX4_turnedSum_17 : decode cX4_turnedSum 17 = .ok (.iload 4, 2) := by decide +kernel
theorem dX4_turnedSum_19 : decode cX4_turnedSum 19 = .ok (.iload_n 3, 1) := by decide +kernel
theorem dX4_turnedSum_20 : decode cX4_turnedSum 20 = .ok (.iload 5, 2) := by decide +kernel
theorem dX4_turnedSum_22 : decode cX4_turnedSum 22 = .ok (.ishr, 1) := by decide +kernel
theorem dX4_turnedSum_23 : decode cX4_turnedSum 23 = .ok (.iconst 1, 1) := by decide +kernel
theorem dX4_turnedSum_24 : decode cX4_turnedSum 24 = .ok (.iand, 1) := by decide +kernel
theorem dX4_turnedSum_25 : decode cX4_turnedSum 25 = .ok (.iconst 1, 1) := by decide +kernel
theorem dX4_turnedSum_26 : decode cX4_turnedSum 26 = .ok (.if_icmp .ne 15, 3) := by decide +kernel
theorem dX4_turnedSum_29 : decode cX4_turnedSum 29 = .ok (.aload_n 0, 1) := by decide +kernel
theorem dX4_turnedSum_30 : decode cX4_turnedSum 30 = .ok (.iload_n 1, 1) := by decide +kernel
theorem dX4_turnedSum_31 : decode cX4_turnedSum 31 = .ok (.iload_n 2, 1) := by decide +kernel
theorem dX4_turnedSum_32 : decode cX4_turnedSum 32 = .ok (.iload 5, 2) := by decide +kernel
theorem dX4_turnedSum_34 : decode cX4_turnedSum 34 = .ok (.invokevirtual 102, 3) := by decide +kernel
theorem dX4_turnedSum_37 : decode cX4_turnedSum 37 = .ok (.ineg, 1) := by decide +kernel
theorem dX4_turnedSum_38 : decode cX4_turnedSum 38 = .ok (.goto 11, 3) := by decide +kernel
theorem dX4_turnedSum_41 : decode cX4_turnedSum 41 = .ok (.aload_n 0, 1) := by decide +kernel
theorem dX4_turnedSum_42 : decode cX4_turnedSum 42 = .ok (.iload_n 1, 1) := by decide +kernel
theorem dX4_turnedSum_43 : decode cX4_turnedSum 43 = .ok (.iload_n 2, 1) := by decide +kernel
theorem dX4_turnedSum_44 : decode cX4_turnedSum 44 = .ok (.iload 5, 2) := by decide +kernel
theorem dX4_turnedSum_46 : decode cX4_turnedSum 46 = .ok (.invokevirtual 102, 3) := by decide +kernel
theorem dX4_turnedSum_49 : decode cX4_turnedSum 49 = .ok (.iadd, 1) := by decide +kernel
theorem dX4_turnedSum_50 : decode cX4_turnedSum 50 = .ok (.istore 4, 2) := by decide +kernel
theorem dX4_turnedSum_52 : decode cX4_turnedSum 52 = .ok (.iinc 5 1, 3) := by decide +kernel
theorem dX4_turnedSum_55 : decode cX4_turnedSum 55 = .ok (.goto (-49), 3) := by decide +kernel
theorem dX4_turnedSum_58 : decode cX4_turnedSum 58 = .ok (.iload 4, 2) := by decide +kernel
theorem dX4_turnedSum_60 : decode cX4_turnedSum 60 = .ok (.invokestatic 177, 3) := by decide +kernel
theorem dX4_turnedSum_63 : decode cX4_turnedSum 63 = .ok (.ireturn, 1) := by decide +kernel
theorem dX4_excess_0 : decode cX4_excess 0 = .ok (.aload_n 0, 1) := by decide +kernel
theorem dX4_excess_1 : decode cX4_excess 1 = .ok (.iload_n 1, 1) := by decide +kernel
theorem dX4_excess_2 : decode cX4_excess 2 = .ok (.invokevirtual 143, 3) := by decide +kernel
theorem dX4_excess_5 : decode cX4_excess 5 = .ok (.istore_n 2, 1) := by decide +kernel
theorem dX4_excess_6 : decode cX4_excess 6 = .ok (.iload_n 2, 1) := by decide +kernel
theorem dX4_excess_7 : decode cX4_excess 7 = .ok (.ifCond .ge 5, 3) := by decide +kernel
theorem dX4_excess_10 : decode cX4_excess 10 = .ok (.iload_n 2, 1) := by decide +kernel
theorem dX4_excess_11 : decode cX4_excess 11 = .ok (.ireturn, 1) := by decide +kernel
theorem dX4_excess_12 : decode cX4_excess 12 = .ok (.bipush (-9), 2) := by decide +kernel
theorem dX4_excess_14 : decode cX4_excess 14 = .ok (.istore_n 3, 1) := by decide +kernel
theorem dX4_excess_15 : decode cX4_excess 15 = .ok (.iconst 0, 1) := by decide +kernel
theorem dX4_excess_16 : decode cX4_excess 16 = .ok (.istore 4, 2) := by decide +kernel
theorem dX4_excess_18 : decode cX4_excess 18 = .ok (.iconst 0, 1) := by decide +kernel
theorem dX4_excess_19 : decode cX4_excess 19 = .ok (.istore 5, 2) := by decide +kernel
theorem dX4_excess_21 : decode cX4_excess 21 = .ok (.iload 5, 2) := by decide +kernel
theorem dX4_excess_23 : decode cX4_excess 23 = .ok (.iconst 1, 1) := by decide +kernel
theorem dX4_excess_24 : decode cX4_excess 24 = .ok (.aload_n 0, 1) := by decide +kernel
theorem dX4_excess_25 : decode cX4_excess 25 = .ok (.getfield 26, 3) := by decide +kernel
theorem dX4_excess_28 : decode cX4_excess 28 = .ok (.iload_n 1, 1) := by decide +kernel
theorem dX4_excess_29 : decode cX4_excess 29 = .ok (.iaload, 1) := by decide +kernel
theorem dX4_excess_30 : decode cX4_excess 30 = .ok (.ishl, 1) := by decide +kernel
theorem dX4_excess_31 : decode cX4_excess 31 = .ok (.if_icmp .ge 64, 3) := by decide +kernel
theorem dX4_excess_34 : decode cX4_excess 34 = .ok (.iconst 0, 1) := by decide +kernel
theorem dX4_excess_35 : decode cX4_excess 35 = .ok (.istore 6, 2) := by decide +kernel
theorem dX4_excess_37 : decode cX4_excess 37 = .ok (.iconst 0, 1) := by decide +kernel
theorem dX4_excess_38 : decode cX4_excess 38 = .ok (.istore 7, 2) := by decide +kernel
theorem dX4_excess_40 : decode cX4_excess 40 = .ok (.iload 7, 2) := by decide +kernel
theorem dX4_excess_42 : decode cX4_excess 42 = .ok (.aload_n 0, 1) := by decide +kernel
theorem dX4_excess_43 : decode cX4_excess 43 = .ok (.getfield 26, 3) := by decide +kernel
theorem dX4_excess_46 : decode cX4_excess 46 = .ok (.iload_n 1, 1) := by decide +kernel
theorem dX4_excess_47 : decode cX4_excess 47 = .ok (.iaload, 1) := by decide +kernel
theorem dX4_excess_48 : decode cX4_excess 48 = .ok (.if_icmp .ge 23, 3) := by decide +kernel
theorem dX4_excess_51 : decode cX4_excess 51 = .ok (.iload 6, 2) := by decide +kernel
theorem dX4_excess_53 : decode cX4_excess 53 = .ok (.aload_n 0, 1) := by decide +kernel
theorem dX4_excess_54 : decode cX4_excess 54 = .ok (.iload_n 1, 1) := by decide +kernel
theorem dX4_excess_55 : decode cX4_excess 55 = .ok (.iload 7, 2) := by decide +kernel
theorem dX4_excess_57 : decode cX4_excess 57 = .ok (.iload 5, 2) := by decide +kernel
theorem dX4_excess_59 : decode cX4_excess 59 = .ok (.invokevirtual 224, 3) := by decide +kernel
theorem dX4_excess_62 : decode cX4_excess 62 = .ok (.iadd, 1) := by decide +kernel
theorem dX4_excess_63 : decode cX4_excess 63 = .ok (.istore 6, 2) := by decide +kernel
theorem dX4_excess_65 : decode cX4_excess 65 = .ok (.iinc 7 1, 3) := by decide +kernel
theorem dX4_excess_68 : decode cX4_excess 68 = .ok (.goto (-28), 3) := by decide +kernel
theorem dX4_excess_71 : decode cX4_excess 71 = .ok (.iload_n 3, 1) := by decide +kernel
theorem dX4_excess_72 : decode cX4_excess 72 = .ok (.ifCond .lt 10, 3) := by decide +kernel
theorem dX4_excess_75 : decode cX4_excess 75 = .ok (.iload 6, 2) := by decide +kernel
theorem dX4_excess_77 : decode cX4_excess 77 = .ok (.iload 4, 2) := by decide +kernel
theorem dX4_excess_79 : decode cX4_excess 79 = .ok (.if_icmp .le 10, 3) := by decide +kernel
theorem dX4_excess_82 : decode cX4_excess 82 = .ok (.iload 5, 2) := by decide +kernel
theorem dX4_excess_84 : decode cX4_excess 84 = .ok (.istore_n 3, 1) := by decide +kernel
theorem dX4_excess_85 : decode cX4_excess 85 = .ok (.iload 6, 2) := by decide +kernel
theorem dX4_excess_87 : decode cX4_excess 87 = .ok (.istore 4, 2) := by decide +kernel
theorem dX4_excess_89 : decode cX4_excess 89 = .ok (.iinc 5 1, 3) := by decide +kernel
theorem dX4_excess_92 : decode cX4_excess 92 = .ok (.goto (-71), 3) := by decide +kernel
theorem dX4_excess_95 : decode cX4_excess 95 = .ok (.aload_n 0, 1) := by decide +kernel
theorem dX4_excess_96 : decode cX4_excess 96 = .ok (.iload_n 3, 1) := by decide +kernel
theorem dX4_excess_97 : decode cX4_excess 97 = .ok (.iload 4, 2) := by decide +kernel
theorem dX4_excess_99 : decode cX4_excess 99 = .ok (.invokevirtual 92, 3) := by decide +kernel
theorem dX4_excess_102 : decode cX4_excess 102 = .ok (.ireturn, 1) := by decide +kernel
theorem dX4_peak_0 : decode cX4_peak 0 = .ok (.aload_n 0, 1) := by decide +kernel
theorem dX4_peak_1 : decode cX4_peak 1 = .ok (.iload_n 1, 1) := by decide +kernel
theorem dX4_peak_2 : decode cX4_peak 2 = .ok (.invokevirtual 143, 3) := by decide +kernel
theorem dX4_peak_5 : decode cX4_peak 5 = .ok (.istore_n 2, 1) := by decide +kernel
theorem dX4_peak_6 : decode cX4_peak 6 = .ok (.iload_n 2, 1) := by decide +kernel
theorem dX4_peak_7 : decode cX4_peak 7 = .ok (.ifCond .ge 5, 3) := by decide +kernel
theorem dX4_peak_10 : decode cX4_peak 10 = .ok (.iload_n 2, 1) := by decide +kernel
theorem dX4_peak_11 : decode cX4_peak 11 = .ok (.ireturn, 1) := by decide +kernel
theorem dX4_peak_12 : decode cX4_peak 12 = .ok (.bipush (-9), 2) := by decide +kernel
theorem dX4_peak_14 : decode cX4_peak 14 = .ok (.istore_n 3, 1) := by decide +kernel
theorem dX4_peak_15 : decode cX4_peak 15 = .ok (.iconst 0, 1) := by decide +kernel
theorem dX4_peak_16 : decode cX4_peak 16 = .ok (.istore 4, 2) := by decide +kernel
theorem dX4_peak_18 : decode cX4_peak 18 = .ok (.iconst 0, 1) := by decide +kernel
theorem dX4_peak_19 : decode cX4_peak 19 = .ok (.istore 5, 2) := by decide +kernel
theorem dX4_peak_21 : decode cX4_peak 21 = .ok (.iload 5, 2) := by decide +kernel
theorem dX4_peak_23 : decode cX4_peak 23 = .ok (.iconst 1, 1) := by decide +kernel
theorem dX4_peak_24 : decode cX4_peak 24 = .ok (.aload_n 0, 1) := by decide +kernel
theorem dX4_peak_25 : decode cX4_peak 25 = .ok (.getfield 26, 3) := by decide +kernel
theorem dX4_peak_28 : decode cX4_peak 28 = .ok (.iload_n 1, 1) := by decide +kernel
theorem dX4_peak_29 : decode cX4_peak 29 = .ok (.iaload, 1) := by decide +kernel
theorem dX4_peak_30 : decode cX4_peak 30 = .ok (.ishl, 1) := by decide +kernel
theorem dX4_peak_31 : decode cX4_peak 31 = .ok (.if_icmp .ge 77, 3) := by decide +kernel
theorem dX4_peak_34 : decode cX4_peak 34 = .ok (.iconst 0, 1) := by decide +kernel
theorem dX4_peak_35 : decode cX4_peak 35 = .ok (.istore 6, 2) := by decide +kernel
theorem dX4_peak_37 : decode cX4_peak 37 = .ok (.iconst 0, 1) := by decide +kernel
theorem dX4_peak_38 : decode cX4_peak 38 = .ok (.istore 7, 2) := by decide +kernel
theorem dX4_peak_40 : decode cX4_peak 40 = .ok (.iload 7, 2) := by decide +kernel
theorem dX4_peak_42 : decode cX4_peak 42 = .ok (.aload_n 0, 1) := by decide +kernel
theorem dX4_peak_43 : decode cX4_peak 43 = .ok (.getfield 26, 3) := by decide +kernel
theorem dX4_peak_46 : decode cX4_peak 46 = .ok (.iload_n 1, 1) := by decide +kernel
theorem dX4_peak_47 : decode cX4_peak 47 = .ok (.iaload, 1) := by decide +kernel
theorem dX4_peak_48 : decode cX4_peak 48 = .ok (.if_icmp .ge 36, 3) := by decide +kernel
theorem dX4_peak_51 : decode cX4_peak 51 = .ok (.aload_n 0, 1) := by decide +kernel
theorem dX4_peak_52 : decode cX4_peak 52 = .ok (.iload_n 1, 1) := by decide +kernel
theorem dX4_peak_53 : decode cX4_peak 53 = .ok (.iload 7, 2) := by decide +kernel
theorem dX4_peak_55 : decode cX4_peak 55 = .ok (.iload 5, 2) := by decide +kernel
theorem dX4_peak_57 : decode cX4_peak 57 = .ok (.invokevirtual 224, 3) := by decide +kernel
theorem dX4_peak_60 : decode cX4_peak 60 = .ok (.istore 8, 2) := by decide +kernel
theorem dX4_peak_62 : decode cX4_peak 62 = .ok (.iload 8, 2) := by decide +kernel
theorem dX4_peak_64 : decode cX4_peak 64 = .ok (.iload 6, 2) := by decide +kernel
theorem dX4_peak_66 : decode cX4_peak 66 = .ok (.if_icmp .le 8, 3) := by decide +kernel
theorem dX4_peak_69 : decode cX4_peak 69 = .ok (.iload 8, 2) := by decide +kernel
theorem dX4_peak_71 : decode cX4_peak 71 = .ok (.goto 5, 3) := by decide +kernel
theorem dX4_peak_74 : decode cX4_peak 74 = .ok (.iload 6, 2) := by decide +kernel
theorem dX4_peak_76 : decode cX4_peak 76 = .ok (.istore 6, 2) := by decide +kernel
theorem dX4_peak_78 : decode cX4_peak 78 = .ok (.iinc 7 1, 3) := by decide +kernel
theorem dX4_peak_81 : decode cX4_peak 81 = .ok (.goto (-41), 3) := by decide +kernel
theorem dX4_peak_84 : decode cX4_peak 84 = .ok (.iload_n 3, 1) := by decide +kernel
theorem dX4_peak_85 : decode cX4_peak 85 = .ok (.ifCond .lt 10, 3) := by decide +kernel
theorem dX4_peak_88 : decode cX4_peak 88 = .ok (.iload 6, 2) := by decide +kernel
theorem dX4_peak_90 : decode cX4_peak 90 = .ok (.iload 4, 2) := by decide +kernel
theorem dX4_peak_92 : decode cX4_peak 92 = .ok (.if_icmp .ge 10, 3) := by decide +kernel
theorem dX4_peak_95 : decode cX4_peak 95 = .ok (.iload 5, 2) := by decide +kernel
theorem dX4_peak_97 : decode cX4_peak 97 = .ok (.istore_n 3, 1) := by decide +kernel
theorem dX4_peak_98 : decode cX4_peak 98 = .ok (.iload 6, 2) := by decide +kernel
theorem dX4_peak_100 : decode cX4_peak 100 = .ok (.istore 4, 2) := by decide +kernel
theorem dX4_peak_102 : decode cX4_peak 102 = .ok (.iinc 5 1, 3) := by decide +kernel
theorem dX4_peak_105 : decode cX4_peak 105 = .ok (.goto (-84), 3) := by decide +kernel
theorem dX4_peak_108 : decode cX4_peak 108 = .ok (.aload_n 0, 1) := by decide +kernel
theorem dX4_peak_109 : decode cX4_peak 109 = .ok (.iload_n 3, 1) := by decide +kernel
theorem dX4_peak_110 : decode cX4_peak 110 = .ok (.iload 4, 2) := by decide +kernel
theorem dX4_peak_112 : decode cX4_peak 112 = .ok (.invokevirtual 92, 3) := by decide +kernel
theorem dX4_peak_115 : decode cX4_peak 115 = .ok (.ireturn, 1) := by decide +kernel
theorem dX4_block_0 : decode cX4_block 0 = .ok (.aload_n 0, 1) := by decide +kernel
theorem dX4_block_1 : decode cX4_block 1 = .ok (.iload_n 1, 1) := by decide +kernel
theorem dX4_block_2 : decode cX4_block 2 = .ok (.invokevirtual 143, 3) := by decide +kernel
theorem dX4_block_5 : decode cX4_block 5 = .ok (.istore_n 3, 1) := by decide +kernel
theorem dX4_block_6 : decode cX4_block 6 = .ok (.iload_n 3, 1) := by decide +kernel
theorem dX4_block_7 : decode cX4_block 7 = .ok (.ifCond .ge 5, 3) := by decide +kernel
theorem dX4_block_10 : decode cX4_block 10 = .ok (.iload_n 3, 1) := by decide +kernel
theorem dX4_block_11 : decode cX4_block 11 = .ok (.ireturn, 1) := by decide +kernel
theorem dX4_block_12 : decode cX4_block 12 = .ok (.aload_n 0, 1) := by decide +kernel
theorem dX4_block_13 : decode cX4_block 13 = .ok (.iload_n 1, 1) := by decide +kernel
theorem dX4_block_14 : decode cX4_block 14 = .ok (.iconst 1, 1) := by decide +kernel
theorem dX4_block_15 : decode cX4_block 15 = .ok (.invokevirtual 155, 3) := by decide +kernel
theorem dX4_block_18 : decode cX4_block 18 = .ok (.ifCond .ne 9, 3) := by decide +kernel
theorem dX4_block_21 : decode cX4_block 21 = .ok (.aload_n 0, 1) := by decide +kernel
theorem dX4_block_22 : decode cX4_block 22 = .ok (.iconst 3, 1) := by decide +kernel
theorem dX4_block_23 : decode cX4_block 23 = .ok (.invokevirtual 81, 3) := by decide +kernel
theorem dX4_block_26 : decode cX4_block 26 = .ok (.ireturn, 1) := by decide +kernel
theorem dX4_block_27 : decode cX4_block 27 = .ok (.aload_n 0, 1) := by decide +kernel
theorem dX4_block_28 : decode cX4_block 28 = .ok (.getfield 26, 3) := by decide +kernel
theorem dX4_block_31 : decode cX4_block 31 = .ok (.iload_n 1, 1) := by decide +kernel
theorem dX4_block_32 : decode cX4_block 32 = .ok (.iaload, 1) := by decide +kernel
theorem dX4_block_33 : decode cX4_block 33 = .ok (.istore 4, 2) := by decide +kernel
theorem dX4_block_35 : decode cX4_block 35 = .ok (.iload 4, 2) := by decide +kernel
theorem dX4_block_37 : decode cX4_block 37 = .ok (.iconst 4, 1) := by decide +kernel
theorem dX4_block_38 : decode cX4_block 38 = .ok (.if_icmp .ge 9, 3) := by decide +kernel
theorem dX4_block_41 : decode cX4_block 41 = .ok (.aload_n 0, 1) := by decide +kernel
theorem dX4_block_42 : decode cX4_block 42 = .ok (.iconst 5, 1) := by decide +kernel
theorem dX4_block_43 : decode cX4_block 43 = .ok (.invokevirtual 81, 3) := by decide +kernel
theorem dX4_block_46 : decode cX4_block 46 = .ok (.ireturn, 1) := by decide +kernel
theorem dX4_block_47 : decode cX4_block 47 = .ok (.iload_n 2, 1) := by decide +kernel
theorem dX4_block_48 : decode cX4_block 48 = .ok (.iconst 0, 1) := by decide +kernel
theorem dX4_block_49 : decode cX4_block 49 = .ok (.iload 4, 2) := by decide +kernel
theorem dX4_block_51 : decode cX4_block 51 = .ok (.iconst 2, 1) := by decide +kernel
theorem dX4_block_52 : decode cX4_block 52 = .ok (.isub, 1) := by decide +kernel
theorem dX4_block_53 : decode cX4_block 53 = .ok (.invokestatic 73, 3) := by decide +kernel
theorem dX4_block_56 : decode cX4_block 56 = .ok (.ifCond .ne 9, 3) := by decide +kernel
theorem dX4_block_59 : decode cX4_block 59 = .ok (.aload_n 0, 1) := by decide +kernel
theorem dX4_block_60 : decode cX4_block 60 = .ok (.iconst 2, 1) := by decide +kernel
theorem dX4_block_61 : decode cX4_block 61 = .ok (.invokevirtual 81, 3) := by decide +kernel
theorem dX4_block_64 : decode cX4_block 64 = .ok (.ireturn, 1) := by decide +kernel
theorem dX4_block_65 : decode cX4_block 65 = .ok (.iconst 0, 1) := by decide +kernel
theorem dX4_block_66 : decode cX4_block 66 = .ok (.istore 5, 2) := by decide +kernel
theorem dX4_block_68 : decode cX4_block 68 = .ok (.iconst 1, 1) := by decide +kernel
theorem dX4_block_69 : decode cX4_block 69 = .ok (.istore 6, 2) := by decide +kernel
theorem dX4_block_71 : decode cX4_block 71 = .ok (.iload 6, 2) := by decide +kernel
theorem dX4_block_73 : decode cX4_block 73 = .ok (.iload 4, 2) := by decide +kernel
theorem dX4_block_75 : decode cX4_block 75 = .ok (.if_icmp .ge 69, 3) := by decide +kernel
theorem dX4_block_78 : decode cX4_block 78 = .ok (.aload_n 0, 1) := by decide +kernel
theorem dX4_block_79 : decode cX4_block 79 = .ok (.iload_n 1, 1) := by decide +kernel
theorem dX4_block_80 : decode cX4_block 80 = .ok (.iload_n 2, 1) := by decide +kernel
theorem dX4_block_81 : decode cX4_block 81 = .ok (.iconst 1, 1) := by decide +kernel
theorem dX4_block_82 : decode cX4_block 82 = .ok (.iadd, 1) := by decide +kernel
theorem dX4_block_83 : decode cX4_block 83 = .ok (.iload 6, 2) := by decide +kernel
theorem dX4_block_85 : decode cX4_block 85 = .ok (.invokevirtual 102, 3) := by decide +kernel
theorem dX4_block_88 : decode cX4_block 88 = .ok (.aload_n 0, 1) := by decide +kernel
theorem dX4_block_89 : decode cX4_block 89 = .ok (.iload_n 1, 1) := by decide +kernel
theorem dX4_block_90 : decode cX4_block 90 = .ok (.iconst 0, 1) := by decide +kernel
theorem dX4_block_91 : decode cX4_block 91 = .ok (.iload 6, 2) := by decide +kernel
theorem dX4_block_93 : decode cX4_block 93 = .ok (.invokevirtual 102, 3) := by decide +kernel
theorem dX4_block_96 : decode cX4_block 96 = .ok (.imul, 1) := by decide +kernel
theorem dX4_block_97 : decode cX4_block 97 = .ok (.aload_n 0, 1) := by decide +kernel
theorem dX4_block_98 : decode cX4_block 98 = .ok (.iload_n 1, 1) := by decide +kernel
theorem dX4_block_99 : decode cX4_block 99 = .ok (.iload_n 2, 1) := by decide +kernel
theorem dX4_block_100 : decode cX4_block 100 = .ok (.iconst 1, 1) := by decide +kernel
theorem dX4_block_101 : decode cX4_block 101 = .ok (.iadd, 1) := by decide +kernel
theorem dX4_block_102 : decode cX4_block 102 = .ok (.iconst 0, 1) := by decide +kernel
theorem dX4_block_103 : decode cX4_block 103 = .ok (.invokevirtual 102, 3) := by decide +kernel
theorem dX4_block_106 : decode cX4_block 106 = .ok (.imul, 1) := by decide +kernel
theorem dX4_block_107 : decode cX4_block 107 = .ok (.aload_n 0, 1) := by decide +kernel
theorem dX4_block_108 : decode cX4_block 108 = .ok (.iload_n 1, 1) := by decide +kernel
theorem dX4_block_109 : decode cX4_block 109 = .ok (.iconst 0, 1) := by decide +kernel
theorem dX4_block_110 : decode cX4_block 110 = .ok (.iconst 0, 1) := by decide +kernel
theorem dX4_block_111 : decode cX4_block 111 = .ok (.invokevirtual 102, 3) := by decide +kernel
theorem dX4_block_114 : decode cX4_block 114 = .ok (.imul, 1) := by decide +kernel
theorem dX4_block_115 : decode cX4_block 115 = .ok (.istore 7, 2) := by decide +kernel
theorem dX4_block_117 : decode cX4_block 117 = .ok (.iload 5, 2) := by decide +kernel
theorem dX4_block_119 : decode cX4_block 119 = .ok (.iload 7, 2) := by decide +kernel
theorem dX4_block_121 : decode cX4_block 121 = .ok (.iconst 1, 1) := by decide +kernel
theorem dX4_block_122 : decode cX4_block 122 = .ok (.if_icmp .ne 12, 3) := by decide +kernel
theorem dX4_block_125 : decode cX4_block 125 = .ok (.iconst 1, 1) := by decide +kernel
theorem dX4_block_126 : decode cX4_block 126 = .ok (.iload 6, 2) := by decide +kernel
theorem dX4_block_128 : decode cX4_block 128 = .ok (.iconst 1, 1) := by decide +kernel
theorem dX4_block_129 : decode cX4_block 129 = .ok (.isub, 1) := by decide +kernel
theorem dX4_block_130 : decode cX4_block 130 = .ok (.ishl, 1) := by decide +kernel
theorem dX4_block_131 : decode cX4_block 131 = .ok (.goto 4, 3) := by decide +kernel
theorem dX4_block_134 : decode cX4_block 134 = .ok (.iconst 0, 1) := by decide +kernel
theorem dX4_block_135 : decode cX4_block 135 = .ok (.ior, 1) := by decide +kernel
theorem dX4_block_136 : decode cX4_block 136 = .ok (.istore 5, 2) := by decide +kernel
theorem dX4_block_138 : decode cX4_block 138 = .ok (.iinc 6 1, 3) := by decide +kernel
theorem dX4_block_141 : decode cX4_block 141 = .ok (.goto (-70), 3) := by decide +kernel
theorem dX4_block_144 : decode cX4_block 144 = .ok (.iload 5, 2) := by decide +kernel
theorem dX4_block_146 : decode cX4_block 146 = .ok (.ireturn, 1) := by decide +kernel
theorem dX4_plainEcho_0 : decode cX4_plainEcho 0 = .ok (.iconst 0, 1) := by decide +kernel
theorem dX4_plainEcho_1 : decode cX4_plainEcho 1 = .ok (.istore_n 3, 1) := by decide +kernel
theorem dX4_plainEcho_2 : decode cX4_plainEcho 2 = .ok (.iconst 0, 1) := by decide +kernel
theorem dX4_plainEcho_3 : decode cX4_plainEcho 3 = .ok (.istore 4, 2) := by decide +kernel
theorem dX4_plainEcho_5 : decode cX4_plainEcho 5 = .ok (.iload 4, 2) := by decide +kernel
theorem dX4_plainEcho_7 : decode cX4_plainEcho 7 = .ok (.iload_n 2, 1) := by decide +kernel
theorem dX4_plainEcho_8 : decode cX4_plainEcho 8 = .ok (.iadd, 1) := by decide +kernel
theorem dX4_plainEcho_9 : decode cX4_plainEcho 9 = .ok (.aload_n 0, 1) := by decide +kernel
theorem dX4_plainEcho_10 : decode cX4_plainEcho 10 = .ok (.getfield 17, 3) := by decide +kernel
theorem dX4_plainEcho_13 : decode cX4_plainEcho 13 = .ok (.iload_n 1, 1) := by decide +kernel
theorem dX4_plainEcho_14 : decode cX4_plainEcho 14 = .ok (.iaload, 1) := by decide +kernel
theorem dX4_plainEcho_15 : decode cX4_plainEcho 15 = .ok (.if_icmp .ge 39, 3) := by decide +kernel
theorem dX4_plainEcho_18 : decode cX4_plainEcho 18 = .ok (.iload_n 3, 1) := by decide +kernel
theorem dX4_plainEcho_19 : decode cX4_plainEcho 19 = .ok (.aload_n 0, 1) := by decide +kernel
theorem dX4_plainEcho_20 : decode cX4_plainEcho 20 = .ok (.getfield 20, 3) := by decide +kernel
theorem dX4_plainEcho_23 : decode cX4_plainEcho 23 = .ok (.bipush 24, 2) := by decide +kernel
theorem dX4_plainEcho_25 : decode cX4_plainEcho 25 = .ok (.iload_n 1, 1) := by decide +kernel
theorem dX4_plainEcho_26 : decode cX4_plainEcho 26 = .ok (.imul, 1) := by decide +kernel
theorem dX4_plainEcho_27 : decode cX4_plainEcho 27 = .ok (.iload 4, 2) := by decide +kernel
theorem dX4_plainEcho_29 : decode cX4_plainEcho 29 = .ok (.iadd, 1) := by decide +kernel
theorem dX4_plainEcho_30 : decode cX4_plainEcho 30 = .ok (.iaload, 1) := by decide +kernel
theorem dX4_plainEcho_31 : decode cX4_plainEcho 31 = .ok (.aload_n 0, 1) := by decide +kernel
theorem dX4_plainEcho_32 : decode cX4_plainEcho 32 = .ok (.getfield 20, 3) := by decide +kernel
theorem dX4_plainEcho_35 : decode cX4_plainEcho 35 = .ok (.bipush 24, 2) := by decide +kernel
theorem dX4_plainEcho_37 : decode cX4_plainEcho 37 = .ok (.iload_n 1, 1) := by decide +kernel
theorem dX4_plainEcho_38 : decode cX4_plainEcho 38 = .ok (.imul, 1) := by decide +kernel
theorem dX4_plainEcho_39 : decode cX4_plainEcho 39 = .ok (.iload 4, 2) := by decide +kernel
theorem dX4_plainEcho_41 : decode cX4_plainEcho 41 = .ok (.iadd, 1) := by decide +kernel
theorem dX4_plainEcho_42 : decode cX4_plainEcho 42 = .ok (.iload_n 2, 1) := by decide +kernel
theorem dX4_plainEcho_43 : decode cX4_plainEcho 43 = .ok (.iadd, 1) := by decide +kernel
theorem dX4_plainEcho_44 : decode cX4_plainEcho 44 = .ok (.iaload, 1) := by decide +kernel
theorem dX4_plainEcho_45 : decode cX4_plainEcho 45 = .ok (.imul, 1) := by decide +kernel
theorem dX4_plainEcho_46 : decode cX4_plainEcho 46 = .ok (.iadd, 1) := by decide +kernel
theorem dX4_plainEcho_47 : decode cX4_plainEcho 47 = .ok (.istore_n 3, 1) := by decide +kernel
theorem dX4_plainEcho_48 : decode cX4_plainEcho 48 = .ok (.iinc 4 1, 3) := by decide +kernel
theorem dX4_plainEcho_51 : decode cX4_plainEcho 51 = .ok (.goto (-46), 3) := by decide +kernel
theorem dX4_plainEcho_54 : decode cX4_plainEcho 54 = .ok (.iload_n 3, 1) := by decide +kernel
theorem dX4_plainEcho_55 : decode cX4_plainEcho 55 = .ok (.ireturn, 1) := by decide +kernel
theorem dX4_askedSigns_0 : decode cX4_askedSigns 0 = .ok (.aload_n 0, 1) := by decide +kernel
theorem dX4_askedSigns_1 : decode cX4_askedSigns 1 = .ok (.iload_n 1, 1) := by decide +kernel
theorem dX4_askedSigns_2 : decode cX4_askedSigns 2 = .ok (.invokevirtual 89, 3) := by decide +kernel
theorem dX4_askedSigns_5 : decode cX4_askedSigns 5 = .ok (.istore_n 2, 1) := by decide +kernel
theorem dX4_askedSigns_6 : decode cX4_askedSigns 6 = .ok (.iload_n 2, 1) := by decide +kernel
theorem dX4_askedSigns_7 : decode cX4_askedSigns 7 = .ok (.ifCond .ge 7, 3) := by decide +kernel
theorem dX4_askedSigns_10 : decode cX4_askedSigns 10 = .ok (.iload_n 2, 1) := by decide +kernel
theorem dX4_askedSigns_11 : decode cX4_askedSigns 11 = .ok (.goto 37, 3) := by decide +kernel
theorem dX4_askedSigns_14 : decode cX4_askedSigns 14 = .ok (.aload_n 0, 1) := by decide +kernel
theorem dX4_askedSigns_15 : decode cX4_askedSigns 15 = .ok (.getfield 17, 3) := by decide +kernel
theorem dX4_askedSigns_18 : decode cX4_askedSigns 18 = .ok (.iload_n 1, 1) := by decide +kernel
theorem dX4_askedSigns_19 : decode cX4_askedSigns 19 = .ok (.iaload, 1) := by decide +kernel
theorem dX4_askedSigns_20 : decode cX4_askedSigns 20 = .ok (.ifCond .ne 11, 3) := by decide +kernel
theorem dX4_askedSigns_23 : decode cX4_askedSigns 23 = .ok (.aload_n 0, 1) := by decide +kernel
theorem dX4_askedSigns_24 : decode cX4_askedSigns 24 = .ok (.iconst 5, 1) := by decide +kernel
theorem dX4_askedSigns_25 : decode cX4_askedSigns 25 = .ok (.invokevirtual 81, 3) := by decide +kernel
theorem dX4_askedSigns_28 : decode cX4_askedSigns 28 = .ok (.goto 20, 3) := by decide +kernel
theorem dX4_askedSigns_31 : decode cX4_askedSigns 31 = .ok (.aload_n 0, 1) := by decide +kernel
theorem dX4_askedSigns_32 : decode cX4_askedSigns 32 = .ok (.iload_n 1, 1) := by decide +kernel
theorem dX4_askedSigns_33 : decode cX4_askedSigns 33 = .ok (.invokevirtual 168, 3) := by decide +kernel
theorem dX4_askedSigns_36 : decode cX4_askedSigns 36 = .ok (.ifCond .eq 7, 3) := by decide +kernel
theorem dX4_askedSigns_39 : decode cX4_askedSigns 39 = .ok (.iconst 0, 1) := by decide +kernel
theorem dX4_askedSigns_40 : decode cX4_askedSigns 40 = .ok (.goto 8, 3) := by decide +kernel
theorem dX4_askedSigns_43 : decode cX4_askedSigns 43 = .ok (.aload_n 0, 1) := by decide +kernel
theorem dX4_askedSigns_44 : decode cX4_askedSigns 44 = .ok (.iconst 3, 1) := by decide +kernel
theorem dX4_askedSigns_45 : decode cX4_askedSigns 45 = .ok (.invokevirtual 81, 3) := by decide +kernel
theorem dX4_askedSigns_48 : decode cX4_askedSigns 48 = .ok (.ireturn, 1) := by decide +kernel
theorem dX4_echo_0 : decode cX4_echo 0 = .ok (.aload_n 0, 1) := by decide +kernel
theorem dX4_echo_1 : decode cX4_echo 1 = .ok (.iload_n 1, 1) := by decide +kernel
theorem dX4_echo_2 : decode cX4_echo 2 = .ok (.invokevirtual 227, 3) := by decide +kernel
theorem dX4_echo_5 : decode cX4_echo 5 = .ok (.istore 4, 2) := by decide +kernel
theorem dX4_echo_7 : decode cX4_echo 7 = .ok (.iload 4, 2) := by decide +kernel
theorem dX4_echo_9 : decode cX4_echo 9 = .ok (.ifCond .ge 6, 3) := by decide +kernel
theorem dX4_echo_12 : decode cX4_echo 12 = .ok (.iload 4, 2) := by decide +kernel
theorem dX4_echo_14 : decode cX4_echo 14 = .ok (.ireturn, 1) := by decide +kernel
theorem dX4_echo_15 : decode cX4_echo 15 = .ok (.iload_n 2, 1) := by decide +kernel
theorem dX4_echo_16 : decode cX4_echo 16 = .ok (.iconst 0, 1) := by decide +kernel
theorem dX4_echo_17 : decode cX4_echo 17 = .ok (.aload_n 0, 1) := by decide +kernel
theorem dX4_echo_18 : decode cX4_echo 18 = .ok (.getfield 17, 3) := by decide +kernel
theorem dX4_echo_21 : decode cX4_echo 21 = .ok (.iload_n 1, 1) := by decide +kernel
theorem dX4_echo_22 : decode cX4_echo 22 = .ok (.iaload, 1) := by decide +kernel
theorem dX4_echo_23 : decode cX4_echo 23 = .ok (.iconst 1, 1) := by decide +kernel
theorem dX4_echo_24 : decode cX4_echo 24 = .ok (.isub, 1) := by decide +kernel
theorem dX4_echo_25 : decode cX4_echo 25 = .ok (.invokestatic 73, 3) := by decide +kernel
theorem dX4_echo_28 : decode cX4_echo 28 = .ok (.ifCond .ne 11, 3) := by decide +kernel
theorem dX4_echo_31 : decode cX4_echo 31 = .ok (.aload_n 0, 1) := by decide +kernel
theorem dX4_echo_32 : decode cX4_echo 32 = .ok (.iconst 2, 1) := by decide +kernel
theorem dX4_echo_33 : decode cX4_echo 33 = .ok (.invokevirtual 81, 3) := by decide +kernel
theorem dX4_echo_36 : decode cX4_echo 36 = .ok (.goto 27, 3) := by decide +kernel
theorem dX4_echo_39 : decode cX4_echo 39 = .ok (.aload_n 0, 1) := by decide +kernel
theorem dX4_echo_40 : decode cX4_echo 40 = .ok (.iload_n 3, 1) := by decide +kernel
theorem dX4_echo_41 : decode cX4_echo 41 = .ok (.ifCond .eq 12, 3) := by decide +kernel
theorem dX4_echo_44 : decode cX4_echo 44 = .ok (.aload_n 0, 1) := by decide +kernel
theorem dX4_echo_45 : decode cX4_echo 45 = .ok (.iload_n 1, 1) := by decide +kernel
theorem dX4_echo_46 : decode cX4_echo 46 = .ok (.iload_n 2, 1) := by decide +kernel
theorem dX4_echo_47 : decode cX4_echo 47 = .ok (.invokevirtual 171, 3) := by decide +kernel
theorem dX4_echo_50 : decode cX4_echo 50 = .ok (.goto 9, 3) := by decide +kernel
theorem dX4_echo_53 : decode cX4_echo 53 = .ok (.aload_n 0, 1) := by decide +kernel
theorem dX4_echo_54 : decode cX4_echo 54 = .ok (.iload_n 1, 1) := by decide +kernel
theorem dX4_echo_55 : decode cX4_echo 55 = .ok (.iload_n 2, 1) := by decide +kernel
theorem dX4_echo_56 : decode cX4_echo 56 = .ok (.invokevirtual 230, 3) := by decide +kernel
theorem dX4_echo_59 : decode cX4_echo 59 = .ok (.iconst 1, 1) := by decide +kernel
theorem dX4_echo_60 : decode cX4_echo 60 = .ok (.invokevirtual 92, 3) := by decide +kernel
theorem dX4_echo_63 : decode cX4_echo 63 = .ok (.ireturn, 1) := by decide +kernel
theorem dX4_side_0 : decode cX4_side 0 = .ok (.aload_n 0, 1) := by decide +kernel
theorem dX4_side_1 : decode cX4_side 1 = .ok (.iload_n 1, 1) := by decide +kernel
theorem dX4_side_2 : decode cX4_side 2 = .ok (.invokevirtual 227, 3) := by decide +kernel
theorem dX4_side_5 : decode cX4_side 5 = .ok (.istore_n 2, 1) := by decide +kernel
theorem dX4_side_6 : decode cX4_side 6 = .ok (.iload_n 2, 1) := by decide +kernel
theorem dX4_side_7 : decode cX4_side 7 = .ok (.ifCond .ge 5, 3) := by decide +kernel
theorem dX4_side_10 : decode cX4_side 10 = .ok (.iload_n 2, 1) := by decide +kernel
theorem dX4_side_11 : decode cX4_side 11 = .ok (.ireturn, 1) := by decide +kernel
theorem dX4_side_12 : decode cX4_side 12 = .ok (.iconst 0, 1) := by decide +kernel
theorem dX4_side_13 : decode cX4_side 13 = .ok (.istore_n 3, 1) := by decide +kernel
theorem dX4_side_14 : decode cX4_side 14 = .ok (.iconst 1, 1) := by decide +kernel
theorem dX4_side_15 : decode cX4_side 15 = .ok (.istore 4, 2) := by decide +kernel
theorem dX4_side_17 : decode cX4_side 17 = .ok (.iload 4, 2) := by decide +kernel
theorem dX4_side_19 : decode cX4_side 19 = .ok (.aload_n 0, 1) := by decide +kernel
theorem dX4_side_20 : decode cX4_side 20 = .ok (.getfield 17, 3) := by decide +kernel
theorem dX4_side_23 : decode cX4_side 23 = .ok (.iload_n 1, 1) := by decide +kernel
theorem dX4_side_24 : decode cX4_side 24 = .ok (.iaload, 1) := by decide +kernel
theorem dX4_side_25 : decode cX4_side 25 = .ok (.if_icmp .ge 34, 3) := by decide +kernel
theorem dX4_side_28 : decode cX4_side 28 = .ok (.aload_n 0, 1) := by decide +kernel
theorem dX4_side_29 : decode cX4_side 29 = .ok (.iload_n 1, 1) := by decide +kernel
theorem dX4_side_30 : decode cX4_side 30 = .ok (.iload 4, 2) := by decide +kernel
theorem dX4_side_32 : decode cX4_side 32 = .ok (.invokevirtual 230, 3) := by decide +kernel
theorem dX4_side_35 : decode cX4_side 35 = .ok (.invokestatic 177, 3) := by decide +kernel
theorem dX4_side_38 : decode cX4_side 38 = .ok (.istore 5, 2) := by decide +kernel
theorem dX4_side_40 : decode cX4_side 40 = .ok (.iload 5, 2) := by decide +kernel
theorem dX4_side_42 : decode cX4_side 42 = .ok (.iload_n 3, 1) := by decide +kernel
theorem dX4_side_43 : decode cX4_side 43 = .ok (.if_icmp .le 8, 3) := by decide +kernel
theorem dX4_side_46 : decode cX4_side 46 = .ok (.iload 5, 2) := by decide +kernel
theorem dX4_side_48 : decode cX4_side 48 = .ok (.goto 4, 3) := by decide +kernel
theorem dX4_side_51 : decode cX4_side 51 = .ok (.iload_n 3, 1) := by decide +kernel
theorem dX4_side_52 : decode cX4_side 52 = .ok (.istore_n 3, 1) := by decide +kernel
theorem dX4_side_53 : decode cX4_side 53 = .ok (.iinc 4 1, 3) := by decide +kernel
theorem dX4_side_56 : decode cX4_side 56 = .ok (.goto (-39), 3) := by decide +kernel
theorem dX4_side_59 : decode cX4_side 59 = .ok (.iload_n 3, 1) := by decide +kernel
theorem dX4_side_60 : decode cX4_side 60 = .ok (.ireturn, 1) := by decide +kernel
theorem dX4_areZero_0 : decode cX4_areZero 0 = .ok (.iconst 1, 1) := by decide +kernel
theorem dX4_areZero_1 : decode cX4_areZero 1 = .ok (.istore 4, 2) := by decide +kernel
theorem dX4_areZero_3 : decode cX4_areZero 3 = .ok (.iconst 1, 1) := by decide +kernel
theorem dX4_areZero_4 : decode cX4_areZero 4 = .ok (.istore 5, 2) := by decide +kernel
theorem dX4_areZero_6 : decode cX4_areZero 6 = .ok (.iload 5, 2) := by decide +kernel
theorem dX4_areZero_8 : decode cX4_areZero 8 = .ok (.aload_n 0, 1) := by decide +kernel
theorem dX4_areZero_9 : decode cX4_areZero 9 = .ok (.getfield 17, 3) := by decide +kernel
theorem dX4_areZero_12 : decode cX4_areZero 12 = .ok (.iload_n 1, 1) := by decide +kernel
theorem dX4_areZero_13 : decode cX4_areZero 13 = .ok (.iaload, 1) := by decide +kernel
theorem dX4_areZero_14 : decode cX4_areZero 14 = .ok (.if_icmp .ge 61, 3) := by decide +kernel
theorem dX4_areZero_17 : decode cX4_areZero 17 = .ok (.iload 4, 2) := by decide +kernel
theorem dX4_areZero_19 : decode cX4_areZero 19 = .ok (.ifCond .eq 47, 3) := by decide +kernel
theorem dX4_areZero_22 : decode cX4_areZero 22 = .ok (.iload_n 3, 1) := by decide +kernel
theorem dX4_areZero_23 : decode cX4_areZero 23 = .ok (.ifCond .eq 21, 3) := by decide +kernel
theorem dX4_areZero_26 : decode cX4_areZero 26 = .ok (.aload_n 0, 1) := by decide +kernel
theorem dX4_areZero_27 : decode cX4_areZero 27 = .ok (.iload_n 1, 1) := by decide +kernel
theorem dX4_areZero_28 : decode cX4_areZero 28 = .ok (.iload 5, 2) := by decide +kernel
theorem dX4_areZero_30 : decode cX4_areZero 30 = .ok (.invokevirtual 171, 3) := by decide +kernel
theorem dX4_areZero_33 : decode cX4_areZero 33 = .ok (.aload_n 0, 1) := by decide +kernel
theorem dX4_areZero_34 : decode cX4_areZero 34 = .ok (.iload_n 2, 1) := by decide +kernel
theorem dX4_areZero_35 : decode cX4_areZero 35 = .ok (.iload 5, 2) := by decide +kernel
theorem dX4_areZero_37 : decode cX4_areZero 37 = .ok (.invokevirtual 171, 3) := by decide +kernel
theorem dX4_areZero_40 : decode cX4_areZero 40 = .ok (.iadd, 1) := by decide +kernel
theorem dX4_areZero_41 : decode cX4_areZero 41 = .ok (.goto 18, 3) := by decide +kernel
theorem dX4_areZero_44 : decode cX4_areZero 44 = .ok (.aload_n 0, 1) := by decide +kernel
theorem dX4_areZero_45 : decode cX4_areZero 45 = .ok (.iload_n 1, 1) := by decide +kernel
theorem dX4_areZero_46 : decode cX4_areZero 46 = .ok (.iload 5, 2) := by decide +kernel
theorem dX4_areZero_48 : decode cX4_areZero 48 = .ok (.invokevirtual 230, 3) := by decide +kernel
theorem dX4_areZero_51 : decode cX4_areZero 51 = .ok (.aload_n 0, 1) := by decide +kernel
theorem dX4_areZero_52 : decode cX4_areZero 52 = .ok (.iload_n 2, 1) := by decide +kernel
theorem dX4_areZero_53 : decode cX4_areZero 53 = .ok (.iload 5, 2) := by decide +kernel
theorem dX4_areZero_55 : decode cX4_areZero 55 = .ok (.invokevirtual 230, 3) := by decide +kernel
theorem dX4_areZero_58 : decode cX4_areZero 58 = .ok (.iadd, 1) := by decide +kernel
theorem dX4_areZero_59 : decode cX4_areZero 59 = .ok (.ifCond .ne 7, 3) := by decide +kernel
theorem dX4_areZero_62 : decode cX4_areZero 62 = .ok (.iconst 1, 1) := by decide +kernel
theorem dX4_areZero_63 : decode cX4_areZero 63 = .ok (.goto 4, 3) := by decide +kernel
theorem dX4_areZero_66 : decode cX4_areZero 66 = .ok (.iconst 0, 1) := by decide +kernel
theorem dX4_areZero_67 : decode cX4_areZero 67 = .ok (.istore 4, 2) := by decide +kernel
theorem dX4_areZero_69 : decode cX4_areZero 69 = .ok (.iinc 5 1, 3) := by decide +kernel
theorem dX4_areZero_72 : decode cX4_areZero 72 = .ok (.goto (-66), 3) := by decide +kernel
theorem dX4_areZero_75 : decode cX4_areZero 75 = .ok (.iload 4, 2) := by decide +kernel
theorem dX4_areZero_77 : decode cX4_areZero 77 = .ok (.ireturn, 1) := by decide +kernel
theorem dX4_askedPair_0 : decode cX4_askedPair 0 = .ok (.iload_n 1, 1) := by decide +kernel
theorem dX4_askedPair_1 : decode cX4_askedPair 1 = .ok (.invokestatic 77, 3) := by decide +kernel
theorem dX4_askedPair_4 : decode cX4_askedPair 4 = .ok (.ifCond .eq 10, 3) := by decide +kernel
theorem dX4_askedPair_7 : decode cX4_askedPair 7 = .ok (.iload_n 2, 1) := by decide +kernel
theorem dX4_askedPair_8 : decode cX4_askedPair 8 = .ok (.invokestatic 77, 3) := by decide +kernel
theorem dX4_askedPair_11 : decode cX4_askedPair 11 = .ok (.ifCond .ne 5, 3) := by decide +kernel
theorem dX4_askedPair_14 : decode cX4_askedPair 14 = .ok (.iconst (-1), 1) := by decide +kernel
theorem dX4_askedPair_15 : decode cX4_askedPair 15 = .ok (.ireturn, 1) := by decide +kernel
theorem dX4_askedPair_16 : decode cX4_askedPair 16 = .ok (.aload_n 0, 1) := by decide +kernel
theorem dX4_askedPair_17 : decode cX4_askedPair 17 = .ok (.getfield 17, 3) := by decide +kernel
theorem dX4_askedPair_20 : decode cX4_askedPair 20 = .ok (.iload_n 1, 1) := by decide +kernel
theorem dX4_askedPair_21 : decode cX4_askedPair 21 = .ok (.iaload, 1) := by decide +kernel
theorem dX4_askedPair_22 : decode cX4_askedPair 22 = .ok (.ifCond .lt 12, 3) := by decide +kernel
theorem dX4_askedPair_25 : decode cX4_askedPair 25 = .ok (.aload_n 0, 1) := by decide +kernel
theorem dX4_askedPair_26 : decode cX4_askedPair 26 = .ok (.getfield 17, 3) := by decide +kernel
theorem dX4_askedPair_29 : decode cX4_askedPair 29 = .ok (.iload_n 2, 1) := by decide +kernel
theorem dX4_askedPair_30 : decode cX4_askedPair 30 = .ok (.iaload, 1) := by decide +kernel
theorem dX4_askedPair_31 : decode cX4_askedPair 31 = .ok (.ifCond .ge 9, 3) := by decide +kernel
theorem dX4_askedPair_34 : decode cX4_askedPair 34 = .ok (.aload_n 0, 1) := by decide +kernel
theorem dX4_askedPair_35 : decode cX4_askedPair 35 = .ok (.iconst 1, 1) := by decide +kernel
theorem dX4_askedPair_36 : decode cX4_askedPair 36 = .ok (.invokevirtual 81, 3) := by decide +kernel
theorem dX4_askedPair_39 : decode cX4_askedPair 39 = .ok (.ireturn, 1) := by decide +kernel
theorem dX4_askedPair_40 : decode cX4_askedPair 40 = .ok (.aload_n 0, 1) := by decide +kernel
theorem dX4_askedPair_41 : decode cX4_askedPair 41 = .ok (.getfield 17, 3) := by decide +kernel
theorem dX4_askedPair_44 : decode cX4_askedPair 44 = .ok (.iload_n 1, 1) := by decide +kernel
theorem dX4_askedPair_45 : decode cX4_askedPair 45 = .ok (.iaload, 1) := by decide +kernel
theorem dX4_askedPair_46 : decode cX4_askedPair 46 = .ok (.ifCond .eq 28, 3) := by decide +kernel
theorem dX4_askedPair_49 : decode cX4_askedPair 49 = .ok (.aload_n 0, 1) := by decide +kernel
theorem dX4_askedPair_50 : decode cX4_askedPair 50 = .ok (.getfield 17, 3) := by decide +kernel
theorem dX4_askedPair_53 : decode cX4_askedPair 53 = .ok (.iload_n 1, 1) := by decide +kernel
theorem dX4_askedPair_54 : decode cX4_askedPair 54 = .ok (.iaload, 1) := by decide +kernel
theorem dX4_askedPair_55 : decode cX4_askedPair 55 = .ok (.aload_n 0, 1) := by decide +kernel
theorem dX4_askedPair_56 : decode cX4_askedPair 56 = .ok (.getfield 17, 3) := by decide +kernel
theorem dX4_askedPair_59 : decode cX4_askedPair 59 = .ok (.iload_n 2, 1) := by decide +kernel
theorem dX4_askedPair_60 : decode cX4_askedPair 60 = .ok (.iaload, 1) := by decide +kernel
theorem dX4_askedPair_61 : decode cX4_askedPair 61 = .ok (.if_icmp .ne 13, 3) := by decide +kernel
theorem dX4_askedPair_64 : decode cX4_askedPair 64 = .ok (.aload_n 0, 1) := by decide +kernel
theorem dX4_askedPair_65 : decode cX4_askedPair 65 = .ok (.getfield 17, 3) := by decide +kernel
theorem dX4_askedPair_68 : decode cX4_askedPair 68 = .ok (.iload_n 1, 1) := by decide +kernel
theorem dX4_askedPair_69 : decode cX4_askedPair 69 = .ok (.iaload, 1) := by decide +kernel
theorem dX4_askedPair_70 : decode cX4_askedPair 70 = .ok (.iload_n 3, 1) := by decide +kernel
theorem dX4_askedPair_71 : decode cX4_askedPair 71 = .ok (.if_icmp .le 9, 3) := by decide +kernel
theorem dX4_askedPair_74 : decode cX4_askedPair 74 = .ok (.aload_n 0, 1) := by decide +kernel
theorem dX4_askedPair_75 : decode cX4_askedPair 75 = .ok (.iconst 5, 1) := by decide +kernel
theorem dX4_askedPair_76 : decode cX4_askedPair 76 = .ok (.invokevirtual 81, 3) := by decide +kernel
theorem dX4_askedPair_79 : decode cX4_askedPair 79 = .ok (.ireturn, 1) := by decide +kernel
theorem dX4_askedPair_80 : decode cX4_askedPair 80 = .ok (.aload_n 0, 1) := by decide +kernel
theorem dX4_askedPair_81 : decode cX4_askedPair 81 = .ok (.iload_n 1, 1) := by decide +kernel
theorem dX4_askedPair_82 : decode cX4_askedPair 82 = .ok (.invokevirtual 168, 3) := by decide +kernel
theorem dX4_askedPair_85 : decode cX4_askedPair 85 = .ok (.ifCond .eq 15, 3) := by decide +kernel
theorem dX4_askedPair_88 : decode cX4_askedPair 88 = .ok (.aload_n 0, 1) := by decide +kernel
theorem dX4_askedPair_89 : decode cX4_askedPair 89 = .ok (.iload_n 2, 1) := by decide +kernel
theorem dX4_askedPair_90 : decode cX4_askedPair 90 = .ok (.invokevirtual 168, 3) := by decide +kernel
theorem dX4_askedPair_93 : decode cX4_askedPair 93 = .ok (.ifCond .eq 7, 3) := by decide +kernel
theorem dX4_askedPair_96 : decode cX4_askedPair 96 = .ok (.iconst 0, 1) := by decide +kernel
theorem dX4_askedPair_97 : decode cX4_askedPair 97 = .ok (.goto 8, 3) := by decide +kernel
theorem dX4_askedPair_100 : decode cX4_askedPair 100 = .ok (.aload_n 0, 1) := by decide +kernel
theorem dX4_askedPair_101 : decode cX4_askedPair 101 = .ok (.iconst 3, 1) := by decide +kernel
theorem dX4_askedPair_102 : decode cX4_askedPair 102 = .ok (.invokevirtual 81, 3) := by decide +kernel
theorem dX4_askedPair_105 : decode cX4_askedPair 105 = .ok (.ireturn, 1) := by decide +kernel
theorem dX4_cancels_0 : decode cX4_cancels 0 = .ok (.aload_n 0, 1) := by decide +kernel
theorem dX4_cancels_1 : decode cX4_cancels 1 = .ok (.iload_n 1, 1) := by decide +kernel
theorem dX4_cancels_2 : decode cX4_cancels 2 = .ok (.iload_n 2, 1) := by decide +kernel
theorem dX4_cancels_3 : decode cX4_cancels 3 = .ok (.bipush 24, 2) := by decide +kernel
theorem dX4_cancels_5 : decode cX4_cancels 5 = .ok (.invokevirtual 233, 3) := by decide +kernel
theorem dX4_cancels_8 : decode cX4_cancels 8 = .ok (.istore 4, 2) := by decide +kernel
theorem dX4_cancels_10 : decode cX4_cancels 10 = .ok (.iload 4, 2) := by decide +kernel
theorem dX4_cancels_12 : decode cX4_cancels 12 = .ok (.ifCond .ge 8, 3) := by decide +kernel
theorem dX4_cancels_15 : decode cX4_cancels 15 = .ok (.iload 4, 2) := by decide +kernel
theorem dX4_cancels_17 : decode cX4_cancels 17 = .ok (.goto 18, 3) := by decide +kernel
theorem dX4_cancels_20 : decode cX4_cancels 20 = .ok (.aload_n 0, 1) := by decide +kernel
theorem dX4_cancels_21 : decode cX4_cancels 21 = .ok (.iload_n 1, 1) := by decide +kernel
theorem dX4_cancels_22 : decode cX4_cancels 22 = .ok (.iload_n 2, 1) := by decide +kernel
theorem dX4_cancels_23 : decode cX4_cancels 23 = .ok (.iload_n 3, 1) := by decide +kernel
theorem dX4_cancels_24 : decode cX4_cancels 24 = .ok (.invokevirtual 236, 3) := by decide +kernel
theorem dX4_cancels_27 : decode cX4_cancels 27 = .ok (.ifCond .eq 7, 3) := by decide +kernel
theorem dX4_cancels_30 : decode cX4_cancels 30 = .ok (.iconst 1, 1) := by decide +kernel
theorem dX4_cancels_31 : decode cX4_cancels 31 = .ok (.goto 4, 3) := by decide +kernel
theorem dX4_cancels_34 : decode cX4_cancels 34 = .ok (.iconst 0, 1) := by decide +kernel
theorem dX4_cancels_35 : decode cX4_cancels 35 = .ok (.ireturn, 1) := by decide +kernel
theorem dX4_sign_0 : decode cX4_sign 0 = .ok (.iload_n 0, 1) := by decide +kernel
theorem dX4_sign_1 : decode cX4_sign 1 = .ok (.iload_n 1, 1) := by decide +kernel
theorem dX4_sign_2 : decode cX4_sign 2 = .ok (.ishr, 1) := by decide +kernel
theorem dX4_sign_3 : decode cX4_sign 3 = .ok (.iconst 1, 1) := by decide +kernel
theorem dX4_sign_4 : decode cX4_sign 4 = .ok (.iand, 1) := by decide +kernel
theorem dX4_sign_5 : decode cX4_sign 5 = .ok (.iconst 1, 1) := by decide +kernel
theorem dX4_sign_6 : decode cX4_sign 6 = .ok (.if_icmp .ne 7, 3) := by decide +kernel
theorem dX4_sign_9 : decode cX4_sign 9 = .ok (.iconst (-1), 1) := by decide +kernel
theorem dX4_sign_10 : decode cX4_sign 10 = .ok (.goto 4, 3) := by decide +kernel
theorem dX4_sign_13 : decode cX4_sign 13 = .ok (.iconst 1, 1) := by decide +kernel
theorem dX4_sign_14 : decode cX4_sign 14 = .ok (.ireturn, 1) := by decide +kernel
theorem dX4_echoOf_0 : decode cX4_echoOf 0 = .ok (.iconst 0, 1) := by decide +kernel
theorem dX4_echoOf_1 : decode cX4_echoOf 1 = .ok (.istore_n 3, 1) := by decide +kernel
theorem dX4_echoOf_2 : decode cX4_echoOf 2 = .ok (.iconst 0, 1) := by decide +kernel
theorem dX4_echoOf_3 : decode cX4_echoOf 3 = .ok (.istore 4, 2) := by decide +kernel
theorem dX4_echoOf_5 : decode cX4_echoOf 5 = .ok (.iload 4, 2) := by decide +kernel
theorem dX4_echoOf_7 : decode cX4_echoOf 7 = .ok (.iload_n 2, 1) := by decide +kernel
theorem dX4_echoOf_8 : decode cX4_echoOf 8 = .ok (.iadd, 1) := by decide +kernel
theorem dX4_echoOf_9 : decode cX4_echoOf 9 = .ok (.iload_n 1, 1) := by decide +kernel
theorem dX4_echoOf_10 : decode cX4_echoOf 10 = .ok (.if_icmp .ge 27, 3) := by decide +kernel
theorem dX4_echoOf_13 : decode cX4_echoOf 13 = .ok (.iload_n 3, 1) := by decide +kernel
theorem dX4_echoOf_14 : decode cX4_echoOf 14 = .ok (.iload_n 0, 1) := by decide +kernel
theorem dX4_echoOf_15 : decode cX4_echoOf 15 = .ok (.iload 4, 2) := by decide +kernel
theorem dX4_echoOf_17 : decode cX4_echoOf 17 = .ok (.invokestatic 240, 3) := by decide +kernel
theorem dX4_echoOf_20 : decode cX4_echoOf 20 = .ok (.iload_n 0, 1) := by decide +kernel
theorem dX4_echoOf_21 : decode cX4_echoOf 21 = .ok (.iload 4, 2) := by decide +kernel
theorem dX4_echoOf_23 : decode cX4_echoOf 23 = .ok (.iload_n 2, 1) := by decide +kernel
theorem dX4_echoOf_24 : decode cX4_echoOf 24 = .ok (.iadd, 1) := by decide +kernel
theorem dX4_echoOf_25 : decode cX4_echoOf 25 = .ok (.invokestatic 240, 3) := by decide +kernel
theorem dX4_echoOf_28 : decode cX4_echoOf 28 = .ok (.imul, 1) := by decide +kernel
theorem dX4_echoOf_29 : decode cX4_echoOf 29 = .ok (.iadd, 1) := by decide +kernel
theorem dX4_echoOf_30 : decode cX4_echoOf 30 = .ok (.istore_n 3, 1) := by decide +kernel
theorem dX4_echoOf_31 : decode cX4_echoOf 31 = .ok (.iinc 4 1, 3) := by decide +kernel
theorem dX4_echoOf_34 : decode cX4_echoOf 34 = .ok (.goto (-29), 3) := by decide +kernel
theorem dX4_echoOf_37 : decode cX4_echoOf 37 = .ok (.iload_n 3, 1) := by decide +kernel
theorem dX4_echoOf_38 : decode cX4_echoOf 38 = .ok (.ireturn, 1) := by decide +kernel
theorem dX4_pairs_0 : decode cX4_pairs 0 = .ok (.iload_n 1, 1) := by decide +kernel
theorem dX4_pairs_1 : decode cX4_pairs 1 = .ok (.iconst 1, 1) := by decide +kernel
theorem dX4_pairs_2 : decode cX4_pairs 2 = .ok (.bipush 8, 2) := by decide +kernel
theorem dX4_pairs_4 : decode cX4_pairs 4 = .ok (.invokestatic 73, 3) := by decide +kernel
theorem dX4_pairs_7 : decode cX4_pairs 7 = .ok (.ifCond .ne 5, 3) := by decide +kernel
theorem dX4_pairs_10 : decode cX4_pairs 10 = .ok (.iconst (-1), 1) := by decide +kernel
theorem dX4_pairs_11 : decode cX4_pairs 11 = .ok (.ireturn, 1) := by decide +kernel
theorem dX4_pairs_12 : decode cX4_pairs 12 = .ok (.iconst 0, 1) := by decide +kernel
theorem dX4_pairs_13 : decode cX4_pairs 13 = .ok (.istore_n 2, 1) := by decide +kernel
theorem dX4_pairs_14 : decode cX4_pairs 14 = .ok (.iload_n 2, 1) := by decide +kernel
theorem dX4_pairs_15 : decode cX4_pairs 15 = .ok (.iconst 1, 1) := by decide +kernel
theorem dX4_pairs_16 : decode cX4_pairs 16 = .ok (.iload_n 1, 1) := by decide +kernel
theorem dX4_pairs_17 : decode cX4_pairs 17 = .ok (.ishl, 1) := by decide +kernel
theorem dX4_pairs_18 : decode cX4_pairs 18 = .ok (.if_icmp .ge 39, 3) := by decide +kernel
theorem dX4_pairs_21 : decode cX4_pairs 21 = .ok (.iconst 1, 1) := by decide +kernel
theorem dX4_pairs_22 : decode cX4_pairs 22 = .ok (.istore_n 3, 1) := by decide +kernel
theorem dX4_pairs_23 : decode cX4_pairs 23 = .ok (.iload_n 3, 1) := by decide +kernel
theorem dX4_pairs_24 : decode cX4_pairs 24 = .ok (.iload_n 1, 1) := by decide +kernel
theorem dX4_pairs_25 : decode cX4_pairs 25 = .ok (.if_icmp .ge 26, 3) := by decide +kernel
theorem dX4_pairs_28 : decode cX4_pairs 28 = .ok (.aload_n 0, 1) := by decide +kernel
theorem dX4_pairs_29 : decode cX4_pairs 29 = .ok (.getfield 51, 3) := by decide +kernel
theorem dX4_pairs_32 : decode cX4_pairs 32 = .ok (.bipush 8, 2) := by decide +kernel
theorem dX4_pairs_34 : decode cX4_pairs 34 = .ok (.iload_n 2, 1) := by decide +kernel
theorem dX4_pairs_35 : decode cX4_pairs 35 = .ok (.imul, 1) := by decide +kernel
theorem dX4_pairs_36 : decode cX4_pairs 36 = .ok (.iload_n 3, 1) := by decide +kernel
theorem dX4_pairs_37 : decode cX4_pairs 37 = .ok (.iadd, 1) := by decide +kernel
theorem dX4_pairs_38 : decode cX4_pairs 38 = .ok (.iload_n 2, 1) := by decide +kernel
theorem dX4_pairs_39 : decode cX4_pairs 39 = .ok (.iload_n 1, 1) := by decide +kernel
theorem dX4_pairs_40 : decode cX4_pairs 40 = .ok (.iload_n 3, 1) := by decide +kernel
theorem dX4_pairs_41 : decode cX4_pairs 41 = .ok (.invokestatic 243, 3) := by decide +kernel
theorem dX4_pairs_44 : decode cX4_pairs 44 = .ok (.iastore, 1) := by decide +kernel
theorem dX4_pairs_45 : decode cX4_pairs 45 = .ok (.iinc 3 1, 3) := by decide +kernel
theorem dX4_pairs_48 : decode cX4_pairs 48 = .ok (.goto (-25), 3) := by decide +kernel
theorem dX4_pairs_51 : decode cX4_pairs 51 = .ok (.iinc 2 1, 3) := by decide +kernel
theorem dX4_pairs_54 : decode cX4_pairs 54 = .ok (.goto (-40), 3) := by decide +kernel
theorem dX4_pairs_57 : decode cX4_pairs 57 = .ok (.iconst 0, 1) := by decide +kernel
theorem dX4_pairs_58 : decode cX4_pairs 58 = .ok (.istore_n 2, 1) := by decide +kernel
theorem dX4_pairs_59 : decode cX4_pairs 59 = .ok (.iconst 0, 1) := by decide +kernel
theorem dX4_pairs_60 : decode cX4_pairs 60 = .ok (.istore_n 3, 1) := by decide +kernel
theorem dX4_pairs_61 : decode cX4_pairs 61 = .ok (.iload_n 3, 1) := by decide +kernel
theorem dX4_pairs_62 : decode cX4_pairs 62 = .ok (.iconst 1, 1) := by decide +kernel
theorem dX4_pairs_63 : decode cX4_pairs 63 = .ok (.iload_n 1, 1) := by decide +kernel
theorem dX4_pairs_64 : decode cX4_pairs 64 = .ok (.ishl, 1) := by decide +kernel
theorem dX4_pairs_65 : decode cX4_pairs 65 = .ok (.if_icmp .ge 98, 3) := by decide +kernel
theorem dX4_pairs_68 : decode cX4_pairs 68 = .ok (.iconst 0, 1) := by decide +kernel
theorem dX4_pairs_69 : decode cX4_pairs 69 = .ok (.istore 4, 2) := by decide +kernel
theorem dX4_pairs_71 : decode cX4_pairs 71 = .ok (.iload 4, 2) := by decide +kernel
theorem dX4_pairs_73 : decode cX4_pairs 73 = .ok (.iconst 1, 1) := by decide +kernel
theorem dX4_pairs_74 : decode cX4_pairs 74 = .ok (.iload_n 1, 1) := by decide +kernel
theorem dX4_pairs_75 : decode cX4_pairs 75 = .ok (.ishl, 1) := by decide +kernel
theorem dX4_pairs_76 : decode cX4_pairs 76 = .ok (.if_icmp .ge 81, 3) := by decide +kernel
theorem dX4_pairs_79 : decode cX4_pairs 79 = .ok (.iconst 1, 1) := by decide +kernel
theorem dX4_pairs_80 : decode cX4_pairs 80 = .ok (.istore 5, 2) := by decide +kernel
theorem dX4_pairs_82 : decode cX4_pairs 82 = .ok (.iconst 1, 1) := by decide +kernel
theorem dX4_pairs_83 : decode cX4_pairs 83 = .ok (.istore 6, 2) := by decide +kernel
theorem dX4_pairs_85 : decode cX4_pairs 85 = .ok (.iload 6, 2) := by decide +kernel
theorem dX4_pairs_87 : decode cX4_pairs 87 = .ok (.iload_n 1, 1) := by decide +kernel
theorem dX4_pairs_88 : decode cX4_pairs 88 = .ok (.if_icmp .ge 50, 3) := by decide +kernel
theorem dX4_pairs_91 : decode cX4_pairs 91 = .ok (.iload 5, 2) := by decide +kernel
theorem dX4_pairs_93 : decode cX4_pairs 93 = .ok (.ifCond .eq 45, 3) := by decide +kernel
theorem dX4_pairs_96 : decode cX4_pairs 96 = .ok (.aload_n 0, 1) := by decide +kernel
theorem dX4_pairs_97 : decode cX4_pairs 97 = .ok (.getfield 51, 3) := by decide +kernel
theorem dX4_pairs_100 : decode cX4_pairs 100 = .ok (.bipush 8, 2) := by decide +kernel
theorem dX4_pairs_102 : decode cX4_pairs 102 = .ok (.iload_n 3, 1) := by decide +kernel
theorem dX4_pairs_103 : decode cX4_pairs 103 = .ok (.imul, 1) := by decide +kernel
theorem dX4_pairs_104 : decode cX4_pairs 104 = .ok (.iload 6, 2) := by decide +kernel
theorem dX4_pairs_106 : decode cX4_pairs 106 = .ok (.iadd, 1) := by decide +kernel
theorem dX4_pairs_107 : decode cX4_pairs 107 = .ok (.iaload, 1) := by decide +kernel
theorem dX4_pairs_108 : decode cX4_pairs 108 = .ok (.aload_n 0, 1) := by decide +kernel
theorem dX4_pairs_109 : decode cX4_pairs 109 = .ok (.getfield 51, 3) := by decide +kernel
theorem dX4_pairs_112 : decode cX4_pairs 112 = .ok (.bipush 8, 2) := by decide +kernel
theorem dX4_pairs_114 : decode cX4_pairs 114 = .ok (.iload 4, 2) := by decide +kernel
theorem dX4_pairs_116 : decode cX4_pairs 116 = .ok (.imul, 1) := by decide +kernel
theorem dX4_pairs_117 : decode cX4_pairs 117 = .ok (.iload 6, 2) := by decide +kernel
theorem dX4_pairs_119 : decode cX4_pairs 119 = .ok (.iadd, 1) := by decide +kernel
theorem dX4_pairs_120 : decode cX4_pairs 120 = .ok (.iaload, 1) := by decide +kernel
theorem dX4_pairs_121 : decode cX4_pairs 121 = .ok (.iadd, 1) := by decide +kernel
theorem dX4_pairs_122 : decode cX4_pairs 122 = .ok (.ifCond .ne 7, 3) := by decide +kernel
theorem dX4_pairs_125 : decode cX4_pairs 125 = .ok (.iconst 1, 1) := by decide +kernel
theorem dX4_pairs_126 : decode cX4_pairs 126 = .ok (.goto 4, 3) := by decide +kernel
theorem dX4_pairs_129 : decode cX4_pairs 129 = .ok (.iconst 0, 1) := by decide +kernel
theorem dX4_pairs_130 : decode cX4_pairs 130 = .ok (.istore 5, 2) := by decide +kernel
theorem dX4_pairs_132 : decode cX4_pairs 132 = .ok (.iinc 6 1, 3) := by decide +kernel
theorem dX4_pairs_135 : decode cX4_pairs 135 = .ok (.goto (-50), 3) := by decide +kernel
theorem dX4_pairs_138 : decode cX4_pairs 138 = .ok (.iload_n 2, 1) := by decide +kernel
theorem dX4_pairs_139 : decode cX4_pairs 139 = .ok (.iload 5, 2) := by decide +kernel
theorem dX4_pairs_141 : decode cX4_pairs 141 = .ok (.ifCond .eq 7, 3) := by decide +kernel
theorem dX4_pairs_144 : decode cX4_pairs 144 = .ok (.iconst 1, 1) := by decide +kernel
theorem dX4_pairs_145 : decode cX4_pairs 145 = .ok (.goto 4, 3) := by decide +kernel
theorem dX4_pairs_148 : decode cX4_pairs 148 = .ok (.iconst 0, 1) := by decide +kernel
theorem dX4_pairs_149 : decode cX4_pairs 149 = .ok (.iadd, 1) := by decide +kernel
theorem dX4_pairs_150 : decode cX4_pairs 150 = .ok (.istore_n 2, 1) := by decide +kernel
theorem dX4_pairs_151 : decode cX4_pairs 151 = .ok (.iinc 4 1, 3) := by decide +kernel
theorem dX4_pairs_154 : decode cX4_pairs 154 = .ok (.goto (-83), 3) := by decide +kernel
theorem dX4_pairs_157 : decode cX4_pairs 157 = .ok (.iinc 3 1, 3) := by decide +kernel
theorem dX4_pairs_160 : decode cX4_pairs 160 = .ok (.goto (-99), 3) := by decide +kernel
theorem dX4_pairs_163 : decode cX4_pairs 163 = .ok (.iload_n 2, 1) := by decide +kernel
theorem dX4_pairs_164 : decode cX4_pairs 164 = .ok (.ireturn, 1) := by decide +kernel
theorem dX4_leastSide_0 : decode cX4_leastSide 0 = .ok (.iload_n 1, 1) := by decide +kernel
theorem dX4_leastSide_1 : decode cX4_leastSide 1 = .ok (.iconst 1, 1) := by decide +kernel
theorem dX4_leastSide_2 : decode cX4_leastSide 2 = .ok (.bipush 12, 2) := by decide +kernel
theorem dX4_leastSide_4 : decode cX4_leastSide 4 = .ok (.invokestatic 73, 3) := by decide +kernel
theorem dX4_leastSide_7 : decode cX4_leastSide 7 = .ok (.ifCond .eq 10, 3) := by decide +kernel
theorem dX4_leastSide_10 : decode cX4_leastSide 10 = .ok (.iload_n 2, 1) := by decide +kernel
theorem dX4_leastSide_11 : decode cX4_leastSide 11 = .ok (.invokestatic 77, 3) := by decide +kernel
theorem dX4_leastSide_14 : decode cX4_leastSide 14 = .ok (.ifCond .ne 5, 3) := by decide +kernel
theorem dX4_leastSide_17 : decode cX4_leastSide 17 = .ok (.iconst (-1), 1) := by decide +kernel
theorem dX4_leastSide_18 : decode cX4_leastSide 18 = .ok (.ireturn, 1) := by decide +kernel
theorem dX4_leastSide_19 : decode cX4_leastSide 19 = .ok (.bipush (-9), 2) := by decide +kernel
theorem dX4_leastSide_21 : decode cX4_leastSide 21 = .ok (.istore_n 3, 1) := by decide +kernel
theorem dX4_leastSide_22 : decode cX4_leastSide 22 = .ok (.iconst 0, 1) := by decide +kernel
theorem dX4_leastSide_23 : decode cX4_leastSide 23 = .ok (.istore 4, 2) := by decide +kernel
theorem dX4_leastSide_25 : decode cX4_leastSide 25 = .ok (.iconst 0, 1) := by decide +kernel
theorem dX4_leastSide_26 : decode cX4_leastSide 26 = .ok (.istore 5, 2) := by decide +kernel
theorem dX4_leastSide_28 : decode cX4_leastSide 28 = .ok (.iload 5, 2) := by decide +kernel
theorem dX4_leastSide_30 : decode cX4_leastSide 30 = .ok (.iconst 1, 1) := by decide +kernel
theorem dX4_leastSide_31 : decode cX4_leastSide 31 = .ok (.iload_n 1, 1) := by decide +kernel
theorem dX4_leastSide_32 : decode cX4_leastSide 32 = .ok (.ishl, 1) := by decide +kernel
theorem dX4_leastSide_33 : decode cX4_leastSide 33 = .ok (.if_icmp .ge 74, 3) := by decide +kernel
theorem dX4_leastSide_36 : decode cX4_leastSide 36 = .ok (.iconst 0, 1) := by decide +kernel
theorem dX4_leastSide_37 : decode cX4_leastSide 37 = .ok (.istore 6, 2) := by decide +kernel
theorem dX4_leastSide_39 : decode cX4_leastSide 39 = .ok (.iconst 1, 1) := by decide +kernel
theorem dX4_leastSide_40 : decode cX4_leastSide 40 = .ok (.istore 7, 2) := by decide +kernel
theorem dX4_leastSide_42 : decode cX4_leastSide 42 = .ok (.iload 7, 2) := by decide +kernel
theorem dX4_leastSide_44 : decode cX4_leastSide 44 = .ok (.iload_n 1, 1) := by decide +kernel
theorem dX4_leastSide_45 : decode cX4_leastSide 45 = .ok (.if_icmp .ge 38, 3) := by decide +kernel
theorem dX4_leastSide_48 : decode cX4_leastSide 48 = .ok (.iload 5, 2) := by decide +kernel
theorem dX4_leastSide_50 : decode cX4_leastSide 50 = .ok (.iload_n 1, 1) := by decide +kernel
theorem dX4_leastSide_51 : decode cX4_leastSide 51 = .ok (.iload 7, 2) := by decide +kernel
theorem dX4_leastSide_53 : decode cX4_leastSide 53 = .ok (.invokestatic 243, 3) := by decide +kernel
theorem dX4_leastSide_56 : decode cX4_leastSide 56 = .ok (.invokestatic 177, 3) := by decide +kernel
theorem dX4_leastSide_59 : decode cX4_leastSide 59 = .ok (.istore 8, 2) := by decide +kernel
theorem dX4_leastSide_61 : decode cX4_leastSide 61 = .ok (.iload 8, 2) := by decide +kernel
theorem dX4_leastSide_63 : decode cX4_leastSide 63 = .ok (.iload 6, 2) := by decide +kernel
theorem dX4_leastSide_65 : decode cX4_leastSide 65 = .ok (.if_icmp .le 8, 3) := by decide +kernel
theorem dX4_leastSide_68 : decode cX4_leastSide 68 = .ok (.iload 8, 2) := by decide +kernel
theorem dX4_leastSide_70 : decode cX4_leastSide 70 = .ok (.goto 5, 3) := by decide +kernel
theorem dX4_leastSide_73 : decode cX4_leastSide 73 = .ok (.iload 6, 2) := by decide +kernel
theorem dX4_leastSide_75 : decode cX4_leastSide 75 = .ok (.istore 6, 2) := by decide +kernel
theorem dX4_leastSide_77 : decode cX4_leastSide 77 = .ok (.iinc 7 1, 3) := by decide +kernel
theorem dX4_leastSide_80 : decode cX4_leastSide 80 = .ok (.goto (-38), 3) := by decide +kernel
theorem dX4_leastSide_83 : decode cX4_leastSide 83 = .ok (.iload_n 3, 1) := by decide +kernel
theorem dX4_leastSide_84 : decode cX4_leastSide 84 = .ok (.ifCond .lt 10, 3) := by decide +kernel
theorem dX4_leastSide_87 : decode cX4_leastSide 87 = .ok (.iload 6, 2) := by decide +kernel
theorem dX4_leastSide_89 : decode cX4_leastSide 89 = .ok (.iload 4, 2) := by decide +kernel
theorem dX4_leastSide_91 : decode cX4_leastSide 91 = .ok (.if_icmp .ge 10, 3) := by decide +kernel
theorem dX4_leastSide_94 : decode cX4_leastSide 94 = .ok (.iload 5, 2) := by decide +kernel
theorem dX4_leastSide_96 : decode cX4_leastSide 96 = .ok (.istore_n 3, 1) := by decide +kernel
theorem dX4_leastSide_97 : decode cX4_leastSide 97 = .ok (.iload 6, 2) := by decide +kernel
theorem dX4_leastSide_99 : decode cX4_leastSide 99 = .ok (.istore 4, 2) := by decide +kernel
theorem dX4_leastSide_101 : decode cX4_leastSide 101 = .ok (.iinc 5 1, 3) := by decide +kernel
theorem dX4_leastSide_104 : decode cX4_leastSide 104 = .ok (.goto (-76), 3) := by decide +kernel
theorem dX4_leastSide_107 : decode cX4_leastSide 107 = .ok (.aload_n 0, 1) := by decide +kernel
theorem dX4_leastSide_108 : decode cX4_leastSide 108 = .ok (.iload_n 2, 1) := by decide +kernel
theorem dX4_leastSide_109 : decode cX4_leastSide 109 = .ok (.iload_n 1, 1) := by decide +kernel
theorem dX4_leastSide_110 : decode cX4_leastSide 110 = .ok (.invokevirtual 85, 3) := by decide +kernel
theorem dX4_leastSide_113 : decode cX4_leastSide 113 = .ok (.iconst 0, 1) := by decide +kernel
theorem dX4_leastSide_114 : decode cX4_leastSide 114 = .ok (.istore 5, 2) := by decide +kernel
theorem dX4_leastSide_116 : decode cX4_leastSide 116 = .ok (.iload 5, 2) := by decide +kernel
theorem dX4_leastSide_118 : decode cX4_leastSide 118 = .ok (.iload_n 1, 1) := by decide +kernel
theorem dX4_leastSide_119 : decode cX4_leastSide 119 = .ok (.if_icmp .ge 27, 3) := by decide +kernel
theorem dX4_leastSide_122 : decode cX4_leastSide 122 = .ok (.aload_n 0, 1) := by decide +kernel
theorem dX4_leastSide_123 : decode cX4_leastSide 123 = .ok (.getfield 20, 3) := by decide +kernel
theorem dX4_leastSide_126 : decode cX4_leastSide 126 = .ok (.bipush 24, 2) := by decide +kernel
theorem dX4_leastSide_128 : decode cX4_leastSide 128 = .ok (.iload_n 2, 1) := by decide +kernel
theorem dX4_leastSide_129 : decode cX4_leastSide 129 = .ok (.imul, 1) := by decide +kernel
theorem dX4_leastSide_130 : decode cX4_leastSide 130 = .ok (.iload 5, 2) := by decide +kernel
theorem dX4_leastSide_132 : decode cX4_leastSide 132 = .ok (.iadd, 1) := by decide +kernel
theorem dX4_leastSide_133 : decode cX4_leastSide 133 = .ok (.iload_n 3, 1) := by decide +kernel
theorem dX4_leastSide_134 : decode cX4_leastSide 134 = .ok (.iload 5, 2) := by decide +kernel
theorem dX4_leastSide_136 : decode cX4_leastSide 136 = .ok (.invokestatic 240, 3) := by decide +kernel
theorem dX4_leastSide_139 : decode cX4_leastSide 139 = .ok (.iastore, 1) := by decide +kernel
theorem dX4_leastSide_140 : decode cX4_leastSide 140 = .ok (.iinc 5 1, 3) := by decide +kernel
theorem dX4_leastSide_143 : decode cX4_leastSide 143 = .ok (.goto (-27), 3) := by decide +kernel
theorem dX4_leastSide_146 : decode cX4_leastSide 146 = .ok (.iload 4, 2) := by decide +kernel
theorem dX4_leastSide_148 : decode cX4_leastSide 148 = .ok (.ireturn, 1) := by decide +kernel
theorem dX4_longer_0 : decode cX4_longer 0 = .ok (.iload_n 3, 1) := by decide +kernel
theorem dX4_longer_1 : decode cX4_longer 1 = .ok (.invokestatic 77, 3) := by decide +kernel
theorem dX4_longer_4 : decode cX4_longer 4 = .ok (.ifCond .eq 17, 3) := by decide +kernel
theorem dX4_longer_7 : decode cX4_longer 7 = .ok (.iload 4, 2) := by decide +kernel
theorem dX4_longer_9 : decode cX4_longer 9 = .ok (.invokestatic 77, 3) := by decide +kernel
theorem dX4_longer_12 : decode cX4_longer 12 = .ok (.ifCond .eq 9, 3) := by decide +kernel
theorem dX4_longer_15 : decode cX4_longer 15 = .ok (.iload_n 3, 1) := by decide +kernel
theorem dX4_longer_16 : decode cX4_longer 16 = .ok (.iload 4, 2) := by decide +kernel
theorem dX4_longer_18 : decode cX4_longer 18 = .ok (.if_icmp .ne 5, 3) := by decide +kernel
theorem dX4_longer_21 : decode cX4_longer 21 = .ok (.iconst (-1), 1) := by decide +kernel
theorem dX4_longer_22 : decode cX4_longer 22 = .ok (.ireturn, 1) := by decide +kernel
theorem dX4_longer_23 : decode cX4_longer 23 = .ok (.aload_n 0, 1) := by decide +kernel
theorem dX4_longer_24 : decode cX4_longer 24 = .ok (.iload_n 1, 1) := by decide +kernel
theorem dX4_longer_25 : decode cX4_longer 25 = .ok (.iload_n 2, 1) := by decide +kernel
theorem dX4_longer_26 : decode cX4_longer 26 = .ok (.bipush 12, 2) := by decide +kernel
theorem dX4_longer_28 : decode cX4_longer 28 = .ok (.invokevirtual 233, 3) := by decide +kernel
theorem dX4_longer_31 : decode cX4_longer 31 = .ok (.istore 5, 2) := by decide +kernel
theorem dX4_longer_33 : decode cX4_longer 33 = .ok (.iload 5, 2) := by decide +kernel
theorem dX4_longer_35 : decode cX4_longer 35 = .ok (.ifCond .ge 6, 3) := by decide +kernel
theorem dX4_longer_38 : decode cX4_longer 38 = .ok (.iload 5, 2) := by decide +kernel
theorem dX4_longer_40 : decode cX4_longer 40 = .ok (.ireturn, 1) := by decide +kernel
theorem dX4_longer_41 : decode cX4_longer 41 = .ok (.aload_n 0, 1) := by decide +kernel
theorem dX4_longer_42 : decode cX4_longer 42 = .ok (.iload_n 1, 1) := by decide +kernel
theorem dX4_longer_43 : decode cX4_longer 43 = .ok (.iload_n 2, 1) := by decide +kernel
theorem dX4_longer_44 : decode cX4_longer 44 = .ok (.iconst 0, 1) := by decide +kernel
theorem dX4_longer_45 : decode cX4_longer 45 = .ok (.invokevirtual 236, 3) := by decide +kernel
theorem dX4_longer_48 : decode cX4_longer 48 = .ok (.ifCond .ne 6, 3) := by decide +kernel
theorem dX4_longer_51 : decode cX4_longer 51 = .ok (.bipush (-4), 2) := by decide +kernel
theorem dX4_longer_53 : decode cX4_longer 53 = .ok (.ireturn, 1) := by decide +kernel
theorem dX4_longer_54 : decode cX4_longer 54 = .ok (.aload_n 0, 1) := by decide +kernel
theorem dX4_longer_55 : decode cX4_longer 55 = .ok (.getfield 17, 3) := by decide +kernel
theorem dX4_longer_58 : decode cX4_longer 58 = .ok (.iload_n 1, 1) := by decide +kernel
theorem dX4_longer_59 : decode cX4_longer 59 = .ok (.iaload, 1) := by decide +kernel
theorem dX4_longer_60 : decode cX4_longer 60 = .ok (.istore 6, 2) := by decide +kernel
theorem dX4_longer_62 : decode cX4_longer 62 = .ok (.iconst 0, 1) := by decide +kernel
theorem dX4_longer_63 : decode cX4_longer 63 = .ok (.istore 7, 2) := by decide +kernel
theorem dX4_longer_65 : decode cX4_longer 65 = .ok (.iload 7, 2) := by decide +kernel
theorem dX4_longer_67 : decode cX4_longer 67 = .ok (.iload 6, 2) := by decide +kernel
theorem dX4_longer_69 : decode cX4_longer 69 = .ok (.if_icmp .ge 50, 3) := by decide +kernel
theorem dX4_longer_72 : decode cX4_longer 72 = .ok (.aload_n 0, 1) := by decide +kernel
theorem dX4_longer_73 : decode cX4_longer 73 = .ok (.getfield 23, 3) := by decide +kernel
theorem dX4_longer_76 : decode cX4_longer 76 = .ok (.iload 7, 2) := by decide +kernel
theorem dX4_longer_78 : decode cX4_longer 78 = .ok (.aload_n 0, 1) := by decide +kernel
theorem dX4_longer_79 : decode cX4_longer 79 = .ok (.getfield 20, 3) := by decide +kernel
theorem dX4_longer_82 : decode cX4_longer 82 = .ok (.bipush 24, 2) := by decide +kernel
theorem dX4_longer_84 : decode cX4_longer 84 = .ok (.iload_n 1, 1) := by decide +kernel
theorem dX4_longer_85 : decode cX4_longer 85 = .ok (.imul, 1) := by decide +kernel
theorem dX4_longer_86 : decode cX4_longer 86 = .ok (.iload 7, 2) := by decide +kernel
theorem dX4_longer_88 : decode cX4_longer 88 = .ok (.iadd, 1) := by decide +kernel
theorem dX4_longer_89 : decode cX4_longer 89 = .ok (.iaload, 1) := by decide +kernel
theorem dX4_longer_90 : decode cX4_longer 90 = .ok (.iastore, 1) := by decide +kernel
theorem dX4_longer_91 : decode cX4_longer 91 = .ok (.aload_n 0, 1) := by decide +kernel
theorem dX4_longer_92 : decode cX4_longer 92 = .ok (.getfield 23, 3) := by decide +kernel
theorem dX4_longer_95 : decode cX4_longer 95 = .ok (.iload 6, 2) := by decide +kernel
theorem dX4_longer_97 : decode cX4_longer 97 = .ok (.iload 7, 2) := by decide +kernel
theorem dX4_longer_99 : decode cX4_longer 99 = .ok (.iadd, 1) := by decide +kernel
theorem dX4_longer_100 : decode cX4_longer 100 = .ok (.aload_n 0, 1) := by decide +kernel
theorem dX4_longer_101 : decode cX4_longer 101 = .ok (.getfield 20, 3) := by decide +kernel
theorem dX4_longer_104 : decode cX4_longer 104 = .ok (.bipush 24, 2) := by decide +kernel
theorem dX4_longer_106 : decode cX4_longer 106 = .ok (.iload_n 2, 1) := by decide +kernel
theorem dX4_longer_107 : decode cX4_longer 107 = .ok (.imul, 1) := by decide +kernel
theorem dX4_longer_108 : decode cX4_longer 108 = .ok (.iload 7, 2) := by decide +kernel
theorem dX4_longer_110 : decode cX4_longer 110 = .ok (.iadd, 1) := by decide +kernel
theorem dX4_longer_111 : decode cX4_longer 111 = .ok (.iaload, 1) := by decide +kernel
theorem dX4_longer_112 : decode cX4_longer 112 = .ok (.iastore, 1) := by decide +kernel
theorem dX4_longer_113 : decode cX4_longer 113 = .ok (.iinc 7 1, 3) := by decide +kernel
theorem dX4_longer_116 : decode cX4_longer 116 = .ok (.goto (-51), 3) := by decide +kernel
theorem dX4_longer_119 : decode cX4_longer 119 = .ok (.aload_n 0, 1) := by decide +kernel
theorem dX4_longer_120 : decode cX4_longer 120 = .ok (.iload_n 3, 1) := by decide +kernel
theorem dX4_longer_121 : decode cX4_longer 121 = .ok (.iconst 2, 1) := by decide +kernel
theorem dX4_longer_122 : decode cX4_longer 122 = .ok (.iload 6, 2) := by decide +kernel
theorem dX4_longer_124 : decode cX4_longer 124 = .ok (.imul, 1) := by decide +kernel
theorem dX4_longer_125 : decode cX4_longer 125 = .ok (.invokevirtual 85, 3) := by decide +kernel
theorem dX4_longer_128 : decode cX4_longer 128 = .ok (.aload_n 0, 1) := by decide +kernel
theorem dX4_longer_129 : decode cX4_longer 129 = .ok (.iload 4, 2) := by decide +kernel
theorem dX4_longer_131 : decode cX4_longer 131 = .ok (.iconst 2, 1) := by decide +kernel
theorem dX4_longer_132 : decode cX4_longer 132 = .ok (.iload 6, 2) := by decide +kernel
theorem dX4_longer_134 : decode cX4_longer 134 = .ok (.imul, 1) := by decide +kernel
theorem dX4_longer_135 : decode cX4_longer 135 = .ok (.invokevirtual 85, 3) := by decide +kernel
theorem dX4_longer_138 : decode cX4_longer 138 = .ok (.iconst 0, 1) := by decide +kernel
theorem dX4_longer_139 : decode cX4_longer 139 = .ok (.istore 7, 2) := by decide +kernel
theorem dX4_longer_141 : decode cX4_longer 141 = .ok (.iload 7, 2) := by decide +kernel
theorem dX4_longer_143 : decode cX4_longer 143 = .ok (.iconst 2, 1) := by decide +kernel
theorem dX4_longer_144 : decode cX4_longer 144 = .ok (.iload 6, 2) := by decide +kernel
theorem dX4_longer_146 : decode cX4_longer 146 = .ok (.imul, 1) := by decide +kernel
theorem dX4_longer_147 : decode cX4_longer 147 = .ok (.if_icmp .ge 66, 3) := by decide +kernel
theorem dX4_longer_150 : decode cX4_longer 150 = .ok (.aload_n 0, 1) := by decide +kernel
theorem dX4_longer_151 : decode cX4_longer 151 = .ok (.getfield 20, 3) := by decide +kernel
theorem dX4_longer_154 : decode cX4_longer 154 = .ok (.bipush 24, 2) := by decide +kernel
theorem dX4_longer_156 : decode cX4_longer 156 = .ok (.iload_n 3, 1) := by decide +kernel
theorem dX4_longer_157 : decode cX4_longer 157 = .ok (.imul, 1) := by decide +kernel
theorem dX4_longer_158 : decode cX4_longer 158 = .ok (.iload 7, 2) := by decide +kernel
theorem dX4_longer_160 : decode cX4_longer 160 = .ok (.iadd, 1) := by decide +kernel
theorem dX4_longer_161 : decode cX4_longer 161 = .ok (.aload_n 0, 1) := by decide +kernel
theorem dX4_longer_162 : decode cX4_longer 162 = .ok (.getfield 23, 3) := by decide +kernel
theorem dX4_longer_165 : decode cX4_longer 165 = .ok (.iload 7, 2) := by decide +kernel
theorem dX4_longer_167 : decode cX4_longer 167 = .ok (.iaload, 1) := by decide +kernel
theorem dX4_longer_168 : decode cX4_longer 168 = .ok (.iastore, 1) := by decide +kernel
theorem dX4_longer_169 : decode cX4_longer 169 = .ok (.aload_n 0, 1) := by decide +kernel
theorem dX4_longer_170 : decode cX4_longer 170 = .ok (.getfield 20, 3) := by decide +kernel
theorem dX4_longer_173 : decode cX4_longer 173 = .ok (.bipush 24, 2) := by decide +kernel
theorem dX4_longer_175 : decode cX4_longer 175 = .ok (.iload 4, 2) := by decide +kernel
theorem dX4_longer_177 : decode cX4_longer 177 = .ok (.imul, 1) := by decide +kernel
theorem dX4_longer_178 : decode cX4_longer 178 = .ok (.iload 7, 2) := by decide +kernel
theorem dX4_longer_180 : decode cX4_longer 180 = .ok (.iadd, 1) := by decide +kernel
theorem dX4_longer_181 : decode cX4_longer 181 = .ok (.iload 7, 2) := by decide +kernel
theorem dX4_longer_183 : decode cX4_longer 183 = .ok (.iload 6, 2) := by decide +kernel
theorem dX4_longer_185 : decode cX4_longer 185 = .ok (.if_icmp .ge 13, 3) := by decide +kernel
theorem dX4_longer_188 : decode cX4_longer 188 = .ok (.aload_n 0, 1) := by decide +kernel
theorem dX4_longer_189 : decode cX4_longer 189 = .ok (.getfield 23, 3) := by decide +kernel
theorem dX4_longer_192 : decode cX4_longer 192 = .ok (.iload 7, 2) := by decide +kernel
theorem dX4_longer_194 : decode cX4_longer 194 = .ok (.iaload, 1) := by decide +kernel
theorem dX4_longer_195 : decode cX4_longer 195 = .ok (.goto 11, 3) := by decide +kernel
theorem dX4_longer_198 : decode cX4_longer 198 = .ok (.aload_n 0, 1) := by decide +kernel
theorem dX4_longer_199 : decode cX4_longer 199 = .ok (.getfield 23, 3) := by decide +kernel
theorem dX4_longer_202 : decode cX4_longer 202 = .ok (.iload 7, 2) := by decide +kernel
theorem dX4_longer_204 : decode cX4_longer 204 = .ok (.iaload, 1) := by decide +kernel
theorem dX4_longer_205 : decode cX4_longer 205 = .ok (.ineg, 1) := by decide +kernel
theorem dX4_longer_206 : decode cX4_longer 206 = .ok (.iastore, 1) := by decide +kernel
theorem dX4_longer_207 : decode cX4_longer 207 = .ok (.iinc 7 1, 3) := by decide +kernel
theorem dX4_longer_210 : decode cX4_longer 210 = .ok (.goto (-69), 3) := by decide +kernel
theorem dX4_longer_213 : decode cX4_longer 213 = .ok (.iconst 2, 1) := by decide +kernel
theorem dX4_longer_214 : decode cX4_longer 214 = .ok (.iload 6, 2) := by decide +kernel
theorem dX4_longer_216 : decode cX4_longer 216 = .ok (.imul, 1) := by decide +kernel
theorem dX4_longer_217 : decode cX4_longer 217 = .ok (.ireturn, 1) := by decide +kernel
theorem dX4_askedGraph_0 : decode cX4_askedGraph 0 = .ok (.aload_n 0, 1) := by decide +kernel
theorem dX4_askedGraph_1 : decode cX4_askedGraph 1 = .ok (.iload_n 1, 1) := by decide +kernel
theorem dX4_askedGraph_2 : decode cX4_askedGraph 2 = .ok (.invokevirtual 143, 3) := by decide +kernel
theorem dX4_askedGraph_5 : decode cX4_askedGraph 5 = .ok (.istore_n 2, 1) := by decide +kernel
theorem dX4_askedGraph_6 : decode cX4_askedGraph 6 = .ok (.iload_n 2, 1) := by decide +kernel
theorem dX4_askedGraph_7 : decode cX4_askedGraph 7 = .ok (.ifCond .lt 12, 3) := by decide +kernel
theorem dX4_askedGraph_10 : decode cX4_askedGraph 10 = .ok (.aload_n 0, 1) := by decide +kernel
theorem dX4_askedGraph_11 : decode cX4_askedGraph 11 = .ok (.iload_n 1, 1) := by decide +kernel
theorem dX4_askedGraph_12 : decode cX4_askedGraph 12 = .ok (.iconst 3, 1) := by decide +kernel
theorem dX4_askedGraph_13 : decode cX4_askedGraph 13 = .ok (.invokevirtual 155, 3) := by decide +kernel
theorem dX4_askedGraph_16 : decode cX4_askedGraph 16 = .ok (.ifCond .eq 7, 3) := by decide +kernel
theorem dX4_askedGraph_19 : decode cX4_askedGraph 19 = .ok (.iload_n 2, 1) := by decide +kernel
theorem dX4_askedGraph_20 : decode cX4_askedGraph 20 = .ok (.goto 8, 3) := by decide +kernel
theorem dX4_askedGraph_23 : decode cX4_askedGraph 23 = .ok (.aload_n 0, 1) := by decide +kernel
theorem dX4_askedGraph_24 : decode cX4_askedGraph 24 = .ok (.iconst 3, 1) := by decide +kernel
theorem dX4_askedGraph_25 : decode cX4_askedGraph 25 = .ok (.invokevirtual 81, 3) := by decide +kernel
theorem dX4_askedGraph_28 : decode cX4_askedGraph 28 = .ok (.ireturn, 1) := by decide +kernel
theorem dX4_switched_0 : decode cX4_switched 0 = .ok (.aload_n 0, 1) := by decide +kernel
theorem dX4_switched_1 : decode cX4_switched 1 = .ok (.iload_n 1, 1) := by decide +kernel
theorem dX4_switched_2 : decode cX4_switched 2 = .ok (.invokevirtual 246, 3) := by decide +kernel
theorem dX4_switched_5 : decode cX4_switched 5 = .ok (.istore_n 3, 1) := by decide +kernel
theorem dX4_switched_6 : decode cX4_switched 6 = .ok (.iload_n 3, 1) := by decide +kernel
theorem dX4_switched_7 : decode cX4_switched 7 = .ok (.ifCond .ge 5, 3) := by decide +kernel
theorem dX4_switched_10 : decode cX4_switched 10 = .ok (.iload_n 3, 1) := by decide +kernel
theorem dX4_switched_11 : decode cX4_switched 11 = .ok (.ireturn, 1) := by decide +kernel
theorem dX4_switched_12 : decode cX4_switched 12 = .ok (.aload_n 0, 1) := by decide +kernel
theorem dX4_switched_13 : decode cX4_switched 13 = .ok (.iload_n 1, 1) := by decide +kernel
theorem dX4_switched_14 : decode cX4_switched 14 = .ok (.iload_n 2, 1) := by decide +kernel
theorem dX4_switched_15 : decode cX4_switched 15 = .ok (.invokevirtual 180, 3) := by decide +kernel
theorem dX4_switched_18 : decode cX4_switched 18 = .ok (.ifCond .ne 9, 3) := by decide +kernel
theorem dX4_switched_21 : decode cX4_switched 21 = .ok (.aload_n 0, 1) := by decide +kernel
theorem dX4_switched_22 : decode cX4_switched 22 = .ok (.iconst 2, 1) := by decide +kernel
theorem dX4_switched_23 : decode cX4_switched 23 = .ok (.invokevirtual 81, 3) := by decide +kernel
theorem dX4_switched_26 : decode cX4_switched 26 = .ok (.ireturn, 1) := by decide +kernel
theorem dX4_switched_27 : decode cX4_switched 27 = .ok (.iconst 0, 1) := by decide +kernel
theorem dX4_switched_28 : decode cX4_switched 28 = .ok (.istore 4, 2) := by decide +kernel
theorem dX4_switched_30 : decode cX4_switched 30 = .ok (.iload 4, 2) := by decide +kernel
theorem dX4_switched_32 : decode cX4_switched 32 = .ok (.aload_n 0, 1) := by decide +kernel
theorem dX4_switched_33 : decode cX4_switched 33 = .ok (.getfield 26, 3) := by decide +kernel
theorem dX4_switched_36 : decode cX4_switched 36 = .ok (.iload_n 1, 1) := by decide +kernel
theorem dX4_switched_37 : decode cX4_switched 37 = .ok (.iaload, 1) := by decide +kernel
theorem dX4_switched_38 : decode cX4_switched 38 = .ok (.if_icmp .ge 33, 3) := by decide +kernel
theorem dX4_switched_41 : decode cX4_switched 41 = .ok (.iload_n 2, 1) := by decide +kernel
theorem dX4_switched_42 : decode cX4_switched 42 = .ok (.iload 4, 2) := by decide +kernel
theorem dX4_switched_44 : decode cX4_switched 44 = .ok (.ishr, 1) := by decide +kernel
theorem dX4_switched_45 : decode cX4_switched 45 = .ok (.iconst 1, 1) := by decide +kernel
theorem dX4_switched_46 : decode cX4_switched 46 = .ok (.iand, 1) := by decide +kernel
theorem dX4_switched_47 : decode cX4_switched 47 = .ok (.iconst 1, 1) := by decide +kernel
theorem dX4_switched_48 : decode cX4_switched 48 = .ok (.if_icmp .ne 17, 3) := by decide +kernel
theorem dX4_switched_51 : decode cX4_switched 51 = .ok (.aload_n 0, 1) := by decide +kernel
theorem dX4_switched_52 : decode cX4_switched 52 = .ok (.iload_n 1, 1) := by decide +kernel
theorem dX4_switched_53 : decode cX4_switched 53 = .ok (.iload 4, 2) := by decide +kernel
theorem dX4_switched_55 : decode cX4_switched 55 = .ok (.invokevirtual 183, 3) := by decide +kernel
theorem dX4_switched_58 : decode cX4_switched 58 = .ok (.aload_n 0, 1) := by decide +kernel
theorem dX4_switched_59 : decode cX4_switched 59 = .ok (.iload_n 1, 1) := by decide +kernel
theorem dX4_switched_60 : decode cX4_switched 60 = .ok (.iload 4, 2) := by decide +kernel
theorem dX4_switched_62 : decode cX4_switched 62 = .ok (.invokevirtual 186, 3) := by decide +kernel
theorem dX4_switched_65 : decode cX4_switched 65 = .ok (.iinc 4 1, 3) := by decide +kernel
theorem dX4_switched_68 : decode cX4_switched 68 = .ok (.goto (-38), 3) := by decide +kernel
theorem dX4_switched_71 : decode cX4_switched 71 = .ok (.aload_n 0, 1) := by decide +kernel
theorem dX4_switched_72 : decode cX4_switched 72 = .ok (.iload_n 1, 1) := by decide +kernel
theorem dX4_switched_73 : decode cX4_switched 73 = .ok (.invokevirtual 137, 3) := by decide +kernel
theorem dX4_switched_76 : decode cX4_switched 76 = .ok (.ireturn, 1) := by decide +kernel
theorem dX4_oddAt_0 : decode cX4_oddAt 0 = .ok (.aload_n 0, 1) := by decide +kernel
theorem dX4_oddAt_1 : decode cX4_oddAt 1 = .ok (.iload_n 1, 1) := by decide +kernel
theorem dX4_oddAt_2 : decode cX4_oddAt 2 = .ok (.iload_n 2, 1) := by decide +kernel
theorem dX4_oddAt_3 : decode cX4_oddAt 3 = .ok (.iload_n 3, 1) := by decide +kernel
theorem dX4_oddAt_4 : decode cX4_oddAt 4 = .ok (.invokevirtual 102, 3) := by decide +kernel
theorem dX4_oddAt_7 : decode cX4_oddAt 7 = .ok (.aload_n 0, 1) := by decide +kernel
theorem dX4_oddAt_8 : decode cX4_oddAt 8 = .ok (.iload_n 1, 1) := by decide +kernel
theorem dX4_oddAt_9 : decode cX4_oddAt 9 = .ok (.iload_n 2, 1) := by decide +kernel
theorem dX4_oddAt_10 : decode cX4_oddAt 10 = .ok (.iload 4, 2) := by decide +kernel
theorem dX4_oddAt_12 : decode cX4_oddAt 12 = .ok (.invokevirtual 102, 3) := by decide +kernel
theorem dX4_oddAt_15 : decode cX4_oddAt 15 = .ok (.imul, 1) := by decide +kernel
theorem dX4_oddAt_16 : decode cX4_oddAt 16 = .ok (.aload_n 0, 1) := by decide +kernel
theorem dX4_oddAt_17 : decode cX4_oddAt 17 = .ok (.iload_n 1, 1) := by decide +kernel
theorem dX4_oddAt_18 : decode cX4_oddAt 18 = .ok (.iload_n 3, 1) := by decide +kernel
theorem dX4_oddAt_19 : decode cX4_oddAt 19 = .ok (.iload 4, 2) := by decide +kernel
theorem dX4_oddAt_21 : decode cX4_oddAt 21 = .ok (.invokevirtual 102, 3) := by decide +kernel
theorem dX4_oddAt_24 : decode cX4_oddAt 24 = .ok (.imul, 1) := by decide +kernel
theorem dX4_oddAt_25 : decode cX4_oddAt 25 = .ok (.ireturn, 1) := by decide +kernel
theorem dX4_odd_0 : decode cX4_odd 0 = .ok (.aload_n 0, 1) := by decide +kernel
theorem dX4_odd_1 : decode cX4_odd 1 = .ok (.iload_n 1, 1) := by decide +kernel
theorem dX4_odd_2 : decode cX4_odd 2 = .ok (.invokevirtual 246, 3) := by decide +kernel
theorem dX4_odd_5 : decode cX4_odd 5 = .ok (.istore_n 2, 1) := by decide +kernel
theorem dX4_odd_6 : decode cX4_odd 6 = .ok (.iload_n 2, 1) := by decide +kernel
theorem dX4_odd_7 : decode cX4_odd 7 = .ok (.ifCond .ge 5, 3) := by decide +kernel
theorem dX4_odd_10 : decode cX4_odd 10 = .ok (.iload_n 2, 1) := by decide +kernel
theorem dX4_odd_11 : decode cX4_odd 11 = .ok (.ireturn, 1) := by decide +kernel
theorem dX4_odd_12 : decode cX4_odd 12 = .ok (.iconst 0, 1) := by decide +kernel
theorem dX4_odd_13 : decode cX4_odd 13 = .ok (.istore_n 3, 1) := by decide +kernel
theorem dX4_odd_14 : decode cX4_odd 14 = .ok (.iconst 0, 1) := by decide +kernel
theorem dX4_odd_15 : decode cX4_odd 15 = .ok (.istore 4, 2) := by decide +kernel
theorem dX4_odd_17 : decode cX4_odd 17 = .ok (.iload 4, 2) := by decide +kernel
theorem dX4_odd_19 : decode cX4_odd 19 = .ok (.aload_n 0, 1) := by decide +kernel
theorem dX4_odd_20 : decode cX4_odd 20 = .ok (.getfield 26, 3) := by decide +kernel
theorem dX4_odd_23 : decode cX4_odd 23 = .ok (.iload_n 1, 1) := by decide +kernel
theorem dX4_odd_24 : decode cX4_odd 24 = .ok (.iaload, 1) := by decide +kernel
theorem dX4_odd_25 : decode cX4_odd 25 = .ok (.if_icmp .ge 64, 3) := by decide +kernel
theorem dX4_odd_28 : decode cX4_odd 28 = .ok (.iconst 0, 1) := by decide +kernel
theorem dX4_odd_29 : decode cX4_odd 29 = .ok (.istore 5, 2) := by decide +kernel
theorem dX4_odd_31 : decode cX4_odd 31 = .ok (.iload 5, 2) := by decide +kernel
theorem dX4_odd_33 : decode cX4_odd 33 = .ok (.iload 4, 2) := by decide +kernel
theorem dX4_odd_35 : decode cX4_odd 35 = .ok (.if_icmp .ge 48, 3) := by decide +kernel
theorem dX4_odd_38 : decode cX4_odd 38 = .ok (.iconst 0, 1) := by decide +kernel
theorem dX4_odd_39 : decode cX4_odd 39 = .ok (.istore 6, 2) := by decide +kernel
theorem dX4_odd_41 : decode cX4_odd 41 = .ok (.iload 6, 2) := by decide +kernel
theorem dX4_odd_43 : decode cX4_odd 43 = .ok (.iload 5, 2) := by decide +kernel
theorem dX4_odd_45 : decode cX4_odd 45 = .ok (.if_icmp .ge 32, 3) := by decide +kernel
theorem dX4_odd_48 : decode cX4_odd 48 = .ok (.iload_n 3, 1) := by decide +kernel
theorem dX4_odd_49 : decode cX4_odd 49 = .ok (.aload_n 0, 1) := by decide +kernel
theorem dX4_odd_50 : decode cX4_odd 50 = .ok (.iload_n 1, 1) := by decide +kernel
theorem dX4_odd_51 : decode cX4_odd 51 = .ok (.iload 6, 2) := by decide +kernel
theorem dX4_odd_53 : decode cX4_odd 53 = .ok (.iload 5, 2) := by decide +kernel
theorem dX4_odd_55 : decode cX4_odd 55 = .ok (.iload 4, 2) := by decide +kernel
theorem dX4_odd_57 : decode cX4_odd 57 = .ok (.invokevirtual 249, 3) := by decide +kernel
theorem dX4_odd_60 : decode cX4_odd 60 = .ok (.iconst (-1), 1) := by decide +kernel
theorem dX4_odd_61 : decode cX4_odd 61 = .ok (.if_icmp .ne 7, 3) := by decide +kernel
theorem dX4_odd_64 : decode cX4_odd 64 = .ok (.iconst 1, 1) := by decide +kernel
theorem dX4_odd_65 : decode cX4_odd 65 = .ok (.goto 4, 3) := by decide +kernel
theorem dX4_odd_68 : decode cX4_odd 68 = .ok (.iconst 0, 1) := by decide +kernel
theorem dX4_odd_69 : decode cX4_odd 69 = .ok (.iadd, 1) := by decide +kernel
theorem dX4_odd_70 : decode cX4_odd 70 = .ok (.istore_n 3, 1) := by decide +kernel
theorem dX4_odd_71 : decode cX4_odd 71 = .ok (.iinc 6 1, 3) := by decide +kernel
theorem dX4_odd_74 : decode cX4_odd 74 = .ok (.goto (-33), 3) := by decide +kernel
theorem dX4_odd_77 : decode cX4_odd 77 = .ok (.iinc 5 1, 3) := by decide +kernel
theorem dX4_odd_80 : decode cX4_odd 80 = .ok (.goto (-49), 3) := by decide +kernel
theorem dX4_odd_83 : decode cX4_odd 83 = .ok (.iinc 4 1, 3) := by decide +kernel
theorem dX4_odd_86 : decode cX4_odd 86 = .ok (.goto (-69), 3) := by decide +kernel
theorem dX4_odd_89 : decode cX4_odd 89 = .ok (.iload_n 3, 1) := by decide +kernel
theorem dX4_odd_90 : decode cX4_odd 90 = .ok (.ireturn, 1) := by decide +kernel
theorem dX4_alike_0 : decode cX4_alike 0 = .ok (.iload_n 1, 1) := by decide +kernel
theorem dX4_alike_1 : decode cX4_alike 1 = .ok (.invokestatic 99, 3) := by decide +kernel
theorem dX4_alike_4 : decode cX4_alike 4 = .ok (.ifCond .eq 10, 3) := by decide +kernel
theorem dX4_alike_7 : decode cX4_alike 7 = .ok (.iload_n 2, 1) := by decide +kernel
theorem dX4_alike_8 : decode cX4_alike 8 = .ok (.invokestatic 99, 3) := by decide +kernel
theorem dX4_alike_11 : decode cX4_alike 11 = .ok (.ifCond .ne 5, 3) := by decide +kernel
theorem dX4_alike_14 : decode cX4_alike 14 = .ok (.iconst (-1), 1) := by decide +kernel
theorem dX4_alike_15 : decode cX4_alike 15 = .ok (.ireturn, 1) := by decide +kernel
theorem dX4_alike_16 : decode cX4_alike 16 = .ok (.aload_n 0, 1) := by decide +kernel
theorem dX4_alike_17 : decode cX4_alike 17 = .ok (.getfield 26, 3) := by decide +kernel
theorem dX4_alike_20 : decode cX4_alike 20 = .ok (.iload_n 1, 1) := by decide +kernel
theorem dX4_alike_21 : decode cX4_alike 21 = .ok (.iaload, 1) := by decide +kernel
theorem dX4_alike_22 : decode cX4_alike 22 = .ok (.ifCond .eq 12, 3) := by decide +kernel
theorem dX4_alike_25 : decode cX4_alike 25 = .ok (.aload_n 0, 1) := by decide +kernel
theorem dX4_alike_26 : decode cX4_alike 26 = .ok (.getfield 26, 3) := by decide +kernel
theorem dX4_alike_29 : decode cX4_alike 29 = .ok (.iload_n 2, 1) := by decide +kernel
theorem dX4_alike_30 : decode cX4_alike 30 = .ok (.iaload, 1) := by decide +kernel
theorem dX4_alike_31 : decode cX4_alike 31 = .ok (.ifCond .ne 9, 3) := by decide +kernel
theorem dX4_alike_34 : decode cX4_alike 34 = .ok (.aload_n 0, 1) := by decide +kernel
theorem dX4_alike_35 : decode cX4_alike 35 = .ok (.iconst 1, 1) := by decide +kernel
theorem dX4_alike_36 : decode cX4_alike 36 = .ok (.invokevirtual 81, 3) := by decide +kernel
theorem dX4_alike_39 : decode cX4_alike 39 = .ok (.ireturn, 1) := by decide +kernel
theorem dX4_alike_40 : decode cX4_alike 40 = .ok (.aload_n 0, 1) := by decide +kernel
theorem dX4_alike_41 : decode cX4_alike 41 = .ok (.iload_n 1, 1) := by decide +kernel
theorem dX4_alike_42 : decode cX4_alike 42 = .ok (.iconst 3, 1) := by decide +kernel
theorem dX4_alike_43 : decode cX4_alike 43 = .ok (.invokevirtual 155, 3) := by decide +kernel
theorem dX4_alike_46 : decode cX4_alike 46 = .ok (.ifCond .eq 27, 3) := by decide +kernel
theorem dX4_alike_49 : decode cX4_alike 49 = .ok (.aload_n 0, 1) := by decide +kernel
theorem dX4_alike_50 : decode cX4_alike 50 = .ok (.iload_n 2, 1) := by decide +kernel
theorem dX4_alike_51 : decode cX4_alike 51 = .ok (.iconst 3, 1) := by decide +kernel
theorem dX4_alike_52 : decode cX4_alike 52 = .ok (.invokevirtual 155, 3) := by decide +kernel
theorem dX4_alike_55 : decode cX4_alike 55 = .ok (.ifCond .eq 18, 3) := by decide +kernel
theorem dX4_alike_58 : decode cX4_alike 58 = .ok (.aload_n 0, 1) := by decide +kernel
theorem dX4_alike_59 : decode cX4_alike 59 = .ok (.getfield 26, 3) := by decide +kernel
theorem dX4_alike_62 : decode cX4_alike 62 = .ok (.iload_n 1, 1) := by decide +kernel
theorem dX4_alike_63 : decode cX4_alike 63 = .ok (.iaload, 1) := by decide +kernel
theorem dX4_alike_64 : decode cX4_alike 64 = .ok (.aload_n 0, 1) := by decide +kernel
theorem dX4_alike_65 : decode cX4_alike 65 = .ok (.getfield 26, 3) := by decide +kernel
theorem dX4_alike_68 : decode cX4_alike 68 = .ok (.iload_n 2, 1) := by decide +kernel
theorem dX4_alike_69 : decode cX4_alike 69 = .ok (.iaload, 1) := by decide +kernel
theorem dX4_alike_70 : decode cX4_alike 70 = .ok (.if_icmp .eq 9, 3) := by decide +kernel
theorem dX4_alike_73 : decode cX4_alike 73 = .ok (.aload_n 0, 1) := by decide +kernel
theorem dX4_alike_74 : decode cX4_alike 74 = .ok (.iconst 3, 1) := by decide +kernel
theorem dX4_alike_75 : decode cX4_alike 75 = .ok (.invokevirtual 81, 3) := by decide +kernel
theorem dX4_alike_78 : decode cX4_alike 78 = .ok (.ireturn, 1) := by decide +kernel
theorem dX4_alike_79 : decode cX4_alike 79 = .ok (.iconst 0, 1) := by decide +kernel
theorem dX4_alike_80 : decode cX4_alike 80 = .ok (.istore_n 3, 1) := by decide +kernel
theorem dX4_alike_81 : decode cX4_alike 81 = .ok (.iconst 1, 1) := by decide +kernel
theorem dX4_alike_82 : decode cX4_alike 82 = .ok (.istore 4, 2) := by decide +kernel
theorem dX4_alike_84 : decode cX4_alike 84 = .ok (.iconst 0, 1) := by decide +kernel
theorem dX4_alike_85 : decode cX4_alike 85 = .ok (.istore 5, 2) := by decide +kernel
theorem dX4_alike_87 : decode cX4_alike 87 = .ok (.iload 5, 2) := by decide +kernel
theorem dX4_alike_89 : decode cX4_alike 89 = .ok (.aload_n 0, 1) := by decide +kernel
theorem dX4_alike_90 : decode cX4_alike 90 = .ok (.getfield 26, 3) := by decide +kernel
theorem dX4_alike_93 : decode cX4_alike 93 = .ok (.iload_n 1, 1) := by decide +kernel
theorem dX4_alike_94 : decode cX4_alike 94 = .ok (.iaload, 1) := by decide +kernel
theorem dX4_alike_95 : decode cX4_alike 95 = .ok (.if_icmp .ge 108, 3) := by decide +kernel
theorem dX4_alike_98 : decode cX4_alike 98 = .ok (.iload_n 3, 1) := by decide +kernel
theorem dX4_alike_99 : decode cX4_alike 99 = .ok (.aload_n 0, 1) := by decide +kernel
theorem dX4_alike_100 : decode cX4_alike 100 = .ok (.iload_n 1, 1) := by decide +kernel
theorem dX4_alike_101 : decode cX4_alike 101 = .ok (.iconst 0, 1) := by decide +kernel
theorem dX4_alike_102 : decode cX4_alike 102 = .ok (.iload 5, 2) := by decide +kernel
theorem dX4_alike_104 : decode cX4_alike 104 = .ok (.invokevirtual 102, 3) := by decide +kernel
theorem dX4_alike_107 : decode cX4_alike 107 = .ok (.aload_n 0, 1) := by decide +kernel
theorem dX4_alike_108 : decode cX4_alike 108 = .ok (.iload_n 2, 1) := by decide +kernel
theorem dX4_alike_109 : decode cX4_alike 109 = .ok (.iconst 0, 1) := by decide +kernel
theorem dX4_alike_110 : decode cX4_alike 110 = .ok (.iload 5, 2) := by decide +kernel
theorem dX4_alike_112 : decode cX4_alike 112 = .ok (.invokevirtual 102, 3) := by decide +kernel
theorem dX4_alike_115 : decode cX4_alike 115 = .ok (.if_icmp .eq 10, 3) := by decide +kernel
theorem dX4_alike_118 : decode cX4_alike 118 = .ok (.iconst 1, 1) := by decide +kernel
theorem dX4_alike_119 : decode cX4_alike 119 = .ok (.iload 5, 2) := by decide +kernel
theorem dX4_alike_121 : decode cX4_alike 121 = .ok (.ishl, 1) := by decide +kernel
theorem dX4_alike_122 : decode cX4_alike 122 = .ok (.goto 4, 3) := by decide +kernel
theorem dX4_alike_125 : decode cX4_alike 125 = .ok (.iconst 0, 1) := by decide +kernel
theorem dX4_alike_126 : decode cX4_alike 126 = .ok (.ior, 1) := by decide +kernel
theorem dX4_alike_127 : decode cX4_alike 127 = .ok (.istore_n 3, 1) := by decide +kernel
theorem dX4_alike_128 : decode cX4_alike 128 = .ok (.iconst 0, 1) := by decide +kernel
theorem dX4_alike_129 : decode cX4_alike 129 = .ok (.istore 6, 2) := by decide +kernel
theorem dX4_alike_131 : decode cX4_alike 131 = .ok (.iload 6, 2) := by decide +kernel
theorem dX4_alike_133 : decode cX4_alike 133 = .ok (.iload 5, 2) := by decide +kernel
theorem dX4_alike_135 : decode cX4_alike 135 = .ok (.if_icmp .ge 62, 3) := by decide +kernel
theorem dX4_alike_138 : decode cX4_alike 138 = .ok (.iconst 0, 1) := by decide +kernel
theorem dX4_alike_139 : decode cX4_alike 139 = .ok (.istore 7, 2) := by decide +kernel
theorem dX4_alike_141 : decode cX4_alike 141 = .ok (.iload 7, 2) := by decide +kernel
theorem dX4_alike_143 : decode cX4_alike 143 = .ok (.iload 6, 2) := by decide +kernel
theorem dX4_alike_145 : decode cX4_alike 145 = .ok (.if_icmp .ge 46, 3) := by decide +kernel
theorem dX4_alike_148 : decode cX4_alike 148 = .ok (.iload 4, 2) := by decide +kernel
theorem dX4_alike_150 : decode cX4_alike 150 = .ok (.ifCond .eq 32, 3) := by decide +kernel
theorem dX4_alike_153 : decode cX4_alike 153 = .ok (.aload_n 0, 1) := by decide +kernel
theorem dX4_alike_154 : decode cX4_alike 154 = .ok (.iload_n 1, 1) := by decide +kernel
theorem dX4_alike_155 : decode cX4_alike 155 = .ok (.iload 7, 2) := by decide +kernel
theorem dX4_alike_157 : decode cX4_alike 157 = .ok (.iload 6, 2) := by decide +kernel
theorem dX4_alike_159 : decode cX4_alike 159 = .ok (.iload 5, 2) := by decide +kernel
theorem dX4_alike_161 : decode cX4_alike 161 = .ok (.invokevirtual 249, 3) := by decide +kernel
theorem dX4_alike_164 : decode cX4_alike 164 = .ok (.aload_n 0, 1) := by decide +kernel
theorem dX4_alike_165 : decode cX4_alike 165 = .ok (.iload_n 2, 1) := by decide +kernel
theorem dX4_alike_166 : decode cX4_alike 166 = .ok (.iload 7, 2) := by decide +kernel
theorem dX4_alike_168 : decode cX4_alike 168 = .ok (.iload 6, 2) := by decide +kernel
theorem dX4_alike_170 : decode cX4_alike 170 = .ok (.iload 5, 2) := by decide +kernel
theorem dX4_alike_172 : decode cX4_alike 172 = .ok (.invokevirtual 249, 3) := by decide +kernel
theorem dX4_alike_175 : decode cX4_alike 175 = .ok (.if_icmp .ne 7, 3) := by decide +kernel
theorem dX4_alike_178 : decode cX4_alike 178 = .ok (.iconst 1, 1) := by decide +kernel
theorem dX4_alike_179 : decode cX4_alike 179 = .ok (.goto 4, 3) := by decide +kernel
theorem dX4_alike_182 : decode cX4_alike 182 = .ok (.iconst 0, 1) := by decide +kernel
theorem dX4_alike_183 : decode cX4_alike 183 = .ok (.istore 4, 2) := by decide +kernel
theorem dX4_alike_185 : decode cX4_alike 185 = .ok (.iinc 7 1, 3) := by decide +kernel
theorem dX4_alike_188 : decode cX4_alike 188 = .ok (.goto (-47), 3) := by decide +kernel
theorem dX4_alike_191 : decode cX4_alike 191 = .ok (.iinc 6 1, 3) := by decide +kernel
theorem dX4_alike_194 : decode cX4_alike 194 = .ok (.goto (-63), 3) := by decide +kernel
theorem dX4_alike_197 : decode cX4_alike 197 = .ok (.iinc 5 1, 3) := by decide +kernel
theorem dX4_alike_200 : decode cX4_alike 200 = .ok (.goto (-113), 3) := by decide +kernel
theorem dX4_alike_203 : decode cX4_alike 203 = .ok (.iload 4, 2) := by decide +kernel
theorem dX4_alike_205 : decode cX4_alike 205 = .ok (.ifCond .eq 12, 3) := by decide +kernel
theorem dX4_alike_208 : decode cX4_alike 208 = .ok (.aload_n 0, 1) := by decide +kernel
theorem dX4_alike_209 : decode cX4_alike 209 = .ok (.iload_n 3, 1) := by decide +kernel
theorem dX4_alike_210 : decode cX4_alike 210 = .ok (.iconst 1, 1) := by decide +kernel
theorem dX4_alike_211 : decode cX4_alike 211 = .ok (.invokevirtual 92, 3) := by decide +kernel
theorem dX4_alike_214 : decode cX4_alike 214 = .ok (.goto 4, 3) := by decide +kernel
theorem dX4_alike_217 : decode cX4_alike 217 = .ok (.iconst 0, 1) := by decide +kernel
theorem dX4_alike_218 : decode cX4_alike 218 = .ok (.ireturn, 1) := by decide +kernel
theorem dX4_fewest_0 : decode cX4_fewest 0 = .ok (.aload_n 0, 1) := by decide +kernel
theorem dX4_fewest_1 : decode cX4_fewest 1 = .ok (.iload_n 1, 1) := by decide +kernel
theorem dX4_fewest_2 : decode cX4_fewest 2 = .ok (.invokevirtual 246, 3) := by decide +kernel
theorem dX4_fewest_5 : decode cX4_fewest 5 = .ok (.istore_n 2, 1) := by decide +kernel
theorem dX4_fewest_6 : decode cX4_fewest 6 = .ok (.iload_n 2, 1) := by decide +kernel
theorem dX4_fewest_7 : decode cX4_fewest 7 = .ok (.ifCond .ge 5, 3) := by decide +kernel
theorem dX4_fewest_10 : decode cX4_fewest 10 = .ok (.iload_n 2, 1) := by decide +kernel
theorem dX4_fewest_11 : decode cX4_fewest 11 = .ok (.ireturn, 1) := by decide +kernel
theorem dX4_fewest_12 : decode cX4_fewest 12 = .ok (.bipush (-9), 2) := by decide +kernel
theorem dX4_fewest_14 : decode cX4_fewest 14 = .ok (.istore_n 3, 1) := by decide +kernel
theorem dX4_fewest_15 : decode cX4_fewest 15 = .ok (.iconst 0, 1) := by decide +kernel
theorem dX4_fewest_16 : decode cX4_fewest 16 = .ok (.istore 4, 2) := by decide +kernel
theorem dX4_fewest_18 : decode cX4_fewest 18 = .ok (.iconst 0, 1) := by decide +kernel
theorem dX4_fewest_19 : decode cX4_fewest 19 = .ok (.istore 5, 2) := by decide +kernel
theorem dX4_fewest_21 : decode cX4_fewest 21 = .ok (.iload 5, 2) := by decide +kernel
theorem dX4_fewest_23 : decode cX4_fewest 23 = .ok (.iconst 1, 1) := by decide +kernel
theorem dX4_fewest_24 : decode cX4_fewest 24 = .ok (.aload_n 0, 1) := by decide +kernel
theorem dX4_fewest_25 : decode cX4_fewest 25 = .ok (.getfield 26, 3) := by decide +kernel
theorem dX4_fewest_28 : decode cX4_fewest 28 = .ok (.iload_n 1, 1) := by decide +kernel
theorem dX4_fewest_29 : decode cX4_fewest 29 = .ok (.iaload, 1) := by decide +kernel
theorem dX4_fewest_30 : decode cX4_fewest 30 = .ok (.ishl, 1) := by decide +kernel
theorem dX4_fewest_31 : decode cX4_fewest 31 = .ok (.if_icmp .ge 105, 3) := by decide +kernel
theorem dX4_fewest_34 : decode cX4_fewest 34 = .ok (.iconst 0, 1) := by decide +kernel
theorem dX4_fewest_35 : decode cX4_fewest 35 = .ok (.istore 6, 2) := by decide +kernel
theorem dX4_fewest_37 : decode cX4_fewest 37 = .ok (.iconst 0, 1) := by decide +kernel
theorem dX4_fewest_38 : decode cX4_fewest 38 = .ok (.istore 7, 2) := by decide +kernel
theorem dX4_fewest_40 : decode cX4_fewest 40 = .ok (.iload 7, 2) := by decide +kernel
theorem dX4_fewest_42 : decode cX4_fewest 42 = .ok (.aload_n 0, 1) := by decide +kernel
theorem dX4_fewest_43 : decode cX4_fewest 43 = .ok (.getfield 26, 3) := by decide +kernel
theorem dX4_fewest_46 : decode cX4_fewest 46 = .ok (.iload_n 1, 1) := by decide +kernel
theorem dX4_fewest_47 : decode cX4_fewest 47 = .ok (.iaload, 1) := by decide +kernel
theorem dX4_fewest_48 : decode cX4_fewest 48 = .ok (.if_icmp .ge 64, 3) := by decide +kernel
theorem dX4_fewest_51 : decode cX4_fewest 51 = .ok (.iconst 0, 1) := by decide +kernel
theorem dX4_fewest_52 : decode cX4_fewest 52 = .ok (.istore 8, 2) := by decide +kernel
theorem dX4_fewest_54 : decode cX4_fewest 54 = .ok (.iload 8, 2) := by decide +kernel
theorem dX4_fewest_56 : decode cX4_fewest 56 = .ok (.iload 7, 2) := by decide +kernel
theorem dX4_fewest_58 : decode cX4_fewest 58 = .ok (.if_icmp .ge 48, 3) := by decide +kernel
theorem dX4_fewest_61 : decode cX4_fewest 61 = .ok (.iload 6, 2) := by decide +kernel
theorem dX4_fewest_63 : decode cX4_fewest 63 = .ok (.aload_n 0, 1) := by decide +kernel
theorem dX4_fewest_64 : decode cX4_fewest 64 = .ok (.iload_n 1, 1) := by decide +kernel
theorem dX4_fewest_65 : decode cX4_fewest 65 = .ok (.iload 7, 2) := by decide +kernel
theorem dX4_fewest_67 : decode cX4_fewest 67 = .ok (.iload 8, 2) := by decide +kernel
theorem dX4_fewest_69 : decode cX4_fewest 69 = .ok (.invokevirtual 102, 3) := by decide +kernel
theorem dX4_fewest_72 : decode cX4_fewest 72 = .ok (.iload 5, 2) := by decide +kernel
theorem dX4_fewest_74 : decode cX4_fewest 74 = .ok (.iload 7, 2) := by decide +kernel
theorem dX4_fewest_76 : decode cX4_fewest 76 = .ok (.invokestatic 240, 3) := by decide +kernel
theorem dX4_fewest_79 : decode cX4_fewest 79 = .ok (.imul, 1) := by decide +kernel
theorem dX4_fewest_80 : decode cX4_fewest 80 = .ok (.iload 5, 2) := by decide +kernel
theorem dX4_fewest_82 : decode cX4_fewest 82 = .ok (.iload 8, 2) := by decide +kernel
theorem dX4_fewest_84 : decode cX4_fewest 84 = .ok (.invokestatic 240, 3) := by decide +kernel
theorem dX4_fewest_87 : decode cX4_fewest 87 = .ok (.imul, 1) := by decide +kernel
theorem dX4_fewest_88 : decode cX4_fewest 88 = .ok (.iconst (-1), 1) := by decide +kernel
theorem dX4_fewest_89 : decode cX4_fewest 89 = .ok (.if_icmp .ne 7, 3) := by decide +kernel
theorem dX4_fewest_92 : decode cX4_fewest 92 = .ok (.iconst 1, 1) := by decide +kernel
theorem dX4_fewest_93 : decode cX4_fewest 93 = .ok (.goto 4, 3) := by decide +kernel
theorem dX4_fewest_96 : decode cX4_fewest 96 = .ok (.iconst 0, 1) := by decide +kernel
theorem dX4_fewest_97 : decode cX4_fewest 97 = .ok (.iadd, 1) := by decide +kernel
theorem dX4_fewest_98 : decode cX4_fewest 98 = .ok (.istore 6, 2) := by decide +kernel
theorem dX4_fewest_100 : decode cX4_fewest 100 = .ok (.iinc 8 1, 3) := by decide +kernel
theorem dX4_fewest_103 : decode cX4_fewest 103 = .ok (.goto (-49), 3) := by decide +kernel
theorem dX4_fewest_106 : decode cX4_fewest 106 = .ok (.iinc 7 1, 3) := by decide +kernel
theorem dX4_fewest_109 : decode cX4_fewest 109 = .ok (.goto (-69), 3) := by decide +kernel
theorem dX4_fewest_112 : decode cX4_fewest 112 = .ok (.iload_n 3, 1) := by decide +kernel
theorem dX4_fewest_113 : decode cX4_fewest 113 = .ok (.ifCond .lt 10, 3) := by decide +kernel
theorem dX4_fewest_116 : decode cX4_fewest 116 = .ok (.iload 6, 2) := by decide +kernel
theorem dX4_fewest_118 : decode cX4_fewest 118 = .ok (.iload 4, 2) := by decide +kernel
theorem dX4_fewest_120 : decode cX4_fewest 120 = .ok (.if_icmp .ge 10, 3) := by decide +kernel
theorem dX4_fewest_123 : decode cX4_fewest 123 = .ok (.iload 5, 2) := by decide +kernel
theorem dX4_fewest_125 : decode cX4_fewest 125 = .ok (.istore_n 3, 1) := by decide +kernel
theorem dX4_fewest_126 : decode cX4_fewest 126 = .ok (.iload 6, 2) := by decide +kernel
theorem dX4_fewest_128 : decode cX4_fewest 128 = .ok (.istore 4, 2) := by decide +kernel
theorem dX4_fewest_130 : decode cX4_fewest 130 = .ok (.iinc 5 2, 3) := by decide +kernel
theorem dX4_fewest_133 : decode cX4_fewest 133 = .ok (.goto (-112), 3) := by decide +kernel
theorem dX4_fewest_136 : decode cX4_fewest 136 = .ok (.aload_n 0, 1) := by decide +kernel
theorem dX4_fewest_137 : decode cX4_fewest 137 = .ok (.iload_n 3, 1) := by decide +kernel
theorem dX4_fewest_138 : decode cX4_fewest 138 = .ok (.iload 4, 2) := by decide +kernel
theorem dX4_fewest_140 : decode cX4_fewest 140 = .ok (.invokevirtual 92, 3) := by decide +kernel
theorem dX4_fewest_143 : decode cX4_fewest 143 = .ok (.ireturn, 1) := by decide +kernel
theorem dX4_even_0 : decode cX4_even 0 = .ok (.iload_n 2, 1) := by decide +kernel
theorem dX4_even_1 : decode cX4_even 1 = .ok (.iconst 0, 1) := by decide +kernel
theorem dX4_even_2 : decode cX4_even 2 = .ok (.iconst 3, 1) := by decide +kernel
theorem dX4_even_3 : decode cX4_even 3 = .ok (.invokestatic 73, 3) := by decide +kernel
theorem dX4_even_6 : decode cX4_even 6 = .ok (.ifCond .ne 5, 3) := by decide +kernel
theorem dX4_even_9 : decode cX4_even 9 = .ok (.iconst (-1), 1) := by decide +kernel
theorem dX4_even_10 : decode cX4_even 10 = .ok (.ireturn, 1) := by decide +kernel
theorem dX4_even_11 : decode cX4_even 11 = .ok (.aload_n 0, 1) := by decide +kernel
theorem dX4_even_12 : decode cX4_even 12 = .ok (.iload_n 1, 1) := by decide +kernel
theorem dX4_even_13 : decode cX4_even 13 = .ok (.invokevirtual 143, 3) := by decide +kernel
theorem dX4_even_16 : decode cX4_even 16 = .ok (.istore_n 3, 1) := by decide +kernel
theorem dX4_even_17 : decode cX4_even 17 = .ok (.iload_n 3, 1) := by decide +kernel
theorem dX4_even_18 : decode cX4_even 18 = .ok (.ifCond .ge 5, 3) := by decide +kernel
theorem dX4_even_21 : decode cX4_even 21 = .ok (.iload_n 3, 1) := by decide +kernel
theorem dX4_even_22 : decode cX4_even 22 = .ok (.ireturn, 1) := by decide +kernel
theorem dX4_even_23 : decode cX4_even 23 = .ok (.aload_n 0, 1) := by decide +kernel
theorem dX4_even_24 : decode cX4_even 24 = .ok (.getfield 32, 3) := by decide +kernel
theorem dX4_even_27 : decode cX4_even 27 = .ok (.iload_n 1, 1) := by decide +kernel
theorem dX4_even_28 : decode cX4_even 28 = .ok (.iaload, 1) := by decide +kernel
theorem dX4_even_29 : decode cX4_even 29 = .ok (.iconst 4, 1) := by decide +kernel
theorem dX4_even_30 : decode cX4_even 30 = .ok (.if_icmp .eq 9, 3) := by decide +kernel
theorem dX4_even_33 : decode cX4_even 33 = .ok (.aload_n 0, 1) := by decide +kernel
theorem dX4_even_34 : decode cX4_even 34 = .ok (.iconst 3, 1) := by decide +kernel
theorem dX4_even_35 : decode cX4_even 35 = .ok (.invokevirtual 81, 3) := by decide +kernel
theorem dX4_even_38 : decode cX4_even 38 = .ok (.ireturn, 1) := by decide +kernel
theorem dX4_even_39 : decode cX4_even 39 = .ok (.iload_n 2, 1) := by decide +kernel
theorem dX4_even_40 : decode cX4_even 40 = .ok (.ifCond .ne 12, 3) := by decide +kernel
theorem dX4_even_43 : decode cX4_even 43 = .ok (.aload_n 0, 1) := by decide +kernel
theorem dX4_even_44 : decode cX4_even 44 = .ok (.getfield 26, 3) := by decide +kernel
theorem dX4_even_47 : decode cX4_even 47 = .ok (.iload_n 1, 1) := by decide +kernel
theorem dX4_even_48 : decode cX4_even 48 = .ok (.iaload, 1) := by decide +kernel
theorem dX4_even_49 : decode cX4_even 49 = .ok (.goto 32, 3) := by decide +kernel
theorem dX4_even_52 : decode cX4_even 52 = .ok (.iload_n 2, 1) := by decide +kernel
theorem dX4_even_53 : decode cX4_even 53 = .ok (.iconst 1, 1) := by decide +kernel
theorem dX4_even_54 : decode cX4_even 54 = .ok (.if_icmp .ne 12, 3) := by decide +kernel
theorem dX4_even_57 : decode cX4_even 57 = .ok (.aload_n 0, 1) := by decide +kernel
theorem dX4_even_58 : decode cX4_even 58 = .ok (.iload_n 1, 1) := by decide +kernel
theorem dX4_even_59 : decode cX4_even 59 = .ok (.iconst 0, 1) := by decide +kernel
theorem dX4_even_60 : decode cX4_even 60 = .ok (.invokevirtual 115, 3) := by decide +kernel
theorem dX4_even_63 : decode cX4_even 63 = .ok (.goto 18, 3) := by decide +kernel
theorem dX4_even_66 : decode cX4_even 66 = .ok (.aload_n 0, 1) := by decide +kernel
theorem dX4_even_67 : decode cX4_even 67 = .ok (.iload_n 1, 1) := by decide +kernel
theorem dX4_even_68 : decode cX4_even 68 = .ok (.iload_n 2, 1) := by decide +kernel
theorem dX4_even_69 : decode cX4_even 69 = .ok (.iconst 2, 1) := by decide +kernel
theorem dX4_even_70 : decode cX4_even 70 = .ok (.if_icmp .ne 7, 3) := by decide +kernel
theorem dX4_even_73 : decode cX4_even 73 = .ok (.iconst (-1), 1) := by decide +kernel
theorem dX4_even_74 : decode cX4_even 74 = .ok (.goto 4, 3) := by decide +kernel
theorem dX4_even_77 : decode cX4_even 77 = .ok (.iconst 1, 1) := by decide +kernel
theorem dX4_even_78 : decode cX4_even 78 = .ok (.invokevirtual 112, 3) := by decide +kernel
theorem dX4_even_81 : decode cX4_even 81 = .ok (.ireturn, 1) := by decide +kernel
theorem dX4_setForm_0 : decode cX4_setForm 0 = .ok (.aload_n 0, 1) := by decide +kernel
theorem dX4_setForm_1 : decode cX4_setForm 1 = .ok (.getfield 26, 3) := by decide +kernel
theorem dX4_setForm_4 : decode cX4_setForm 4 = .ok (.iload_n 1, 1) := by decide +kernel
theorem dX4_setForm_5 : decode cX4_setForm 5 = .ok (.iaload, 1) := by decide +kernel
theorem dX4_setForm_6 : decode cX4_setForm 6 = .ok (.istore_n 2, 1) := by decide +kernel
theorem dX4_setForm_7 : decode cX4_setForm 7 = .ok (.iconst 0, 1) := by decide +kernel
theorem dX4_setForm_8 : decode cX4_setForm 8 = .ok (.istore_n 3, 1) := by decide +kernel
theorem dX4_setForm_9 : decode cX4_setForm 9 = .ok (.iload_n 3, 1) := by decide +kernel
theorem dX4_setForm_10 : decode cX4_setForm 10 = .ok (.sipush 144, 3) := by decide +kernel
theorem dX4_setForm_13 : decode cX4_setForm 13 = .ok (.if_icmp .ge 27, 3) := by decide +kernel
theorem dX4_setForm_16 : decode cX4_setForm 16 = .ok (.aload_n 0, 1) := by decide +kernel
theorem dX4_setForm_17 : decode cX4_setForm 17 = .ok (.getfield 54, 3) := by decide +kernel
theorem dX4_setForm_20 : decode cX4_setForm 20 = .ok (.iload_n 3, 1) := by decide +kernel
theorem dX4_setForm_21 : decode cX4_setForm 21 = .ok (.iload_n 3, 1) := by decide +kernel
theorem dX4_setForm_22 : decode cX4_setForm 22 = .ok (.bipush 13, 2) := by decide +kernel
theorem dX4_setForm_24 : decode cX4_setForm 24 = .ok (.irem, 1) := by decide +kernel
theorem dX4_setForm_25 : decode cX4_setForm 25 = .ok (.ifCond .ne 7, 3) := by decide +kernel
theorem dX4_setForm_28 : decode cX4_setForm 28 = .ok (.lconst 1, 1) := by decide +kernel
theorem dX4_setForm_29 : decode cX4_setForm 29 = .ok (.goto 4, 3) := by decide +kernel
theorem dX4_setForm_32 : decode cX4_setForm 32 = .ok (.lconst 0, 1) := by decide +kernel
theorem dX4_setForm_33 : decode cX4_setForm 33 = .ok (.lastore, 1) := by decide +kernel
theorem dX4_setForm_34 : decode cX4_setForm 34 = .ok (.iinc 3 1, 3) := by decide +kernel
theorem dX4_setForm_37 : decode cX4_setForm 37 = .ok (.goto (-28), 3) := by decide +kernel
theorem dX4_setForm_40 : decode cX4_setForm 40 = .ok (.iload_n 2, 1) := by decide +kernel
theorem dX4_setForm_41 : decode cX4_setForm 41 = .ok (.iconst 2, 1) := by decide +kernel
theorem dX4_setForm_42 : decode cX4_setForm 42 = .ok (.irem, 1) := by decide +kernel
theorem dX4_setForm_43 : decode cX4_setForm 43 = .ok (.ifCond .ne 7, 3) := by decide +kernel
theorem dX4_setForm_46 : decode cX4_setForm 46 = .ok (.lconst 1, 1) := by decide +kernel
theorem dX4_setForm_47 : decode cX4_setForm 47 = .ok (.goto 6, 3) := by decide +kernel
theorem dX4_setForm_50 : decode cX4_setForm 50 = .ok (.ldc2_w 253, 3) := by decide +kernel
theorem dX4_setForm_53 : decode cX4_setForm 53 = .ok (.lstore_n 3, 1) := by decide +kernel
theorem dX4_setForm_54 : decode cX4_setForm 54 = .ok (.aload_n 0, 1) := by decide +kernel
theorem dX4_setForm_55 : decode cX4_setForm 55 = .ok (.getfield 60, 3) := by decide +kernel
theorem dX4_setForm_58 : decode cX4_setForm 58 = .ok (.iload_n 2, 1) := by decide +kernel
theorem dX4_setForm_59 : decode cX4_setForm 59 = .ok (.lload_n 3, 1) := by decide +kernel
theorem dX4_setForm_60 : decode cX4_setForm 60 = .ok (.lastore, 1) := by decide +kernel
theorem dX4_setForm_61 : decode cX4_setForm 61 = .ok (.iconst 1, 1) := by decide +kernel
theorem dX4_setForm_62 : decode cX4_setForm 62 = .ok (.istore 5, 2) := by decide +kernel
theorem dX4_setForm_64 : decode cX4_setForm 64 = .ok (.iload 5, 2) := by decide +kernel
theorem dX4_setForm_66 : decode cX4_setForm 66 = .ok (.iload_n 2, 1) := by decide +kernel
theorem dX4_setForm_67 : decode cX4_setForm 67 = .ok (.if_icmp .gt 214, 3) := by decide +kernel
theorem dX4_setForm_70 : decode cX4_setForm 70 = .ok (.lconst 0, 1) := by decide +kernel
theorem dX4_setForm_71 : decode cX4_setForm 71 = .ok (.lstore 6, 2) := by decide +kernel
theorem dX4_setForm_73 : decode cX4_setForm 73 = .ok (.iconst 0, 1) := by decide +kernel
theorem dX4_setForm_74 : decode cX4_setForm 74 = .ok (.istore 8, 2) := by decide +kernel
theorem dX4_setForm_76 : decode cX4_setForm 76 = .ok (.iload 8, 2) := by decide +kernel
theorem dX4_setForm_78 : decode cX4_setForm 78 = .ok (.iload_n 2, 1) := by decide +kernel
theorem dX4_setForm_79 : decode cX4_setForm 79 = .ok (.if_icmp .ge 104, 3) := by decide +kernel
theorem dX4_setForm_82 : decode cX4_setForm 82 = .ok (.iconst 0, 1) := by decide +kernel
theorem dX4_setForm_83 : decode cX4_setForm 83 = .ok (.istore 9, 2) := by decide +kernel
theorem dX4_setForm_85 : decode cX4_setForm 85 = .ok (.iload 9, 2) := by decide +kernel
theorem dX4_setForm_87 : decode cX4_setForm 87 = .ok (.iload_n 2, 1) := by decide +kernel
theorem dX4_setForm_88 : decode cX4_setForm 88 = .ok (.if_icmp .ge 89, 3) := by decide +kernel
theorem dX4_setForm_91 : decode cX4_setForm 91 = .ok (.lconst 0, 1) := by decide +kernel
theorem dX4_setForm_92 : decode cX4_setForm 92 = .ok (.lstore 10, 2) := by decide +kernel
theorem dX4_setForm_94 : decode cX4_setForm 94 = .ok (.iconst 0, 1) := by decide +kernel
theorem dX4_setForm_95 : decode cX4_setForm 95 = .ok (.istore 12, 2) := by decide +kernel
theorem dX4_setForm_97 : decode cX4_setForm 97 = .ok (.iload 12, 2) := by decide +kernel
theorem dX4_setForm_99 : decode cX4_setForm 99 = .ok (.iload_n 2, 1) := by decide +kernel
theorem dX4_setForm_100 : decode cX4_setForm 100 = .ok (.if_icmp .ge 38, 3) := by decide +kernel
theorem dX4_setForm_103 : decode cX4_setForm 103 = .ok (.lload 10, 2) := by decide +kernel
theorem dX4_setForm_105 : decode cX4_setForm 105 = .ok (.aload_n 0, 1) := by decide +kernel
theorem dX4_setForm_106 : decode cX4_setForm 106 = .ok (.iload_n 1, 1) := by decide +kernel
theorem dX4_setForm_107 : decode cX4_setForm 107 = .ok (.iload 8, 2) := by decide +kernel
theorem dX4_setForm_109 : decode cX4_setForm 109 = .ok (.iload 12, 2) := by decide +kernel
theorem dX4_setForm_111 : decode cX4_setForm 111 = .ok (.invokevirtual 102, 3) := by decide +kernel
theorem dX4_setForm_114 : decode cX4_setForm 114 = .ok (.i2l, 1) := by decide +kernel
theorem dX4_setForm_115 : decode cX4_setForm 115 = .ok (.aload_n 0, 1) := by decide +kernel
theorem dX4_setForm_116 : decode cX4_setForm 116 = .ok (.getfield 54, 3) := by decide +kernel
theorem dX4_setForm_119 : decode cX4_setForm 119 = .ok (.bipush 12, 2) := by decide +kernel
theorem dX4_setForm_121 : decode cX4_setForm 121 = .ok (.iload 12, 2) := by decide +kernel
theorem dX4_setForm_123 : decode cX4_setForm 123 = .ok (.imul, 1) := by decide +kernel
theorem dX4_setForm_124 : decode cX4_setForm 124 = .ok (.iload 9, 2) := by decide +kernel
theorem dX4_setForm_126 : decode cX4_setForm 126 = .ok (.iadd, 1) := by decide +kernel
theorem dX4_setForm_127 : decode cX4_setForm 127 = .ok (.laload, 1) := by decide +kernel
theorem dX4_setForm_128 : decode cX4_setForm 128 = .ok (.lmul, 1) := by decide +kernel
theorem dX4_setForm_129 : decode cX4_setForm 129 = .ok (.ladd, 1) := by decide +kernel
theorem dX4_setForm_130 : decode cX4_setForm 130 = .ok (.lstore 10, 2) := by decide +kernel
theorem dX4_setForm_132 : decode cX4_setForm 132 = .ok (.iinc 12 1, 3) := by decide +kernel
theorem dX4_setForm_135 : decode cX4_setForm 135 = .ok (.goto (-38), 3) := by decide +kernel
theorem dX4_setForm_138 : decode cX4_setForm 138 = .ok (.aload_n 0, 1) := by decide +kernel
theorem dX4_setForm_139 : decode cX4_setForm 139 = .ok (.getfield 57, 3) := by decide +kernel
theorem dX4_setForm_142 : decode cX4_setForm 142 = .ok (.bipush 12, 2) := by decide +kernel
theorem dX4_setForm_144 : decode cX4_setForm 144 = .ok (.iload 8, 2) := by decide +kernel
theorem dX4_setForm_146 : decode cX4_setForm 146 = .ok (.imul, 1) := by decide +kernel
theorem dX4_setForm_147 : decode cX4_setForm 147 = .ok (.iload 9, 2) := by decide +kernel
theorem dX4_setForm_149 : decode cX4_setForm 149 = .ok (.iadd, 1) := by decide +kernel
theorem dX4_setForm_150 : decode cX4_setForm 150 = .ok (.lload 10, 2) := by decide +kernel
theorem dX4_setForm_152 : decode cX4_setForm 152 = .ok (.lastore, 1) := by decide +kernel
theorem dX4_setForm_153 : decode cX4_setForm 153 = .ok (.lload 6, 2) := by decide +kernel
theorem dX4_setForm_155 : decode cX4_setForm 155 = .ok (.iload 8, 2) := by decide +kernel
theorem dX4_setForm_157 : decode cX4_setForm 157 = .ok (.iload 9, 2) := by decide +kernel
theorem dX4_setForm_159 : decode cX4_setForm 159 = .ok (.if_icmp .ne 8, 3) := by decide +kernel
theorem dX4_setForm_162 : decode cX4_setForm 162 = .ok (.lload 10, 2) := by decide +kernel
theorem dX4_setForm_164 : decode cX4_setForm 164 = .ok (.goto 4, 3) := by decide +kernel
theorem dX4_setForm_167 : decode cX4_setForm 167 = .ok (.lconst 0, 1) := by decide +kernel
theorem dX4_setForm_168 : decode cX4_setForm 168 = .ok (.ladd, 1) := by decide +kernel
theorem dX4_setForm_169 : decode cX4_setForm 169 = .ok (.lstore 6, 2) := by decide +kernel
theorem dX4_setForm_171 : decode cX4_setForm 171 = .ok (.iinc 9 1, 3) := by decide +kernel
theorem dX4_setForm_174 : decode cX4_setForm 174 = .ok (.goto (-89), 3) := by decide +kernel
theorem dX4_setForm_177 : decode cX4_setForm 177 = .ok (.iinc 8 1, 3) := by decide +kernel
theorem dX4_setForm_180 : decode cX4_setForm 180 = .ok (.goto (-104), 3) := by decide +kernel
theorem dX4_setForm_183 : decode cX4_setForm 183 = .ok (.lload 6, 2) := by decide +kernel
theorem dX4_setForm_185 : decode cX4_setForm 185 = .ok (.lneg, 1) := by decide +kernel
theorem dX4_setForm_186 : decode cX4_setForm 186 = .ok (.iload 5, 2) := by decide +kernel
theorem dX4_setForm_188 : decode cX4_setForm 188 = .ok (.i2l, 1) := by decide +kernel
theorem dX4_setForm_189 : decode cX4_setForm 189 = .ok (.ldiv, 1) := by decide +kernel
theorem dX4_setForm_190 : decode cX4_setForm 190 = .ok (.lstore 8, 2) := by decide +kernel
theorem dX4_setForm_192 : decode cX4_setForm 192 = .ok (.aload_n 0, 1) := by decide +kernel
theorem dX4_setForm_193 : decode cX4_setForm 193 = .ok (.getfield 60, 3) := by decide +kernel
theorem dX4_setForm_196 : decode cX4_setForm 196 = .ok (.iload_n 2, 1) := by decide +kernel
theorem dX4_setForm_197 : decode cX4_setForm 197 = .ok (.iload 5, 2) := by decide +kernel
theorem dX4_setForm_199 : decode cX4_setForm 199 = .ok (.isub, 1) := by decide +kernel
theorem dX4_setForm_200 : decode cX4_setForm 200 = .ok (.lload_n 3, 1) := by decide +kernel
theorem dX4_setForm_201 : decode cX4_setForm 201 = .ok (.lload 8, 2) := by decide +kernel
theorem dX4_setForm_203 : decode cX4_setForm 203 = .ok (.lmul, 1) := by decide +kernel
theorem dX4_setForm_204 : decode cX4_setForm 204 = .ok (.lastore, 1) := by decide +kernel
theorem dX4_setForm_205 : decode cX4_setForm 205 = .ok (.iconst 0, 1) := by decide +kernel
theorem dX4_setForm_206 : decode cX4_setForm 206 = .ok (.istore 10, 2) := by decide +kernel
theorem dX4_setForm_208 : decode cX4_setForm 208 = .ok (.iload 10, 2) := by decide +kernel
theorem dX4_setForm_210 : decode cX4_setForm 210 = .ok (.iload_n 2, 1) := by decide +kernel
theorem dX4_setForm_211 : decode cX4_setForm 211 = .ok (.if_icmp .ge 64, 3) := by decide +kernel
theorem dX4_setForm_214 : decode cX4_setForm 214 = .ok (.iconst 0, 1) := by decide +kernel
theorem dX4_setForm_215 : decode cX4_setForm 215 = .ok (.istore 11, 2) := by decide +kernel
theorem dX4_setForm_217 : decode cX4_setForm 217 = .ok (.iload 11, 2) := by decide +kernel
theorem dX4_setForm_219 : decode cX4_setForm 219 = .ok (.iload_n 2, 1) := by decide +kernel
theorem dX4_setForm_220 : decode cX4_setForm 220 = .ok (.if_icmp .ge 49, 3) := by decide +kernel
theorem dX4_setForm_223 : decode cX4_setForm 223 = .ok (.aload_n 0, 1) := by decide +kernel
theorem dX4_setForm_224 : decode cX4_setForm 224 = .ok (.getfield 54, 3) := by decide +kernel
theorem dX4_setForm_227 : decode cX4_setForm 227 = .ok (.bipush 12, 2) := by decide +kernel
theorem dX4_setForm_229 : decode cX4_setForm 229 = .ok (.iload 10, 2) := by decide +kernel
theorem dX4_setForm_231 : decode cX4_setForm 231 = .ok (.imul, 1) := by decide +kernel
theorem dX4_setForm_232 : decode cX4_setForm 232 = .ok (.iload 11, 2) := by decide +kernel
theorem dX4_setForm_234 : decode cX4_setForm 234 = .ok (.iadd, 1) := by decide +kernel
theorem dX4_setForm_235 : decode cX4_setForm 235 = .ok (.aload_n 0, 1) := by decide +kernel
theorem dX4_setForm_236 : decode cX4_setForm 236 = .ok (.getfield 57, 3) := by decide +kernel
theorem dX4_setForm_239 : decode cX4_setForm 239 = .ok (.bipush 12, 2) := by decide +kernel
theorem dX4_setForm_241 : decode cX4_setForm 241 = .ok (.iload 10, 2) := by decide +kernel
theorem dX4_setForm_243 : decode cX4_setForm 243 = .ok (.imul, 1) := by decide +kernel
theorem dX4_setForm_244 : decode cX4_setForm 244 = .ok (.iload 11, 2) := by decide +kernel
theorem dX4_setForm_246 : decode cX4_setForm 246 = .ok (.iadd, 1) := by decide +kernel
theorem dX4_setForm_247 : decode cX4_setForm 247 = .ok (.laload, 1) := by decide +kernel
theorem dX4_setForm_248 : decode cX4_setForm 248 = .ok (.iload 10, 2) := by decide +kernel
theorem dX4_setForm_250 : decode cX4_setForm 250 = .ok (.iload 11, 2) := by decide +kernel
theorem dX4_setForm_252 : decode cX4_setForm 252 = .ok (.if_icmp .ne 8, 3) := by decide +kernel
theorem dX4_setForm_255 : decode cX4_setForm 255 = .ok (.lload 8, 2) := by decide +kernel
theorem dX4_setForm_257 : decode cX4_setForm 257 = .ok (.goto 4, 3) := by decide +kernel
theorem dX4_setForm_260 : decode cX4_setForm 260 = .ok (.lconst 0, 1) := by decide +kernel
theorem dX4_setForm_261 : decode cX4_setForm 261 = .ok (.ladd, 1) := by decide +kernel
theorem dX4_setForm_262 : decode cX4_setForm 262 = .ok (.lastore, 1) := by decide +kernel
theorem dX4_setForm_263 : decode cX4_setForm 263 = .ok (.iinc 11 1, 3) := by decide +kernel
theorem dX4_setForm_266 : decode cX4_setForm 266 = .ok (.goto (-49), 3) := by decide +kernel
theorem dX4_setForm_269 : decode cX4_setForm 269 = .ok (.iinc 10 1, 3) := by decide +kernel
theorem dX4_setForm_272 : decode cX4_setForm 272 = .ok (.goto (-64), 3) := by decide +kernel
theorem dX4_setForm_275 : decode cX4_setForm 275 = .ok (.iinc 5 1, 3) := by decide +kernel
theorem dX4_setForm_278 : decode cX4_setForm 278 = .ok (.goto (-214), 3) := by decide +kernel
theorem dX4_setForm_281 : decode cX4_setForm 281 = .ok (.return_, 1) := by decide +kernel
theorem dX4_own_0 : decode cX4_own 0 = .ok (.iload_n 2, 1) := by decide +kernel
theorem dX4_own_1 : decode cX4_own 1 = .ok (.bipush (-12), 2) := by decide +kernel
theorem dX4_own_3 : decode cX4_own 3 = .ok (.bipush 12, 2) := by decide +kernel
theorem dX4_own_5 : decode cX4_own 5 = .ok (.invokestatic 73, 3) := by decide +kernel
theorem dX4_own_8 : decode cX4_own 8 = .ok (.ifCond .ne 5, 3) := by decide +kernel
theorem dX4_own_11 : decode cX4_own 11 = .ok (.iconst (-1), 1) := by decide +kernel
theorem dX4_own_12 : decode cX4_own 12 = .ok (.ireturn, 1) := by decide +kernel
theorem dX4_own_13 : decode cX4_own 13 = .ok (.aload_n 0, 1) := by decide +kernel
theorem dX4_own_14 : decode cX4_own 14 = .ok (.iload_n 1, 1) := by decide +kernel
theorem dX4_own_15 : decode cX4_own 15 = .ok (.invokevirtual 143, 3) := by decide +kernel
theorem dX4_own_18 : decode cX4_own 18 = .ok (.istore_n 3, 1) := by decide +kernel
theorem dX4_own_19 : decode cX4_own 19 = .ok (.iload_n 3, 1) := by decide +kernel
theorem dX4_own_20 : decode cX4_own 20 = .ok (.ifCond .ge 5, 3) := by decide +kernel
theorem dX4_own_23 : decode cX4_own 23 = .ok (.iload_n 3, 1) := by decide +kernel
theorem dX4_own_24 : decode cX4_own 24 = .ok (.ireturn, 1) := by decide +kernel
theorem dX4_own_25 : decode cX4_own 25 = .ok (.aload_n 0, 1) := by decide +kernel
theorem dX4_own_26 : decode cX4_own 26 = .ok (.iload_n 1, 1) := by decide +kernel
theorem dX4_own_27 : decode cX4_own 27 = .ok (.invokevirtual 255, 3) := by decide +kernel
theorem dX4_own_30 : decode cX4_own 30 = .ok (.aload_n 0, 1) := by decide +kernel
theorem dX4_own_31 : decode cX4_own 31 = .ok (.getfield 26, 3) := by decide +kernel
theorem dX4_own_34 : decode cX4_own 34 = .ok (.iload_n 1, 1) := by decide +kernel
theorem dX4_own_35 : decode cX4_own 35 = .ok (.iaload, 1) := by decide +kernel
theorem dX4_own_36 : decode cX4_own 36 = .ok (.istore 4, 2) := by decide +kernel
theorem dX4_own_38 : decode cX4_own 38 = .ok (.iconst 0, 1) := by decide +kernel
theorem dX4_own_39 : decode cX4_own 39 = .ok (.istore 5, 2) := by decide +kernel
theorem dX4_own_41 : decode cX4_own 41 = .ok (.iload 4, 2) := by decide +kernel
theorem dX4_own_43 : decode cX4_own 43 = .ok (.ifCond .le 22, 3) := by decide +kernel
theorem dX4_own_46 : decode cX4_own 46 = .ok (.aload_n 0, 1) := by decide +kernel
theorem dX4_own_47 : decode cX4_own 47 = .ok (.iload 4, 2) := by decide +kernel
theorem dX4_own_49 : decode cX4_own 49 = .ok (.iload_n 2, 1) := by decide +kernel
theorem dX4_own_50 : decode cX4_own 50 = .ok (.invokevirtual 258, 3) := by decide +kernel
theorem dX4_own_53 : decode cX4_own 53 = .ok (.ifCond .eq 12, 3) := by decide +kernel
theorem dX4_own_56 : decode cX4_own 56 = .ok (.iinc 4 (-1), 3) := by decide +kernel
theorem dX4_own_59 : decode cX4_own 59 = .ok (.iinc 5 1, 3) := by decide +kernel
theorem dX4_own_62 : decode cX4_own 62 = .ok (.goto (-21), 3) := by decide +kernel
theorem dX4_own_65 : decode cX4_own 65 = .ok (.iload 5, 2) := by decide +kernel
theorem dX4_own_67 : decode cX4_own 67 = .ok (.ireturn, 1) := by decide +kernel
theorem dX4_divides_0 : decode cX4_divides 0 = .ok (.lconst 0, 1) := by decide +kernel
theorem dX4_divides_1 : decode cX4_divides 1 = .ok (.lstore_n 3, 1) := by decide +kernel
theorem dX4_divides_2 : decode cX4_divides 2 = .ok (.iload_n 1, 1) := by decide +kernel
theorem dX4_divides_3 : decode cX4_divides 3 = .ok (.istore 5, 2) := by decide +kernel
theorem dX4_divides_5 : decode cX4_divides 5 = .ok (.iload 5, 2) := by decide +kernel
theorem dX4_divides_7 : decode cX4_divides 7 = .ok (.ifCond .le 32, 3) := by decide +kernel
theorem dX4_divides_10 : decode cX4_divides 10 = .ok (.aload_n 0, 1) := by decide +kernel
theorem dX4_divides_11 : decode cX4_divides 11 = .ok (.getfield 60, 3) := by decide +kernel
theorem dX4_divides_14 : decode cX4_divides 14 = .ok (.iload 5, 2) := by decide +kernel
theorem dX4_divides_16 : decode cX4_divides 16 = .ok (.laload, 1) := by decide +kernel
theorem dX4_divides_17 : decode cX4_divides 17 = .ok (.lload_n 3, 1) := by decide +kernel
theorem dX4_divides_18 : decode cX4_divides 18 = .ok (.iload_n 2, 1) := by decide +kernel
theorem dX4_divides_19 : decode cX4_divides 19 = .ok (.i2l, 1) := by decide +kernel
theorem dX4_divides_20 : decode cX4_divides 20 = .ok (.lmul, 1) := by decide +kernel
theorem dX4_divides_21 : decode cX4_divides 21 = .ok (.ladd, 1) := by decide +kernel
theorem dX4_divides_22 : decode cX4_divides 22 = .ok (.lstore_n 3, 1) := by decide +kernel
theorem dX4_divides_23 : decode cX4_divides 23 = .ok (.aload_n 0, 1) := by decide +kernel
theorem dX4_divides_24 : decode cX4_divides 24 = .ok (.getfield 63, 3) := by decide +kernel
theorem dX4_divides_27 : decode cX4_divides 27 = .ok (.iload 5, 2) := by decide +kernel
theorem dX4_divides_29 : decode cX4_divides 29 = .ok (.iconst 1, 1) := by decide +kernel
theorem dX4_divides_30 : decode cX4_divides 30 = .ok (.isub, 1) := by decide +kernel
theorem dX4_divides_31 : decode cX4_divides 31 = .ok (.lload_n 3, 1) := by decide +kernel
theorem dX4_divides_32 : decode cX4_divides 32 = .ok (.lastore, 1) := by decide +kernel
theorem dX4_divides_33 : decode cX4_divides 33 = .ok (.iinc 5 (-1), 3) := by decide +kernel
theorem dX4_divides_36 : decode cX4_divides 36 = .ok (.goto (-31), 3) := by decide +kernel
theorem dX4_divides_39 : decode cX4_divides 39 = .ok (.aload_n 0, 1) := by decide +kernel
theorem dX4_divides_40 : decode cX4_divides 40 = .ok (.getfield 60, 3) := by decide +kernel
theorem dX4_divides_43 : decode cX4_divides 43 = .ok (.iconst 0, 1) := by decide +kernel
theorem dX4_divides_44 : decode cX4_divides 44 = .ok (.laload, 1) := by decide +kernel
theorem dX4_divides_45 : decode cX4_divides 45 = .ok (.lload_n 3, 1) := by decide +kernel
theorem dX4_divides_46 : decode cX4_divides 46 = .ok (.iload_n 2, 1) := by decide +kernel
theorem dX4_divides_47 : decode cX4_divides 47 = .ok (.i2l, 1) := by decide +kernel
theorem dX4_divides_48 : decode cX4_divides 48 = .ok (.lmul, 1) := by decide +kernel
theorem dX4_divides_49 : decode cX4_divides 49 = .ok (.ladd, 1) := by decide +kernel
theorem dX4_divides_50 : decode cX4_divides 50 = .ok (.lconst 0, 1) := by decide +kernel
theorem dX4_divides_51 : decode cX4_divides 51 = .ok (.lcmp, 1) := by decide +kernel
theorem dX4_divides_52 : decode cX4_divides 52 = .ok (.ifCond .eq 5, 3) := by decide +kernel
theorem dX4_divides_55 : decode cX4_divides 55 = .ok (.iconst 0, 1) := by decide +kernel
theorem dX4_divides_56 : decode cX4_divides 56 = .ok (.ireturn, 1) := by decide +kernel
theorem dX4_divides_57 : decode cX4_divides 57 = .ok (.iconst 0, 1) := by decide +kernel
theorem dX4_divides_58 : decode cX4_divides 58 = .ok (.istore 5, 2) := by decide +kernel
theorem dX4_divides_60 : decode cX4_divides 60 = .ok (.iload 5, 2) := by decide +kernel
theorem dX4_divides_62 : decode cX4_divides 62 = .ok (.iload_n 1, 1) := by decide +kernel
theorem dX4_divides_63 : decode cX4_divides 63 = .ok (.if_icmp .ge 23, 3) := by decide +kernel
theorem dX4_divides_66 : decode cX4_divides 66 = .ok (.aload_n 0, 1) := by decide +kernel
theorem dX4_divides_67 : decode cX4_divides 67 = .ok (.getfield 60, 3) := by decide +kernel
theorem dX4_divides_70 : decode cX4_divides 70 = .ok (.iload 5, 2) := by decide +kernel
theorem dX4_divides_72 : decode cX4_divides 72 = .ok (.aload_n 0, 1) := by decide +kernel
theorem dX4_divides_73 : decode cX4_divides 73 = .ok (.getfield 63, 3) := by decide +kernel
theorem dX4_divides_76 : decode cX4_divides 76 = .ok (.iload 5, 2) := by decide +kernel
theorem dX4_divides_78 : decode cX4_divides 78 = .ok (.laload, 1) := by decide +kernel
theorem dX4_divides_79 : decode cX4_divides 79 = .ok (.lastore, 1) := by decide +kernel
theorem dX4_divides_80 : decode cX4_divides 80 = .ok (.iinc 5 1, 3) := by decide +kernel
theorem dX4_divides_83 : decode cX4_divides 83 = .ok (.goto (-23), 3) := by decide +kernel
theorem dX4_divides_86 : decode cX4_divides 86 = .ok (.iconst 1, 1) := by decide +kernel
theorem dX4_divides_87 : decode cX4_divides 87 = .ok (.ireturn, 1) := by decide +kernel
theorem dX4_form_0 : decode cX4_form 0 = .ok (.iload_n 2, 1) := by decide +kernel
theorem dX4_form_1 : decode cX4_form 1 = .ok (.ifCond .ge 5, 3) := by decide +kernel
theorem dX4_form_4 : decode cX4_form 4 = .ok (.iconst (-1), 1) := by decide +kernel
theorem dX4_form_5 : decode cX4_form 5 = .ok (.ireturn, 1) := by decide +kernel
theorem dX4_form_6 : decode cX4_form 6 = .ok (.aload_n 0, 1) := by decide +kernel
theorem dX4_form_7 : decode cX4_form 7 = .ok (.iload_n 1, 1) := by decide +kernel
theorem dX4_form_8 : decode cX4_form 8 = .ok (.invokevirtual 143, 3) := by decide +kernel
theorem dX4_form_11 : decode cX4_form 11 = .ok (.istore_n 3, 1) := by decide +kernel
theorem dX4_form_12 : decode cX4_form 12 = .ok (.iload_n 3, 1) := by decide +kernel
theorem dX4_form_13 : decode cX4_form 13 = .ok (.ifCond .ge 5, 3) := by decide +kernel
theorem dX4_form_16 : decode cX4_form 16 = .ok (.iload_n 3, 1) := by decide +kernel
theorem dX4_form_17 : decode cX4_form 17 = .ok (.ireturn, 1) := by decide +kernel
theorem dX4_form_18 : decode cX4_form 18 = .ok (.iload_n 2, 1) := by decide +kernel
theorem dX4_form_19 : decode cX4_form 19 = .ok (.aload_n 0, 1) := by decide +kernel
theorem dX4_form_20 : decode cX4_form 20 = .ok (.getfield 26, 3) := by decide +kernel
theorem dX4_form_23 : decode cX4_form 23 = .ok (.iload_n 1, 1) := by decide +kernel
theorem dX4_form_24 : decode cX4_form 24 = .ok (.iaload, 1) := by decide +kernel
theorem dX4_form_25 : decode cX4_form 25 = .ok (.if_icmp .le 9, 3) := by decide +kernel
theorem dX4_form_28 : decode cX4_form 28 = .ok (.aload_n 0, 1) := by decide +kernel
theorem dX4_form_29 : decode cX4_form 29 = .ok (.iconst 2, 1) := by decide +kernel
theorem dX4_form_30 : decode cX4_form 30 = .ok (.invokevirtual 81, 3) := by decide +kernel
theorem dX4_form_33 : decode cX4_form 33 = .ok (.ireturn, 1) := by decide +kernel
theorem dX4_form_34 : decode cX4_form 34 = .ok (.aload_n 0, 1) := by decide +kernel
theorem dX4_form_35 : decode cX4_form 35 = .ok (.iload_n 1, 1) := by decide +kernel
theorem dX4_form_36 : decode cX4_form 36 = .ok (.invokevirtual 255, 3) := by decide +kernel
theorem dX4_form_39 : decode cX4_form 39 = .ok (.aload_n 0, 1) := by decide +kernel
theorem dX4_form_40 : decode cX4_form 40 = .ok (.aload_n 0, 1) := by decide +kernel
theorem dX4_form_41 : decode cX4_form 41 = .ok (.getfield 60, 3) := by decide +kernel
theorem dX4_form_44 : decode cX4_form 44 = .ok (.iload_n 2, 1) := by decide +kernel
theorem dX4_form_45 : decode cX4_form 45 = .ok (.laload, 1) := by decide +kernel
theorem dX4_form_46 : decode cX4_form 46 = .ok (.putfield 193, 3) := by decide +kernel
theorem dX4_form_49 : decode cX4_form 49 = .ok (.iconst 1, 1) := by decide +kernel
theorem dX4_form_50 : decode cX4_form 50 = .ok (.ireturn, 1) := by decide +kernel
theorem dX4_weight_0 : decode cX4_weight 0 = .ok (.aload_n 0, 1) := by decide +kernel
theorem dX4_weight_1 : decode cX4_weight 1 = .ok (.iload_n 1, 1) := by decide +kernel
theorem dX4_weight_2 : decode cX4_weight 2 = .ok (.invokevirtual 143, 3) := by decide +kernel
theorem dX4_weight_5 : decode cX4_weight 5 = .ok (.istore_n 2, 1) := by decide +kernel
theorem dX4_weight_6 : decode cX4_weight 6 = .ok (.iload_n 2, 1) := by decide +kernel
theorem dX4_weight_7 : decode cX4_weight 7 = .ok (.ifCond .ge 5, 3) := by decide +kernel
theorem dX4_weight_10 : decode cX4_weight 10 = .ok (.iload_n 2, 1) := by decide +kernel
theorem dX4_weight_11 : decode cX4_weight 11 = .ok (.ireturn, 1) := by decide +kernel
theorem dX4_weight_12 : decode cX4_weight 12 = .ok (.iconst 0, 1) := by decide +kernel
theorem dX4_weight_13 : decode cX4_weight 13 = .ok (.istore_n 3, 1) := by decide +kernel
theorem dX4_weight_14 : decode cX4_weight 14 = .ok (.iconst 0, 1) := by decide +kernel
theorem dX4_weight_15 : decode cX4_weight 15 = .ok (.istore 4, 2) := by decide +kernel
theorem dX4_weight_17 : decode cX4_weight 17 = .ok (.iload 4, 2) := by decide +kernel
theorem dX4_weight_19 : decode cX4_weight 19 = .ok (.aload_n 0, 1) := by decide +kernel
theorem dX4_weight_20 : decode cX4_weight 20 = .ok (.getfield 26, 3) := by decide +kernel
theorem dX4_weight_23 : decode cX4_weight 23 = .ok (.iload_n 1, 1) := by decide +kernel
theorem dX4_weight_24 : decode cX4_weight 24 = .ok (.iaload, 1) := by decide +kernel
theorem dX4_weight_25 : decode cX4_weight 25 = .ok (.if_icmp .ge 19, 3) := by decide +kernel
theorem dX4_weight_28 : decode cX4_weight 28 = .ok (.iload_n 3, 1) := by decide +kernel
theorem dX4_weight_29 : decode cX4_weight 29 = .ok (.aload_n 0, 1) := by decide +kernel
theorem dX4_weight_30 : decode cX4_weight 30 = .ok (.iload_n 1, 1) := by decide +kernel
theorem dX4_weight_31 : decode cX4_weight 31 = .ok (.iload 4, 2) := by decide +kernel
theorem dX4_weight_33 : decode cX4_weight 33 = .ok (.invokevirtual 159, 3) := by decide +kernel
theorem dX4_weight_36 : decode cX4_weight 36 = .ok (.iadd, 1) := by decide +kernel
theorem dX4_weight_37 : decode cX4_weight 37 = .ok (.istore_n 3, 1) := by decide +kernel
theorem dX4_weight_38 : decode cX4_weight 38 = .ok (.iinc 4 1, 3) := by decide +kernel
theorem dX4_weight_41 : decode cX4_weight 41 = .ok (.goto (-24), 3) := by decide +kernel
theorem dX4_weight_44 : decode cX4_weight 44 = .ok (.iload_n 3, 1) := by decide +kernel
theorem dX4_weight_45 : decode cX4_weight 45 = .ok (.invokestatic 177, 3) := by decide +kernel
theorem dX4_weight_48 : decode cX4_weight 48 = .ok (.i2l, 1) := by decide +kernel
theorem dX4_weight_49 : decode cX4_weight 49 = .ok (.lstore 4, 2) := by decide +kernel
theorem dX4_weight_51 : decode cX4_weight 51 = .ok (.aload_n 0, 1) := by decide +kernel
theorem dX4_weight_52 : decode cX4_weight 52 = .ok (.getfield 26, 3) := by decide +kernel
theorem dX4_weight_55 : decode cX4_weight 55 = .ok (.iload_n 1, 1) := by decide +kernel
theorem dX4_weight_56 : decode cX4_weight 56 = .ok (.iaload, 1) := by decide +kernel
theorem dX4_weight_57 : decode cX4_weight 57 = .ok (.i2l, 1) := by decide +kernel
theorem dX4_weight_58 : decode cX4_weight 58 = .ok (.lstore 6, 2) := by decide +kernel
theorem dX4_weight_60 : decode cX4_weight 60 = .ok (.lload 6, 2) := by decide +kernel
theorem dX4_weight_62 : decode cX4_weight 62 = .ok (.lconst 0, 1) := by decide +kernel
theorem dX4_weight_63 : decode cX4_weight 63 = .ok (.lcmp, 1) := by decide +kernel
theorem dX4_weight_64 : decode cX4_weight 64 = .ok (.ifCond .eq 21, 3) := by decide +kernel
theorem dX4_weight_67 : decode cX4_weight 67 = .ok (.lload 4, 2) := by decide +kernel
theorem dX4_weight_69 : decode cX4_weight 69 = .ok (.lload 6, 2) := by decide +kernel
theorem dX4_weight_71 : decode cX4_weight 71 = .ok (.lrem, 1) := by decide +kernel
theorem dX4_weight_72 : decode cX4_weight 72 = .ok (.lstore 8, 2) := by decide +kernel
theorem dX4_weight_74 : decode cX4_weight 74 = .ok (.lload 6, 2) := by decide +kernel
theorem dX4_weight_76 : decode cX4_weight 76 = .ok (.lstore 4, 2) := by decide +kernel
theorem dX4_weight_78 : decode cX4_weight 78 = .ok (.lload 8, 2) := by decide +kernel
theorem dX4_weight_80 : decode cX4_weight 80 = .ok (.lstore 6, 2) := by decide +kernel
theorem dX4_weight_82 : decode cX4_weight 82 = .ok (.goto (-22), 3) := by decide +kernel
theorem dX4_weight_85 : decode cX4_weight 85 = .ok (.aload_n 0, 1) := by decide +kernel
theorem dX4_weight_86 : decode cX4_weight 86 = .ok (.iload_n 3, 1) := by decide +kernel
theorem dX4_weight_87 : decode cX4_weight 87 = .ok (.i2l, 1) := by decide +kernel
theorem dX4_weight_88 : decode cX4_weight 88 = .ok (.lload 4, 2) := by decide +kernel
theorem dX4_weight_90 : decode cX4_weight 90 = .ok (.ldiv, 1) := by decide +kernel
theorem dX4_weight_91 : decode cX4_weight 91 = .ok (.putfield 261, 3) := by decide +kernel
theorem dX4_weight_94 : decode cX4_weight 94 = .ok (.aload_n 0, 1) := by decide +kernel
theorem dX4_weight_95 : decode cX4_weight 95 = .ok (.aload_n 0, 1) := by decide +kernel
theorem dX4_weight_96 : decode cX4_weight 96 = .ok (.getfield 26, 3) := by decide +kernel
theorem dX4_weight_99 : decode cX4_weight 99 = .ok (.iload_n 1, 1) := by decide +kernel
theorem dX4_weight_100 : decode cX4_weight 100 = .ok (.iaload, 1) := by decide +kernel
theorem dX4_weight_101 : decode cX4_weight 101 = .ok (.i2l, 1) := by decide +kernel
theorem dX4_weight_102 : decode cX4_weight 102 = .ok (.lload 4, 2) := by decide +kernel
theorem dX4_weight_104 : decode cX4_weight 104 = .ok (.ldiv, 1) := by decide +kernel
theorem dX4_weight_105 : decode cX4_weight 105 = .ok (.putfield 13, 3) := by decide +kernel
theorem dX4_weight_108 : decode cX4_weight 108 = .ok (.iconst 1, 1) := by decide +kernel
theorem dX4_weight_109 : decode cX4_weight 109 = .ok (.ireturn, 1) := by decide +kernel
theorem dX4_worthTold_0 : decode cX4_worthTold 0 = .ok (.aload_n 0, 1) := by decide +kernel
theorem dX4_worthTold_1 : decode cX4_worthTold 1 = .ok (.getfield 193, 3) := by decide +kernel
theorem dX4_worthTold_4 : decode cX4_worthTold 4 = .ok (.lreturn, 1) := by decide +kernel
theorem dX4_asked_0 : decode cX4_asked 0 = .ok (.aload_n 0, 1) := by decide +kernel
theorem dX4_asked_1 : decode cX4_asked 1 = .ok (.getfield 70, 3) := by decide +kernel
theorem dX4_asked_4 : decode cX4_asked 4 = .ok (.ireturn, 1) := by decide +kernel
theorem dX4_upper_0 : decode cX4_upper 0 = .ok (.aload_n 0, 1) := by decide +kernel
theorem dX4_upper_1 : decode cX4_upper 1 = .ok (.getfield 261, 3) := by decide +kernel
theorem dX4_upper_4 : decode cX4_upper 4 = .ok (.lreturn, 1) := by decide +kernel
theorem dX4_lower_0 : decode cX4_lower 0 = .ok (.aload_n 0, 1) := by decide +kernel
theorem dX4_lower_1 : decode cX4_lower 1 = .ok (.getfield 13, 3) := by decide +kernel
theorem dX4_lower_4 : decode cX4_lower 4 = .ok (.lreturn, 1) := by decide +kernel
theorem dX4_count_0 : decode cX4_count 0 = .ok (.iconst 0, 1) := by decide +kernel
theorem dX4_count_1 : decode cX4_count 1 = .ok (.istore_n 2, 1) := by decide +kernel
theorem dX4_count_2 : decode cX4_count 2 = .ok (.iconst 0, 1) := by decide +kernel
theorem dX4_count_3 : decode cX4_count 3 = .ok (.istore_n 3, 1) := by decide +kernel
theorem dX4_count_4 : decode cX4_count 4 = .ok (.iload_n 3, 1) := by decide +kernel
theorem dX4_count_5 : decode cX4_count 5 = .ok (.bipush 6, 2) := by decide +kernel
theorem dX4_count_7 : decode cX4_count 7 = .ok (.if_icmp .ge 30, 3) := by decide +kernel
theorem dX4_count_10 : decode cX4_count 10 = .ok (.iload_n 2, 1) := by decide +kernel
theorem dX4_count_11 : decode cX4_count 11 = .ok (.iload_n 1, 1) := by decide +kernel
theorem dX4_count_12 : decode cX4_count 12 = .ok (.ifCond .ne 16, 3) := by decide +kernel
theorem dX4_count_15 : decode cX4_count 15 = .ok (.aload_n 0, 1) := by decide +kernel
theorem dX4_count_16 : decode cX4_count 16 = .ok (.getfield 17, 3) := by decide +kernel
theorem dX4_count_19 : decode cX4_count 19 = .ok (.iload_n 3, 1) := by decide +kernel
theorem dX4_count_20 : decode cX4_count 20 = .ok (.iaload, 1) := by decide +kernel
theorem dX4_count_21 : decode cX4_count 21 = .ok (.ifCond .lt 7, 3) := by decide +kernel
theorem dX4_count_24 : decode cX4_count 24 = .ok (.iconst 1, 1) := by decide +kernel
theorem dX4_count_25 : decode cX4_count 25 = .ok (.goto 4, 3) := by decide +kernel
theorem dX4_count_28 : decode cX4_count 28 = .ok (.iconst 0, 1) := by decide +kernel
theorem dX4_count_29 : decode cX4_count 29 = .ok (.iadd, 1) := by decide +kernel
theorem dX4_count_30 : decode cX4_count 30 = .ok (.istore_n 2, 1) := by decide +kernel
theorem dX4_count_31 : decode cX4_count 31 = .ok (.iinc 3 1, 3) := by decide +kernel
theorem dX4_count_34 : decode cX4_count 34 = .ok (.goto (-30), 3) := by decide +kernel
theorem dX4_count_37 : decode cX4_count 37 = .ok (.iconst 0, 1) := by decide +kernel
theorem dX4_count_38 : decode cX4_count 38 = .ok (.istore_n 3, 1) := by decide +kernel
theorem dX4_count_39 : decode cX4_count 39 = .ok (.iload_n 3, 1) := by decide +kernel
theorem dX4_count_40 : decode cX4_count 40 = .ok (.bipush 10, 2) := by decide +kernel
theorem dX4_count_42 : decode cX4_count 42 = .ok (.if_icmp .ge 71, 3) := by decide +kernel
theorem dX4_count_45 : decode cX4_count 45 = .ok (.aload_n 0, 1) := by decide +kernel
theorem dX4_count_46 : decode cX4_count 46 = .ok (.getfield 26, 3) := by decide +kernel
theorem dX4_count_49 : decode cX4_count 49 = .ok (.iload_n 3, 1) := by decide +kernel
theorem dX4_count_50 : decode cX4_count 50 = .ok (.iaload, 1) := by decide +kernel
theorem dX4_count_51 : decode cX4_count 51 = .ok (.ifCond .le 7, 3) := by decide +kernel
theorem dX4_count_54 : decode cX4_count 54 = .ok (.iconst 1, 1) := by decide +kernel
theorem dX4_count_55 : decode cX4_count 55 = .ok (.goto 4, 3) := by decide +kernel
theorem dX4_count_58 : decode cX4_count 58 = .ok (.iconst 0, 1) := by decide +kernel
theorem dX4_count_59 : decode cX4_count 59 = .ok (.istore 4, 2) := by decide +kernel
theorem dX4_count_61 : decode cX4_count 61 = .ok (.iload_n 2, 1) := by decide +kernel
theorem dX4_count_62 : decode cX4_count 62 = .ok (.iload 4, 2) := by decide +kernel
theorem dX4_count_64 : decode cX4_count 64 = .ok (.ifCond .eq 40, 3) := by decide +kernel
theorem dX4_count_67 : decode cX4_count 67 = .ok (.iload_n 1, 1) := by decide +kernel
theorem dX4_count_68 : decode cX4_count 68 = .ok (.iconst 1, 1) := by decide +kernel
theorem dX4_count_69 : decode cX4_count 69 = .ok (.if_icmp .eq 31, 3) := by decide +kernel
theorem dX4_count_72 : decode cX4_count 72 = .ok (.iload_n 1, 1) := by decide +kernel
theorem dX4_count_73 : decode cX4_count 73 = .ok (.iconst 2, 1) := by decide +kernel
theorem dX4_count_74 : decode cX4_count 74 = .ok (.if_icmp .ne 12, 3) := by decide +kernel
theorem dX4_count_77 : decode cX4_count 77 = .ok (.aload_n 0, 1) := by decide +kernel
theorem dX4_count_78 : decode cX4_count 78 = .ok (.iload_n 3, 1) := by decide +kernel
theorem dX4_count_79 : decode cX4_count 79 = .ok (.iconst 1, 1) := by decide +kernel
theorem dX4_count_80 : decode cX4_count 80 = .ok (.invokevirtual 155, 3) := by decide +kernel
theorem dX4_count_83 : decode cX4_count 83 = .ok (.ifCond .ne 17, 3) := by decide +kernel
theorem dX4_count_86 : decode cX4_count 86 = .ok (.iload_n 1, 1) := by decide +kernel
theorem dX4_count_87 : decode cX4_count 87 = .ok (.iconst 3, 1) := by decide +kernel
theorem dX4_count_88 : decode cX4_count 88 = .ok (.if_icmp .ne 16, 3) := by decide +kernel
theorem dX4_count_91 : decode cX4_count 91 = .ok (.aload_n 0, 1) := by decide +kernel
theorem dX4_count_92 : decode cX4_count 92 = .ok (.iload_n 3, 1) := by decide +kernel
theorem dX4_count_93 : decode cX4_count 93 = .ok (.iconst 3, 1) := by decide +kernel
theorem dX4_count_94 : decode cX4_count 94 = .ok (.invokevirtual 155, 3) := by decide +kernel
theorem dX4_count_97 : decode cX4_count 97 = .ok (.ifCond .eq 7, 3) := by decide +kernel
theorem dX4_count_100 : decode cX4_count 100 = .ok (.iconst 1, 1) := by decide +kernel
theorem dX4_count_101 : decode cX4_count 101 = .ok (.goto 4, 3) := by decide +kernel
theorem dX4_count_104 : decode cX4_count 104 = .ok (.iconst 0, 1) := by decide +kernel
theorem dX4_count_105 : decode cX4_count 105 = .ok (.iadd, 1) := by decide +kernel
theorem dX4_count_106 : decode cX4_count 106 = .ok (.istore_n 2, 1) := by decide +kernel
theorem dX4_count_107 : decode cX4_count 107 = .ok (.iinc 3 1, 3) := by decide +kernel
theorem dX4_count_110 : decode cX4_count 110 = .ok (.goto (-71), 3) := by decide +kernel
theorem dX4_count_113 : decode cX4_count 113 = .ok (.iload_n 1, 1) := by decide +kernel
theorem dX4_count_114 : decode cX4_count 114 = .ok (.iconst 0, 1) := by decide +kernel
theorem dX4_count_115 : decode cX4_count 115 = .ok (.iconst 3, 1) := by decide +kernel
theorem dX4_count_116 : decode cX4_count 116 = .ok (.invokestatic 73, 3) := by decide +kernel
theorem dX4_count_119 : decode cX4_count 119 = .ok (.ifCond .eq 7, 3) := by decide +kernel
theorem dX4_count_122 : decode cX4_count 122 = .ok (.iload_n 2, 1) := by decide +kernel
theorem dX4_count_123 : decode cX4_count 123 = .ok (.goto 4, 3) := by decide +kernel
theorem dX4_count_126 : decode cX4_count 126 = .ok (.iconst (-1), 1) := by decide +kernel
theorem dX4_count_127 : decode cX4_count 127 = .ok (.ireturn, 1) := by decide +kernel
theorem dX4_finding_0 : decode cX4_finding 0 = .ok (.aload_n 0, 1) := by decide +kernel
theorem dX4_finding_1 : decode cX4_finding 1 = .ok (.getfield 66, 3) := by decide +kernel
theorem dX4_finding_4 : decode cX4_finding 4 = .ok (.ireturn, 1) := by decide +kernel
theorem dX4_findings_0 : decode cX4_findings 0 = .ok (.iload_n 1, 1) := by decide +kernel
theorem dX4_findings_1 : decode cX4_findings 1 = .ok (.iconst 1, 1) := by decide +kernel
theorem dX4_findings_2 : decode cX4_findings 2 = .ok (.iconst 5, 1) := by decide +kernel
theorem dX4_findings_3 : decode cX4_findings 3 = .ok (.invokestatic 73, 3) := by decide +kernel
theorem dX4_findings_6 : decode cX4_findings 6 = .ok (.ifCond .eq 12, 3) := by decide +kernel
theorem dX4_findings_9 : decode cX4_findings 9 = .ok (.aload_n 0, 1) := by decide +kernel
theorem dX4_findings_10 : decode cX4_findings 10 = .ok (.getfield 7, 3) := by decide +kernel
theorem dX4_findings_13 : decode cX4_findings 13 = .ok (.iload_n 1, 1) := by decide +kernel
theorem dX4_findings_14 : decode cX4_findings 14 = .ok (.iaload, 1) := by decide +kernel
theorem dX4_findings_15 : decode cX4_findings 15 = .ok (.goto 4, 3) := by decide +kernel
theorem dX4_findings_18 : decode cX4_findings 18 = .ok (.iconst (-1), 1) := by decide +kernel
theorem dX4_findings_19 : decode cX4_findings 19 = .ok (.ireturn, 1) := by decide +kernel
theorem dX4_mix_0 : decode cX4_mix 0 = .ok (.aload_n 0, 1) := by decide +kernel
theorem dX4_mix_1 : decode cX4_mix 1 = .ok (.ldc2_w 264, 3) := by decide +kernel
theorem dX4_mix_4 : decode cX4_mix 4 = .ok (.aload_n 0, 1) := by decide +kernel
theorem dX4_mix_5 : decode cX4_mix 5 = .ok (.getfield 266, 3) := by decide +kernel
theorem dX4_mix_8 : decode cX4_mix 8 = .ok (.lmul, 1) := by decide +kernel
theorem dX4_mix_9 : decode cX4_mix 9 = .ok (.iload_n 1, 1) := by decide +kernel
theorem dX4_mix_10 : decode cX4_mix 10 = .ok (.i2l, 1) := by decide +kernel
theorem dX4_mix_11 : decode cX4_mix 11 = .ok (.ladd, 1) := by decide +kernel
theorem dX4_mix_12 : decode cX4_mix 12 = .ok (.putfield 266, 3) := by decide +kernel
theorem dX4_mix_15 : decode cX4_mix 15 = .ok (.return_, 1) := by decide +kernel
theorem dX4_digest_0 : decode cX4_digest 0 = .ok (.aload_n 0, 1) := by decide +kernel
theorem dX4_digest_1 : decode cX4_digest 1 = .ok (.ldc2_w 269, 3) := by decide +kernel
theorem dX4_digest_4 : decode cX4_digest 4 = .ok (.putfield 266, 3) := by decide +kernel
theorem dX4_digest_7 : decode cX4_digest 7 = .ok (.iconst 0, 1) := by decide +kernel
theorem dX4_digest_8 : decode cX4_digest 8 = .ok (.istore_n 1, 1) := by decide +kernel
theorem dX4_digest_9 : decode cX4_digest 9 = .ok (.iload_n 1, 1) := by decide +kernel
theorem dX4_digest_10 : decode cX4_digest 10 = .ok (.bipush 10, 2) := by decide +kernel
theorem dX4_digest_12 : decode cX4_digest 12 = .ok (.if_icmp .ge 93, 3) := by decide +kernel
theorem dX4_digest_15 : decode cX4_digest 15 = .ok (.aload_n 0, 1) := by decide +kernel
theorem dX4_digest_16 : decode cX4_digest 16 = .ok (.getfield 26, 3) := by decide +kernel
theorem dX4_digest_19 : decode cX4_digest 19 = .ok (.iload_n 1, 1) := by decide +kernel
theorem dX4_digest_20 : decode cX4_digest 20 = .ok (.iaload, 1) := by decide +kernel
theorem dX4_digest_21 : decode cX4_digest 21 = .ok (.ifCond .ne 11, 3) := by decide +kernel
theorem dX4_digest_24 : decode cX4_digest 24 = .ok (.aload_n 0, 1) := by decide +kernel
theorem dX4_digest_25 : decode cX4_digest 25 = .ok (.iconst (-1), 1) := by decide +kernel
theorem dX4_digest_26 : decode cX4_digest 26 = .ok (.invokevirtual 271, 3) := by decide +kernel
theorem dX4_digest_29 : decode cX4_digest 29 = .ok (.goto 70, 3) := by decide +kernel
theorem dX4_digest_32 : decode cX4_digest 32 = .ok (.aload_n 0, 1) := by decide +kernel
theorem dX4_digest_33 : decode cX4_digest 33 = .ok (.aload_n 0, 1) := by decide +kernel
theorem dX4_digest_34 : decode cX4_digest 34 = .ok (.getfield 32, 3) := by decide +kernel
theorem dX4_digest_37 : decode cX4_digest 37 = .ok (.iload_n 1, 1) := by decide +kernel
theorem dX4_digest_38 : decode cX4_digest 38 = .ok (.iaload, 1) := by decide +kernel
theorem dX4_digest_39 : decode cX4_digest 39 = .ok (.invokevirtual 271, 3) := by decide +kernel
theorem dX4_digest_42 : decode cX4_digest 42 = .ok (.aload_n 0, 1) := by decide +kernel
theorem dX4_digest_43 : decode cX4_digest 43 = .ok (.aload_n 0, 1) := by decide +kernel
theorem dX4_digest_44 : decode cX4_digest 44 = .ok (.getfield 26, 3) := by decide +kernel
theorem dX4_digest_47 : decode cX4_digest 47 = .ok (.iload_n 1, 1) := by decide +kernel
theorem dX4_digest_48 : decode cX4_digest 48 = .ok (.iaload, 1) := by decide +kernel
theorem dX4_digest_49 : decode cX4_digest 49 = .ok (.invokevirtual 271, 3) := by decide +kernel
theorem dX4_digest_52 : decode cX4_digest 52 = .ok (.iconst 0, 1) := by decide +kernel
theorem dX4_digest_53 : decode cX4_digest 53 = .ok (.istore_n 2, 1) := by decide +kernel
theorem dX4_digest_54 : decode cX4_digest 54 = .ok (.iload_n 2, 1) := by decide +kernel
theorem dX4_digest_55 : decode cX4_digest 55 = .ok (.aload_n 0, 1) := by decide +kernel
theorem dX4_digest_56 : decode cX4_digest 56 = .ok (.getfield 26, 3) := by decide +kernel
theorem dX4_digest_59 : decode cX4_digest 59 = .ok (.iload_n 1, 1) := by decide +kernel
theorem dX4_digest_60 : decode cX4_digest 60 = .ok (.iaload, 1) := by decide +kernel
theorem dX4_digest_61 : decode cX4_digest 61 = .ok (.if_icmp .ge 38, 3) := by decide +kernel
theorem dX4_digest_64 : decode cX4_digest 64 = .ok (.iconst 0, 1) := by decide +kernel
theorem dX4_digest_65 : decode cX4_digest 65 = .ok (.istore_n 3, 1) := by decide +kernel
theorem dX4_digest_66 : decode cX4_digest 66 = .ok (.iload_n 3, 1) := by decide +kernel
theorem dX4_digest_67 : decode cX4_digest 67 = .ok (.aload_n 0, 1) := by decide +kernel
theorem dX4_digest_68 : decode cX4_digest 68 = .ok (.getfield 26, 3) := by decide +kernel
theorem dX4_digest_71 : decode cX4_digest 71 = .ok (.iload_n 1, 1) := by decide +kernel
theorem dX4_digest_72 : decode cX4_digest 72 = .ok (.iaload, 1) := by decide +kernel
theorem dX4_digest_73 : decode cX4_digest 73 = .ok (.if_icmp .ge 20, 3) := by decide +kernel
theorem dX4_digest_76 : decode cX4_digest 76 = .ok (.aload_n 0, 1) := by decide +kernel
theorem dX4_digest_77 : decode cX4_digest 77 = .ok (.aload_n 0, 1) := by decide +kernel
theorem dX4_digest_78 : decode cX4_digest 78 = .ok (.iload_n 1, 1) := by decide +kernel
theorem dX4_digest_79 : decode cX4_digest 79 = .ok (.iload_n 2, 1) := by decide +kernel
theorem dX4_digest_80 : decode cX4_digest 80 = .ok (.iload_n 3, 1) := by decide +kernel
theorem dX4_digest_81 : decode cX4_digest 81 = .ok (.invokevirtual 102, 3) := by decide +kernel
theorem dX4_digest_84 : decode cX4_digest 84 = .ok (.invokevirtual 271, 3) := by decide +kernel
theorem dX4_digest_87 : decode cX4_digest 87 = .ok (.iinc 3 1, 3) := by decide +kernel
theorem dX4_digest_90 : decode cX4_digest 90 = .ok (.goto (-24), 3) := by decide +kernel
theorem dX4_digest_93 : decode cX4_digest 93 = .ok (.iinc 2 1, 3) := by decide +kernel
theorem dX4_digest_96 : decode cX4_digest 96 = .ok (.goto (-42), 3) := by decide +kernel
theorem dX4_digest_99 : decode cX4_digest 99 = .ok (.iinc 1 1, 3) := by decide +kernel
theorem dX4_digest_102 : decode cX4_digest 102 = .ok (.goto (-93), 3) := by decide +kernel
theorem dX4_digest_105 : decode cX4_digest 105 = .ok (.iconst 0, 1) := by decide +kernel
theorem dX4_digest_106 : decode cX4_digest 106 = .ok (.istore_n 1, 1) := by decide +kernel
theorem dX4_digest_107 : decode cX4_digest 107 = .ok (.iload_n 1, 1) := by decide +kernel
theorem dX4_digest_108 : decode cX4_digest 108 = .ok (.bipush 6, 2) := by decide +kernel
theorem dX4_digest_110 : decode cX4_digest 110 = .ok (.if_icmp .ge 65, 3) := by decide +kernel
theorem dX4_digest_113 : decode cX4_digest 113 = .ok (.aload_n 0, 1) := by decide +kernel
theorem dX4_digest_114 : decode cX4_digest 114 = .ok (.aload_n 0, 1) := by decide +kernel
theorem dX4_digest_115 : decode cX4_digest 115 = .ok (.getfield 17, 3) := by decide +kernel
theorem dX4_digest_118 : decode cX4_digest 118 = .ok (.iload_n 1, 1) := by decide +kernel
theorem dX4_digest_119 : decode cX4_digest 119 = .ok (.iaload, 1) := by decide +kernel
theorem dX4_digest_120 : decode cX4_digest 120 = .ok (.ifCond .ge 7, 3) := by decide +kernel
theorem dX4_digest_123 : decode cX4_digest 123 = .ok (.iconst (-1), 1) := by decide +kernel
theorem dX4_digest_124 : decode cX4_digest 124 = .ok (.goto 9, 3) := by decide +kernel
theorem dX4_digest_127 : decode cX4_digest 127 = .ok (.aload_n 0, 1) := by decide +kernel
theorem dX4_digest_128 : decode cX4_digest 128 = .ok (.getfield 17, 3) := by decide +kernel
theorem dX4_digest_131 : decode cX4_digest 131 = .ok (.iload_n 1, 1) := by decide +kernel
theorem dX4_digest_132 : decode cX4_digest 132 = .ok (.iaload, 1) := by decide +kernel
theorem dX4_digest_133 : decode cX4_digest 133 = .ok (.invokevirtual 271, 3) := by decide +kernel
theorem dX4_digest_136 : decode cX4_digest 136 = .ok (.iconst 0, 1) := by decide +kernel
theorem dX4_digest_137 : decode cX4_digest 137 = .ok (.istore_n 2, 1) := by decide +kernel
theorem dX4_digest_138 : decode cX4_digest 138 = .ok (.iload_n 2, 1) := by decide +kernel
theorem dX4_digest_139 : decode cX4_digest 139 = .ok (.aload_n 0, 1) := by decide +kernel
theorem dX4_digest_140 : decode cX4_digest 140 = .ok (.getfield 17, 3) := by decide +kernel
theorem dX4_digest_143 : decode cX4_digest 143 = .ok (.iload_n 1, 1) := by decide +kernel
theorem dX4_digest_144 : decode cX4_digest 144 = .ok (.iaload, 1) := by decide +kernel
theorem dX4_digest_145 : decode cX4_digest 145 = .ok (.if_icmp .ge 24, 3) := by decide +kernel
theorem dX4_digest_148 : decode cX4_digest 148 = .ok (.aload_n 0, 1) := by decide +kernel
theorem dX4_digest_149 : decode cX4_digest 149 = .ok (.aload_n 0, 1) := by decide +kernel
theorem dX4_digest_150 : decode cX4_digest 150 = .ok (.getfield 20, 3) := by decide +kernel
theorem dX4_digest_153 : decode cX4_digest 153 = .ok (.bipush 24, 2) := by decide +kernel
theorem dX4_digest_155 : decode cX4_digest 155 = .ok (.iload_n 1, 1) := by decide +kernel
theorem dX4_digest_156 : decode cX4_digest 156 = .ok (.imul, 1) := by decide +kernel
theorem dX4_digest_157 : decode cX4_digest 157 = .ok (.iload_n 2, 1) := by decide +kernel
theorem dX4_digest_158 : decode cX4_digest 158 = .ok (.iadd, 1) := by decide +kernel
theorem dX4_digest_159 : decode cX4_digest 159 = .ok (.iaload, 1) := by decide +kernel
theorem dX4_digest_160 : decode cX4_digest 160 = .ok (.invokevirtual 271, 3) := by decide +kernel
theorem dX4_digest_163 : decode cX4_digest 163 = .ok (.iinc 2 1, 3) := by decide +kernel
theorem dX4_digest_166 : decode cX4_digest 166 = .ok (.goto (-28), 3) := by decide +kernel
theorem dX4_digest_169 : decode cX4_digest 169 = .ok (.iinc 1 1, 3) := by decide +kernel
theorem dX4_digest_172 : decode cX4_digest 172 = .ok (.goto (-65), 3) := by decide +kernel
theorem dX4_digest_175 : decode cX4_digest 175 = .ok (.aload_n 0, 1) := by decide +kernel
theorem dX4_digest_176 : decode cX4_digest 176 = .ok (.getfield 266, 3) := by decide +kernel
theorem dX4_digest_179 : decode cX4_digest 179 = .ok (.lreturn, 1) := by decide +kernel
theorem dJ6_bitCount_0 : decode cJ6_bitCount 0 = .ok (.iload_n 0, 1) := by decide +kernel
theorem dJ6_bitCount_1 : decode cJ6_bitCount 1 = .ok (.iload_n 0, 1) := by decide +kernel
theorem dJ6_bitCount_2 : decode cJ6_bitCount 2 = .ok (.iconst 1, 1) := by decide +kernel
theorem dJ6_bitCount_3 : decode cJ6_bitCount 3 = .ok (.iushr, 1) := by decide +kernel
theorem dJ6_bitCount_4 : decode cJ6_bitCount 4 = .ok (.ldc_w 265, 3) := by decide +kernel
theorem dJ6_bitCount_7 : decode cJ6_bitCount 7 = .ok (.iand, 1) := by decide +kernel
theorem dJ6_bitCount_8 : decode cJ6_bitCount 8 = .ok (.isub, 1) := by decide +kernel
theorem dJ6_bitCount_9 : decode cJ6_bitCount 9 = .ok (.istore_n 0, 1) := by decide +kernel
theorem dJ6_bitCount_10 : decode cJ6_bitCount 10 = .ok (.iload_n 0, 1) := by decide +kernel
theorem dJ6_bitCount_11 : decode cJ6_bitCount 11 = .ok (.ldc_w 266, 3) := by decide +kernel
theorem dJ6_bitCount_14 : decode cJ6_bitCount 14 = .ok (.iand, 1) := by decide +kernel
theorem dJ6_bitCount_15 : decode cJ6_bitCount 15 = .ok (.iload_n 0, 1) := by decide +kernel
theorem dJ6_bitCount_16 : decode cJ6_bitCount 16 = .ok (.iconst 2, 1) := by decide +kernel
theorem dJ6_bitCount_17 : decode cJ6_bitCount 17 = .ok (.iushr, 1) := by decide +kernel
theorem dJ6_bitCount_18 : decode cJ6_bitCount 18 = .ok (.ldc_w 266, 3) := by decide +kernel
theorem dJ6_bitCount_21 : decode cJ6_bitCount 21 = .ok (.iand, 1) := by decide +kernel
theorem dJ6_bitCount_22 : decode cJ6_bitCount 22 = .ok (.iadd, 1) := by decide +kernel
theorem dJ6_bitCount_23 : decode cJ6_bitCount 23 = .ok (.istore_n 0, 1) := by decide +kernel
theorem dJ6_bitCount_24 : decode cJ6_bitCount 24 = .ok (.iload_n 0, 1) := by decide +kernel
theorem dJ6_bitCount_25 : decode cJ6_bitCount 25 = .ok (.iload_n 0, 1) := by decide +kernel
theorem dJ6_bitCount_26 : decode cJ6_bitCount 26 = .ok (.iconst 4, 1) := by decide +kernel
theorem dJ6_bitCount_27 : decode cJ6_bitCount 27 = .ok (.iushr, 1) := by decide +kernel
theorem dJ6_bitCount_28 : decode cJ6_bitCount 28 = .ok (.iadd, 1) := by decide +kernel
theorem dJ6_bitCount_29 : decode cJ6_bitCount 29 = .ok (.ldc_w 267, 3) := by decide +kernel
theorem dJ6_bitCount_32 : decode cJ6_bitCount 32 = .ok (.iand, 1) := by decide +kernel
theorem dJ6_bitCount_33 : decode cJ6_bitCount 33 = .ok (.istore_n 0, 1) := by decide +kernel
theorem dJ6_bitCount_34 : decode cJ6_bitCount 34 = .ok (.iload_n 0, 1) := by decide +kernel
theorem dJ6_bitCount_35 : decode cJ6_bitCount 35 = .ok (.iload_n 0, 1) := by decide +kernel
theorem dJ6_bitCount_36 : decode cJ6_bitCount 36 = .ok (.bipush 8, 2) := by decide +kernel
theorem dJ6_bitCount_38 : decode cJ6_bitCount 38 = .ok (.iushr, 1) := by decide +kernel
theorem dJ6_bitCount_39 : decode cJ6_bitCount 39 = .ok (.iadd, 1) := by decide +kernel
theorem dJ6_bitCount_40 : decode cJ6_bitCount 40 = .ok (.istore_n 0, 1) := by decide +kernel
theorem dJ6_bitCount_41 : decode cJ6_bitCount 41 = .ok (.iload_n 0, 1) := by decide +kernel
theorem dJ6_bitCount_42 : decode cJ6_bitCount 42 = .ok (.iload_n 0, 1) := by decide +kernel
theorem dJ6_bitCount_43 : decode cJ6_bitCount 43 = .ok (.bipush 16, 2) := by decide +kernel
theorem dJ6_bitCount_45 : decode cJ6_bitCount 45 = .ok (.iushr, 1) := by decide +kernel
theorem dJ6_bitCount_46 : decode cJ6_bitCount 46 = .ok (.iadd, 1) := by decide +kernel
theorem dJ6_bitCount_47 : decode cJ6_bitCount 47 = .ok (.istore_n 0, 1) := by decide +kernel
theorem dJ6_bitCount_48 : decode cJ6_bitCount 48 = .ok (.iload_n 0, 1) := by decide +kernel
theorem dJ6_bitCount_49 : decode cJ6_bitCount 49 = .ok (.bipush 63, 2) := by decide +kernel
theorem dJ6_bitCount_51 : decode cJ6_bitCount 51 = .ok (.iand, 1) := by decide +kernel
theorem dJ6_bitCount_52 : decode cJ6_bitCount 52 = .ok (.ireturn, 1) := by decide +kernel
theorem dJ9_abs_0 : decode cJ9_abs 0 = .ok (.iload_n 0, 1) := by decide +kernel
theorem dJ9_abs_1 : decode cJ9_abs 1 = .ok (.ifCond .ge 8, 3) := by decide +kernel
theorem dJ9_abs_4 : decode cJ9_abs 4 = .ok (.iload_n 0, 1) := by decide +kernel
theorem dJ9_abs_5 : decode cJ9_abs 5 = .ok (.ineg, 1) := by decide +kernel
theorem dJ9_abs_6 : decode cJ9_abs 6 = .ok (.goto 4, 3) := by decide +kernel
theorem dJ9_abs_9 : decode cJ9_abs 9 = .ok (.iload_n 0, 1) := by decide +kernel
theorem dJ9_abs_10 : decode cJ9_abs 10 = .ok (.ireturn, 1) := by decide +kernel
theorem dJ9_max_0 : decode cJ9_max 0 = .ok (.iload_n 0, 1) := by decide +kernel
theorem dJ9_max_1 : decode cJ9_max 1 = .ok (.iload_n 1, 1) := by decide +kernel
theorem dJ9_max_2 : decode cJ9_max 2 = .ok (.if_icmp .lt 7, 3) := by decide +kernel
theorem dJ9_max_5 : decode cJ9_max 5 = .ok (.iload_n 0, 1) := by decide +kernel
theorem dJ9_max_6 : decode cJ9_max 6 = .ok (.goto 4, 3) := by decide +kernel
theorem dJ9_max_9 : decode cJ9_max 9 = .ok (.iload_n 1, 1) := by decide +kernel
theorem dJ9_max_10 : decode cJ9_max 10 = .ok (.ireturn, 1) := by decide +kernel
