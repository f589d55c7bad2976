/-! THE LAW: its calls, case by case. -/
theorem d_Lw_law_0 : decode code 0 = .ok (.new 8, 3) := by decide +kernel
theorem d_Lw_law_3 : decode code 3 = .ok (.dup, 1) := by decide +kernel
theorem d_Lw_law_4 : decode code 4 = .ok (.invokespecial 17, 3) := by decide +kernel
theorem d_Lw_law_7 : decode code 7 = .ok (.astore_n 1, 1) := by decide +kernel
theorem d_Lw_law_8 : decode code 8 = .ok (.new 18, 3) := by decide +kernel
theorem d_Lw_law_11 : decode code 11 = .ok (.dup, 1) := by decide +kernel
theorem d_Lw_law_12 : decode code 12 = .ok (.invokespecial 20, 3) := by decide +kernel
theorem d_Lw_law_15 : decode code 15 = .ok (.astore_n 2, 1) := by decide +kernel
theorem d_Lw_law_16 : decode code 16 = .ok (.iconst 1, 1) := by decide +kernel
theorem d_Lw_law_17 : decode code 17 = .ok (.newarray .long, 2) := by decide +kernel
theorem d_Lw_law_19 : decode code 19 = .ok (.astore_n 3, 1) := by decide +kernel
theorem d_Lw_law_20 : decode code 20 = .ok (.iconst 0, 1) := by decide +kernel
theorem d_Lw_law_21 : decode code 21 = .ok (.istore 4, 2) := by decide +kernel
theorem d_Lw_law_23 : decode code 23 = .ok (.iload 4, 2) := by decide +kernel
theorem d_Lw_law_25 : decode code 25 = .ok (.aload_n 0, 1) := by decide +kernel
theorem d_Lw_law_26 : decode code 26 = .ok (.arraylength, 1) := by decide +kernel
theorem d_Lw_law_27 : decode code 27 = .ok (.bipush 6, 2) := by decide +kernel
theorem d_Lw_law_29 : decode code 29 = .ok (.isub, 1) := by decide +kernel
theorem d_Lw_law_30 : decode code 30 = .ok (.if_icmp .gt 1805, 3) := by decide +kernel
theorem d_Lw_law_33 : decode code 33 = .ok (.aload_n 0, 1) := by decide +kernel
theorem d_Lw_law_34 : decode code 34 = .ok (.iload 4, 2) := by decide +kernel
theorem d_Lw_law_36 : decode code 36 = .ok (.iaload, 1) := by decide +kernel
theorem d_Lw_law_37 : decode code 37 = .ok (.bipush 63, 2) := by decide +kernel
theorem d_Lw_law_39 : decode code 39 = .ok (.iand, 1) := by decide +kernel
theorem d_Lw_law_40 : decode code 40 = .ok (.tableswitch 1789 0 40 #[180, 205, 242, 291, 328, 365, 402, 427, 452, 489, 538, 587, 624, 649, 662, 699, 748, 797, 846, 907, 944, 969, 982, 1019, 1080, 1141, 1190, 1264, 1290, 1315, 1340, 1389, 1402, 1415, 1440, 1501, 1550, 1599, 1666, 1739, 1764], 180) := by decide +kernel
theorem d_Lw_law_220 : decode code 220 = .ok (.aload_n 1, 1) := by decide +kernel
theorem d_Lw_law_221 : decode code 221 = .ok (.aload_n 0, 1) := by decide +kernel
theorem d_Lw_law_222 : decode code 222 = .ok (.iload 4, 2) := by decide +kernel
theorem d_Lw_law_224 : decode code 224 = .ok (.iconst 1, 1) := by decide +kernel
theorem d_Lw_law_225 : decode code 225 = .ok (.iadd, 1) := by decide +kernel
theorem d_Lw_law_226 : decode code 226 = .ok (.iaload, 1) := by decide +kernel
theorem d_Lw_law_227 : decode code 227 = .ok (.invokevirtual 21, 3) := by decide +kernel
theorem d_Lw_law_230 : decode code 230 = .ok (.aload_n 2, 1) := by decide +kernel
theorem d_Lw_law_231 : decode code 231 = .ok (.aload_n 0, 1) := by decide +kernel
theorem d_Lw_law_232 : decode code 232 = .ok (.iload 4, 2) := by decide +kernel
theorem d_Lw_law_234 : decode code 234 = .ok (.iconst 1, 1) := by decide +kernel
theorem d_Lw_law_235 : decode code 235 = .ok (.iadd, 1) := by decide +kernel
theorem d_Lw_law_236 : decode code 236 = .ok (.iaload, 1) := by decide +kernel
theorem d_Lw_law_237 : decode code 237 = .ok (.invokevirtual 25, 3) := by decide +kernel
theorem d_Lw_law_240 : decode code 240 = .ok (.if_icmp .eq 1589, 3) := by decide +kernel
theorem d_Lw_law_243 : decode code 243 = .ok (.iconst 0, 1) := by decide +kernel
theorem d_Lw_law_244 : decode code 244 = .ok (.ireturn, 1) := by decide +kernel
theorem d_Lw_law_245 : decode code 245 = .ok (.aload_n 1, 1) := by decide +kernel
theorem d_Lw_law_246 : decode code 246 = .ok (.aload_n 0, 1) := by decide +kernel
theorem d_Lw_law_247 : decode code 247 = .ok (.iload 4, 2) := by decide +kernel
theorem d_Lw_law_249 : decode code 249 = .ok (.iconst 1, 1) := by decide +kernel
theorem d_Lw_law_250 : decode code 250 = .ok (.iadd, 1) := by decide +kernel
theorem d_Lw_law_251 : decode code 251 = .ok (.iaload, 1) := by decide +kernel
theorem d_Lw_law_252 : decode code 252 = .ok (.aload_n 0, 1) := by decide +kernel
theorem d_Lw_law_253 : decode code 253 = .ok (.iload 4, 2) := by decide +kernel
theorem d_Lw_law_255 : decode code 255 = .ok (.iconst 2, 1) := by decide +kernel
theorem d_Lw_law_256 : decode code 256 = .ok (.iadd, 1) := by decide +kernel
theorem d_Lw_law_257 : decode code 257 = .ok (.iaload, 1) := by decide +kernel
theorem d_Lw_law_258 : decode code 258 = .ok (.invokevirtual 26, 3) := by decide +kernel
theorem d_Lw_law_261 : decode code 261 = .ok (.aload_n 2, 1) := by decide +kernel
theorem d_Lw_law_262 : decode code 262 = .ok (.aload_n 0, 1) := by decide +kernel
theorem d_Lw_law_263 : decode code 263 = .ok (.iload 4, 2) := by decide +kernel
theorem d_Lw_law_265 : decode code 265 = .ok (.iconst 1, 1) := by decide +kernel
theorem d_Lw_law_266 : decode code 266 = .ok (.iadd, 1) := by decide +kernel
theorem d_Lw_law_267 : decode code 267 = .ok (.iaload, 1) := by decide +kernel
theorem d_Lw_law_268 : decode code 268 = .ok (.aload_n 0, 1) := by decide +kernel
theorem d_Lw_law_269 : decode code 269 = .ok (.iload 4, 2) := by decide +kernel
theorem d_Lw_law_271 : decode code 271 = .ok (.iconst 2, 1) := by decide +kernel
theorem d_Lw_law_272 : decode code 272 = .ok (.iadd, 1) := by decide +kernel
theorem d_Lw_law_273 : decode code 273 = .ok (.iaload, 1) := by decide +kernel
theorem d_Lw_law_274 : decode code 274 = .ok (.invokevirtual 30, 3) := by decide +kernel
theorem d_Lw_law_277 : decode code 277 = .ok (.if_icmp .eq 1552, 3) := by decide +kernel
theorem d_Lw_law_280 : decode code 280 = .ok (.iconst 0, 1) := by decide +kernel
theorem d_Lw_law_281 : decode code 281 = .ok (.ireturn, 1) := by decide +kernel
theorem d_Lw_law_282 : decode code 282 = .ok (.aload_n 1, 1) := by decide +kernel
theorem d_Lw_law_283 : decode code 283 = .ok (.aload_n 0, 1) := by decide +kernel
theorem d_Lw_law_284 : decode code 284 = .ok (.iload 4, 2) := by decide +kernel
theorem d_Lw_law_286 : decode code 286 = .ok (.iconst 1, 1) := by decide +kernel
theorem d_Lw_law_287 : decode code 287 = .ok (.iadd, 1) := by decide +kernel
theorem d_Lw_law_288 : decode code 288 = .ok (.iaload, 1) := by decide +kernel
theorem d_Lw_law_289 : decode code 289 = .ok (.aload_n 0, 1) := by decide +kernel
theorem d_Lw_law_290 : decode code 290 = .ok (.iload 4, 2) := by decide +kernel
theorem d_Lw_law_292 : decode code 292 = .ok (.iconst 2, 1) := by decide +kernel
theorem d_Lw_law_293 : decode code 293 = .ok (.iadd, 1) := by decide +kernel
theorem d_Lw_law_294 : decode code 294 = .ok (.iaload, 1) := by decide +kernel
theorem d_Lw_law_295 : decode code 295 = .ok (.aload_n 0, 1) := by decide +kernel
theorem d_Lw_law_296 : decode code 296 = .ok (.iload 4, 2) := by decide +kernel
theorem d_Lw_law_298 : decode code 298 = .ok (.iconst 3, 1) := by decide +kernel
theorem d_Lw_law_299 : decode code 299 = .ok (.iadd, 1) := by decide +kernel
theorem d_Lw_law_300 : decode code 300 = .ok (.iaload, 1) := by decide +kernel
theorem d_Lw_law_301 : decode code 301 = .ok (.invokevirtual 31, 3) := by decide +kernel
theorem d_Lw_law_304 : decode code 304 = .ok (.aload_n 2, 1) := by decide +kernel
theorem d_Lw_law_305 : decode code 305 = .ok (.aload_n 0, 1) := by decide +kernel
theorem d_Lw_law_306 : decode code 306 = .ok (.iload 4, 2) := by decide +kernel
theorem d_Lw_law_308 : decode code 308 = .ok (.iconst 1, 1) := by decide +kernel
theorem d_Lw_law_309 : decode code 309 = .ok (.iadd, 1) := by decide +kernel
theorem d_Lw_law_310 : decode code 310 = .ok (.iaload, 1) := by decide +kernel
theorem d_Lw_law_311 : decode code 311 = .ok (.aload_n 0, 1) := by decide +kernel
theorem d_Lw_law_312 : decode code 312 = .ok (.iload 4, 2) := by decide +kernel
theorem d_Lw_law_314 : decode code 314 = .ok (.iconst 2, 1) := by decide +kernel
theorem d_Lw_law_315 : decode code 315 = .ok (.iadd, 1) := by decide +kernel
theorem d_Lw_law_316 : decode code 316 = .ok (.iaload, 1) := by decide +kernel
theorem d_Lw_law_317 : decode code 317 = .ok (.aload_n 0, 1) := by decide +kernel
theorem d_Lw_law_318 : decode code 318 = .ok (.iload 4, 2) := by decide +kernel
theorem d_Lw_law_320 : decode code 320 = .ok (.iconst 3, 1) := by decide +kernel
theorem d_Lw_law_321 : decode code 321 = .ok (.iadd, 1) := by decide +kernel
theorem d_Lw_law_322 : decode code 322 = .ok (.iaload, 1) := by decide +kernel
theorem d_Lw_law_323 : decode code 323 = .ok (.invokevirtual 35, 3) := by decide +kernel
theorem d_Lw_law_326 : decode code 326 = .ok (.if_icmp .eq 1503, 3) := by decide +kernel
theorem d_Lw_law_329 : decode code 329 = .ok (.iconst 0, 1) := by decide +kernel
theorem d_Lw_law_330 : decode code 330 = .ok (.ireturn, 1) := by decide +kernel
theorem d_Lw_law_331 : decode code 331 = .ok (.aload_n 1, 1) := by decide +kernel
theorem d_Lw_law_332 : decode code 332 = .ok (.aload_n 0, 1) := by decide +kernel
theorem d_Lw_law_333 : decode code 333 = .ok (.iload 4, 2) := by decide +kernel
theorem d_Lw_law_335 : decode code 335 = .ok (.iconst 1, 1) := by decide +kernel
theorem d_Lw_law_336 : decode code 336 = .ok (.iadd, 1) := by decide +kernel
theorem d_Lw_law_337 : decode code 337 = .ok (.iaload, 1) := by decide +kernel
theorem d_Lw_law_338 : decode code 338 = .ok (.aload_n 0, 1) := by decide +kernel
theorem d_Lw_law_339 : decode code 339 = .ok (.iload 4, 2) := by decide +kernel
theorem d_Lw_law_341 : decode code 341 = .ok (.iconst 2, 1) := by decide +kernel
theorem d_Lw_law_342 : decode code 342 = .ok (.iadd, 1) := by decide +kernel
theorem d_Lw_law_343 : decode code 343 = .ok (.iaload, 1) := by decide +kernel
theorem d_Lw_law_344 : decode code 344 = .ok (.invokevirtual 36, 3) := by decide +kernel
theorem d_Lw_law_347 : decode code 347 = .ok (.aload_n 2, 1) := by decide +kernel
theorem d_Lw_law_348 : decode code 348 = .ok (.aload_n 0, 1) := by decide +kernel
theorem d_Lw_law_349 : decode code 349 = .ok (.iload 4, 2) := by decide +kernel
theorem d_Lw_law_351 : decode code 351 = .ok (.iconst 1, 1) := by decide +kernel
theorem d_Lw_law_352 : decode code 352 = .ok (.iadd, 1) := by decide +kernel
theorem d_Lw_law_353 : decode code 353 = .ok (.iaload, 1) := by decide +kernel
theorem d_Lw_law_354 : decode code 354 = .ok (.aload_n 0, 1) := by decide +kernel
theorem d_Lw_law_355 : decode code 355 = .ok (.iload 4, 2) := by decide +kernel
theorem d_Lw_law_357 : decode code 357 = .ok (.iconst 2, 1) := by decide +kernel
theorem d_Lw_law_358 : decode code 358 = .ok (.iadd, 1) := by decide +kernel
theorem d_Lw_law_359 : decode code 359 = .ok (.iaload, 1) := by decide +kernel
theorem d_Lw_law_360 : decode code 360 = .ok (.invokevirtual 39, 3) := by decide +kernel
theorem d_Lw_law_363 : decode code 363 = .ok (.if_icmp .eq 1466, 3) := by decide +kernel
theorem d_Lw_law_366 : decode code 366 = .ok (.iconst 0, 1) := by decide +kernel
theorem d_Lw_law_367 : decode code 367 = .ok (.ireturn, 1) := by decide +kernel
theorem d_Lw_law_368 : decode code 368 = .ok (.aload_n 1, 1) := by decide +kernel
theorem d_Lw_law_369 : decode code 369 = .ok (.aload_n 0, 1) := by decide +kernel
theorem d_Lw_law_370 : decode code 370 = .ok (.iload 4, 2) := by decide +kernel
theorem d_Lw_law_372 : decode code 372 = .ok (.iconst 1, 1) := by decide +kernel
theorem d_Lw_law_373 : decode code 373 = .ok (.iadd, 1) := by decide +kernel
theorem d_Lw_law_374 : decode code 374 = .ok (.iaload, 1) := by decide +kernel
theorem d_Lw_law_375 : decode code 375 = .ok (.aload_n 0, 1) := by decide +kernel
theorem d_Lw_law_376 : decode code 376 = .ok (.iload 4, 2) := by decide +kernel
theorem d_Lw_law_378 : decode code 378 = .ok (.iconst 2, 1) := by decide +kernel
theorem d_Lw_law_379 : decode code 379 = .ok (.iadd, 1) := by decide +kernel
theorem d_Lw_law_380 : decode code 380 = .ok (.iaload, 1) := by decide +kernel
theorem d_Lw_law_381 : decode code 381 = .ok (.invokevirtual 40, 3) := by decide +kernel
theorem d_Lw_law_384 : decode code 384 = .ok (.aload_n 2, 1) := by decide +kernel
theorem d_Lw_law_385 : decode code 385 = .ok (.aload_n 0, 1) := by decide +kernel
theorem d_Lw_law_386 : decode code 386 = .ok (.iload 4, 2) := by decide +kernel
theorem d_Lw_law_388 : decode code 388 = .ok (.iconst 1, 1) := by decide +kernel
theorem d_Lw_law_389 : decode code 389 = .ok (.iadd, 1) := by decide +kernel
theorem d_Lw_law_390 : decode code 390 = .ok (.iaload, 1) := by decide +kernel
theorem d_Lw_law_391 : decode code 391 = .ok (.aload_n 0, 1) := by decide +kernel
theorem d_Lw_law_392 : decode code 392 = .ok (.iload 4, 2) := by decide +kernel
theorem d_Lw_law_394 : decode code 394 = .ok (.iconst 2, 1) := by decide +kernel
theorem d_Lw_law_395 : decode code 395 = .ok (.iadd, 1) := by decide +kernel
theorem d_Lw_law_396 : decode code 396 = .ok (.iaload, 1) := by decide +kernel
theorem d_Lw_law_397 : decode code 397 = .ok (.invokevirtual 43, 3) := by decide +kernel
theorem d_Lw_law_400 : decode code 400 = .ok (.if_icmp .eq 1429, 3) := by decide +kernel
theorem d_Lw_law_403 : decode code 403 = .ok (.iconst 0, 1) := by decide +kernel
theorem d_Lw_law_404 : decode code 404 = .ok (.ireturn, 1) := by decide +kernel
theorem d_Lw_law_405 : decode code 405 = .ok (.aload_n 1, 1) := by decide +kernel
theorem d_Lw_law_406 : decode code 406 = .ok (.aload_n 0, 1) := by decide +kernel
theorem d_Lw_law_407 : decode code 407 = .ok (.iload 4, 2) := by decide +kernel
theorem d_Lw_law_409 : decode code 409 = .ok (.iconst 1, 1) := by decide +kernel
theorem d_Lw_law_410 : decode code 410 = .ok (.iadd, 1) := by decide +kernel
theorem d_Lw_law_411 : decode code 411 = .ok (.iaload, 1) := by decide +kernel
theorem d_Lw_law_412 : decode code 412 = .ok (.aload_n 0, 1) := by decide +kernel
theorem d_Lw_law_413 : decode code 413 = .ok (.iload 4, 2) := by decide +kernel
theorem d_Lw_law_415 : decode code 415 = .ok (.iconst 2, 1) := by decide +kernel
theorem d_Lw_law_416 : decode code 416 = .ok (.iadd, 1) := by decide +kernel
theorem d_Lw_law_417 : decode code 417 = .ok (.iaload, 1) := by decide +kernel
theorem d_Lw_law_418 : decode code 418 = .ok (.invokevirtual 44, 3) := by decide +kernel
theorem d_Lw_law_421 : decode code 421 = .ok (.aload_n 2, 1) := by decide +kernel
theorem d_Lw_law_422 : decode code 422 = .ok (.aload_n 0, 1) := by decide +kernel
theorem d_Lw_law_423 : decode code 423 = .ok (.iload 4, 2) := by decide +kernel
theorem d_Lw_law_425 : decode code 425 = .ok (.iconst 1, 1) := by decide +kernel
theorem d_Lw_law_426 : decode code 426 = .ok (.iadd, 1) := by decide +kernel
theorem d_Lw_law_427 : decode code 427 = .ok (.iaload, 1) := by decide +kernel
theorem d_Lw_law_428 : decode code 428 = .ok (.aload_n 0, 1) := by decide +kernel
theorem d_Lw_law_429 : decode code 429 = .ok (.iload 4, 2) := by decide +kernel
theorem d_Lw_law_431 : decode code 431 = .ok (.iconst 2, 1) := by decide +kernel
theorem d_Lw_law_432 : decode code 432 = .ok (.iadd, 1) := by decide +kernel
theorem d_Lw_law_433 : decode code 433 = .ok (.iaload, 1) := by decide +kernel
theorem d_Lw_law_434 : decode code 434 = .ok (.invokevirtual 47, 3) := by decide +kernel
theorem d_Lw_law_437 : decode code 437 = .ok (.if_icmp .eq 1392, 3) := by decide +kernel
theorem d_Lw_law_440 : decode code 440 = .ok (.iconst 0, 1) := by decide +kernel
theorem d_Lw_law_441 : decode code 441 = .ok (.ireturn, 1) := by decide +kernel
theorem d_Lw_law_442 : decode code 442 = .ok (.aload_n 1, 1) := by decide +kernel
theorem d_Lw_law_443 : decode code 443 = .ok (.aload_n 0, 1) := by decide +kernel
theorem d_Lw_law_444 : decode code 444 = .ok (.iload 4, 2) := by decide +kernel
theorem d_Lw_law_446 : decode code 446 = .ok (.iconst 1, 1) := by decide +kernel
theorem d_Lw_law_447 : decode code 447 = .ok (.iadd, 1) := by decide +kernel
theorem d_Lw_law_448 : decode code 448 = .ok (.iaload, 1) := by decide +kernel
theorem d_Lw_law_449 : decode code 449 = .ok (.invokevirtual 48, 3) := by decide +kernel
theorem d_Lw_law_452 : decode code 452 = .ok (.aload_n 2, 1) := by decide +kernel
theorem d_Lw_law_453 : decode code 453 = .ok (.aload_n 0, 1) := by decide +kernel
theorem d_Lw_law_454 : decode code 454 = .ok (.iload 4, 2) := by decide +kernel
theorem d_Lw_law_456 : decode code 456 = .ok (.iconst 1, 1) := by decide +kernel
theorem d_Lw_law_457 : decode code 457 = .ok (.iadd, 1) := by decide +kernel
theorem d_Lw_law_458 : decode code 458 = .ok (.iaload, 1) := by decide +kernel
theorem d_Lw_law_459 : decode code 459 = .ok (.invokevirtual 51, 3) := by decide +kernel
theorem d_Lw_law_462 : decode code 462 = .ok (.if_icmp .eq 1367, 3) := by decide +kernel
theorem d_Lw_law_465 : decode code 465 = .ok (.iconst 0, 1) := by decide +kernel
theorem d_Lw_law_466 : decode code 466 = .ok (.ireturn, 1) := by decide +kernel
theorem d_Lw_law_467 : decode code 467 = .ok (.aload_n 1, 1) := by decide +kernel
theorem d_Lw_law_468 : decode code 468 = .ok (.aload_n 0, 1) := by decide +kernel
theorem d_Lw_law_469 : decode code 469 = .ok (.iload 4, 2) := by decide +kernel
theorem d_Lw_law_471 : decode code 471 = .ok (.iconst 1, 1) := by decide +kernel
theorem d_Lw_law_472 : decode code 472 = .ok (.iadd, 1) := by decide +kernel
theorem d_Lw_law_473 : decode code 473 = .ok (.iaload, 1) := by decide +kernel
theorem d_Lw_law_474 : decode code 474 = .ok (.invokevirtual 52, 3) := by decide +kernel
theorem d_Lw_law_477 : decode code 477 = .ok (.aload_n 2, 1) := by decide +kernel
theorem d_Lw_law_478 : decode code 478 = .ok (.aload_n 0, 1) := by decide +kernel
theorem d_Lw_law_479 : decode code 479 = .ok (.iload 4, 2) := by decide +kernel
theorem d_Lw_law_481 : decode code 481 = .ok (.iconst 1, 1) := by decide +kernel
theorem d_Lw_law_482 : decode code 482 = .ok (.iadd, 1) := by decide +kernel
theorem d_Lw_law_483 : decode code 483 = .ok (.iaload, 1) := by decide +kernel
theorem d_Lw_law_484 : decode code 484 = .ok (.invokevirtual 55, 3) := by decide +kernel
theorem d_Lw_law_487 : decode code 487 = .ok (.if_icmp .eq 1342, 3) := by decide +kernel
theorem d_Lw_law_490 : decode code 490 = .ok (.iconst 0, 1) := by decide +kernel
theorem d_Lw_law_491 : decode code 491 = .ok (.ireturn, 1) := by decide +kernel
theorem d_Lw_law_492 : decode code 492 = .ok (.aload_n 1, 1) := by decide +kernel
theorem d_Lw_law_493 : decode code 493 = .ok (.aload_n 0, 1) := by decide +kernel
theorem d_Lw_law_494 : decode code 494 = .ok (.iload 4, 2) := by decide +kernel
theorem d_Lw_law_496 : decode code 496 = .ok (.iconst 1, 1) := by decide +kernel
theorem d_Lw_law_497 : decode code 497 = .ok (.iadd, 1) := by decide +kernel
theorem d_Lw_law_498 : decode code 498 = .ok (.iaload, 1) := by decide +kernel
theorem d_Lw_law_499 : decode code 499 = .ok (.aload_n 0, 1) := by decide +kernel
theorem d_Lw_law_500 : decode code 500 = .ok (.iload 4, 2) := by decide +kernel
theorem d_Lw_law_502 : decode code 502 = .ok (.iconst 2, 1) := by decide +kernel
theorem d_Lw_law_503 : decode code 503 = .ok (.iadd, 1) := by decide +kernel
theorem d_Lw_law_504 : decode code 504 = .ok (.iaload, 1) := by decide +kernel
theorem d_Lw_law_505 : decode code 505 = .ok (.invokevirtual 56, 3) := by decide +kernel
theorem d_Lw_law_508 : decode code 508 = .ok (.aload_n 2, 1) := by decide +kernel
theorem d_Lw_law_509 : decode code 509 = .ok (.aload_n 0, 1) := by decide +kernel
theorem d_Lw_law_510 : decode code 510 = .ok (.iload 4, 2) := by decide +kernel
theorem d_Lw_law_512 : decode code 512 = .ok (.iconst 1, 1) := by decide +kernel
theorem d_Lw_law_513 : decode code 513 = .ok (.iadd, 1) := by decide +kernel
theorem d_Lw_law_514 : decode code 514 = .ok (.iaload, 1) := by decide +kernel
theorem d_Lw_law_515 : decode code 515 = .ok (.aload_n 0, 1) := by decide +kernel
theorem d_Lw_law_516 : decode code 516 = .ok (.iload 4, 2) := by decide +kernel
theorem d_Lw_law_518 : decode code 518 = .ok (.iconst 2, 1) := by decide +kernel
theorem d_Lw_law_519 : decode code 519 = .ok (.iadd, 1) := by decide +kernel
theorem d_Lw_law_520 : decode code 520 = .ok (.iaload, 1) := by decide +kernel
theorem d_Lw_law_521 : decode code 521 = .ok (.invokevirtual 59, 3) := by decide +kernel
theorem d_Lw_law_524 : decode code 524 = .ok (.if_icmp .eq 1305, 3) := by decide +kernel
theorem d_Lw_law_527 : decode code 527 = .ok (.iconst 0, 1) := by decide +kernel
theorem d_Lw_law_528 : decode code 528 = .ok (.ireturn, 1) := by decide +kernel
theorem d_Lw_law_529 : decode code 529 = .ok (.aload_n 1, 1) := by decide +kernel
theorem d_Lw_law_530 : decode code 530 = .ok (.aload_n 0, 1) := by decide +kernel
theorem d_Lw_law_531 : decode code 531 = .ok (.iload 4, 2) := by decide +kernel
theorem d_Lw_law_533 : decode code 533 = .ok (.iconst 1, 1) := by decide +kernel
theorem d_Lw_law_534 : decode code 534 = .ok (.iadd, 1) := by decide +kernel
theorem d_Lw_law_535 : decode code 535 = .ok (.iaload, 1) := by decide +kernel
theorem d_Lw_law_536 : decode code 536 = .ok (.aload_n 0, 1) := by decide +kernel
theorem d_Lw_law_537 : decode code 537 = .ok (.iload 4, 2) := by decide +kernel
theorem d_Lw_law_539 : decode code 539 = .ok (.iconst 2, 1) := by decide +kernel
theorem d_Lw_law_540 : decode code 540 = .ok (.iadd, 1) := by decide +kernel
theorem d_Lw_law_541 : decode code 541 = .ok (.iaload, 1) := by decide +kernel
theorem d_Lw_law_542 : decode code 542 = .ok (.aload_n 0, 1) := by decide +kernel
theorem d_Lw_law_543 : decode code 543 = .ok (.iload 4, 2) := by decide +kernel
theorem d_Lw_law_545 : decode code 545 = .ok (.iconst 3, 1) := by decide +kernel
theorem d_Lw_law_546 : decode code 546 = .ok (.iadd, 1) := by decide +kernel
theorem d_Lw_law_547 : decode code 547 = .ok (.iaload, 1) := by decide +kernel
theorem d_Lw_law_548 : decode code 548 = .ok (.invokevirtual 60, 3) := by decide +kernel
theorem d_Lw_law_551 : decode code 551 = .ok (.aload_n 2, 1) := by decide +kernel
theorem d_Lw_law_552 : decode code 552 = .ok (.aload_n 0, 1) := by decide +kernel
theorem d_Lw_law_553 : decode code 553 = .ok (.iload 4, 2) := by decide +kernel
theorem d_Lw_law_555 : decode code 555 = .ok (.iconst 1, 1) := by decide +kernel
theorem d_Lw_law_556 : decode code 556 = .ok (.iadd, 1) := by decide +kernel
theorem d_Lw_law_557 : decode code 557 = .ok (.iaload, 1) := by decide +kernel
theorem d_Lw_law_558 : decode code 558 = .ok (.aload_n 0, 1) := by decide +kernel
theorem d_Lw_law_559 : decode code 559 = .ok (.iload 4, 2) := by decide +kernel
theorem d_Lw_law_561 : decode code 561 = .ok (.iconst 2, 1) := by decide +kernel
theorem d_Lw_law_562 : decode code 562 = .ok (.iadd, 1) := by decide +kernel
theorem d_Lw_law_563 : decode code 563 = .ok (.iaload, 1) := by decide +kernel
theorem d_Lw_law_564 : decode code 564 = .ok (.aload_n 0, 1) := by decide +kernel
theorem d_Lw_law_565 : decode code 565 = .ok (.iload 4, 2) := by decide +kernel
theorem d_Lw_law_567 : decode code 567 = .ok (.iconst 3, 1) := by decide +kernel
theorem d_Lw_law_568 : decode code 568 = .ok (.iadd, 1) := by decide +kernel
theorem d_Lw_law_569 : decode code 569 = .ok (.iaload, 1) := by decide +kernel
theorem d_Lw_law_570 : decode code 570 = .ok (.invokevirtual 63, 3) := by decide +kernel
theorem d_Lw_law_573 : decode code 573 = .ok (.if_icmp .eq 1256, 3) := by decide +kernel
theorem d_Lw_law_576 : decode code 576 = .ok (.iconst 0, 1) := by decide +kernel
theorem d_Lw_law_577 : decode code 577 = .ok (.ireturn, 1) := by decide +kernel
theorem d_Lw_law_578 : decode code 578 = .ok (.aload_n 1, 1) := by decide +kernel
theorem d_Lw_law_579 : decode code 579 = .ok (.aload_n 0, 1) := by decide +kernel
theorem d_Lw_law_580 : decode code 580 = .ok (.iload 4, 2) := by decide +kernel
theorem d_Lw_law_582 : decode code 582 = .ok (.iconst 1, 1) := by decide +kernel
theorem d_Lw_law_583 : decode code 583 = .ok (.iadd, 1) := by decide +kernel
theorem d_Lw_law_584 : decode code 584 = .ok (.iaload, 1) := by decide +kernel
theorem d_Lw_law_585 : decode code 585 = .ok (.aload_n 0, 1) := by decide +kernel
theorem d_Lw_law_586 : decode code 586 = .ok (.iload 4, 2) := by decide +kernel
theorem d_Lw_law_588 : decode code 588 = .ok (.iconst 2, 1) := by decide +kernel
theorem d_Lw_law_589 : decode code 589 = .ok (.iadd, 1) := by decide +kernel
theorem d_Lw_law_590 : decode code 590 = .ok (.iaload, 1) := by decide +kernel
theorem d_Lw_law_591 : decode code 591 = .ok (.aload_n 0, 1) := by decide +kernel
theorem d_Lw_law_592 : decode code 592 = .ok (.iload 4, 2) := by decide +kernel
theorem d_Lw_law_594 : decode code 594 = .ok (.iconst 3, 1) := by decide +kernel
theorem d_Lw_law_595 : decode code 595 = .ok (.iadd, 1) := by decide +kernel
theorem d_Lw_law_596 : decode code 596 = .ok (.iaload, 1) := by decide +kernel
theorem d_Lw_law_597 : decode code 597 = .ok (.invokevirtual 64, 3) := by decide +kernel
theorem d_Lw_law_600 : decode code 600 = .ok (.aload_n 2, 1) := by decide +kernel
theorem d_Lw_law_601 : decode code 601 = .ok (.aload_n 0, 1) := by decide +kernel
theorem d_Lw_law_602 : decode code 602 = .ok (.iload 4, 2) := by decide +kernel
theorem d_Lw_law_604 : decode code 604 = .ok (.iconst 1, 1) := by decide +kernel
theorem d_Lw_law_605 : decode code 605 = .ok (.iadd, 1) := by decide +kernel
theorem d_Lw_law_606 : decode code 606 = .ok (.iaload, 1) := by decide +kernel
theorem d_Lw_law_607 : decode code 607 = .ok (.aload_n 0, 1) := by decide +kernel
theorem d_Lw_law_608 : decode code 608 = .ok (.iload 4, 2) := by decide +kernel
theorem d_Lw_law_610 : decode code 610 = .ok (.iconst 2, 1) := by decide +kernel
theorem d_Lw_law_611 : decode code 611 = .ok (.iadd, 1) := by decide +kernel
theorem d_Lw_law_612 : decode code 612 = .ok (.iaload, 1) := by decide +kernel
theorem d_Lw_law_613 : decode code 613 = .ok (.aload_n 0, 1) := by decide +kernel
theorem d_Lw_law_614 : decode code 614 = .ok (.iload 4, 2) := by decide +kernel
theorem d_Lw_law_616 : decode code 616 = .ok (.iconst 3, 1) := by decide +kernel
theorem d_Lw_law_617 : decode code 617 = .ok (.iadd, 1) := by decide +kernel
theorem d_Lw_law_618 : decode code 618 = .ok (.iaload, 1) := by decide +kernel
theorem d_Lw_law_619 : decode code 619 = .ok (.invokevirtual 67, 3) := by decide +kernel
theorem d_Lw_law_622 : decode code 622 = .ok (.if_icmp .eq 1207, 3) := by decide +kernel
theorem d_Lw_law_625 : decode code 625 = .ok (.iconst 0, 1) := by decide +kernel
theorem d_Lw_law_626 : decode code 626 = .ok (.ireturn, 1) := by decide +kernel
theorem d_Lw_law_627 : decode code 627 = .ok (.aload_n 1, 1) := by decide +kernel
theorem d_Lw_law_628 : decode code 628 = .ok (.aload_n 0, 1) := by decide +kernel
theorem d_Lw_law_629 : decode code 629 = .ok (.iload 4, 2) := by decide +kernel
theorem d_Lw_law_631 : decode code 631 = .ok (.iconst 1, 1) := by decide +kernel
theorem d_Lw_law_632 : decode code 632 = .ok (.iadd, 1) := by decide +kernel
theorem d_Lw_law_633 : decode code 633 = .ok (.iaload, 1) := by decide +kernel
theorem d_Lw_law_634 : decode code 634 = .ok (.aload_n 0, 1) := by decide +kernel
theorem d_Lw_law_635 : decode code 635 = .ok (.iload 4, 2) := by decide +kernel
theorem d_Lw_law_637 : decode code 637 = .ok (.iconst 2, 1) := by decide +kernel
theorem d_Lw_law_638 : decode code 638 = .ok (.iadd, 1) := by decide +kernel
theorem d_Lw_law_639 : decode code 639 = .ok (.iaload, 1) := by decide +kernel
theorem d_Lw_law_640 : decode code 640 = .ok (.invokevirtual 68, 3) := by decide +kernel
theorem d_Lw_law_643 : decode code 643 = .ok (.aload_n 2, 1) := by decide +kernel
theorem d_Lw_law_644 : decode code 644 = .ok (.aload_n 0, 1) := by decide +kernel
theorem d_Lw_law_645 : decode code 645 = .ok (.iload 4, 2) := by decide +kernel
theorem d_Lw_law_647 : decode code 647 = .ok (.iconst 1, 1) := by decide +kernel
theorem d_Lw_law_648 : decode code 648 = .ok (.iadd, 1) := by decide +kernel
theorem d_Lw_law_649 : decode code 649 = .ok (.iaload, 1) := by decide +kernel
theorem d_Lw_law_650 : decode code 650 = .ok (.aload_n 0, 1) := by decide +kernel
theorem d_Lw_law_651 : decode code 651 = .ok (.iload 4, 2) := by decide +kernel
theorem d_Lw_law_653 : decode code 653 = .ok (.iconst 2, 1) := by decide +kernel
theorem d_Lw_law_654 : decode code 654 = .ok (.iadd, 1) := by decide +kernel
theorem d_Lw_law_655 : decode code 655 = .ok (.iaload, 1) := by decide +kernel
theorem d_Lw_law_656 : decode code 656 = .ok (.invokevirtual 71, 3) := by decide +kernel
theorem d_Lw_law_659 : decode code 659 = .ok (.if_icmp .eq 1170, 3) := by decide +kernel
theorem d_Lw_law_662 : decode code 662 = .ok (.iconst 0, 1) := by decide +kernel
theorem d_Lw_law_663 : decode code 663 = .ok (.ireturn, 1) := by decide +kernel
theorem d_Lw_law_664 : decode code 664 = .ok (.aload_n 1, 1) := by decide +kernel
theorem d_Lw_law_665 : decode code 665 = .ok (.aload_n 0, 1) := by decide +kernel
theorem d_Lw_law_666 : decode code 666 = .ok (.iload 4, 2) := by decide +kernel
theorem d_Lw_law_668 : decode code 668 = .ok (.iconst 1, 1) := by decide +kernel
theorem d_Lw_law_669 : decode code 669 = .ok (.iadd, 1) := by decide +kernel
theorem d_Lw_law_670 : decode code 670 = .ok (.iaload, 1) := by decide +kernel
theorem d_Lw_law_671 : decode code 671 = .ok (.invokevirtual 72, 3) := by decide +kernel
theorem d_Lw_law_674 : decode code 674 = .ok (.aload_n 2, 1) := by decide +kernel
theorem d_Lw_law_675 : decode code 675 = .ok (.aload_n 0, 1) := by decide +kernel
theorem d_Lw_law_676 : decode code 676 = .ok (.iload 4, 2) := by decide +kernel
theorem d_Lw_law_678 : decode code 678 = .ok (.iconst 1, 1) := by decide +kernel
theorem d_Lw_law_679 : decode code 679 = .ok (.iadd, 1) := by decide +kernel
theorem d_Lw_law_680 : decode code 680 = .ok (.iaload, 1) := by decide +kernel
theorem d_Lw_law_681 : decode code 681 = .ok (.invokevirtual 75, 3) := by decide +kernel
theorem d_Lw_law_684 : decode code 684 = .ok (.if_icmp .eq 1145, 3) := by decide +kernel
theorem d_Lw_law_687 : decode code 687 = .ok (.iconst 0, 1) := by decide +kernel
theorem d_Lw_law_688 : decode code 688 = .ok (.ireturn, 1) := by decide +kernel
theorem d_Lw_law_689 : decode code 689 = .ok (.aload_n 1, 1) := by decide +kernel
theorem d_Lw_law_690 : decode code 690 = .ok (.invokevirtual 76, 3) := by decide +kernel
theorem d_Lw_law_693 : decode code 693 = .ok (.aload_n 2, 1) := by decide +kernel
theorem d_Lw_law_694 : decode code 694 = .ok (.invokevirtual 80, 3) := by decide +kernel
theorem d_Lw_law_697 : decode code 697 = .ok (.if_icmp .eq 1132, 3) := by decide +kernel
theorem d_Lw_law_700 : decode code 700 = .ok (.iconst 0, 1) := by decide +kernel
theorem d_Lw_law_701 : decode code 701 = .ok (.ireturn, 1) := by decide +kernel
theorem d_Lw_law_702 : decode code 702 = .ok (.aload_n 1, 1) := by decide +kernel
theorem d_Lw_law_703 : decode code 703 = .ok (.aload_n 0, 1) := by decide +kernel
theorem d_Lw_law_704 : decode code 704 = .ok (.iload 4, 2) := by decide +kernel
theorem d_Lw_law_706 : decode code 706 = .ok (.iconst 1, 1) := by decide +kernel
theorem d_Lw_law_707 : decode code 707 = .ok (.iadd, 1) := by decide +kernel
theorem d_Lw_law_708 : decode code 708 = .ok (.iaload, 1) := by decide +kernel
theorem d_Lw_law_709 : decode code 709 = .ok (.aload_n 0, 1) := by decide +kernel
theorem d_Lw_law_710 : decode code 710 = .ok (.iload 4, 2) := by decide +kernel
theorem d_Lw_law_712 : decode code 712 = .ok (.iconst 2, 1) := by decide +kernel
theorem d_Lw_law_713 : decode code 713 = .ok (.iadd, 1) := by decide +kernel
theorem d_Lw_law_714 : decode code 714 = .ok (.iaload, 1) := by decide +kernel
theorem d_Lw_law_715 : decode code 715 = .ok (.invokevirtual 81, 3) := by decide +kernel
theorem d_Lw_law_718 : decode code 718 = .ok (.aload_n 2, 1) := by decide +kernel
theorem d_Lw_law_719 : decode code 719 = .ok (.aload_n 0, 1) := by decide +kernel
theorem d_Lw_law_720 : decode code 720 = .ok (.iload 4, 2) := by decide +kernel
theorem d_Lw_law_722 : decode code 722 = .ok (.iconst 1, 1) := by decide +kernel
theorem d_Lw_law_723 : decode code 723 = .ok (.iadd, 1) := by decide +kernel
theorem d_Lw_law_724 : decode code 724 = .ok (.iaload, 1) := by decide +kernel
theorem d_Lw_law_725 : decode code 725 = .ok (.aload_n 0, 1) := by decide +kernel
theorem d_Lw_law_726 : decode code 726 = .ok (.iload 4, 2) := by decide +kernel
theorem d_Lw_law_728 : decode code 728 = .ok (.iconst 2, 1) := by decide +kernel
theorem d_Lw_law_729 : decode code 729 = .ok (.iadd, 1) := by decide +kernel
theorem d_Lw_law_730 : decode code 730 = .ok (.iaload, 1) := by decide +kernel
theorem d_Lw_law_731 : decode code 731 = .ok (.invokevirtual 84, 3) := by decide +kernel
theorem d_Lw_law_734 : decode code 734 = .ok (.if_icmp .eq 1095, 3) := by decide +kernel
theorem d_Lw_law_737 : decode code 737 = .ok (.iconst 0, 1) := by decide +kernel
theorem d_Lw_law_738 : decode code 738 = .ok (.ireturn, 1) := by decide +kernel
theorem d_Lw_law_739 : decode code 739 = .ok (.aload_n 1, 1) := by decide +kernel
theorem d_Lw_law_740 : decode code 740 = .ok (.aload_n 0, 1) := by decide +kernel
theorem d_Lw_law_741 : decode code 741 = .ok (.iload 4, 2) := by decide +kernel
theorem d_Lw_law_743 : decode code 743 = .ok (.iconst 1, 1) := by decide +kernel
theorem d_Lw_law_744 : decode code 744 = .ok (.iadd, 1) := by decide +kernel
theorem d_Lw_law_745 : decode code 745 = .ok (.iaload, 1) := by decide +kernel
theorem d_Lw_law_746 : decode code 746 = .ok (.aload_n 0, 1) := by decide +kernel
theorem d_Lw_law_747 : decode code 747 = .ok (.iload 4, 2) := by decide +kernel
theorem d_Lw_law_749 : decode code 749 = .ok (.iconst 2, 1) := by decide +kernel
theorem d_Lw_law_750 : decode code 750 = .ok (.iadd, 1) := by decide +kernel
theorem d_Lw_law_751 : decode code 751 = .ok (.iaload, 1) := by decide +kernel
theorem d_Lw_law_752 : decode code 752 = .ok (.aload_n 0, 1) := by decide +kernel
theorem d_Lw_law_753 : decode code 753 = .ok (.iload 4, 2) := by decide +kernel
theorem d_Lw_law_755 : decode code 755 = .ok (.iconst 3, 1) := by decide +kernel
theorem d_Lw_law_756 : decode code 756 = .ok (.iadd, 1) := by decide +kernel
theorem d_Lw_law_757 : decode code 757 = .ok (.iaload, 1) := by decide +kernel
theorem d_Lw_law_758 : decode code 758 = .ok (.invokevirtual 85, 3) := by decide +kernel
theorem d_Lw_law_761 : decode code 761 = .ok (.aload_n 2, 1) := by decide +kernel
theorem d_Lw_law_762 : decode code 762 = .ok (.aload_n 0, 1) := by decide +kernel
theorem d_Lw_law_763 : decode code 763 = .ok (.iload 4, 2) := by decide +kernel
theorem d_Lw_law_765 : decode code 765 = .ok (.iconst 1, 1) := by decide +kernel
theorem d_Lw_law_766 : decode code 766 = .ok (.iadd, 1) := by decide +kernel
theorem d_Lw_law_767 : decode code 767 = .ok (.iaload, 1) := by decide +kernel
theorem d_Lw_law_768 : decode code 768 = .ok (.aload_n 0, 1) := by decide +kernel
theorem d_Lw_law_769 : decode code 769 = .ok (.iload 4, 2) := by decide +kernel
theorem d_Lw_law_771 : decode code 771 = .ok (.iconst 2, 1) := by decide +kernel
theorem d_Lw_law_772 : decode code 772 = .ok (.iadd, 1) := by decide +kernel
theorem d_Lw_law_773 : decode code 773 = .ok (.iaload, 1) := by decide +kernel
theorem d_Lw_law_774 : decode code 774 = .ok (.aload_n 0, 1) := by decide +kernel
theorem d_Lw_law_775 : decode code 775 = .ok (.iload 4, 2) := by decide +kernel
theorem d_Lw_law_777 : decode code 777 = .ok (.iconst 3, 1) := by decide +kernel
theorem d_Lw_law_778 : decode code 778 = .ok (.iadd, 1) := by decide +kernel
theorem d_Lw_law_779 : decode code 779 = .ok (.iaload, 1) := by decide +kernel
theorem d_Lw_law_780 : decode code 780 = .ok (.invokevirtual 88, 3) := by decide +kernel
theorem d_Lw_law_783 : decode code 783 = .ok (.if_icmp .eq 1046, 3) := by decide +kernel
theorem d_Lw_law_786 : decode code 786 = .ok (.iconst 0, 1) := by decide +kernel
theorem d_Lw_law_787 : decode code 787 = .ok (.ireturn, 1) := by decide +kernel
theorem d_Lw_law_788 : decode code 788 = .ok (.aload_n 1, 1) := by decide +kernel
theorem d_Lw_law_789 : decode code 789 = .ok (.aload_n 0, 1) := by decide +kernel
theorem d_Lw_law_790 : decode code 790 = .ok (.iload 4, 2) := by decide +kernel
theorem d_Lw_law_792 : decode code 792 = .ok (.iconst 1, 1) := by decide +kernel
theorem d_Lw_law_793 : decode code 793 = .ok (.iadd, 1) := by decide +kernel
theorem d_Lw_law_794 : decode code 794 = .ok (.iaload, 1) := by decide +kernel
theorem d_Lw_law_795 : decode code 795 = .ok (.aload_n 0, 1) := by decide +kernel
theorem d_Lw_law_796 : decode code 796 = .ok (.iload 4, 2) := by decide +kernel
theorem d_Lw_law_798 : decode code 798 = .ok (.iconst 2, 1) := by decide +kernel
theorem d_Lw_law_799 : decode code 799 = .ok (.iadd, 1) := by decide +kernel
theorem d_Lw_law_800 : decode code 800 = .ok (.iaload, 1) := by decide +kernel
theorem d_Lw_law_801 : decode code 801 = .ok (.aload_n 0, 1) := by decide +kernel
theorem d_Lw_law_802 : decode code 802 = .ok (.iload 4, 2) := by decide +kernel
theorem d_Lw_law_804 : decode code 804 = .ok (.iconst 3, 1) := by decide +kernel
theorem d_Lw_law_805 : decode code 805 = .ok (.iadd, 1) := by decide +kernel
theorem d_Lw_law_806 : decode code 806 = .ok (.iaload, 1) := by decide +kernel
theorem d_Lw_law_807 : decode code 807 = .ok (.invokevirtual 89, 3) := by decide +kernel
theorem d_Lw_law_810 : decode code 810 = .ok (.aload_n 2, 1) := by decide +kernel
theorem d_Lw_law_811 : decode code 811 = .ok (.aload_n 0, 1) := by decide +kernel
theorem d_Lw_law_812 : decode code 812 = .ok (.iload 4, 2) := by decide +kernel
theorem d_Lw_law_814 : decode code 814 = .ok (.iconst 1, 1) := by decide +kernel
theorem d_Lw_law_815 : decode code 815 = .ok (.iadd, 1) := by decide +kernel
theorem d_Lw_law_816 : decode code 816 = .ok (.iaload, 1) := by decide +kernel
theorem d_Lw_law_817 : decode code 817 = .ok (.aload_n 0, 1) := by decide +kernel
theorem d_Lw_law_818 : decode code 818 = .ok (.iload 4, 2) := by decide +kernel
theorem d_Lw_law_820 : decode code 820 = .ok (.iconst 2, 1) := by decide +kernel
theorem d_Lw_law_821 : decode code 821 = .ok (.iadd, 1) := by decide +kernel
theorem d_Lw_law_822 : decode code 822 = .ok (.iaload, 1) := by decide +kernel
theorem d_Lw_law_823 : decode code 823 = .ok (.aload_n 0, 1) := by decide +kernel
theorem d_Lw_law_824 : decode code 824 = .ok (.iload 4, 2) := by decide +kernel
theorem d_Lw_law_826 : decode code 826 = .ok (.iconst 3, 1) := by decide +kernel
theorem d_Lw_law_827 : decode code 827 = .ok (.iadd, 1) := by decide +kernel
theorem d_Lw_law_828 : decode code 828 = .ok (.iaload, 1) := by decide +kernel
theorem d_Lw_law_829 : decode code 829 = .ok (.invokevirtual 92, 3) := by decide +kernel
theorem d_Lw_law_832 : decode code 832 = .ok (.if_icmp .eq 997, 3) := by decide +kernel
theorem d_Lw_law_835 : decode code 835 = .ok (.iconst 0, 1) := by decide +kernel
theorem d_Lw_law_836 : decode code 836 = .ok (.ireturn, 1) := by decide +kernel
theorem d_Lw_law_837 : decode code 837 = .ok (.aload_n 1, 1) := by decide +kernel
theorem d_Lw_law_838 : decode code 838 = .ok (.aload_n 0, 1) := by decide +kernel
theorem d_Lw_law_839 : decode code 839 = .ok (.iload 4, 2) := by decide +kernel
theorem d_Lw_law_841 : decode code 841 = .ok (.iconst 1, 1) := by decide +kernel
theorem d_Lw_law_842 : decode code 842 = .ok (.iadd, 1) := by decide +kernel
theorem d_Lw_law_843 : decode code 843 = .ok (.iaload, 1) := by decide +kernel
theorem d_Lw_law_844 : decode code 844 = .ok (.aload_n 0, 1) := by decide +kernel
theorem d_Lw_law_845 : decode code 845 = .ok (.iload 4, 2) := by decide +kernel
theorem d_Lw_law_847 : decode code 847 = .ok (.iconst 2, 1) := by decide +kernel
theorem d_Lw_law_848 : decode code 848 = .ok (.iadd, 1) := by decide +kernel
theorem d_Lw_law_849 : decode code 849 = .ok (.iaload, 1) := by decide +kernel
theorem d_Lw_law_850 : decode code 850 = .ok (.aload_n 0, 1) := by decide +kernel
theorem d_Lw_law_851 : decode code 851 = .ok (.iload 4, 2) := by decide +kernel
theorem d_Lw_law_853 : decode code 853 = .ok (.iconst 3, 1) := by decide +kernel
theorem d_Lw_law_854 : decode code 854 = .ok (.iadd, 1) := by decide +kernel
theorem d_Lw_law_855 : decode code 855 = .ok (.iaload, 1) := by decide +kernel
theorem d_Lw_law_856 : decode code 856 = .ok (.invokevirtual 93, 3) := by decide +kernel
theorem d_Lw_law_859 : decode code 859 = .ok (.aload_n 2, 1) := by decide +kernel
theorem d_Lw_law_860 : decode code 860 = .ok (.aload_n 0, 1) := by decide +kernel
theorem d_Lw_law_861 : decode code 861 = .ok (.iload 4, 2) := by decide +kernel
theorem d_Lw_law_863 : decode code 863 = .ok (.iconst 1, 1) := by decide +kernel
theorem d_Lw_law_864 : decode code 864 = .ok (.iadd, 1) := by decide +kernel
theorem d_Lw_law_865 : decode code 865 = .ok (.iaload, 1) := by decide +kernel
theorem d_Lw_law_866 : decode code 866 = .ok (.aload_n 0, 1) := by decide +kernel
theorem d_Lw_law_867 : decode code 867 = .ok (.iload 4, 2) := by decide +kernel
theorem d_Lw_law_869 : decode code 869 = .ok (.iconst 2, 1) := by decide +kernel
theorem d_Lw_law_870 : decode code 870 = .ok (.iadd, 1) := by decide +kernel
theorem d_Lw_law_871 : decode code 871 = .ok (.iaload, 1) := by decide +kernel
theorem d_Lw_law_872 : decode code 872 = .ok (.aload_n 0, 1) := by decide +kernel
theorem d_Lw_law_873 : decode code 873 = .ok (.iload 4, 2) := by decide +kernel
theorem d_Lw_law_875 : decode code 875 = .ok (.iconst 3, 1) := by decide +kernel
theorem d_Lw_law_876 : decode code 876 = .ok (.iadd, 1) := by decide +kernel
theorem d_Lw_law_877 : decode code 877 = .ok (.iaload, 1) := by decide +kernel
theorem d_Lw_law_878 : decode code 878 = .ok (.invokevirtual 96, 3) := by decide +kernel
theorem d_Lw_law_881 : decode code 881 = .ok (.if_icmp .eq 948, 3) := by decide +kernel
theorem d_Lw_law_884 : decode code 884 = .ok (.iconst 0, 1) := by decide +kernel
theorem d_Lw_law_885 : decode code 885 = .ok (.ireturn, 1) := by decide +kernel
theorem d_Lw_law_886 : decode code 886 = .ok (.aload_n 1, 1) := by decide +kernel
theorem d_Lw_law_887 : decode code 887 = .ok (.aload_n 0, 1) := by decide +kernel
theorem d_Lw_law_888 : decode code 888 = .ok (.iload 4, 2) := by decide +kernel
theorem d_Lw_law_890 : decode code 890 = .ok (.iconst 1, 1) := by decide +kernel
theorem d_Lw_law_891 : decode code 891 = .ok (.iadd, 1) := by decide +kernel
theorem d_Lw_law_892 : decode code 892 = .ok (.iaload, 1) := by decide +kernel
theorem d_Lw_law_893 : decode code 893 = .ok (.aload_n 0, 1) := by decide +kernel
theorem d_Lw_law_894 : decode code 894 = .ok (.iload 4, 2) := by decide +kernel
theorem d_Lw_law_896 : decode code 896 = .ok (.iconst 2, 1) := by decide +kernel
theorem d_Lw_law_897 : decode code 897 = .ok (.iadd, 1) := by decide +kernel
theorem d_Lw_law_898 : decode code 898 = .ok (.iaload, 1) := by decide +kernel
theorem d_Lw_law_899 : decode code 899 = .ok (.aload_n 0, 1) := by decide +kernel
theorem d_Lw_law_900 : decode code 900 = .ok (.iload 4, 2) := by decide +kernel
theorem d_Lw_law_902 : decode code 902 = .ok (.iconst 3, 1) := by decide +kernel
theorem d_Lw_law_903 : decode code 903 = .ok (.iadd, 1) := by decide +kernel
theorem d_Lw_law_904 : decode code 904 = .ok (.iaload, 1) := by decide +kernel
theorem d_Lw_law_905 : decode code 905 = .ok (.aload_n 0, 1) := by decide +kernel
theorem d_Lw_law_906 : decode code 906 = .ok (.iload 4, 2) := by decide +kernel
theorem d_Lw_law_908 : decode code 908 = .ok (.iconst 4, 1) := by decide +kernel
theorem d_Lw_law_909 : decode code 909 = .ok (.iadd, 1) := by decide +kernel
theorem d_Lw_law_910 : decode code 910 = .ok (.iaload, 1) := by decide +kernel
theorem d_Lw_law_911 : decode code 911 = .ok (.invokevirtual 97, 3) := by decide +kernel
theorem d_Lw_law_914 : decode code 914 = .ok (.aload_n 2, 1) := by decide +kernel
theorem d_Lw_law_915 : decode code 915 = .ok (.aload_n 0, 1) := by decide +kernel
theorem d_Lw_law_916 : decode code 916 = .ok (.iload 4, 2) := by decide +kernel
theorem d_Lw_law_918 : decode code 918 = .ok (.iconst 1, 1) := by decide +kernel
theorem d_Lw_law_919 : decode code 919 = .ok (.iadd, 1) := by decide +kernel
theorem d_Lw_law_920 : decode code 920 = .ok (.iaload, 1) := by decide +kernel
theorem d_Lw_law_921 : decode code 921 = .ok (.aload_n 0, 1) := by decide +kernel
theorem d_Lw_law_922 : decode code 922 = .ok (.iload 4, 2) := by decide +kernel
theorem d_Lw_law_924 : decode code 924 = .ok (.iconst 2, 1) := by decide +kernel
theorem d_Lw_law_925 : decode code 925 = .ok (.iadd, 1) := by decide +kernel
theorem d_Lw_law_926 : decode code 926 = .ok (.iaload, 1) := by decide +kernel
theorem d_Lw_law_927 : decode code 927 = .ok (.aload_n 0, 1) := by decide +kernel
theorem d_Lw_law_928 : decode code 928 = .ok (.iload 4, 2) := by decide +kernel
theorem d_Lw_law_930 : decode code 930 = .ok (.iconst 3, 1) := by decide +kernel
theorem d_Lw_law_931 : decode code 931 = .ok (.iadd, 1) := by decide +kernel
theorem d_Lw_law_932 : decode code 932 = .ok (.iaload, 1) := by decide +kernel
theorem d_Lw_law_933 : decode code 933 = .ok (.aload_n 0, 1) := by decide +kernel
theorem d_Lw_law_934 : decode code 934 = .ok (.iload 4, 2) := by decide +kernel
theorem d_Lw_law_936 : decode code 936 = .ok (.iconst 4, 1) := by decide +kernel
theorem d_Lw_law_937 : decode code 937 = .ok (.iadd, 1) := by decide +kernel
theorem d_Lw_law_938 : decode code 938 = .ok (.iaload, 1) := by decide +kernel
theorem d_Lw_law_939 : decode code 939 = .ok (.invokevirtual 101, 3) := by decide +kernel
theorem d_Lw_law_942 : decode code 942 = .ok (.if_icmp .eq 887, 3) := by decide +kernel
theorem d_Lw_law_945 : decode code 945 = .ok (.iconst 0, 1) := by decide +kernel
theorem d_Lw_law_946 : decode code 946 = .ok (.ireturn, 1) := by decide +kernel
theorem d_Lw_law_947 : decode code 947 = .ok (.aload_n 1, 1) := by decide +kernel
theorem d_Lw_law_948 : decode code 948 = .ok (.aload_n 0, 1) := by decide +kernel
theorem d_Lw_law_949 : decode code 949 = .ok (.iload 4, 2) := by decide +kernel
theorem d_Lw_law_951 : decode code 951 = .ok (.iconst 1, 1) := by decide +kernel
theorem d_Lw_law_952 : decode code 952 = .ok (.iadd, 1) := by decide +kernel
theorem d_Lw_law_953 : decode code 953 = .ok (.iaload, 1) := by decide +kernel
theorem d_Lw_law_954 : decode code 954 = .ok (.aload_n 0, 1) := by decide +kernel
theorem d_Lw_law_955 : decode code 955 = .ok (.iload 4, 2) := by decide +kernel
theorem d_Lw_law_957 : decode code 957 = .ok (.iconst 2, 1) := by decide +kernel
theorem d_Lw_law_958 : decode code 958 = .ok (.iadd, 1) := by decide +kernel
theorem d_Lw_law_959 : decode code 959 = .ok (.iaload, 1) := by decide +kernel
theorem d_Lw_law_960 : decode code 960 = .ok (.invokevirtual 102, 3) := by decide +kernel
theorem d_Lw_law_963 : decode code 963 = .ok (.aload_n 2, 1) := by decide +kernel
theorem d_Lw_law_964 : decode code 964 = .ok (.aload_n 0, 1) := by decide +kernel
theorem d_Lw_law_965 : decode code 965 = .ok (.iload 4, 2) := by decide +kernel
theorem d_Lw_law_967 : decode code 967 = .ok (.iconst 1, 1) := by decide +kernel
theorem d_Lw_law_968 : decode code 968 = .ok (.iadd, 1) := by decide +kernel
theorem d_Lw_law_969 : decode code 969 = .ok (.iaload, 1) := by decide +kernel
theorem d_Lw_law_970 : decode code 970 = .ok (.aload_n 0, 1) := by decide +kernel
theorem d_Lw_law_971 : decode code 971 = .ok (.iload 4, 2) := by decide +kernel
theorem d_Lw_law_973 : decode code 973 = .ok (.iconst 2, 1) := by decide +kernel
theorem d_Lw_law_974 : decode code 974 = .ok (.iadd, 1) := by decide +kernel
theorem d_Lw_law_975 : decode code 975 = .ok (.iaload, 1) := by decide +kernel
theorem d_Lw_law_976 : decode code 976 = .ok (.invokevirtual 105, 3) := by decide +kernel
theorem d_Lw_law_979 : decode code 979 = .ok (.if_icmp .eq 850, 3) := by decide +kernel
theorem d_Lw_law_982 : decode code 982 = .ok (.iconst 0, 1) := by decide +kernel
theorem d_Lw_law_983 : decode code 983 = .ok (.ireturn, 1) := by decide +kernel
theorem d_Lw_law_984 : decode code 984 = .ok (.aload_n 1, 1) := by decide +kernel
theorem d_Lw_law_985 : decode code 985 = .ok (.aload_n 0, 1) := by decide +kernel
theorem d_Lw_law_986 : decode code 986 = .ok (.iload 4, 2) := by decide +kernel
theorem d_Lw_law_988 : decode code 988 = .ok (.iconst 1, 1) := by decide +kernel
theorem d_Lw_law_989 : decode code 989 = .ok (.iadd, 1) := by decide +kernel
theorem d_Lw_law_990 : decode code 990 = .ok (.iaload, 1) := by decide +kernel
theorem d_Lw_law_991 : decode code 991 = .ok (.invokevirtual 106, 3) := by decide +kernel
theorem d_Lw_law_994 : decode code 994 = .ok (.aload_n 2, 1) := by decide +kernel
theorem d_Lw_law_995 : decode code 995 = .ok (.aload_n 0, 1) := by decide +kernel
theorem d_Lw_law_996 : decode code 996 = .ok (.iload 4, 2) := by decide +kernel
theorem d_Lw_law_998 : decode code 998 = .ok (.iconst 1, 1) := by decide +kernel
theorem d_Lw_law_999 : decode code 999 = .ok (.iadd, 1) := by decide +kernel
theorem d_Lw_law_1000 : decode code 1000 = .ok (.iaload, 1) := by decide +kernel
theorem d_Lw_law_1001 : decode code 1001 = .ok (.invokevirtual 109, 3) := by decide +kernel
theorem d_Lw_law_1004 : decode code 1004 = .ok (.if_icmp .eq 825, 3) := by decide +kernel
theorem d_Lw_law_1007 : decode code 1007 = .ok (.iconst 0, 1) := by decide +kernel
theorem d_Lw_law_1008 : decode code 1008 = .ok (.ireturn, 1) := by decide +kernel
theorem d_Lw_law_1009 : decode code 1009 = .ok (.aload_n 1, 1) := by decide +kernel
theorem d_Lw_law_1010 : decode code 1010 = .ok (.invokevirtual 110, 3) := by decide +kernel
theorem d_Lw_law_1013 : decode code 1013 = .ok (.aload_n 2, 1) := by decide +kernel
theorem d_Lw_law_1014 : decode code 1014 = .ok (.invokevirtual 113, 3) := by decide +kernel
theorem d_Lw_law_1017 : decode code 1017 = .ok (.if_icmp .eq 812, 3) := by decide +kernel
theorem d_Lw_law_1020 : decode code 1020 = .ok (.iconst 0, 1) := by decide +kernel
theorem d_Lw_law_1021 : decode code 1021 = .ok (.ireturn, 1) := by decide +kernel
theorem d_Lw_law_1022 : decode code 1022 = .ok (.aload_n 1, 1) := by decide +kernel
theorem d_Lw_law_1023 : decode code 1023 = .ok (.aload_n 0, 1) := by decide +kernel
theorem d_Lw_law_1024 : decode code 1024 = .ok (.iload 4, 2) := by decide +kernel
theorem d_Lw_law_1026 : decode code 1026 = .ok (.iconst 1, 1) := by decide +kernel
theorem d_Lw_law_1027 : decode code 1027 = .ok (.iadd, 1) := by decide +kernel
theorem d_Lw_law_1028 : decode code 1028 = .ok (.iaload, 1) := by decide +kernel
theorem d_Lw_law_1029 : decode code 1029 = .ok (.aload_n 0, 1) := by decide +kernel
theorem d_Lw_law_1030 : decode code 1030 = .ok (.iload 4, 2) := by decide +kernel
theorem d_Lw_law_1032 : decode code 1032 = .ok (.iconst 2, 1) := by decide +kernel
theorem d_Lw_law_1033 : decode code 1033 = .ok (.iadd, 1) := by decide +kernel
theorem d_Lw_law_1034 : decode code 1034 = .ok (.iaload, 1) := by decide +kernel
theorem d_Lw_law_1035 : decode code 1035 = .ok (.invokevirtual 114, 3) := by decide +kernel
theorem d_Lw_law_1038 : decode code 1038 = .ok (.aload_n 2, 1) := by decide +kernel
theorem d_Lw_law_1039 : decode code 1039 = .ok (.aload_n 0, 1) := by decide +kernel
theorem d_Lw_law_1040 : decode code 1040 = .ok (.iload 4, 2) := by decide +kernel
theorem d_Lw_law_1042 : decode code 1042 = .ok (.iconst 1, 1) := by decide +kernel
theorem d_Lw_law_1043 : decode code 1043 = .ok (.iadd, 1) := by decide +kernel
theorem d_Lw_law_1044 : decode code 1044 = .ok (.iaload, 1) := by decide +kernel
theorem d_Lw_law_1045 : decode code 1045 = .ok (.aload_n 0, 1) := by decide +kernel
theorem d_Lw_law_1046 : decode code 1046 = .ok (.iload 4, 2) := by decide +kernel
theorem d_Lw_law_1048 : decode code 1048 = .ok (.iconst 2, 1) := by decide +kernel
theorem d_Lw_law_1049 : decode code 1049 = .ok (.iadd, 1) := by decide +kernel
theorem d_Lw_law_1050 : decode code 1050 = .ok (.iaload, 1) := by decide +kernel
theorem d_Lw_law_1051 : decode code 1051 = .ok (.invokevirtual 117, 3) := by decide +kernel
theorem d_Lw_law_1054 : decode code 1054 = .ok (.if_icmp .eq 775, 3) := by decide +kernel
theorem d_Lw_law_1057 : decode code 1057 = .ok (.iconst 0, 1) := by decide +kernel
theorem d_Lw_law_1058 : decode code 1058 = .ok (.ireturn, 1) := by decide +kernel
theorem d_Lw_law_1059 : decode code 1059 = .ok (.aload_n 1, 1) := by decide +kernel
theorem d_Lw_law_1060 : decode code 1060 = .ok (.aload_n 0, 1) := by decide +kernel
theorem d_Lw_law_1061 : decode code 1061 = .ok (.iload 4, 2) := by decide +kernel
theorem d_Lw_law_1063 : decode code 1063 = .ok (.iconst 1, 1) := by decide +kernel
theorem d_Lw_law_1064 : decode code 1064 = .ok (.iadd, 1) := by decide +kernel
theorem d_Lw_law_1065 : decode code 1065 = .ok (.iaload, 1) := by decide +kernel
theorem d_Lw_law_1066 : decode code 1066 = .ok (.aload_n 0, 1) := by decide +kernel
theorem d_Lw_law_1067 : decode code 1067 = .ok (.iload 4, 2) := by decide +kernel
theorem d_Lw_law_1069 : decode code 1069 = .ok (.iconst 2, 1) := by decide +kernel
theorem d_Lw_law_1070 : decode code 1070 = .ok (.iadd, 1) := by decide +kernel
theorem d_Lw_law_1071 : decode code 1071 = .ok (.iaload, 1) := by decide +kernel
theorem d_Lw_law_1072 : decode code 1072 = .ok (.aload_n 0, 1) := by decide +kernel
theorem d_Lw_law_1073 : decode code 1073 = .ok (.iload 4, 2) := by decide +kernel
theorem d_Lw_law_1075 : decode code 1075 = .ok (.iconst 3, 1) := by decide +kernel
theorem d_Lw_law_1076 : decode code 1076 = .ok (.iadd, 1) := by decide +kernel
theorem d_Lw_law_1077 : decode code 1077 = .ok (.iaload, 1) := by decide +kernel
theorem d_Lw_law_1078 : decode code 1078 = .ok (.aload_n 0, 1) := by decide +kernel
theorem d_Lw_law_1079 : decode code 1079 = .ok (.iload 4, 2) := by decide +kernel
theorem d_Lw_law_1081 : decode code 1081 = .ok (.iconst 4, 1) := by decide +kernel
theorem d_Lw_law_1082 : decode code 1082 = .ok (.iadd, 1) := by decide +kernel
theorem d_Lw_law_1083 : decode code 1083 = .ok (.iaload, 1) := by decide +kernel
theorem d_Lw_law_1084 : decode code 1084 = .ok (.invokevirtual 118, 3) := by decide +kernel
theorem d_Lw_law_1087 : decode code 1087 = .ok (.aload_n 2, 1) := by decide +kernel
theorem d_Lw_law_1088 : decode code 1088 = .ok (.aload_n 0, 1) := by decide +kernel
theorem d_Lw_law_1089 : decode code 1089 = .ok (.iload 4, 2) := by decide +kernel
theorem d_Lw_law_1091 : decode code 1091 = .ok (.iconst 1, 1) := by decide +kernel
theorem d_Lw_law_1092 : decode code 1092 = .ok (.iadd, 1) := by decide +kernel
theorem d_Lw_law_1093 : decode code 1093 = .ok (.iaload, 1) := by decide +kernel
theorem d_Lw_law_1094 : decode code 1094 = .ok (.aload_n 0, 1) := by decide +kernel
theorem d_Lw_law_1095 : decode code 1095 = .ok (.iload 4, 2) := by decide +kernel
theorem d_Lw_law_1097 : decode code 1097 = .ok (.iconst 2, 1) := by decide +kernel
theorem d_Lw_law_1098 : decode code 1098 = .ok (.iadd, 1) := by decide +kernel
theorem d_Lw_law_1099 : decode code 1099 = .ok (.iaload, 1) := by decide +kernel
theorem d_Lw_law_1100 : decode code 1100 = .ok (.aload_n 0, 1) := by decide +kernel
theorem d_Lw_law_1101 : decode code 1101 = .ok (.iload 4, 2) := by decide +kernel
theorem d_Lw_law_1103 : decode code 1103 = .ok (.iconst 3, 1) := by decide +kernel
theorem d_Lw_law_1104 : decode code 1104 = .ok (.iadd, 1) := by decide +kernel
theorem d_Lw_law_1105 : decode code 1105 = .ok (.iaload, 1) := by decide +kernel
theorem d_Lw_law_1106 : decode code 1106 = .ok (.aload_n 0, 1) := by decide +kernel
theorem d_Lw_law_1107 : decode code 1107 = .ok (.iload 4, 2) := by decide +kernel
theorem d_Lw_law_1109 : decode code 1109 = .ok (.iconst 4, 1) := by decide +kernel
theorem d_Lw_law_1110 : decode code 1110 = .ok (.iadd, 1) := by decide +kernel
theorem d_Lw_law_1111 : decode code 1111 = .ok (.iaload, 1) := by decide +kernel
theorem d_Lw_law_1112 : decode code 1112 = .ok (.invokevirtual 121, 3) := by decide +kernel
theorem d_Lw_law_1115 : decode code 1115 = .ok (.if_icmp .eq 714, 3) := by decide +kernel
theorem d_Lw_law_1118 : decode code 1118 = .ok (.iconst 0, 1) := by decide +kernel
theorem d_Lw_law_1119 : decode code 1119 = .ok (.ireturn, 1) := by decide +kernel
theorem d_Lw_law_1120 : decode code 1120 = .ok (.aload_n 1, 1) := by decide +kernel
theorem d_Lw_law_1121 : decode code 1121 = .ok (.aload_n 0, 1) := by decide +kernel
theorem d_Lw_law_1122 : decode code 1122 = .ok (.iload 4, 2) := by decide +kernel
theorem d_Lw_law_1124 : decode code 1124 = .ok (.iconst 1, 1) := by decide +kernel
theorem d_Lw_law_1125 : decode code 1125 = .ok (.iadd, 1) := by decide +kernel
theorem d_Lw_law_1126 : decode code 1126 = .ok (.iaload, 1) := by decide +kernel
theorem d_Lw_law_1127 : decode code 1127 = .ok (.aload_n 0, 1) := by decide +kernel
theorem d_Lw_law_1128 : decode code 1128 = .ok (.iload 4, 2) := by decide +kernel
theorem d_Lw_law_1130 : decode code 1130 = .ok (.iconst 2, 1) := by decide +kernel
theorem d_Lw_law_1131 : decode code 1131 = .ok (.iadd, 1) := by decide +kernel
theorem d_Lw_law_1132 : decode code 1132 = .ok (.iaload, 1) := by decide +kernel
theorem d_Lw_law_1133 : decode code 1133 = .ok (.aload_n 0, 1) := by decide +kernel
theorem d_Lw_law_1134 : decode code 1134 = .ok (.iload 4, 2) := by decide +kernel
theorem d_Lw_law_1136 : decode code 1136 = .ok (.iconst 3, 1) := by decide +kernel
theorem d_Lw_law_1137 : decode code 1137 = .ok (.iadd, 1) := by decide +kernel
theorem d_Lw_law_1138 : decode code 1138 = .ok (.iaload, 1) := by decide +kernel
theorem d_Lw_law_1139 : decode code 1139 = .ok (.aload_n 0, 1) := by decide +kernel
theorem d_Lw_law_1140 : decode code 1140 = .ok (.iload 4, 2) := by decide +kernel
theorem d_Lw_law_1142 : decode code 1142 = .ok (.iconst 4, 1) := by decide +kernel
theorem d_Lw_law_1143 : decode code 1143 = .ok (.iadd, 1) := by decide +kernel
theorem d_Lw_law_1144 : decode code 1144 = .ok (.iaload, 1) := by decide +kernel
theorem d_Lw_law_1145 : decode code 1145 = .ok (.invokevirtual 122, 3) := by decide +kernel
theorem d_Lw_law_1148 : decode code 1148 = .ok (.aload_n 2, 1) := by decide +kernel
theorem d_Lw_law_1149 : decode code 1149 = .ok (.aload_n 0, 1) := by decide +kernel
theorem d_Lw_law_1150 : decode code 1150 = .ok (.iload 4, 2) := by decide +kernel
theorem d_Lw_law_1152 : decode code 1152 = .ok (.iconst 1, 1) := by decide +kernel
theorem d_Lw_law_1153 : decode code 1153 = .ok (.iadd, 1) := by decide +kernel
theorem d_Lw_law_1154 : decode code 1154 = .ok (.iaload, 1) := by decide +kernel
theorem d_Lw_law_1155 : decode code 1155 = .ok (.aload_n 0, 1) := by decide +kernel
theorem d_Lw_law_1156 : decode code 1156 = .ok (.iload 4, 2) := by decide +kernel
theorem d_Lw_law_1158 : decode code 1158 = .ok (.iconst 2, 1) := by decide +kernel
theorem d_Lw_law_1159 : decode code 1159 = .ok (.iadd, 1) := by decide +kernel
theorem d_Lw_law_1160 : decode code 1160 = .ok (.iaload, 1) := by decide +kernel
theorem d_Lw_law_1161 : decode code 1161 = .ok (.aload_n 0, 1) := by decide +kernel
theorem d_Lw_law_1162 : decode code 1162 = .ok (.iload 4, 2) := by decide +kernel
theorem d_Lw_law_1164 : decode code 1164 = .ok (.iconst 3, 1) := by decide +kernel
theorem d_Lw_law_1165 : decode code 1165 = .ok (.iadd, 1) := by decide +kernel
theorem d_Lw_law_1166 : decode code 1166 = .ok (.iaload, 1) := by decide +kernel
theorem d_Lw_law_1167 : decode code 1167 = .ok (.aload_n 0, 1) := by decide +kernel
theorem d_Lw_law_1168 : decode code 1168 = .ok (.iload 4, 2) := by decide +kernel
theorem d_Lw_law_1170 : decode code 1170 = .ok (.iconst 4, 1) := by decide +kernel
theorem d_Lw_law_1171 : decode code 1171 = .ok (.iadd, 1) := by decide +kernel
theorem d_Lw_law_1172 : decode code 1172 = .ok (.iaload, 1) := by decide +kernel
theorem d_Lw_law_1173 : decode code 1173 = .ok (.invokevirtual 125, 3) := by decide +kernel
theorem d_Lw_law_1176 : decode code 1176 = .ok (.if_icmp .eq 653, 3) := by decide +kernel
theorem d_Lw_law_1179 : decode code 1179 = .ok (.iconst 0, 1) := by decide +kernel
theorem d_Lw_law_1180 : decode code 1180 = .ok (.ireturn, 1) := by decide +kernel
theorem d_Lw_law_1181 : decode code 1181 = .ok (.aload_n 1, 1) := by decide +kernel
theorem d_Lw_law_1182 : decode code 1182 = .ok (.aload_n 0, 1) := by decide +kernel
theorem d_Lw_law_1183 : decode code 1183 = .ok (.iload 4, 2) := by decide +kernel
theorem d_Lw_law_1185 : decode code 1185 = .ok (.iconst 1, 1) := by decide +kernel
theorem d_Lw_law_1186 : decode code 1186 = .ok (.iadd, 1) := by decide +kernel
theorem d_Lw_law_1187 : decode code 1187 = .ok (.iaload, 1) := by decide +kernel
theorem d_Lw_law_1188 : decode code 1188 = .ok (.aload_n 0, 1) := by decide +kernel
theorem d_Lw_law_1189 : decode code 1189 = .ok (.iload 4, 2) := by decide +kernel
theorem d_Lw_law_1191 : decode code 1191 = .ok (.iconst 2, 1) := by decide +kernel
theorem d_Lw_law_1192 : decode code 1192 = .ok (.iadd, 1) := by decide +kernel
theorem d_Lw_law_1193 : decode code 1193 = .ok (.iaload, 1) := by decide +kernel
theorem d_Lw_law_1194 : decode code 1194 = .ok (.aload_n 0, 1) := by decide +kernel
theorem d_Lw_law_1195 : decode code 1195 = .ok (.iload 4, 2) := by decide +kernel
theorem d_Lw_law_1197 : decode code 1197 = .ok (.iconst 3, 1) := by decide +kernel
theorem d_Lw_law_1198 : decode code 1198 = .ok (.iadd, 1) := by decide +kernel
theorem d_Lw_law_1199 : decode code 1199 = .ok (.iaload, 1) := by decide +kernel
theorem d_Lw_law_1200 : decode code 1200 = .ok (.invokevirtual 126, 3) := by decide +kernel
theorem d_Lw_law_1203 : decode code 1203 = .ok (.aload_n 2, 1) := by decide +kernel
theorem d_Lw_law_1204 : decode code 1204 = .ok (.aload_n 0, 1) := by decide +kernel
theorem d_Lw_law_1205 : decode code 1205 = .ok (.iload 4, 2) := by decide +kernel
theorem d_Lw_law_1207 : decode code 1207 = .ok (.iconst 1, 1) := by decide +kernel
theorem d_Lw_law_1208 : decode code 1208 = .ok (.iadd, 1) := by decide +kernel
theorem d_Lw_law_1209 : decode code 1209 = .ok (.iaload, 1) := by decide +kernel
theorem d_Lw_law_1210 : decode code 1210 = .ok (.aload_n 0, 1) := by decide +kernel
theorem d_Lw_law_1211 : decode code 1211 = .ok (.iload 4, 2) := by decide +kernel
theorem d_Lw_law_1213 : decode code 1213 = .ok (.iconst 2, 1) := by decide +kernel
theorem d_Lw_law_1214 : decode code 1214 = .ok (.iadd, 1) := by decide +kernel
theorem d_Lw_law_1215 : decode code 1215 = .ok (.iaload, 1) := by decide +kernel
theorem d_Lw_law_1216 : decode code 1216 = .ok (.aload_n 0, 1) := by decide +kernel
theorem d_Lw_law_1217 : decode code 1217 = .ok (.iload 4, 2) := by decide +kernel
theorem d_Lw_law_1219 : decode code 1219 = .ok (.iconst 3, 1) := by decide +kernel
theorem d_Lw_law_1220 : decode code 1220 = .ok (.iadd, 1) := by decide +kernel
theorem d_Lw_law_1221 : decode code 1221 = .ok (.iaload, 1) := by decide +kernel
theorem d_Lw_law_1222 : decode code 1222 = .ok (.invokevirtual 129, 3) := by decide +kernel
theorem d_Lw_law_1225 : decode code 1225 = .ok (.if_icmp .eq 604, 3) := by decide +kernel
theorem d_Lw_law_1228 : decode code 1228 = .ok (.iconst 0, 1) := by decide +kernel
theorem d_Lw_law_1229 : decode code 1229 = .ok (.ireturn, 1) := by decide +kernel
theorem d_Lw_law_1230 : decode code 1230 = .ok (.aload_n 1, 1) := by decide +kernel
theorem d_Lw_law_1231 : decode code 1231 = .ok (.aload_n 0, 1) := by decide +kernel
theorem d_Lw_law_1232 : decode code 1232 = .ok (.iload 4, 2) := by decide +kernel
theorem d_Lw_law_1234 : decode code 1234 = .ok (.iconst 1, 1) := by decide +kernel
theorem d_Lw_law_1235 : decode code 1235 = .ok (.iadd, 1) := by decide +kernel
theorem d_Lw_law_1236 : decode code 1236 = .ok (.iaload, 1) := by decide +kernel
theorem d_Lw_law_1237 : decode code 1237 = .ok (.aload_n 0, 1) := by decide +kernel
theorem d_Lw_law_1238 : decode code 1238 = .ok (.iload 4, 2) := by decide +kernel
theorem d_Lw_law_1240 : decode code 1240 = .ok (.iconst 2, 1) := by decide +kernel
theorem d_Lw_law_1241 : decode code 1241 = .ok (.iadd, 1) := by decide +kernel
theorem d_Lw_law_1242 : decode code 1242 = .ok (.iaload, 1) := by decide +kernel
theorem d_Lw_law_1243 : decode code 1243 = .ok (.aload_n 0, 1) := by decide +kernel
theorem d_Lw_law_1244 : decode code 1244 = .ok (.iload 4, 2) := by decide +kernel
theorem d_Lw_law_1246 : decode code 1246 = .ok (.iconst 3, 1) := by decide +kernel
theorem d_Lw_law_1247 : decode code 1247 = .ok (.iadd, 1) := by decide +kernel
theorem d_Lw_law_1248 : decode code 1248 = .ok (.iaload, 1) := by decide +kernel
theorem d_Lw_law_1249 : decode code 1249 = .ok (.aload_n 0, 1) := by decide +kernel
theorem d_Lw_law_1250 : decode code 1250 = .ok (.iload 4, 2) := by decide +kernel
theorem d_Lw_law_1252 : decode code 1252 = .ok (.iconst 4, 1) := by decide +kernel
theorem d_Lw_law_1253 : decode code 1253 = .ok (.iadd, 1) := by decide +kernel
theorem d_Lw_law_1254 : decode code 1254 = .ok (.iaload, 1) := by decide +kernel
theorem d_Lw_law_1255 : decode code 1255 = .ok (.aload_n 0, 1) := by decide +kernel
theorem d_Lw_law_1256 : decode code 1256 = .ok (.iload 4, 2) := by decide +kernel
theorem d_Lw_law_1258 : decode code 1258 = .ok (.iconst 5, 1) := by decide +kernel
theorem d_Lw_law_1259 : decode code 1259 = .ok (.iadd, 1) := by decide +kernel
theorem d_Lw_law_1260 : decode code 1260 = .ok (.iaload, 1) := by decide +kernel
theorem d_Lw_law_1261 : decode code 1261 = .ok (.invokevirtual 130, 3) := by decide +kernel
theorem d_Lw_law_1264 : decode code 1264 = .ok (.aload_n 2, 1) := by decide +kernel
theorem d_Lw_law_1265 : decode code 1265 = .ok (.aload_n 0, 1) := by decide +kernel
theorem d_Lw_law_1266 : decode code 1266 = .ok (.iload 4, 2) := by decide +kernel
theorem d_Lw_law_1268 : decode code 1268 = .ok (.iconst 1, 1) := by decide +kernel
theorem d_Lw_law_1269 : decode code 1269 = .ok (.iadd, 1) := by decide +kernel
theorem d_Lw_law_1270 : decode code 1270 = .ok (.iaload, 1) := by decide +kernel
theorem d_Lw_law_1271 : decode code 1271 = .ok (.aload_n 0, 1) := by decide +kernel
theorem d_Lw_law_1272 : decode code 1272 = .ok (.iload 4, 2) := by decide +kernel
theorem d_Lw_law_1274 : decode code 1274 = .ok (.iconst 2, 1) := by decide +kernel
theorem d_Lw_law_1275 : decode code 1275 = .ok (.iadd, 1) := by decide +kernel
theorem d_Lw_law_1276 : decode code 1276 = .ok (.iaload, 1) := by decide +kernel
theorem d_Lw_law_1277 : decode code 1277 = .ok (.aload_n 0, 1) := by decide +kernel
theorem d_Lw_law_1278 : decode code 1278 = .ok (.iload 4, 2) := by decide +kernel
theorem d_Lw_law_1280 : decode code 1280 = .ok (.iconst 3, 1) := by decide +kernel
theorem d_Lw_law_1281 : decode code 1281 = .ok (.iadd, 1) := by decide +kernel
theorem d_Lw_law_1282 : decode code 1282 = .ok (.iaload, 1) := by decide +kernel
theorem d_Lw_law_1283 : decode code 1283 = .ok (.aload_n 0, 1) := by decide +kernel
theorem d_Lw_law_1284 : decode code 1284 = .ok (.iload 4, 2) := by decide +kernel
theorem d_Lw_law_1286 : decode code 1286 = .ok (.iconst 4, 1) := by decide +kernel
theorem d_Lw_law_1287 : decode code 1287 = .ok (.iadd, 1) := by decide +kernel
theorem d_Lw_law_1288 : decode code 1288 = .ok (.iaload, 1) := by decide +kernel
theorem d_Lw_law_1289 : decode code 1289 = .ok (.aload_n 0, 1) := by decide +kernel
theorem d_Lw_law_1290 : decode code 1290 = .ok (.iload 4, 2) := by decide +kernel
theorem d_Lw_law_1292 : decode code 1292 = .ok (.iconst 5, 1) := by decide +kernel
theorem d_Lw_law_1293 : decode code 1293 = .ok (.iadd, 1) := by decide +kernel
theorem d_Lw_law_1294 : decode code 1294 = .ok (.iaload, 1) := by decide +kernel
theorem d_Lw_law_1295 : decode code 1295 = .ok (.invokevirtual 134, 3) := by decide +kernel
theorem d_Lw_law_1298 : decode code 1298 = .ok (.lcmp, 1) := by decide +kernel
theorem d_Lw_law_1299 : decode code 1299 = .ok (.ifCond .eq 530, 3) := by decide +kernel
theorem d_Lw_law_1302 : decode code 1302 = .ok (.iconst 0, 1) := by decide +kernel
theorem d_Lw_law_1303 : decode code 1303 = .ok (.ireturn, 1) := by decide +kernel
theorem d_Lw_law_1304 : decode code 1304 = .ok (.aload_n 1, 1) := by decide +kernel
theorem d_Lw_law_1305 : decode code 1305 = .ok (.aload_n 0, 1) := by decide +kernel
theorem d_Lw_law_1306 : decode code 1306 = .ok (.iload 4, 2) := by decide +kernel
theorem d_Lw_law_1308 : decode code 1308 = .ok (.iconst 1, 1) := by decide +kernel
theorem d_Lw_law_1309 : decode code 1309 = .ok (.iadd, 1) := by decide +kernel
theorem d_Lw_law_1310 : decode code 1310 = .ok (.iaload, 1) := by decide +kernel
theorem d_Lw_law_1311 : decode code 1311 = .ok (.invokevirtual 135, 3) := by decide +kernel
theorem d_Lw_law_1314 : decode code 1314 = .ok (.aload_n 2, 1) := by decide +kernel
theorem d_Lw_law_1315 : decode code 1315 = .ok (.aload_n 0, 1) := by decide +kernel
theorem d_Lw_law_1316 : decode code 1316 = .ok (.iload 4, 2) := by decide +kernel
theorem d_Lw_law_1318 : decode code 1318 = .ok (.iconst 1, 1) := by decide +kernel
theorem d_Lw_law_1319 : decode code 1319 = .ok (.iadd, 1) := by decide +kernel
theorem d_Lw_law_1320 : decode code 1320 = .ok (.iaload, 1) := by decide +kernel
theorem d_Lw_law_1321 : decode code 1321 = .ok (.invokevirtual 139, 3) := by decide +kernel
theorem d_Lw_law_1324 : decode code 1324 = .ok (.lcmp, 1) := by decide +kernel
theorem d_Lw_law_1325 : decode code 1325 = .ok (.ifCond .eq 504, 3) := by decide +kernel
theorem d_Lw_law_1328 : decode code 1328 = .ok (.iconst 0, 1) := by decide +kernel
theorem d_Lw_law_1329 : decode code 1329 = .ok (.ireturn, 1) := by decide +kernel
theorem d_Lw_law_1330 : decode code 1330 = .ok (.aload_n 1, 1) := by decide +kernel
theorem d_Lw_law_1331 : decode code 1331 = .ok (.aload_n 0, 1) := by decide +kernel
theorem d_Lw_law_1332 : decode code 1332 = .ok (.iload 4, 2) := by decide +kernel
theorem d_Lw_law_1334 : decode code 1334 = .ok (.iconst 1, 1) := by decide +kernel
theorem d_Lw_law_1335 : decode code 1335 = .ok (.iadd, 1) := by decide +kernel
theorem d_Lw_law_1336 : decode code 1336 = .ok (.iaload, 1) := by decide +kernel
theorem d_Lw_law_1337 : decode code 1337 = .ok (.invokevirtual 140, 3) := by decide +kernel
theorem d_Lw_law_1340 : decode code 1340 = .ok (.aload_n 2, 1) := by decide +kernel
theorem d_Lw_law_1341 : decode code 1341 = .ok (.aload_n 0, 1) := by decide +kernel
theorem d_Lw_law_1342 : decode code 1342 = .ok (.iload 4, 2) := by decide +kernel
theorem d_Lw_law_1344 : decode code 1344 = .ok (.iconst 1, 1) := by decide +kernel
theorem d_Lw_law_1345 : decode code 1345 = .ok (.iadd, 1) := by decide +kernel
theorem d_Lw_law_1346 : decode code 1346 = .ok (.iaload, 1) := by decide +kernel
theorem d_Lw_law_1347 : decode code 1347 = .ok (.invokevirtual 143, 3) := by decide +kernel
theorem d_Lw_law_1350 : decode code 1350 = .ok (.if_icmp .eq 479, 3) := by decide +kernel
theorem d_Lw_law_1353 : decode code 1353 = .ok (.iconst 0, 1) := by decide +kernel
theorem d_Lw_law_1354 : decode code 1354 = .ok (.ireturn, 1) := by decide +kernel
theorem d_Lw_law_1355 : decode code 1355 = .ok (.aload_n 1, 1) := by decide +kernel
theorem d_Lw_law_1356 : decode code 1356 = .ok (.aload_n 0, 1) := by decide +kernel
theorem d_Lw_law_1357 : decode code 1357 = .ok (.iload 4, 2) := by decide +kernel
theorem d_Lw_law_1359 : decode code 1359 = .ok (.iconst 1, 1) := by decide +kernel
theorem d_Lw_law_1360 : decode code 1360 = .ok (.iadd, 1) := by decide +kernel
theorem d_Lw_law_1361 : decode code 1361 = .ok (.iaload, 1) := by decide +kernel
theorem d_Lw_law_1362 : decode code 1362 = .ok (.invokevirtual 144, 3) := by decide +kernel
theorem d_Lw_law_1365 : decode code 1365 = .ok (.aload_n 2, 1) := by decide +kernel
theorem d_Lw_law_1366 : decode code 1366 = .ok (.aload_n 0, 1) := by decide +kernel
theorem d_Lw_law_1367 : decode code 1367 = .ok (.iload 4, 2) := by decide +kernel
theorem d_Lw_law_1369 : decode code 1369 = .ok (.iconst 1, 1) := by decide +kernel
theorem d_Lw_law_1370 : decode code 1370 = .ok (.iadd, 1) := by decide +kernel
theorem d_Lw_law_1371 : decode code 1371 = .ok (.iaload, 1) := by decide +kernel
theorem d_Lw_law_1372 : decode code 1372 = .ok (.invokevirtual 147, 3) := by decide +kernel
theorem d_Lw_law_1375 : decode code 1375 = .ok (.if_icmp .eq 454, 3) := by decide +kernel
theorem d_Lw_law_1378 : decode code 1378 = .ok (.iconst 0, 1) := by decide +kernel
theorem d_Lw_law_1379 : decode code 1379 = .ok (.ireturn, 1) := by decide +kernel
theorem d_Lw_law_1380 : decode code 1380 = .ok (.aload_n 1, 1) := by decide +kernel
theorem d_Lw_law_1381 : decode code 1381 = .ok (.aload_n 0, 1) := by decide +kernel
theorem d_Lw_law_1382 : decode code 1382 = .ok (.iload 4, 2) := by decide +kernel
theorem d_Lw_law_1384 : decode code 1384 = .ok (.iconst 1, 1) := by decide +kernel
theorem d_Lw_law_1385 : decode code 1385 = .ok (.iadd, 1) := by decide +kernel
theorem d_Lw_law_1386 : decode code 1386 = .ok (.iaload, 1) := by decide +kernel
theorem d_Lw_law_1387 : decode code 1387 = .ok (.aload_n 0, 1) := by decide +kernel
theorem d_Lw_law_1388 : decode code 1388 = .ok (.iload 4, 2) := by decide +kernel
theorem d_Lw_law_1390 : decode code 1390 = .ok (.iconst 2, 1) := by decide +kernel
theorem d_Lw_law_1391 : decode code 1391 = .ok (.iadd, 1) := by decide +kernel
theorem d_Lw_law_1392 : decode code 1392 = .ok (.iaload, 1) := by decide +kernel
theorem d_Lw_law_1393 : decode code 1393 = .ok (.aload_n 0, 1) := by decide +kernel
theorem d_Lw_law_1394 : decode code 1394 = .ok (.iload 4, 2) := by decide +kernel
theorem d_Lw_law_1396 : decode code 1396 = .ok (.iconst 3, 1) := by decide +kernel
theorem d_Lw_law_1397 : decode code 1397 = .ok (.iadd, 1) := by decide +kernel
theorem d_Lw_law_1398 : decode code 1398 = .ok (.iaload, 1) := by decide +kernel
theorem d_Lw_law_1399 : decode code 1399 = .ok (.invokevirtual 148, 3) := by decide +kernel
theorem d_Lw_law_1402 : decode code 1402 = .ok (.aload_n 2, 1) := by decide +kernel
theorem d_Lw_law_1403 : decode code 1403 = .ok (.aload_n 0, 1) := by decide +kernel
theorem d_Lw_law_1404 : decode code 1404 = .ok (.iload 4, 2) := by decide +kernel
theorem d_Lw_law_1406 : decode code 1406 = .ok (.iconst 1, 1) := by decide +kernel
theorem d_Lw_law_1407 : decode code 1407 = .ok (.iadd, 1) := by decide +kernel
theorem d_Lw_law_1408 : decode code 1408 = .ok (.iaload, 1) := by decide +kernel
theorem d_Lw_law_1409 : decode code 1409 = .ok (.aload_n 0, 1) := by decide +kernel
theorem d_Lw_law_1410 : decode code 1410 = .ok (.iload 4, 2) := by decide +kernel
theorem d_Lw_law_1412 : decode code 1412 = .ok (.iconst 2, 1) := by decide +kernel
theorem d_Lw_law_1413 : decode code 1413 = .ok (.iadd, 1) := by decide +kernel
theorem d_Lw_law_1414 : decode code 1414 = .ok (.iaload, 1) := by decide +kernel
theorem d_Lw_law_1415 : decode code 1415 = .ok (.aload_n 0, 1) := by decide +kernel
theorem d_Lw_law_1416 : decode code 1416 = .ok (.iload 4, 2) := by decide +kernel
theorem d_Lw_law_1418 : decode code 1418 = .ok (.iconst 3, 1) := by decide +kernel
theorem d_Lw_law_1419 : decode code 1419 = .ok (.iadd, 1) := by decide +kernel
theorem d_Lw_law_1420 : decode code 1420 = .ok (.iaload, 1) := by decide +kernel
theorem d_Lw_law_1421 : decode code 1421 = .ok (.invokevirtual 151, 3) := by decide +kernel
theorem d_Lw_law_1424 : decode code 1424 = .ok (.if_icmp .eq 405, 3) := by decide +kernel
theorem d_Lw_law_1427 : decode code 1427 = .ok (.iconst 0, 1) := by decide +kernel
theorem d_Lw_law_1428 : decode code 1428 = .ok (.ireturn, 1) := by decide +kernel
theorem d_Lw_law_1429 : decode code 1429 = .ok (.aload_n 1, 1) := by decide +kernel
theorem d_Lw_law_1430 : decode code 1430 = .ok (.invokevirtual 152, 3) := by decide +kernel
theorem d_Lw_law_1433 : decode code 1433 = .ok (.aload_n 2, 1) := by decide +kernel
theorem d_Lw_law_1434 : decode code 1434 = .ok (.invokevirtual 155, 3) := by decide +kernel
theorem d_Lw_law_1437 : decode code 1437 = .ok (.if_icmp .eq 392, 3) := by decide +kernel
theorem d_Lw_law_1440 : decode code 1440 = .ok (.iconst 0, 1) := by decide +kernel
theorem d_Lw_law_1441 : decode code 1441 = .ok (.ireturn, 1) := by decide +kernel
theorem d_Lw_law_1442 : decode code 1442 = .ok (.aload_n 1, 1) := by decide +kernel
theorem d_Lw_law_1443 : decode code 1443 = .ok (.invokevirtual 156, 3) := by decide +kernel
theorem d_Lw_law_1446 : decode code 1446 = .ok (.aload_n 2, 1) := by decide +kernel
theorem d_Lw_law_1447 : decode code 1447 = .ok (.invokevirtual 159, 3) := by decide +kernel
theorem d_Lw_law_1450 : decode code 1450 = .ok (.if_icmp .eq 379, 3) := by decide +kernel
theorem d_Lw_law_1453 : decode code 1453 = .ok (.iconst 0, 1) := by decide +kernel
theorem d_Lw_law_1454 : decode code 1454 = .ok (.ireturn, 1) := by decide +kernel
theorem d_Lw_law_1455 : decode code 1455 = .ok (.aload_n 1, 1) := by decide +kernel
theorem d_Lw_law_1456 : decode code 1456 = .ok (.aload_n 0, 1) := by decide +kernel
theorem d_Lw_law_1457 : decode code 1457 = .ok (.iload 4, 2) := by decide +kernel
theorem d_Lw_law_1459 : decode code 1459 = .ok (.iconst 1, 1) := by decide +kernel
theorem d_Lw_law_1460 : decode code 1460 = .ok (.iadd, 1) := by decide +kernel
theorem d_Lw_law_1461 : decode code 1461 = .ok (.iaload, 1) := by decide +kernel
theorem d_Lw_law_1462 : decode code 1462 = .ok (.invokevirtual 160, 3) := by decide +kernel
theorem d_Lw_law_1465 : decode code 1465 = .ok (.aload_n 2, 1) := by decide +kernel
theorem d_Lw_law_1466 : decode code 1466 = .ok (.aload_n 0, 1) := by decide +kernel
theorem d_Lw_law_1467 : decode code 1467 = .ok (.iload 4, 2) := by decide +kernel
theorem d_Lw_law_1469 : decode code 1469 = .ok (.iconst 1, 1) := by decide +kernel
theorem d_Lw_law_1470 : decode code 1470 = .ok (.iadd, 1) := by decide +kernel
theorem d_Lw_law_1471 : decode code 1471 = .ok (.iaload, 1) := by decide +kernel
theorem d_Lw_law_1472 : decode code 1472 = .ok (.invokevirtual 163, 3) := by decide +kernel
theorem d_Lw_law_1475 : decode code 1475 = .ok (.if_icmp .eq 354, 3) := by decide +kernel
theorem d_Lw_law_1478 : decode code 1478 = .ok (.iconst 0, 1) := by decide +kernel
theorem d_Lw_law_1479 : decode code 1479 = .ok (.ireturn, 1) := by decide +kernel
theorem d_Lw_law_1480 : decode code 1480 = .ok (.aload_n 1, 1) := by decide +kernel
theorem d_Lw_law_1481 : decode code 1481 = .ok (.aload_n 0, 1) := by decide +kernel
theorem d_Lw_law_1482 : decode code 1482 = .ok (.iload 4, 2) := by decide +kernel
theorem d_Lw_law_1484 : decode code 1484 = .ok (.iconst 1, 1) := by decide +kernel
theorem d_Lw_law_1485 : decode code 1485 = .ok (.iadd, 1) := by decide +kernel
theorem d_Lw_law_1486 : decode code 1486 = .ok (.iaload, 1) := by decide +kernel
theorem d_Lw_law_1487 : decode code 1487 = .ok (.aload_n 0, 1) := by decide +kernel
theorem d_Lw_law_1488 : decode code 1488 = .ok (.iload 4, 2) := by decide +kernel
theorem d_Lw_law_1490 : decode code 1490 = .ok (.iconst 2, 1) := by decide +kernel
theorem d_Lw_law_1491 : decode code 1491 = .ok (.iadd, 1) := by decide +kernel
theorem d_Lw_law_1492 : decode code 1492 = .ok (.iaload, 1) := by decide +kernel
theorem d_Lw_law_1493 : decode code 1493 = .ok (.aload_n 0, 1) := by decide +kernel
theorem d_Lw_law_1494 : decode code 1494 = .ok (.iload 4, 2) := by decide +kernel
theorem d_Lw_law_1496 : decode code 1496 = .ok (.iconst 3, 1) := by decide +kernel
theorem d_Lw_law_1497 : decode code 1497 = .ok (.iadd, 1) := by decide +kernel
theorem d_Lw_law_1498 : decode code 1498 = .ok (.iaload, 1) := by decide +kernel
theorem d_Lw_law_1499 : decode code 1499 = .ok (.aload_n 0, 1) := by decide +kernel
theorem d_Lw_law_1500 : decode code 1500 = .ok (.iload 4, 2) := by decide +kernel
theorem d_Lw_law_1502 : decode code 1502 = .ok (.iconst 4, 1) := by decide +kernel
theorem d_Lw_law_1503 : decode code 1503 = .ok (.iadd, 1) := by decide +kernel
theorem d_Lw_law_1504 : decode code 1504 = .ok (.iaload, 1) := by decide +kernel
theorem d_Lw_law_1505 : decode code 1505 = .ok (.invokevirtual 164, 3) := by decide +kernel
theorem d_Lw_law_1508 : decode code 1508 = .ok (.aload_n 2, 1) := by decide +kernel
theorem d_Lw_law_1509 : decode code 1509 = .ok (.aload_n 0, 1) := by decide +kernel
theorem d_Lw_law_1510 : decode code 1510 = .ok (.iload 4, 2) := by decide +kernel
theorem d_Lw_law_1512 : decode code 1512 = .ok (.iconst 1, 1) := by decide +kernel
theorem d_Lw_law_1513 : decode code 1513 = .ok (.iadd, 1) := by decide +kernel
theorem d_Lw_law_1514 : decode code 1514 = .ok (.iaload, 1) := by decide +kernel
theorem d_Lw_law_1515 : decode code 1515 = .ok (.aload_n 0, 1) := by decide +kernel
theorem d_Lw_law_1516 : decode code 1516 = .ok (.iload 4, 2) := by decide +kernel
theorem d_Lw_law_1518 : decode code 1518 = .ok (.iconst 2, 1) := by decide +kernel
theorem d_Lw_law_1519 : decode code 1519 = .ok (.iadd, 1) := by decide +kernel
theorem d_Lw_law_1520 : decode code 1520 = .ok (.iaload, 1) := by decide +kernel
theorem d_Lw_law_1521 : decode code 1521 = .ok (.aload_n 0, 1) := by decide +kernel
theorem d_Lw_law_1522 : decode code 1522 = .ok (.iload 4, 2) := by decide +kernel
theorem d_Lw_law_1524 : decode code 1524 = .ok (.iconst 3, 1) := by decide +kernel
theorem d_Lw_law_1525 : decode code 1525 = .ok (.iadd, 1) := by decide +kernel
theorem d_Lw_law_1526 : decode code 1526 = .ok (.iaload, 1) := by decide +kernel
theorem d_Lw_law_1527 : decode code 1527 = .ok (.aload_n 0, 1) := by decide +kernel
theorem d_Lw_law_1528 : decode code 1528 = .ok (.iload 4, 2) := by decide +kernel
theorem d_Lw_law_1530 : decode code 1530 = .ok (.iconst 4, 1) := by decide +kernel
theorem d_Lw_law_1531 : decode code 1531 = .ok (.iadd, 1) := by decide +kernel
theorem d_Lw_law_1532 : decode code 1532 = .ok (.iaload, 1) := by decide +kernel
theorem d_Lw_law_1533 : decode code 1533 = .ok (.invokevirtual 167, 3) := by decide +kernel
theorem d_Lw_law_1536 : decode code 1536 = .ok (.if_icmp .eq 293, 3) := by decide +kernel
theorem d_Lw_law_1539 : decode code 1539 = .ok (.iconst 0, 1) := by decide +kernel
theorem d_Lw_law_1540 : decode code 1540 = .ok (.ireturn, 1) := by decide +kernel
theorem d_Lw_law_1541 : decode code 1541 = .ok (.aload_n 1, 1) := by decide +kernel
theorem d_Lw_law_1542 : decode code 1542 = .ok (.aload_n 0, 1) := by decide +kernel
theorem d_Lw_law_1543 : decode code 1543 = .ok (.iload 4, 2) := by decide +kernel
theorem d_Lw_law_1545 : decode code 1545 = .ok (.iconst 1, 1) := by decide +kernel
theorem d_Lw_law_1546 : decode code 1546 = .ok (.iadd, 1) := by decide +kernel
theorem d_Lw_law_1547 : decode code 1547 = .ok (.iaload, 1) := by decide +kernel
theorem d_Lw_law_1548 : decode code 1548 = .ok (.aload_n 0, 1) := by decide +kernel
theorem d_Lw_law_1549 : decode code 1549 = .ok (.iload 4, 2) := by decide +kernel
theorem d_Lw_law_1551 : decode code 1551 = .ok (.iconst 2, 1) := by decide +kernel
theorem d_Lw_law_1552 : decode code 1552 = .ok (.iadd, 1) := by decide +kernel
theorem d_Lw_law_1553 : decode code 1553 = .ok (.iaload, 1) := by decide +kernel
theorem d_Lw_law_1554 : decode code 1554 = .ok (.aload_n 0, 1) := by decide +kernel
theorem d_Lw_law_1555 : decode code 1555 = .ok (.iload 4, 2) := by decide +kernel
theorem d_Lw_law_1557 : decode code 1557 = .ok (.iconst 3, 1) := by decide +kernel
theorem d_Lw_law_1558 : decode code 1558 = .ok (.iadd, 1) := by decide +kernel
theorem d_Lw_law_1559 : decode code 1559 = .ok (.iaload, 1) := by decide +kernel
theorem d_Lw_law_1560 : decode code 1560 = .ok (.invokevirtual 168, 3) := by decide +kernel
theorem d_Lw_law_1563 : decode code 1563 = .ok (.aload_n 2, 1) := by decide +kernel
theorem d_Lw_law_1564 : decode code 1564 = .ok (.aload_n 0, 1) := by decide +kernel
theorem d_Lw_law_1565 : decode code 1565 = .ok (.iload 4, 2) := by decide +kernel
theorem d_Lw_law_1567 : decode code 1567 = .ok (.iconst 1, 1) := by decide +kernel
theorem d_Lw_law_1568 : decode code 1568 = .ok (.iadd, 1) := by decide +kernel
theorem d_Lw_law_1569 : decode code 1569 = .ok (.iaload, 1) := by decide +kernel
theorem d_Lw_law_1570 : decode code 1570 = .ok (.aload_n 0, 1) := by decide +kernel
theorem d_Lw_law_1571 : decode code 1571 = .ok (.iload 4, 2) := by decide +kernel
theorem d_Lw_law_1573 : decode code 1573 = .ok (.iconst 2, 1) := by decide +kernel
theorem d_Lw_law_1574 : decode code 1574 = .ok (.iadd, 1) := by decide +kernel
theorem d_Lw_law_1575 : decode code 1575 = .ok (.iaload, 1) := by decide +kernel
theorem d_Lw_law_1576 : decode code 1576 = .ok (.aload_n 0, 1) := by decide +kernel
theorem d_Lw_law_1577 : decode code 1577 = .ok (.iload 4, 2) := by decide +kernel
theorem d_Lw_law_1579 : decode code 1579 = .ok (.iconst 3, 1) := by decide +kernel
theorem d_Lw_law_1580 : decode code 1580 = .ok (.iadd, 1) := by decide +kernel
theorem d_Lw_law_1581 : decode code 1581 = .ok (.iaload, 1) := by decide +kernel
theorem d_Lw_law_1582 : decode code 1582 = .ok (.invokevirtual 171, 3) := by decide +kernel
theorem d_Lw_law_1585 : decode code 1585 = .ok (.if_icmp .eq 244, 3) := by decide +kernel
theorem d_Lw_law_1588 : decode code 1588 = .ok (.iconst 0, 1) := by decide +kernel
theorem d_Lw_law_1589 : decode code 1589 = .ok (.ireturn, 1) := by decide +kernel
theorem d_Lw_law_1590 : decode code 1590 = .ok (.aload_n 1, 1) := by decide +kernel
theorem d_Lw_law_1591 : decode code 1591 = .ok (.aload_n 0, 1) := by decide +kernel
theorem d_Lw_law_1592 : decode code 1592 = .ok (.iload 4, 2) := by decide +kernel
theorem d_Lw_law_1594 : decode code 1594 = .ok (.iconst 1, 1) := by decide +kernel
theorem d_Lw_law_1595 : decode code 1595 = .ok (.iadd, 1) := by decide +kernel
theorem d_Lw_law_1596 : decode code 1596 = .ok (.iaload, 1) := by decide +kernel
theorem d_Lw_law_1597 : decode code 1597 = .ok (.aload_n 0, 1) := by decide +kernel
theorem d_Lw_law_1598 : decode code 1598 = .ok (.iload 4, 2) := by decide +kernel
theorem d_Lw_law_1600 : decode code 1600 = .ok (.iconst 2, 1) := by decide +kernel
theorem d_Lw_law_1601 : decode code 1601 = .ok (.iadd, 1) := by decide +kernel
theorem d_Lw_law_1602 : decode code 1602 = .ok (.iaload, 1) := by decide +kernel
theorem d_Lw_law_1603 : decode code 1603 = .ok (.aload_n 0, 1) := by decide +kernel
theorem d_Lw_law_1604 : decode code 1604 = .ok (.iload 4, 2) := by decide +kernel
theorem d_Lw_law_1606 : decode code 1606 = .ok (.iconst 3, 1) := by decide +kernel
theorem d_Lw_law_1607 : decode code 1607 = .ok (.iadd, 1) := by decide +kernel
theorem d_Lw_law_1608 : decode code 1608 = .ok (.iaload, 1) := by decide +kernel
theorem d_Lw_law_1609 : decode code 1609 = .ok (.invokevirtual 172, 3) := by decide +kernel
theorem d_Lw_law_1612 : decode code 1612 = .ok (.aload_n 2, 1) := by decide +kernel
theorem d_Lw_law_1613 : decode code 1613 = .ok (.aload_n 0, 1) := by decide +kernel
theorem d_Lw_law_1614 : decode code 1614 = .ok (.iload 4, 2) := by decide +kernel
theorem d_Lw_law_1616 : decode code 1616 = .ok (.iconst 1, 1) := by decide +kernel
theorem d_Lw_law_1617 : decode code 1617 = .ok (.iadd, 1) := by decide +kernel
theorem d_Lw_law_1618 : decode code 1618 = .ok (.iaload, 1) := by decide +kernel
theorem d_Lw_law_1619 : decode code 1619 = .ok (.aload_n 0, 1) := by decide +kernel
theorem d_Lw_law_1620 : decode code 1620 = .ok (.iload 4, 2) := by decide +kernel
theorem d_Lw_law_1622 : decode code 1622 = .ok (.iconst 2, 1) := by decide +kernel
theorem d_Lw_law_1623 : decode code 1623 = .ok (.iadd, 1) := by decide +kernel
theorem d_Lw_law_1624 : decode code 1624 = .ok (.iaload, 1) := by decide +kernel
theorem d_Lw_law_1625 : decode code 1625 = .ok (.aload_n 0, 1) := by decide +kernel
theorem d_Lw_law_1626 : decode code 1626 = .ok (.iload 4, 2) := by decide +kernel
theorem d_Lw_law_1628 : decode code 1628 = .ok (.iconst 3, 1) := by decide +kernel
theorem d_Lw_law_1629 : decode code 1629 = .ok (.iadd, 1) := by decide +kernel
theorem d_Lw_law_1630 : decode code 1630 = .ok (.iaload, 1) := by decide +kernel
theorem d_Lw_law_1631 : decode code 1631 = .ok (.invokevirtual 175, 3) := by decide +kernel
theorem d_Lw_law_1634 : decode code 1634 = .ok (.if_icmp .eq 195, 3) := by decide +kernel
theorem d_Lw_law_1637 : decode code 1637 = .ok (.iconst 0, 1) := by decide +kernel
theorem d_Lw_law_1638 : decode code 1638 = .ok (.ireturn, 1) := by decide +kernel
theorem d_Lw_law_1639 : decode code 1639 = .ok (.aload_n 1, 1) := by decide +kernel
theorem d_Lw_law_1640 : decode code 1640 = .ok (.aload_n 0, 1) := by decide +kernel
theorem d_Lw_law_1641 : decode code 1641 = .ok (.iload 4, 2) := by decide +kernel
theorem d_Lw_law_1643 : decode code 1643 = .ok (.iconst 1, 1) := by decide +kernel
theorem d_Lw_law_1644 : decode code 1644 = .ok (.iadd, 1) := by decide +kernel
theorem d_Lw_law_1645 : decode code 1645 = .ok (.iaload, 1) := by decide +kernel
theorem d_Lw_law_1646 : decode code 1646 = .ok (.aload_n 0, 1) := by decide +kernel
theorem d_Lw_law_1647 : decode code 1647 = .ok (.iload 4, 2) := by decide +kernel
theorem d_Lw_law_1649 : decode code 1649 = .ok (.iconst 2, 1) := by decide +kernel
theorem d_Lw_law_1650 : decode code 1650 = .ok (.iadd, 1) := by decide +kernel
theorem d_Lw_law_1651 : decode code 1651 = .ok (.iaload, 1) := by decide +kernel
theorem d_Lw_law_1652 : decode code 1652 = .ok (.aload_n 3, 1) := by decide +kernel
theorem d_Lw_law_1653 : decode code 1653 = .ok (.invokestatic 176, 3) := by decide +kernel
theorem d_Lw_law_1656 : decode code 1656 = .ok (.istore 5, 2) := by decide +kernel
theorem d_Lw_law_1658 : decode code 1658 = .ok (.aload_n 2, 1) := by decide +kernel
theorem d_Lw_law_1659 : decode code 1659 = .ok (.aload_n 0, 1) := by decide +kernel
theorem d_Lw_law_1660 : decode code 1660 = .ok (.iload 4, 2) := by decide +kernel
theorem d_Lw_law_1662 : decode code 1662 = .ok (.iconst 1, 1) := by decide +kernel
theorem d_Lw_law_1663 : decode code 1663 = .ok (.iadd, 1) := by decide +kernel
theorem d_Lw_law_1664 : decode code 1664 = .ok (.iaload, 1) := by decide +kernel
theorem d_Lw_law_1665 : decode code 1665 = .ok (.aload_n 0, 1) := by decide +kernel
theorem d_Lw_law_1666 : decode code 1666 = .ok (.iload 4, 2) := by decide +kernel
theorem d_Lw_law_1668 : decode code 1668 = .ok (.iconst 2, 1) := by decide +kernel
theorem d_Lw_law_1669 : decode code 1669 = .ok (.iadd, 1) := by decide +kernel
theorem d_Lw_law_1670 : decode code 1670 = .ok (.iaload, 1) := by decide +kernel
theorem d_Lw_law_1671 : decode code 1671 = .ok (.invokevirtual 181, 3) := by decide +kernel
theorem d_Lw_law_1674 : decode code 1674 = .ok (.lstore 6, 2) := by decide +kernel
theorem d_Lw_law_1676 : decode code 1676 = .ok (.aload_n 2, 1) := by decide +kernel
theorem d_Lw_law_1677 : decode code 1677 = .ok (.invokevirtual 182, 3) := by decide +kernel
theorem d_Lw_law_1680 : decode code 1680 = .ok (.iload 5, 2) := by decide +kernel
theorem d_Lw_law_1682 : decode code 1682 = .ok (.if_icmp .eq 5, 3) := by decide +kernel
theorem d_Lw_law_1685 : decode code 1685 = .ok (.iconst 0, 1) := by decide +kernel
theorem d_Lw_law_1686 : decode code 1686 = .ok (.ireturn, 1) := by decide +kernel
theorem d_Lw_law_1687 : decode code 1687 = .ok (.iload 5, 2) := by decide +kernel
theorem d_Lw_law_1689 : decode code 1689 = .ok (.ifCond .ne 14, 3) := by decide +kernel
theorem d_Lw_law_1692 : decode code 1692 = .ok (.aload_n 3, 1) := by decide +kernel
theorem d_Lw_law_1693 : decode code 1693 = .ok (.iconst 0, 1) := by decide +kernel
theorem d_Lw_law_1694 : decode code 1694 = .ok (.laload, 1) := by decide +kernel
theorem d_Lw_law_1695 : decode code 1695 = .ok (.lload 6, 2) := by decide +kernel
theorem d_Lw_law_1697 : decode code 1697 = .ok (.lcmp, 1) := by decide +kernel
theorem d_Lw_law_1698 : decode code 1698 = .ok (.ifCond .eq 5, 3) := by decide +kernel
theorem d_Lw_law_1701 : decode code 1701 = .ok (.iconst 0, 1) := by decide +kernel
theorem d_Lw_law_1702 : decode code 1702 = .ok (.ireturn, 1) := by decide +kernel
theorem d_Lw_law_1703 : decode code 1703 = .ok (.goto 126, 3) := by decide +kernel
theorem d_Lw_law_1706 : decode code 1706 = .ok (.aload_n 1, 1) := by decide +kernel
theorem d_Lw_law_1707 : decode code 1707 = .ok (.aload_n 0, 1) := by decide +kernel
theorem d_Lw_law_1708 : decode code 1708 = .ok (.iload 4, 2) := by decide +kernel
theorem d_Lw_law_1710 : decode code 1710 = .ok (.iconst 1, 1) := by decide +kernel
theorem d_Lw_law_1711 : decode code 1711 = .ok (.iadd, 1) := by decide +kernel
theorem d_Lw_law_1712 : decode code 1712 = .ok (.iaload, 1) := by decide +kernel
theorem d_Lw_law_1713 : decode code 1713 = .ok (.aload_n 0, 1) := by decide +kernel
theorem d_Lw_law_1714 : decode code 1714 = .ok (.iload 4, 2) := by decide +kernel
theorem d_Lw_law_1716 : decode code 1716 = .ok (.iconst 2, 1) := by decide +kernel
theorem d_Lw_law_1717 : decode code 1717 = .ok (.iadd, 1) := by decide +kernel
theorem d_Lw_law_1718 : decode code 1718 = .ok (.iaload, 1) := by decide +kernel
theorem d_Lw_law_1719 : decode code 1719 = .ok (.aload_n 0, 1) := by decide +kernel
theorem d_Lw_law_1720 : decode code 1720 = .ok (.iload 4, 2) := by decide +kernel
theorem d_Lw_law_1722 : decode code 1722 = .ok (.iconst 3, 1) := by decide +kernel
theorem d_Lw_law_1723 : decode code 1723 = .ok (.iadd, 1) := by decide +kernel
theorem d_Lw_law_1724 : decode code 1724 = .ok (.iaload, 1) := by decide +kernel
theorem d_Lw_law_1725 : decode code 1725 = .ok (.aload_n 0, 1) := by decide +kernel
theorem d_Lw_law_1726 : decode code 1726 = .ok (.iload 4, 2) := by decide +kernel
theorem d_Lw_law_1728 : decode code 1728 = .ok (.iconst 4, 1) := by decide +kernel
theorem d_Lw_law_1729 : decode code 1729 = .ok (.iadd, 1) := by decide +kernel
theorem d_Lw_law_1730 : decode code 1730 = .ok (.iaload, 1) := by decide +kernel
theorem d_Lw_law_1731 : decode code 1731 = .ok (.aload_n 0, 1) := by decide +kernel
theorem d_Lw_law_1732 : decode code 1732 = .ok (.iload 4, 2) := by decide +kernel
theorem d_Lw_law_1734 : decode code 1734 = .ok (.iconst 5, 1) := by decide +kernel
theorem d_Lw_law_1735 : decode code 1735 = .ok (.iadd, 1) := by decide +kernel
theorem d_Lw_law_1736 : decode code 1736 = .ok (.iaload, 1) := by decide +kernel
theorem d_Lw_law_1737 : decode code 1737 = .ok (.invokevirtual 185, 3) := by decide +kernel
theorem d_Lw_law_1740 : decode code 1740 = .ok (.aload_n 2, 1) := by decide +kernel
theorem d_Lw_law_1741 : decode code 1741 = .ok (.aload_n 0, 1) := by decide +kernel
theorem d_Lw_law_1742 : decode code 1742 = .ok (.iload 4, 2) := by decide +kernel
theorem d_Lw_law_1744 : decode code 1744 = .ok (.iconst 1, 1) := by decide +kernel
theorem d_Lw_law_1745 : decode code 1745 = .ok (.iadd, 1) := by decide +kernel
theorem d_Lw_law_1746 : decode code 1746 = .ok (.iaload, 1) := by decide +kernel
theorem d_Lw_law_1747 : decode code 1747 = .ok (.aload_n 0, 1) := by decide +kernel
theorem d_Lw_law_1748 : decode code 1748 = .ok (.iload 4, 2) := by decide +kernel
theorem d_Lw_law_1750 : decode code 1750 = .ok (.iconst 2, 1) := by decide +kernel
theorem d_Lw_law_1751 : decode code 1751 = .ok (.iadd, 1) := by decide +kernel
theorem d_Lw_law_1752 : decode code 1752 = .ok (.iaload, 1) := by decide +kernel
theorem d_Lw_law_1753 : decode code 1753 = .ok (.aload_n 0, 1) := by decide +kernel
theorem d_Lw_law_1754 : decode code 1754 = .ok (.iload 4, 2) := by decide +kernel
theorem d_Lw_law_1756 : decode code 1756 = .ok (.iconst 3, 1) := by decide +kernel
theorem d_Lw_law_1757 : decode code 1757 = .ok (.iadd, 1) := by decide +kernel
theorem d_Lw_law_1758 : decode code 1758 = .ok (.iaload, 1) := by decide +kernel
theorem d_Lw_law_1759 : decode code 1759 = .ok (.aload_n 0, 1) := by decide +kernel
theorem d_Lw_law_1760 : decode code 1760 = .ok (.iload 4, 2) := by decide +kernel
theorem d_Lw_law_1762 : decode code 1762 = .ok (.iconst 4, 1) := by decide +kernel
theorem d_Lw_law_1763 : decode code 1763 = .ok (.iadd, 1) := by decide +kernel
theorem d_Lw_law_1764 : decode code 1764 = .ok (.iaload, 1) := by decide +kernel
theorem d_Lw_law_1765 : decode code 1765 = .ok (.aload_n 0, 1) := by decide +kernel
theorem d_Lw_law_1766 : decode code 1766 = .ok (.iload 4, 2) := by decide +kernel
theorem d_Lw_law_1768 : decode code 1768 = .ok (.iconst 5, 1) := by decide +kernel
theorem d_Lw_law_1769 : decode code 1769 = .ok (.iadd, 1) := by decide +kernel
theorem d_Lw_law_1770 : decode code 1770 = .ok (.iaload, 1) := by decide +kernel
theorem d_Lw_law_1771 : decode code 1771 = .ok (.invokevirtual 189, 3) := by decide +kernel
theorem d_Lw_law_1774 : decode code 1774 = .ok (.if_icmp .eq 55, 3) := by decide +kernel
theorem d_Lw_law_1777 : decode code 1777 = .ok (.iconst 0, 1) := by decide +kernel
theorem d_Lw_law_1778 : decode code 1778 = .ok (.ireturn, 1) := by decide +kernel
theorem d_Lw_law_1779 : decode code 1779 = .ok (.aload_n 1, 1) := by decide +kernel
theorem d_Lw_law_1780 : decode code 1780 = .ok (.aload_n 0, 1) := by decide +kernel
theorem d_Lw_law_1781 : decode code 1781 = .ok (.iload 4, 2) := by decide +kernel
theorem d_Lw_law_1783 : decode code 1783 = .ok (.iconst 1, 1) := by decide +kernel
theorem d_Lw_law_1784 : decode code 1784 = .ok (.iadd, 1) := by decide +kernel
theorem d_Lw_law_1785 : decode code 1785 = .ok (.iaload, 1) := by decide +kernel
theorem d_Lw_law_1786 : decode code 1786 = .ok (.invokevirtual 190, 3) := by decide +kernel
theorem d_Lw_law_1789 : decode code 1789 = .ok (.aload_n 2, 1) := by decide +kernel
theorem d_Lw_law_1790 : decode code 1790 = .ok (.aload_n 0, 1) := by decide +kernel
theorem d_Lw_law_1791 : decode code 1791 = .ok (.iload 4, 2) := by decide +kernel
theorem d_Lw_law_1793 : decode code 1793 = .ok (.iconst 1, 1) := by decide +kernel
theorem d_Lw_law_1794 : decode code 1794 = .ok (.iadd, 1) := by decide +kernel
theorem d_Lw_law_1795 : decode code 1795 = .ok (.iaload, 1) := by decide +kernel
theorem d_Lw_law_1796 : decode code 1796 = .ok (.invokevirtual 193, 3) := by decide +kernel
theorem d_Lw_law_1799 : decode code 1799 = .ok (.if_icmp .eq 30, 3) := by decide +kernel
theorem d_Lw_law_1802 : decode code 1802 = .ok (.iconst 0, 1) := by decide +kernel
theorem d_Lw_law_1803 : decode code 1803 = .ok (.ireturn, 1) := by decide +kernel
theorem d_Lw_law_1804 : decode code 1804 = .ok (.aload_n 1, 1) := by decide +kernel
theorem d_Lw_law_1805 : decode code 1805 = .ok (.aload_n 0, 1) := by decide +kernel
theorem d_Lw_law_1806 : decode code 1806 = .ok (.iload 4, 2) := by decide +kernel
theorem d_Lw_law_1808 : decode code 1808 = .ok (.iconst 1, 1) := by decide +kernel
theorem d_Lw_law_1809 : decode code 1809 = .ok (.iadd, 1) := by decide +kernel
theorem d_Lw_law_1810 : decode code 1810 = .ok (.iaload, 1) := by decide +kernel
theorem d_Lw_law_1811 : decode code 1811 = .ok (.invokevirtual 194, 3) := by decide +kernel
theorem d_Lw_law_1814 : decode code 1814 = .ok (.aload_n 2, 1) := by decide +kernel
theorem d_Lw_law_1815 : decode code 1815 = .ok (.aload_n 0, 1) := by decide +kernel
theorem d_Lw_law_1816 : decode code 1816 = .ok (.iload 4, 2) := by decide +kernel
theorem d_Lw_law_1818 : decode code 1818 = .ok (.iconst 1, 1) := by decide +kernel
theorem d_Lw_law_1819 : decode code 1819 = .ok (.iadd, 1) := by decide +kernel
theorem d_Lw_law_1820 : decode code 1820 = .ok (.iaload, 1) := by decide +kernel
theorem d_Lw_law_1821 : decode code 1821 = .ok (.invokevirtual 197, 3) := by decide +kernel
theorem d_Lw_law_1824 : decode code 1824 = .ok (.if_icmp .eq 5, 3) := by decide +kernel
theorem d_Lw_law_1827 : decode code 1827 = .ok (.iconst 0, 1) := by decide +kernel
theorem d_Lw_law_1828 : decode code 1828 = .ok (.ireturn, 1) := by decide +kernel
theorem d_Lw_law_1829 : decode code 1829 = .ok (.iinc 4 6, 3) := by decide +kernel
theorem d_Lw_law_1832 : decode code 1832 = .ok (.goto (-1809), 3) := by decide +kernel
theorem d_Lw_law_1835 : decode code 1835 = .ok (.iconst 1, 1) := by decide +kernel
theorem d_Lw_law_1836 : decode code 1836 = .ok (.ireturn, 1) := by decide +kernel
theorem xj_256 : Cond.methodLink n_Lw 21 y_Hb_land ∈ TW := tw_of 256 (by decide +kernel) (by decide +kernel)
theorem xj_257 : Cond.instanceMethod y_Hb_land ∈ TW := tw_of 257 (by decide +kernel) (by decide +kernel)
theorem xj_258 : Cond.selects n_Hb y_Hb_land y_Hb_land ∈ TW := tw_of 258 (by decide +kernel) (by decide +kernel)
theorem xj_52 : Cond.initialized n_Hb ∈ TW := tw_of 52 (by decide +kernel) (by decide +kernel)
theorem xj_259 : Cond.code y_Hb_land c_Hb_land 8 (some .int) ∈ TW := tw_of 259 (by decide +kernel) (by decide +kernel)
theorem xj_1055 : Cond.methodLink n_Lw 25 y_Mo_land ∈ TW := tw_of 1055 (by decide +kernel) (by decide +kernel)
theorem xj_1056 : Cond.instanceMethod y_Mo_land ∈ TW := tw_of 1056 (by decide +kernel) (by decide +kernel)
theorem xj_1057 : Cond.selects n_Mo y_Mo_land y_Mo_land ∈ TW := tw_of 1057 (by decide +kernel) (by decide +kernel)
theorem xj_64 : Cond.initialized n_Mo ∈ TW := tw_of 64 (by decide +kernel) (by decide +kernel)
theorem xj_1058 : Cond.code y_Mo_land c_Mo_land 4 (some .int) ∈ TW := tw_of 1058 (by decide +kernel) (by decide +kernel)
theorem xj_458 : Cond.methodLink n_Lw 26 y_Hb_horse ∈ TW := tw_of 458 (by decide +kernel) (by decide +kernel)
theorem xj_459 : Cond.instanceMethod y_Hb_horse ∈ TW := tw_of 459 (by decide +kernel) (by decide +kernel)
theorem xj_460 : Cond.selects n_Hb y_Hb_horse y_Hb_horse ∈ TW := tw_of 460 (by decide +kernel) (by decide +kernel)
theorem xj_461 : Cond.code y_Hb_horse c_Hb_horse 4 (some .int) ∈ TW := tw_of 461 (by decide +kernel) (by decide +kernel)
theorem xj_1171 : Cond.methodLink n_Lw 30 y_Mo_horse ∈ TW := tw_of 1171 (by decide +kernel) (by decide +kernel)
theorem xj_1172 : Cond.instanceMethod y_Mo_horse ∈ TW := tw_of 1172 (by decide +kernel) (by decide +kernel)
theorem xj_1173 : Cond.selects n_Mo y_Mo_horse y_Mo_horse ∈ TW := tw_of 1173 (by decide +kernel) (by decide +kernel)
theorem xj_1174 : Cond.code y_Mo_horse c_Mo_horse 3 (some .int) ∈ TW := tw_of 1174 (by decide +kernel) (by decide +kernel)
theorem xj_501 : Cond.methodLink n_Lw 31 y_Hb_comes ∈ TW := tw_of 501 (by decide +kernel) (by decide +kernel)
theorem xj_502 : Cond.instanceMethod y_Hb_comes ∈ TW := tw_of 502 (by decide +kernel) (by decide +kernel)
theorem xj_503 : Cond.selects n_Hb y_Hb_comes y_Hb_comes ∈ TW := tw_of 503 (by decide +kernel) (by decide +kernel)
theorem xj_504 : Cond.code y_Hb_comes c_Hb_comes 6 (some .int) ∈ TW := tw_of 504 (by decide +kernel) (by decide +kernel)
theorem xj_1175 : Cond.methodLink n_Lw 35 y_Mo_comes ∈ TW := tw_of 1175 (by decide +kernel) (by decide +kernel)
theorem xj_1176 : Cond.instanceMethod y_Mo_comes ∈ TW := tw_of 1176 (by decide +kernel) (by decide +kernel)
theorem xj_1177 : Cond.selects n_Mo y_Mo_comes y_Mo_comes ∈ TW := tw_of 1177 (by decide +kernel) (by decide +kernel)
theorem xj_1178 : Cond.code y_Mo_comes c_Mo_comes 5 (some .int) ∈ TW := tw_of 1178 (by decide +kernel) (by decide +kernel)
theorem xj_511 : Cond.methodLink n_Lw 36 y_Hb_rides ∈ TW := tw_of 511 (by decide +kernel) (by decide +kernel)
theorem xj_512 : Cond.instanceMethod y_Hb_rides ∈ TW := tw_of 512 (by decide +kernel) (by decide +kernel)
theorem xj_513 : Cond.selects n_Hb y_Hb_rides y_Hb_rides ∈ TW := tw_of 513 (by decide +kernel) (by decide +kernel)
theorem xj_514 : Cond.code y_Hb_rides c_Hb_rides 3 (some .int) ∈ TW := tw_of 514 (by decide +kernel) (by decide +kernel)
theorem xj_1183 : Cond.methodLink n_Lw 39 y_Mo_rides ∈ TW := tw_of 1183 (by decide +kernel) (by decide +kernel)
theorem xj_1184 : Cond.instanceMethod y_Mo_rides ∈ TW := tw_of 1184 (by decide +kernel) (by decide +kernel)
theorem xj_1185 : Cond.selects n_Mo y_Mo_rides y_Mo_rides ∈ TW := tw_of 1185 (by decide +kernel) (by decide +kernel)
theorem xj_1186 : Cond.code y_Mo_rides c_Mo_rides 4 (some .int) ∈ TW := tw_of 1186 (by decide +kernel) (by decide +kernel)
theorem xj_528 : Cond.methodLink n_Lw 40 y_Hb_taken ∈ TW := tw_of 528 (by decide +kernel) (by decide +kernel)
theorem xj_529 : Cond.instanceMethod y_Hb_taken ∈ TW := tw_of 529 (by decide +kernel) (by decide +kernel)
theorem xj_530 : Cond.selects n_Hb y_Hb_taken y_Hb_taken ∈ TW := tw_of 530 (by decide +kernel) (by decide +kernel)
theorem xj_531 : Cond.code y_Hb_taken c_Hb_taken 4 (some .int) ∈ TW := tw_of 531 (by decide +kernel) (by decide +kernel)
theorem xj_1187 : Cond.methodLink n_Lw 43 y_Mo_taken ∈ TW := tw_of 1187 (by decide +kernel) (by decide +kernel)
theorem xj_1188 : Cond.instanceMethod y_Mo_taken ∈ TW := tw_of 1188 (by decide +kernel) (by decide +kernel)
theorem xj_1189 : Cond.selects n_Mo y_Mo_taken y_Mo_taken ∈ TW := tw_of 1189 (by decide +kernel) (by decide +kernel)
theorem xj_1190 : Cond.code y_Mo_taken c_Mo_taken 4 (some .int) ∈ TW := tw_of 1190 (by decide +kernel) (by decide +kernel)
theorem xj_532 : Cond.methodLink n_Lw 44 y_Hb_longs ∈ TW := tw_of 532 (by decide +kernel) (by decide +kernel)
theorem xj_533 : Cond.instanceMethod y_Hb_longs ∈ TW := tw_of 533 (by decide +kernel) (by decide +kernel)
theorem xj_534 : Cond.selects n_Hb y_Hb_longs y_Hb_longs ∈ TW := tw_of 534 (by decide +kernel) (by decide +kernel)
theorem xj_535 : Cond.code y_Hb_longs c_Hb_longs 4 (some .int) ∈ TW := tw_of 535 (by decide +kernel) (by decide +kernel)
theorem xj_1191 : Cond.methodLink n_Lw 47 y_Mo_longs ∈ TW := tw_of 1191 (by decide +kernel) (by decide +kernel)
theorem xj_1192 : Cond.instanceMethod y_Mo_longs ∈ TW := tw_of 1192 (by decide +kernel) (by decide +kernel)
theorem xj_1193 : Cond.selects n_Mo y_Mo_longs y_Mo_longs ∈ TW := tw_of 1193 (by decide +kernel) (by decide +kernel)
theorem xj_1194 : Cond.code y_Mo_longs c_Mo_longs 4 (some .int) ∈ TW := tw_of 1194 (by decide +kernel) (by decide +kernel)
theorem xj_536 : Cond.methodLink n_Lw 48 y_Hb_hangs ∈ TW := tw_of 536 (by decide +kernel) (by decide +kernel)
theorem xj_537 : Cond.instanceMethod y_Hb_hangs ∈ TW := tw_of 537 (by decide +kernel) (by decide +kernel)
theorem xj_538 : Cond.selects n_Hb y_Hb_hangs y_Hb_hangs ∈ TW := tw_of 538 (by decide +kernel) (by decide +kernel)
theorem xj_539 : Cond.code y_Hb_hangs c_Hb_hangs 3 (some .int) ∈ TW := tw_of 539 (by decide +kernel) (by decide +kernel)
theorem xj_1196 : Cond.methodLink n_Lw 51 y_Mo_hangs ∈ TW := tw_of 1196 (by decide +kernel) (by decide +kernel)
theorem xj_1197 : Cond.instanceMethod y_Mo_hangs ∈ TW := tw_of 1197 (by decide +kernel) (by decide +kernel)
theorem xj_1198 : Cond.selects n_Mo y_Mo_hangs y_Mo_hangs ∈ TW := tw_of 1198 (by decide +kernel) (by decide +kernel)
theorem xj_1199 : Cond.code y_Mo_hangs c_Mo_hangs 3 (some .int) ∈ TW := tw_of 1199 (by decide +kernel) (by decide +kernel)
theorem xj_540 : Cond.methodLink n_Lw 52 y_Hb_days ∈ TW := tw_of 540 (by decide +kernel) (by decide +kernel)
theorem xj_541 : Cond.instanceMethod y_Hb_days ∈ TW := tw_of 541 (by decide +kernel) (by decide +kernel)
theorem xj_542 : Cond.selects n_Hb y_Hb_days y_Hb_days ∈ TW := tw_of 542 (by decide +kernel) (by decide +kernel)
theorem xj_543 : Cond.code y_Hb_days c_Hb_days 2 (some .int) ∈ TW := tw_of 543 (by decide +kernel) (by decide +kernel)
theorem xj_1200 : Cond.methodLink n_Lw 55 y_Mo_days ∈ TW := tw_of 1200 (by decide +kernel) (by decide +kernel)
theorem xj_1201 : Cond.instanceMethod y_Mo_days ∈ TW := tw_of 1201 (by decide +kernel) (by decide +kernel)
theorem xj_1202 : Cond.selects n_Mo y_Mo_days y_Mo_days ∈ TW := tw_of 1202 (by decide +kernel) (by decide +kernel)
theorem xj_1203 : Cond.code y_Mo_days c_Mo_days 2 (some .int) ∈ TW := tw_of 1203 (by decide +kernel) (by decide +kernel)
theorem xj_549 : Cond.methodLink n_Lw 56 y_Hb_howLong ∈ TW := tw_of 549 (by decide +kernel) (by decide +kernel)
theorem xj_550 : Cond.instanceMethod y_Hb_howLong ∈ TW := tw_of 550 (by decide +kernel) (by decide +kernel)
theorem xj_551 : Cond.selects n_Hb y_Hb_howLong y_Hb_howLong ∈ TW := tw_of 551 (by decide +kernel) (by decide +kernel)
theorem xj_552 : Cond.code y_Hb_howLong c_Hb_howLong 3 (some .int) ∈ TW := tw_of 552 (by decide +kernel) (by decide +kernel)
theorem xj_1208 : Cond.methodLink n_Lw 59 y_Mo_howLong ∈ TW := tw_of 1208 (by decide +kernel) (by decide +kernel)
theorem xj_1209 : Cond.instanceMethod y_Mo_howLong ∈ TW := tw_of 1209 (by decide +kernel) (by decide +kernel)
theorem xj_1210 : Cond.selects n_Mo y_Mo_howLong y_Mo_howLong ∈ TW := tw_of 1210 (by decide +kernel) (by decide +kernel)
theorem xj_1211 : Cond.code y_Mo_howLong c_Mo_howLong 3 (some .int) ∈ TW := tw_of 1211 (by decide +kernel) (by decide +kernel)
theorem xj_553 : Cond.methodLink n_Lw 60 y_Hb_behind ∈ TW := tw_of 553 (by decide +kernel) (by decide +kernel)
theorem xj_554 : Cond.instanceMethod y_Hb_behind ∈ TW := tw_of 554 (by decide +kernel) (by decide +kernel)
theorem xj_555 : Cond.selects n_Hb y_Hb_behind y_Hb_behind ∈ TW := tw_of 555 (by decide +kernel) (by decide +kernel)
theorem xj_556 : Cond.code y_Hb_behind c_Hb_behind 4 (some .int) ∈ TW := tw_of 556 (by decide +kernel) (by decide +kernel)
theorem xj_1216 : Cond.methodLink n_Lw 63 y_Mo_behind ∈ TW := tw_of 1216 (by decide +kernel) (by decide +kernel)
theorem xj_1217 : Cond.instanceMethod y_Mo_behind ∈ TW := tw_of 1217 (by decide +kernel) (by decide +kernel)
theorem xj_1218 : Cond.selects n_Mo y_Mo_behind y_Mo_behind ∈ TW := tw_of 1218 (by decide +kernel) (by decide +kernel)
theorem xj_1219 : Cond.code y_Mo_behind c_Mo_behind 5 (some .int) ∈ TW := tw_of 1219 (by decide +kernel) (by decide +kernel)
theorem xj_564 : Cond.methodLink n_Lw 64 y_Hb_chain ∈ TW := tw_of 564 (by decide +kernel) (by decide +kernel)
theorem xj_565 : Cond.instanceMethod y_Hb_chain ∈ TW := tw_of 565 (by decide +kernel) (by decide +kernel)
theorem xj_566 : Cond.selects n_Hb y_Hb_chain y_Hb_chain ∈ TW := tw_of 566 (by decide +kernel) (by decide +kernel)
theorem xj_567 : Cond.code y_Hb_chain c_Hb_chain 8 (some .int) ∈ TW := tw_of 567 (by decide +kernel) (by decide +kernel)
theorem xj_1220 : Cond.methodLink n_Lw 67 y_Mo_chain ∈ TW := tw_of 1220 (by decide +kernel) (by decide +kernel)
theorem xj_1221 : Cond.instanceMethod y_Mo_chain ∈ TW := tw_of 1221 (by decide +kernel) (by decide +kernel)
theorem xj_1222 : Cond.selects n_Mo y_Mo_chain y_Mo_chain ∈ TW := tw_of 1222 (by decide +kernel) (by decide +kernel)
theorem xj_1223 : Cond.code y_Mo_chain c_Mo_chain 8 (some .int) ∈ TW := tw_of 1223 (by decide +kernel) (by decide +kernel)
theorem xj_575 : Cond.methodLink n_Lw 68 y_Hb_hurry ∈ TW := tw_of 575 (by decide +kernel) (by decide +kernel)
theorem xj_576 : Cond.instanceMethod y_Hb_hurry ∈ TW := tw_of 576 (by decide +kernel) (by decide +kernel)
theorem xj_577 : Cond.selects n_Hb y_Hb_hurry y_Hb_hurry ∈ TW := tw_of 577 (by decide +kernel) (by decide +kernel)
theorem xj_578 : Cond.code y_Hb_hurry c_Hb_hurry 7 (some .int) ∈ TW := tw_of 578 (by decide +kernel) (by decide +kernel)
theorem xj_1236 : Cond.methodLink n_Lw 71 y_Mo_hurry ∈ TW := tw_of 1236 (by decide +kernel) (by decide +kernel)
theorem xj_1237 : Cond.instanceMethod y_Mo_hurry ∈ TW := tw_of 1237 (by decide +kernel) (by decide +kernel)
theorem xj_1238 : Cond.selects n_Mo y_Mo_hurry y_Mo_hurry ∈ TW := tw_of 1238 (by decide +kernel) (by decide +kernel)
theorem xj_1239 : Cond.code y_Mo_hurry c_Mo_hurry 7 (some .int) ∈ TW := tw_of 1239 (by decide +kernel) (by decide +kernel)
theorem xj_579 : Cond.methodLink n_Lw 72 y_Hb_fastest ∈ TW := tw_of 579 (by decide +kernel) (by decide +kernel)
theorem xj_580 : Cond.instanceMethod y_Hb_fastest ∈ TW := tw_of 580 (by decide +kernel) (by decide +kernel)
theorem xj_581 : Cond.selects n_Hb y_Hb_fastest y_Hb_fastest ∈ TW := tw_of 581 (by decide +kernel) (by decide +kernel)
theorem xj_582 : Cond.code y_Hb_fastest c_Hb_fastest 5 (some .int) ∈ TW := tw_of 582 (by decide +kernel) (by decide +kernel)
theorem xj_1240 : Cond.methodLink n_Lw 75 y_Mo_fastest ∈ TW := tw_of 1240 (by decide +kernel) (by decide +kernel)
theorem xj_1241 : Cond.instanceMethod y_Mo_fastest ∈ TW := tw_of 1241 (by decide +kernel) (by decide +kernel)
theorem xj_1242 : Cond.selects n_Mo y_Mo_fastest y_Mo_fastest ∈ TW := tw_of 1242 (by decide +kernel) (by decide +kernel)
theorem xj_1243 : Cond.code y_Mo_fastest c_Mo_fastest 4 (some .int) ∈ TW := tw_of 1243 (by decide +kernel) (by decide +kernel)
theorem xj_583 : Cond.methodLink n_Lw 76 y_Hb_away ∈ TW := tw_of 583 (by decide +kernel) (by decide +kernel)
theorem xj_584 : Cond.instanceMethod y_Hb_away ∈ TW := tw_of 584 (by decide +kernel) (by decide +kernel)
theorem xj_585 : Cond.selects n_Hb y_Hb_away y_Hb_away ∈ TW := tw_of 585 (by decide +kernel) (by decide +kernel)
theorem xj_586 : Cond.code y_Hb_away c_Hb_away 3 (some .int) ∈ TW := tw_of 586 (by decide +kernel) (by decide +kernel)
theorem xj_1244 : Cond.methodLink n_Lw 80 y_Mo_away ∈ TW := tw_of 1244 (by decide +kernel) (by decide +kernel)
theorem xj_1245 : Cond.instanceMethod y_Mo_away ∈ TW := tw_of 1245 (by decide +kernel) (by decide +kernel)
theorem xj_1246 : Cond.selects n_Mo y_Mo_away y_Mo_away ∈ TW := tw_of 1246 (by decide +kernel) (by decide +kernel)
theorem xj_1247 : Cond.code y_Mo_away c_Mo_away 3 (some .int) ∈ TW := tw_of 1247 (by decide +kernel) (by decide +kernel)
theorem xj_592 : Cond.methodLink n_Lw 81 y_Hb_ripe ∈ TW := tw_of 592 (by decide +kernel) (by decide +kernel)
theorem xj_593 : Cond.instanceMethod y_Hb_ripe ∈ TW := tw_of 593 (by decide +kernel) (by decide +kernel)
theorem xj_594 : Cond.selects n_Hb y_Hb_ripe y_Hb_ripe ∈ TW := tw_of 594 (by decide +kernel) (by decide +kernel)
theorem xj_595 : Cond.code y_Hb_ripe c_Hb_ripe 4 (some .int) ∈ TW := tw_of 595 (by decide +kernel) (by decide +kernel)
theorem xj_1248 : Cond.methodLink n_Lw 84 y_Mo_ripe ∈ TW := tw_of 1248 (by decide +kernel) (by decide +kernel)
theorem xj_1249 : Cond.instanceMethod y_Mo_ripe ∈ TW := tw_of 1249 (by decide +kernel) (by decide +kernel)
theorem xj_1250 : Cond.selects n_Mo y_Mo_ripe y_Mo_ripe ∈ TW := tw_of 1250 (by decide +kernel) (by decide +kernel)
theorem xj_1251 : Cond.code y_Mo_ripe c_Mo_ripe 5 (some .int) ∈ TW := tw_of 1251 (by decide +kernel) (by decide +kernel)
theorem xj_596 : Cond.methodLink n_Lw 85 y_Hb_leastLonging ∈ TW := tw_of 596 (by decide +kernel) (by decide +kernel)
theorem xj_597 : Cond.instanceMethod y_Hb_leastLonging ∈ TW := tw_of 597 (by decide +kernel) (by decide +kernel)
theorem xj_598 : Cond.selects n_Hb y_Hb_leastLonging y_Hb_leastLonging ∈ TW := tw_of 598 (by decide +kernel) (by decide +kernel)
theorem xj_599 : Cond.code y_Hb_leastLonging c_Hb_leastLonging 5 (some .int) ∈ TW := tw_of 599 (by decide +kernel) (by decide +kernel)
theorem xj_1252 : Cond.methodLink n_Lw 88 y_Mo_leastLonging ∈ TW := tw_of 1252 (by decide +kernel) (by decide +kernel)
theorem xj_1253 : Cond.instanceMethod y_Mo_leastLonging ∈ TW := tw_of 1253 (by decide +kernel) (by decide +kernel)
theorem xj_1254 : Cond.selects n_Mo y_Mo_leastLonging y_Mo_leastLonging ∈ TW := tw_of 1254 (by decide +kernel) (by decide +kernel)
theorem xj_1255 : Cond.code y_Mo_leastLonging c_Mo_leastLonging 6 (some .int) ∈ TW := tw_of 1255 (by decide +kernel) (by decide +kernel)
theorem xj_600 : Cond.methodLink n_Lw 89 y_Hb_soonest ∈ TW := tw_of 600 (by decide +kernel) (by decide +kernel)
theorem xj_601 : Cond.instanceMethod y_Hb_soonest ∈ TW := tw_of 601 (by decide +kernel) (by decide +kernel)
theorem xj_602 : Cond.selects n_Hb y_Hb_soonest y_Hb_soonest ∈ TW := tw_of 602 (by decide +kernel) (by decide +kernel)
theorem xj_603 : Cond.code y_Hb_soonest c_Hb_soonest 8 (some .int) ∈ TW := tw_of 603 (by decide +kernel) (by decide +kernel)
theorem xj_1256 : Cond.methodLink n_Lw 92 y_Mo_soonest ∈ TW := tw_of 1256 (by decide +kernel) (by decide +kernel)
theorem xj_1257 : Cond.instanceMethod y_Mo_soonest ∈ TW := tw_of 1257 (by decide +kernel) (by decide +kernel)
theorem xj_1258 : Cond.selects n_Mo y_Mo_soonest y_Mo_soonest ∈ TW := tw_of 1258 (by decide +kernel) (by decide +kernel)
theorem xj_1259 : Cond.code y_Mo_soonest c_Mo_soonest 8 (some .int) ∈ TW := tw_of 1259 (by decide +kernel) (by decide +kernel)
theorem xj_608 : Cond.methodLink n_Lw 93 y_Hb_race ∈ TW := tw_of 608 (by decide +kernel) (by decide +kernel)
theorem xj_609 : Cond.instanceMethod y_Hb_race ∈ TW := tw_of 609 (by decide +kernel) (by decide +kernel)
theorem xj_610 : Cond.selects n_Hb y_Hb_race y_Hb_race ∈ TW := tw_of 610 (by decide +kernel) (by decide +kernel)
theorem xj_611 : Cond.code y_Hb_race c_Hb_race 6 (some .int) ∈ TW := tw_of 611 (by decide +kernel) (by decide +kernel)
theorem xj_1260 : Cond.methodLink n_Lw 96 y_Mo_race ∈ TW := tw_of 1260 (by decide +kernel) (by decide +kernel)
theorem xj_1261 : Cond.instanceMethod y_Mo_race ∈ TW := tw_of 1261 (by decide +kernel) (by decide +kernel)
theorem xj_1262 : Cond.selects n_Mo y_Mo_race y_Mo_race ∈ TW := tw_of 1262 (by decide +kernel) (by decide +kernel)
theorem xj_1263 : Cond.code y_Mo_race c_Mo_race 6 (some .int) ∈ TW := tw_of 1263 (by decide +kernel) (by decide +kernel)
theorem xj_612 : Cond.methodLink n_Lw 97 y_Hb_walkAhead ∈ TW := tw_of 612 (by decide +kernel) (by decide +kernel)
theorem xj_613 : Cond.instanceMethod y_Hb_walkAhead ∈ TW := tw_of 613 (by decide +kernel) (by decide +kernel)
theorem xj_614 : Cond.selects n_Hb y_Hb_walkAhead y_Hb_walkAhead ∈ TW := tw_of 614 (by decide +kernel) (by decide +kernel)
theorem xj_615 : Cond.code y_Hb_walkAhead c_Hb_walkAhead 9 (some .int) ∈ TW := tw_of 615 (by decide +kernel) (by decide +kernel)
theorem xj_1264 : Cond.methodLink n_Lw 101 y_Mo_walkAhead ∈ TW := tw_of 1264 (by decide +kernel) (by decide +kernel)
theorem xj_1265 : Cond.instanceMethod y_Mo_walkAhead ∈ TW := tw_of 1265 (by decide +kernel) (by decide +kernel)
theorem xj_1266 : Cond.selects n_Mo y_Mo_walkAhead y_Mo_walkAhead ∈ TW := tw_of 1266 (by decide +kernel) (by decide +kernel)
theorem xj_1267 : Cond.code y_Mo_walkAhead c_Mo_walkAhead 9 (some .int) ∈ TW := tw_of 1267 (by decide +kernel) (by decide +kernel)
theorem xj_616 : Cond.methodLink n_Lw 102 y_Hb_hang ∈ TW := tw_of 616 (by decide +kernel) (by decide +kernel)
theorem xj_617 : Cond.instanceMethod y_Hb_hang ∈ TW := tw_of 617 (by decide +kernel) (by decide +kernel)
theorem xj_618 : Cond.selects n_Hb y_Hb_hang y_Hb_hang ∈ TW := tw_of 618 (by decide +kernel) (by decide +kernel)
theorem xj_619 : Cond.code y_Hb_hang c_Hb_hang 7 (some .int) ∈ TW := tw_of 619 (by decide +kernel) (by decide +kernel)
theorem xj_1269 : Cond.methodLink n_Lw 105 y_Mo_hang ∈ TW := tw_of 1269 (by decide +kernel) (by decide +kernel)
theorem xj_1270 : Cond.instanceMethod y_Mo_hang ∈ TW := tw_of 1270 (by decide +kernel) (by decide +kernel)
theorem xj_1271 : Cond.selects n_Mo y_Mo_hang y_Mo_hang ∈ TW := tw_of 1271 (by decide +kernel) (by decide +kernel)
theorem xj_1272 : Cond.code y_Mo_hang c_Mo_hang 7 (some .int) ∈ TW := tw_of 1272 (by decide +kernel) (by decide +kernel)
theorem xj_620 : Cond.methodLink n_Lw 106 y_Hb_meet ∈ TW := tw_of 620 (by decide +kernel) (by decide +kernel)
theorem xj_621 : Cond.instanceMethod y_Hb_meet ∈ TW := tw_of 621 (by decide +kernel) (by decide +kernel)
theorem xj_622 : Cond.selects n_Hb y_Hb_meet y_Hb_meet ∈ TW := tw_of 622 (by decide +kernel) (by decide +kernel)
theorem xj_623 : Cond.code y_Hb_meet c_Hb_meet 7 (some .int) ∈ TW := tw_of 623 (by decide +kernel) (by decide +kernel)
theorem xj_1273 : Cond.methodLink n_Lw 109 y_Mo_meet ∈ TW := tw_of 1273 (by decide +kernel) (by decide +kernel)
theorem xj_1274 : Cond.instanceMethod y_Mo_meet ∈ TW := tw_of 1274 (by decide +kernel) (by decide +kernel)
theorem xj_1275 : Cond.selects n_Mo y_Mo_meet y_Mo_meet ∈ TW := tw_of 1275 (by decide +kernel) (by decide +kernel)
theorem xj_1276 : Cond.code y_Mo_meet c_Mo_meet 7 (some .int) ∈ TW := tw_of 1276 (by decide +kernel) (by decide +kernel)
theorem xj_624 : Cond.methodLink n_Lw 110 y_Hb_spread ∈ TW := tw_of 624 (by decide +kernel) (by decide +kernel)
theorem xj_625 : Cond.instanceMethod y_Hb_spread ∈ TW := tw_of 625 (by decide +kernel) (by decide +kernel)
theorem xj_626 : Cond.selects n_Hb y_Hb_spread y_Hb_spread ∈ TW := tw_of 626 (by decide +kernel) (by decide +kernel)
theorem xj_627 : Cond.code y_Hb_spread c_Hb_spread 6 (some .int) ∈ TW := tw_of 627 (by decide +kernel) (by decide +kernel)
theorem xj_1277 : Cond.methodLink n_Lw 113 y_Mo_spread ∈ TW := tw_of 1277 (by decide +kernel) (by decide +kernel)
theorem xj_1278 : Cond.instanceMethod y_Mo_spread ∈ TW := tw_of 1278 (by decide +kernel) (by decide +kernel)
theorem xj_1279 : Cond.selects n_Mo y_Mo_spread y_Mo_spread ∈ TW := tw_of 1279 (by decide +kernel) (by decide +kernel)
theorem xj_1280 : Cond.code y_Mo_spread c_Mo_spread 6 (some .int) ∈ TW := tw_of 1280 (by decide +kernel) (by decide +kernel)
theorem xj_629 : Cond.methodLink n_Lw 114 y_Hb_fees ∈ TW := tw_of 629 (by decide +kernel) (by decide +kernel)
theorem xj_630 : Cond.instanceMethod y_Hb_fees ∈ TW := tw_of 630 (by decide +kernel) (by decide +kernel)
theorem xj_631 : Cond.selects n_Hb y_Hb_fees y_Hb_fees ∈ TW := tw_of 631 (by decide +kernel) (by decide +kernel)
theorem xj_632 : Cond.code y_Hb_fees c_Hb_fees 7 (some .int) ∈ TW := tw_of 632 (by decide +kernel) (by decide +kernel)
theorem xj_1281 : Cond.methodLink n_Lw 117 y_Mo_fees ∈ TW := tw_of 1281 (by decide +kernel) (by decide +kernel)
theorem xj_1282 : Cond.instanceMethod y_Mo_fees ∈ TW := tw_of 1282 (by decide +kernel) (by decide +kernel)
theorem xj_1283 : Cond.selects n_Mo y_Mo_fees y_Mo_fees ∈ TW := tw_of 1283 (by decide +kernel) (by decide +kernel)
theorem xj_1284 : Cond.code y_Mo_fees c_Mo_fees 5 (some .int) ∈ TW := tw_of 1284 (by decide +kernel) (by decide +kernel)
theorem xj_668 : Cond.methodLink n_Lw 118 y_Hb_homes ∈ TW := tw_of 668 (by decide +kernel) (by decide +kernel)
theorem xj_669 : Cond.instanceMethod y_Hb_homes ∈ TW := tw_of 669 (by decide +kernel) (by decide +kernel)
theorem xj_670 : Cond.selects n_Hb y_Hb_homes y_Hb_homes ∈ TW := tw_of 670 (by decide +kernel) (by decide +kernel)
theorem xj_671 : Cond.code y_Hb_homes c_Hb_homes 8 (some .int) ∈ TW := tw_of 671 (by decide +kernel) (by decide +kernel)
theorem xj_1293 : Cond.methodLink n_Lw 121 y_Mo_homes ∈ TW := tw_of 1293 (by decide +kernel) (by decide +kernel)
theorem xj_1294 : Cond.instanceMethod y_Mo_homes ∈ TW := tw_of 1294 (by decide +kernel) (by decide +kernel)
theorem xj_1295 : Cond.selects n_Mo y_Mo_homes y_Mo_homes ∈ TW := tw_of 1295 (by decide +kernel) (by decide +kernel)
theorem xj_1296 : Cond.code y_Mo_homes c_Mo_homes 10 (some .int) ∈ TW := tw_of 1296 (by decide +kernel) (by decide +kernel)
theorem xj_693 : Cond.methodLink n_Lw 122 y_Hb_whatIs ∈ TW := tw_of 693 (by decide +kernel) (by decide +kernel)
theorem xj_694 : Cond.instanceMethod y_Hb_whatIs ∈ TW := tw_of 694 (by decide +kernel) (by decide +kernel)
theorem xj_695 : Cond.selects n_Hb y_Hb_whatIs y_Hb_whatIs ∈ TW := tw_of 695 (by decide +kernel) (by decide +kernel)
theorem xj_696 : Cond.code y_Hb_whatIs c_Hb_whatIs 6 (some .int) ∈ TW := tw_of 696 (by decide +kernel) (by decide +kernel)
theorem xj_1308 : Cond.methodLink n_Lw 125 y_Mo_whatIs ∈ TW := tw_of 1308 (by decide +kernel) (by decide +kernel)
theorem xj_1309 : Cond.instanceMethod y_Mo_whatIs ∈ TW := tw_of 1309 (by decide +kernel) (by decide +kernel)
theorem xj_1310 : Cond.selects n_Mo y_Mo_whatIs y_Mo_whatIs ∈ TW := tw_of 1310 (by decide +kernel) (by decide +kernel)
theorem xj_1311 : Cond.code y_Mo_whatIs c_Mo_whatIs 8 (some .int) ∈ TW := tw_of 1311 (by decide +kernel) (by decide +kernel)
theorem xj_705 : Cond.methodLink n_Lw 126 y_Hb_two ∈ TW := tw_of 705 (by decide +kernel) (by decide +kernel)
theorem xj_706 : Cond.instanceMethod y_Hb_two ∈ TW := tw_of 706 (by decide +kernel) (by decide +kernel)
theorem xj_707 : Cond.selects n_Hb y_Hb_two y_Hb_two ∈ TW := tw_of 707 (by decide +kernel) (by decide +kernel)
theorem xj_708 : Cond.code y_Hb_two c_Hb_two 7 (some .int) ∈ TW := tw_of 708 (by decide +kernel) (by decide +kernel)
theorem xj_1312 : Cond.methodLink n_Lw 129 y_Mo_two ∈ TW := tw_of 1312 (by decide +kernel) (by decide +kernel)
theorem xj_1313 : Cond.instanceMethod y_Mo_two ∈ TW := tw_of 1313 (by decide +kernel) (by decide +kernel)
theorem xj_1314 : Cond.selects n_Mo y_Mo_two y_Mo_two ∈ TW := tw_of 1314 (by decide +kernel) (by decide +kernel)
theorem xj_1315 : Cond.code y_Mo_two c_Mo_two 7 (some .int) ∈ TW := tw_of 1315 (by decide +kernel) (by decide +kernel)
theorem xj_716 : Cond.methodLink n_Lw 130 y_Hb_storm ∈ TW := tw_of 716 (by decide +kernel) (by decide +kernel)
theorem xj_717 : Cond.instanceMethod y_Hb_storm ∈ TW := tw_of 717 (by decide +kernel) (by decide +kernel)
theorem xj_718 : Cond.selects n_Hb y_Hb_storm y_Hb_storm ∈ TW := tw_of 718 (by decide +kernel) (by decide +kernel)
theorem xj_719 : Cond.code y_Hb_storm c_Hb_storm 13 (some .long) ∈ TW := tw_of 719 (by decide +kernel) (by decide +kernel)
theorem xj_1324 : Cond.methodLink n_Lw 134 y_Mo_storm ∈ TW := tw_of 1324 (by decide +kernel) (by decide +kernel)
theorem xj_1325 : Cond.instanceMethod y_Mo_storm ∈ TW := tw_of 1325 (by decide +kernel) (by decide +kernel)
theorem xj_1326 : Cond.selects n_Mo y_Mo_storm y_Mo_storm ∈ TW := tw_of 1326 (by decide +kernel) (by decide +kernel)
theorem xj_1327 : Cond.code y_Mo_storm c_Mo_storm 14 (some .long) ∈ TW := tw_of 1327 (by decide +kernel) (by decide +kernel)
theorem xj_724 : Cond.methodLink n_Lw 135 y_Hb_mean ∈ TW := tw_of 724 (by decide +kernel) (by decide +kernel)
theorem xj_725 : Cond.instanceMethod y_Hb_mean ∈ TW := tw_of 725 (by decide +kernel) (by decide +kernel)
theorem xj_726 : Cond.selects n_Hb y_Hb_mean y_Hb_mean ∈ TW := tw_of 726 (by decide +kernel) (by decide +kernel)
theorem xj_727 : Cond.code y_Hb_mean c_Hb_mean 2 (some .long) ∈ TW := tw_of 727 (by decide +kernel) (by decide +kernel)
theorem xj_1339 : Cond.methodLink n_Lw 139 y_Mo_mean ∈ TW := tw_of 1339 (by decide +kernel) (by decide +kernel)
theorem xj_1340 : Cond.instanceMethod y_Mo_mean ∈ TW := tw_of 1340 (by decide +kernel) (by decide +kernel)
theorem xj_1341 : Cond.selects n_Mo y_Mo_mean y_Mo_mean ∈ TW := tw_of 1341 (by decide +kernel) (by decide +kernel)
theorem xj_1342 : Cond.code y_Mo_mean c_Mo_mean 2 (some .long) ∈ TW := tw_of 1342 (by decide +kernel) (by decide +kernel)
theorem xj_731 : Cond.methodLink n_Lw 140 y_Hb_forged ∈ TW := tw_of 731 (by decide +kernel) (by decide +kernel)
theorem xj_732 : Cond.instanceMethod y_Hb_forged ∈ TW := tw_of 732 (by decide +kernel) (by decide +kernel)
theorem xj_733 : Cond.selects n_Hb y_Hb_forged y_Hb_forged ∈ TW := tw_of 733 (by decide +kernel) (by decide +kernel)
theorem xj_734 : Cond.code y_Hb_forged c_Hb_forged 9 (some .int) ∈ TW := tw_of 734 (by decide +kernel) (by decide +kernel)
theorem xj_1343 : Cond.methodLink n_Lw 143 y_Mo_forged ∈ TW := tw_of 1343 (by decide +kernel) (by decide +kernel)
theorem xj_1344 : Cond.instanceMethod y_Mo_forged ∈ TW := tw_of 1344 (by decide +kernel) (by decide +kernel)
theorem xj_1345 : Cond.selects n_Mo y_Mo_forged y_Mo_forged ∈ TW := tw_of 1345 (by decide +kernel) (by decide +kernel)
theorem xj_1346 : Cond.code y_Mo_forged c_Mo_forged 11 (some .int) ∈ TW := tw_of 1346 (by decide +kernel) (by decide +kernel)
theorem xj_735 : Cond.methodLink n_Lw 144 y_Hb_judge ∈ TW := tw_of 735 (by decide +kernel) (by decide +kernel)
theorem xj_736 : Cond.instanceMethod y_Hb_judge ∈ TW := tw_of 736 (by decide +kernel) (by decide +kernel)
theorem xj_737 : Cond.selects n_Hb y_Hb_judge y_Hb_judge ∈ TW := tw_of 737 (by decide +kernel) (by decide +kernel)
theorem xj_738 : Cond.code y_Hb_judge c_Hb_judge 5 (some .int) ∈ TW := tw_of 738 (by decide +kernel) (by decide +kernel)
theorem xj_1347 : Cond.methodLink n_Lw 147 y_Mo_judge ∈ TW := tw_of 1347 (by decide +kernel) (by decide +kernel)
theorem xj_1348 : Cond.instanceMethod y_Mo_judge ∈ TW := tw_of 1348 (by decide +kernel) (by decide +kernel)
theorem xj_1349 : Cond.selects n_Mo y_Mo_judge y_Mo_judge ∈ TW := tw_of 1349 (by decide +kernel) (by decide +kernel)
theorem xj_1350 : Cond.code y_Mo_judge c_Mo_judge 7 (some .int) ∈ TW := tw_of 1350 (by decide +kernel) (by decide +kernel)
theorem xj_739 : Cond.methodLink n_Lw 148 y_Hb_lands ∈ TW := tw_of 739 (by decide +kernel) (by decide +kernel)
theorem xj_740 : Cond.instanceMethod y_Hb_lands ∈ TW := tw_of 740 (by decide +kernel) (by decide +kernel)
theorem xj_741 : Cond.selects n_Hb y_Hb_lands y_Hb_lands ∈ TW := tw_of 741 (by decide +kernel) (by decide +kernel)
theorem xj_742 : Cond.code y_Hb_lands c_Hb_lands 10 (some .int) ∈ TW := tw_of 742 (by decide +kernel) (by decide +kernel)
theorem xj_1351 : Cond.methodLink n_Lw 151 y_Mo_lands ∈ TW := tw_of 1351 (by decide +kernel) (by decide +kernel)
theorem xj_1352 : Cond.instanceMethod y_Mo_lands ∈ TW := tw_of 1352 (by decide +kernel) (by decide +kernel)
theorem xj_1353 : Cond.selects n_Mo y_Mo_lands y_Mo_lands ∈ TW := tw_of 1353 (by decide +kernel) (by decide +kernel)
theorem xj_1354 : Cond.code y_Mo_lands c_Mo_lands 7 (some .int) ∈ TW := tw_of 1354 (by decide +kernel) (by decide +kernel)
theorem xj_751 : Cond.methodLink n_Lw 152 y_Hb_image ∈ TW := tw_of 751 (by decide +kernel) (by decide +kernel)
theorem xj_752 : Cond.instanceMethod y_Hb_image ∈ TW := tw_of 752 (by decide +kernel) (by decide +kernel)
theorem xj_753 : Cond.selects n_Hb y_Hb_image y_Hb_image ∈ TW := tw_of 753 (by decide +kernel) (by decide +kernel)
theorem xj_754 : Cond.code y_Hb_image c_Hb_image 1 (some .int) ∈ TW := tw_of 754 (by decide +kernel) (by decide +kernel)
theorem xj_1163 : Cond.methodLink n_Lw 155 y_Mo_image ∈ TW := tw_of 1163 (by decide +kernel) (by decide +kernel)
theorem xj_1164 : Cond.instanceMethod y_Mo_image ∈ TW := tw_of 1164 (by decide +kernel) (by decide +kernel)
theorem xj_1165 : Cond.selects n_Mo y_Mo_image y_Mo_image ∈ TW := tw_of 1165 (by decide +kernel) (by decide +kernel)
theorem xj_1166 : Cond.code y_Mo_image c_Mo_image 1 (some .int) ∈ TW := tw_of 1166 (by decide +kernel) (by decide +kernel)
theorem xj_755 : Cond.methodLink n_Lw 156 y_Hb_restore ∈ TW := tw_of 755 (by decide +kernel) (by decide +kernel)
theorem xj_756 : Cond.instanceMethod y_Hb_restore ∈ TW := tw_of 756 (by decide +kernel) (by decide +kernel)
theorem xj_757 : Cond.selects n_Hb y_Hb_restore y_Hb_restore ∈ TW := tw_of 757 (by decide +kernel) (by decide +kernel)
theorem xj_758 : Cond.code y_Hb_restore c_Hb_restore 1 (some .int) ∈ TW := tw_of 758 (by decide +kernel) (by decide +kernel)
theorem xj_1167 : Cond.methodLink n_Lw 159 y_Mo_restore ∈ TW := tw_of 1167 (by decide +kernel) (by decide +kernel)
theorem xj_1168 : Cond.instanceMethod y_Mo_restore ∈ TW := tw_of 1168 (by decide +kernel) (by decide +kernel)
theorem xj_1169 : Cond.selects n_Mo y_Mo_restore y_Mo_restore ∈ TW := tw_of 1169 (by decide +kernel) (by decide +kernel)
theorem xj_1170 : Cond.code y_Mo_restore c_Mo_restore 1 (some .int) ∈ TW := tw_of 1170 (by decide +kernel) (by decide +kernel)
theorem xj_759 : Cond.methodLink n_Lw 160 y_Hb_count ∈ TW := tw_of 759 (by decide +kernel) (by decide +kernel)
theorem xj_760 : Cond.instanceMethod y_Hb_count ∈ TW := tw_of 760 (by decide +kernel) (by decide +kernel)
theorem xj_761 : Cond.selects n_Hb y_Hb_count y_Hb_count ∈ TW := tw_of 761 (by decide +kernel) (by decide +kernel)
theorem xj_762 : Cond.code y_Hb_count c_Hb_count 2 (some .int) ∈ TW := tw_of 762 (by decide +kernel) (by decide +kernel)
theorem xj_1366 : Cond.methodLink n_Lw 163 y_Mo_count ∈ TW := tw_of 1366 (by decide +kernel) (by decide +kernel)
theorem xj_1367 : Cond.instanceMethod y_Mo_count ∈ TW := tw_of 1367 (by decide +kernel) (by decide +kernel)
theorem xj_1368 : Cond.selects n_Mo y_Mo_count y_Mo_count ∈ TW := tw_of 1368 (by decide +kernel) (by decide +kernel)
theorem xj_1369 : Cond.code y_Mo_count c_Mo_count 4 (some .int) ∈ TW := tw_of 1369 (by decide +kernel) (by decide +kernel)
theorem xj_768 : Cond.methodLink n_Lw 164 y_Hb_keep ∈ TW := tw_of 768 (by decide +kernel) (by decide +kernel)
theorem xj_769 : Cond.instanceMethod y_Hb_keep ∈ TW := tw_of 769 (by decide +kernel) (by decide +kernel)
theorem xj_770 : Cond.selects n_Hb y_Hb_keep y_Hb_keep ∈ TW := tw_of 770 (by decide +kernel) (by decide +kernel)
theorem xj_771 : Cond.code y_Hb_keep c_Hb_keep 5 (some .int) ∈ TW := tw_of 771 (by decide +kernel) (by decide +kernel)
theorem xj_1370 : Cond.methodLink n_Lw 167 y_Mo_keep ∈ TW := tw_of 1370 (by decide +kernel) (by decide +kernel)
theorem xj_1371 : Cond.instanceMethod y_Mo_keep ∈ TW := tw_of 1371 (by decide +kernel) (by decide +kernel)
theorem xj_1372 : Cond.selects n_Mo y_Mo_keep y_Mo_keep ∈ TW := tw_of 1372 (by decide +kernel) (by decide +kernel)
theorem xj_1373 : Cond.code y_Mo_keep c_Mo_keep 5 (some .int) ∈ TW := tw_of 1373 (by decide +kernel) (by decide +kernel)
theorem xj_773 : Cond.methodLink n_Lw 168 y_Hb_row ∈ TW := tw_of 773 (by decide +kernel) (by decide +kernel)
theorem xj_774 : Cond.instanceMethod y_Hb_row ∈ TW := tw_of 774 (by decide +kernel) (by decide +kernel)
theorem xj_775 : Cond.selects n_Hb y_Hb_row y_Hb_row ∈ TW := tw_of 775 (by decide +kernel) (by decide +kernel)
theorem xj_776 : Cond.code y_Hb_row c_Hb_row 4 (some .int) ∈ TW := tw_of 776 (by decide +kernel) (by decide +kernel)
theorem xj_1375 : Cond.methodLink n_Lw 171 y_Mo_row ∈ TW := tw_of 1375 (by decide +kernel) (by decide +kernel)
theorem xj_1376 : Cond.instanceMethod y_Mo_row ∈ TW := tw_of 1376 (by decide +kernel) (by decide +kernel)
theorem xj_1377 : Cond.selects n_Mo y_Mo_row y_Mo_row ∈ TW := tw_of 1377 (by decide +kernel) (by decide +kernel)
theorem xj_1378 : Cond.code y_Mo_row c_Mo_row 5 (some .int) ∈ TW := tw_of 1378 (by decide +kernel) (by decide +kernel)
theorem xj_781 : Cond.methodLink n_Lw 172 y_Hb_put ∈ TW := tw_of 781 (by decide +kernel) (by decide +kernel)
theorem xj_782 : Cond.instanceMethod y_Hb_put ∈ TW := tw_of 782 (by decide +kernel) (by decide +kernel)
theorem xj_783 : Cond.selects n_Hb y_Hb_put y_Hb_put ∈ TW := tw_of 783 (by decide +kernel) (by decide +kernel)
theorem xj_784 : Cond.code y_Hb_put c_Hb_put 5 (some .int) ∈ TW := tw_of 784 (by decide +kernel) (by decide +kernel)
theorem xj_1379 : Cond.methodLink n_Lw 175 y_Mo_put ∈ TW := tw_of 1379 (by decide +kernel) (by decide +kernel)
theorem xj_1380 : Cond.instanceMethod y_Mo_put ∈ TW := tw_of 1380 (by decide +kernel) (by decide +kernel)
theorem xj_1381 : Cond.selects n_Mo y_Mo_put y_Mo_put ∈ TW := tw_of 1381 (by decide +kernel) (by decide +kernel)
theorem xj_1382 : Cond.code y_Mo_put c_Mo_put 5 (some .int) ∈ TW := tw_of 1382 (by decide +kernel) (by decide +kernel)
theorem xj_1386 : Cond.methodLink n_Lw 181 y_Mo_element ∈ TW := tw_of 1386 (by decide +kernel) (by decide +kernel)
theorem xj_1387 : Cond.instanceMethod y_Mo_element ∈ TW := tw_of 1387 (by decide +kernel) (by decide +kernel)
theorem xj_1388 : Cond.selects n_Mo y_Mo_element y_Mo_element ∈ TW := tw_of 1388 (by decide +kernel) (by decide +kernel)
theorem xj_1389 : Cond.code y_Mo_element c_Mo_element 4 (some .long) ∈ TW := tw_of 1389 (by decide +kernel) (by decide +kernel)
theorem xj_1051 : Cond.methodLink n_Lw 182 y_Mo_thrown ∈ TW := tw_of 1051 (by decide +kernel) (by decide +kernel)
theorem xj_1052 : Cond.instanceMethod y_Mo_thrown ∈ TW := tw_of 1052 (by decide +kernel) (by decide +kernel)
theorem xj_1053 : Cond.selects n_Mo y_Mo_thrown y_Mo_thrown ∈ TW := tw_of 1053 (by decide +kernel) (by decide +kernel)
theorem xj_1054 : Cond.code y_Mo_thrown c_Mo_thrown 1 (some .int) ∈ TW := tw_of 1054 (by decide +kernel) (by decide +kernel)
theorem xj_789 : Cond.methodLink n_Lw 185 y_Hb_copy ∈ TW := tw_of 789 (by decide +kernel) (by decide +kernel)
theorem xj_790 : Cond.instanceMethod y_Hb_copy ∈ TW := tw_of 790 (by decide +kernel) (by decide +kernel)
theorem xj_791 : Cond.selects n_Hb y_Hb_copy y_Hb_copy ∈ TW := tw_of 791 (by decide +kernel) (by decide +kernel)
theorem xj_792 : Cond.code y_Hb_copy c_Hb_copy 8 (some .int) ∈ TW := tw_of 792 (by decide +kernel) (by decide +kernel)
theorem xj_1390 : Cond.methodLink n_Lw 189 y_Mo_copy ∈ TW := tw_of 1390 (by decide +kernel) (by decide +kernel)
theorem xj_1391 : Cond.instanceMethod y_Mo_copy ∈ TW := tw_of 1391 (by decide +kernel) (by decide +kernel)
theorem xj_1392 : Cond.selects n_Mo y_Mo_copy y_Mo_copy ∈ TW := tw_of 1392 (by decide +kernel) (by decide +kernel)
theorem xj_1393 : Cond.code y_Mo_copy c_Mo_copy 7 (some .int) ∈ TW := tw_of 1393 (by decide +kernel) (by decide +kernel)
theorem xj_796 : Cond.methodLink n_Lw 190 y_Hb_cost ∈ TW := tw_of 796 (by decide +kernel) (by decide +kernel)
theorem xj_797 : Cond.instanceMethod y_Hb_cost ∈ TW := tw_of 797 (by decide +kernel) (by decide +kernel)
theorem xj_798 : Cond.selects n_Hb y_Hb_cost y_Hb_cost ∈ TW := tw_of 798 (by decide +kernel) (by decide +kernel)
theorem xj_799 : Cond.code y_Hb_cost c_Hb_cost 3 (some .int) ∈ TW := tw_of 799 (by decide +kernel) (by decide +kernel)
theorem xj_1394 : Cond.methodLink n_Lw 193 y_Mo_cost ∈ TW := tw_of 1394 (by decide +kernel) (by decide +kernel)
theorem xj_1395 : Cond.instanceMethod y_Mo_cost ∈ TW := tw_of 1395 (by decide +kernel) (by decide +kernel)
theorem xj_1396 : Cond.selects n_Mo y_Mo_cost y_Mo_cost ∈ TW := tw_of 1396 (by decide +kernel) (by decide +kernel)
theorem xj_1397 : Cond.code y_Mo_cost c_Mo_cost 2 (some .int) ∈ TW := tw_of 1397 (by decide +kernel) (by decide +kernel)
theorem xj_1398 : Cond.methodLink n_Lw 197 y_Mo_toss ∈ TW := tw_of 1398 (by decide +kernel) (by decide +kernel)
theorem xj_1399 : Cond.instanceMethod y_Mo_toss ∈ TW := tw_of 1399 (by decide +kernel) (by decide +kernel)
theorem xj_1400 : Cond.selects n_Mo y_Mo_toss y_Mo_toss ∈ TW := tw_of 1400 (by decide +kernel) (by decide +kernel)
theorem xj_1401 : Cond.code y_Mo_toss c_Mo_toss 4 (some .int) ∈ TW := tw_of 1401 (by decide +kernel) (by decide +kernel)
theorem q_Lw_21 : LkV n_Lw n_Hb 21 y_Hb_land c_Hb_land 8 (some .int) 1 := lkV 1 xj_256 xj_257 xj_258 xj_52 xj_259 (by decide +kernel)
theorem q_Lw_25 : LkV n_Lw n_Mo 25 y_Mo_land c_Mo_land 4 (some .int) 1 := lkV 1 xj_1055 xj_1056 xj_1057 xj_64 xj_1058 (by decide +kernel)
theorem q_Lw_26 : LkV n_Lw n_Hb 26 y_Hb_horse c_Hb_horse 4 (some .int) 2 := lkV 2 xj_458 xj_459 xj_460 xj_52 xj_461 (by decide +kernel)
theorem q_Lw_30 : LkV n_Lw n_Mo 30 y_Mo_horse c_Mo_horse 3 (some .int) 2 := lkV 2 xj_1171 xj_1172 xj_1173 xj_64 xj_1174 (by decide +kernel)
theorem q_Lw_31 : LkV n_Lw n_Hb 31 y_Hb_comes c_Hb_comes 6 (some .int) 3 := lkV 3 xj_501 xj_502 xj_503 xj_52 xj_504 (by decide +kernel)
theorem q_Lw_35 : LkV n_Lw n_Mo 35 y_Mo_comes c_Mo_comes 5 (some .int) 3 := lkV 3 xj_1175 xj_1176 xj_1177 xj_64 xj_1178 (by decide +kernel)
theorem q_Lw_36 : LkV n_Lw n_Hb 36 y_Hb_rides c_Hb_rides 3 (some .int) 2 := lkV 2 xj_511 xj_512 xj_513 xj_52 xj_514 (by decide +kernel)
theorem q_Lw_39 : LkV n_Lw n_Mo 39 y_Mo_rides c_Mo_rides 4 (some .int) 2 := lkV 2 xj_1183 xj_1184 xj_1185 xj_64 xj_1186 (by decide +kernel)
theorem q_Lw_40 : LkV n_Lw n_Hb 40 y_Hb_taken c_Hb_taken 4 (some .int) 2 := lkV 2 xj_528 xj_529 xj_530 xj_52 xj_531 (by decide +kernel)
theorem q_Lw_43 : LkV n_Lw n_Mo 43 y_Mo_taken c_Mo_taken 4 (some .int) 2 := lkV 2 xj_1187 xj_1188 xj_1189 xj_64 xj_1190 (by decide +kernel)
theorem q_Lw_44 : LkV n_Lw n_Hb 44 y_Hb_longs c_Hb_longs 4 (some .int) 2 := lkV 2 xj_532 xj_533 xj_534 xj_52 xj_535 (by decide +kernel)
theorem q_Lw_47 : LkV n_Lw n_Mo 47 y_Mo_longs c_Mo_longs 4 (some .int) 2 := lkV 2 xj_1191 xj_1192 xj_1193 xj_64 xj_1194 (by decide +kernel)
theorem q_Lw_48 : LkV n_Lw n_Hb 48 y_Hb_hangs c_Hb_hangs 3 (some .int) 1 := lkV 1 xj_536 xj_537 xj_538 xj_52 xj_539 (by decide +kernel)
theorem q_Lw_51 : LkV n_Lw n_Mo 51 y_Mo_hangs c_Mo_hangs 3 (some .int) 1 := lkV 1 xj_1196 xj_1197 xj_1198 xj_64 xj_1199 (by decide +kernel)
theorem q_Lw_52 : LkV n_Lw n_Hb 52 y_Hb_days c_Hb_days 2 (some .int) 1 := lkV 1 xj_540 xj_541 xj_542 xj_52 xj_543 (by decide +kernel)
theorem q_Lw_55 : LkV n_Lw n_Mo 55 y_Mo_days c_Mo_days 2 (some .int) 1 := lkV 1 xj_1200 xj_1201 xj_1202 xj_64 xj_1203 (by decide +kernel)
theorem q_Lw_56 : LkV n_Lw n_Hb 56 y_Hb_howLong c_Hb_howLong 3 (some .int) 2 := lkV 2 xj_549 xj_550 xj_551 xj_52 xj_552 (by decide +kernel)
theorem q_Lw_59 : LkV n_Lw n_Mo 59 y_Mo_howLong c_Mo_howLong 3 (some .int) 2 := lkV 2 xj_1208 xj_1209 xj_1210 xj_64 xj_1211 (by decide +kernel)
theorem q_Lw_60 : LkV n_Lw n_Hb 60 y_Hb_behind c_Hb_behind 4 (some .int) 3 := lkV 3 xj_553 xj_554 xj_555 xj_52 xj_556 (by decide +kernel)
theorem q_Lw_63 : LkV n_Lw n_Mo 63 y_Mo_behind c_Mo_behind 5 (some .int) 3 := lkV 3 xj_1216 xj_1217 xj_1218 xj_64 xj_1219 (by decide +kernel)
theorem q_Lw_64 : LkV n_Lw n_Hb 64 y_Hb_chain c_Hb_chain 8 (some .int) 3 := lkV 3 xj_564 xj_565 xj_566 xj_52 xj_567 (by decide +kernel)
theorem q_Lw_67 : LkV n_Lw n_Mo 67 y_Mo_chain c_Mo_chain 8 (some .int) 3 := lkV 3 xj_1220 xj_1221 xj_1222 xj_64 xj_1223 (by decide +kernel)
theorem q_Lw_68 : LkV n_Lw n_Hb 68 y_Hb_hurry c_Hb_hurry 7 (some .int) 2 := lkV 2 xj_575 xj_576 xj_577 xj_52 xj_578 (by decide +kernel)
theorem q_Lw_71 : LkV n_Lw n_Mo 71 y_Mo_hurry c_Mo_hurry 7 (some .int) 2 := lkV 2 xj_1236 xj_1237 xj_1238 xj_64 xj_1239 (by decide +kernel)
theorem q_Lw_72 : LkV n_Lw n_Hb 72 y_Hb_fastest c_Hb_fastest 5 (some .int) 1 := lkV 1 xj_579 xj_580 xj_581 xj_52 xj_582 (by decide +kernel)
theorem q_Lw_75 : LkV n_Lw n_Mo 75 y_Mo_fastest c_Mo_fastest 4 (some .int) 1 := lkV 1 xj_1240 xj_1241 xj_1242 xj_64 xj_1243 (by decide +kernel)
theorem q_Lw_76 : LkV n_Lw n_Hb 76 y_Hb_away c_Hb_away 3 (some .int) 0 := lkV 0 xj_583 xj_584 xj_585 xj_52 xj_586 (by decide +kernel)
theorem q_Lw_80 : LkV n_Lw n_Mo 80 y_Mo_away c_Mo_away 3 (some .int) 0 := lkV 0 xj_1244 xj_1245 xj_1246 xj_64 xj_1247 (by decide +kernel)
theorem q_Lw_81 : LkV n_Lw n_Hb 81 y_Hb_ripe c_Hb_ripe 4 (some .int) 2 := lkV 2 xj_592 xj_593 xj_594 xj_52 xj_595 (by decide +kernel)
theorem q_Lw_84 : LkV n_Lw n_Mo 84 y_Mo_ripe c_Mo_ripe 5 (some .int) 2 := lkV 2 xj_1248 xj_1249 xj_1250 xj_64 xj_1251 (by decide +kernel)
theorem q_Lw_85 : LkV n_Lw n_Hb 85 y_Hb_leastLonging c_Hb_leastLonging 5 (some .int) 3 := lkV 3 xj_596 xj_597 xj_598 xj_52 xj_599 (by decide +kernel)
theorem q_Lw_88 : LkV n_Lw n_Mo 88 y_Mo_leastLonging c_Mo_leastLonging 6 (some .int) 3 := lkV 3 xj_1252 xj_1253 xj_1254 xj_64 xj_1255 (by decide +kernel)
theorem q_Lw_89 : LkV n_Lw n_Hb 89 y_Hb_soonest c_Hb_soonest 8 (some .int) 3 := lkV 3 xj_600 xj_601 xj_602 xj_52 xj_603 (by decide +kernel)
theorem q_Lw_92 : LkV n_Lw n_Mo 92 y_Mo_soonest c_Mo_soonest 8 (some .int) 3 := lkV 3 xj_1256 xj_1257 xj_1258 xj_64 xj_1259 (by decide +kernel)
theorem q_Lw_93 : LkV n_Lw n_Hb 93 y_Hb_race c_Hb_race 6 (some .int) 3 := lkV 3 xj_608 xj_609 xj_610 xj_52 xj_611 (by decide +kernel)
theorem q_Lw_96 : LkV n_Lw n_Mo 96 y_Mo_race c_Mo_race 6 (some .int) 3 := lkV 3 xj_1260 xj_1261 xj_1262 xj_64 xj_1263 (by decide +kernel)
theorem q_Lw_97 : LkV n_Lw n_Hb 97 y_Hb_walkAhead c_Hb_walkAhead 9 (some .int) 4 := lkV 4 xj_612 xj_613 xj_614 xj_52 xj_615 (by decide +kernel)
theorem q_Lw_101 : LkV n_Lw n_Mo 101 y_Mo_walkAhead c_Mo_walkAhead 9 (some .int) 4 := lkV 4 xj_1264 xj_1265 xj_1266 xj_64 xj_1267 (by decide +kernel)
theorem q_Lw_102 : LkV n_Lw n_Hb 102 y_Hb_hang c_Hb_hang 7 (some .int) 2 := lkV 2 xj_616 xj_617 xj_618 xj_52 xj_619 (by decide +kernel)
theorem q_Lw_105 : LkV n_Lw n_Mo 105 y_Mo_hang c_Mo_hang 7 (some .int) 2 := lkV 2 xj_1269 xj_1270 xj_1271 xj_64 xj_1272 (by decide +kernel)
theorem q_Lw_106 : LkV n_Lw n_Hb 106 y_Hb_meet c_Hb_meet 7 (some .int) 1 := lkV 1 xj_620 xj_621 xj_622 xj_52 xj_623 (by decide +kernel)
theorem q_Lw_109 : LkV n_Lw n_Mo 109 y_Mo_meet c_Mo_meet 7 (some .int) 1 := lkV 1 xj_1273 xj_1274 xj_1275 xj_64 xj_1276 (by decide +kernel)
theorem q_Lw_110 : LkV n_Lw n_Hb 110 y_Hb_spread c_Hb_spread 6 (some .int) 0 := lkV 0 xj_624 xj_625 xj_626 xj_52 xj_627 (by decide +kernel)
theorem q_Lw_113 : LkV n_Lw n_Mo 113 y_Mo_spread c_Mo_spread 6 (some .int) 0 := lkV 0 xj_1277 xj_1278 xj_1279 xj_64 xj_1280 (by decide +kernel)
theorem q_Lw_114 : LkV n_Lw n_Hb 114 y_Hb_fees c_Hb_fees 7 (some .int) 2 := lkV 2 xj_629 xj_630 xj_631 xj_52 xj_632 (by decide +kernel)
theorem q_Lw_117 : LkV n_Lw n_Mo 117 y_Mo_fees c_Mo_fees 5 (some .int) 2 := lkV 2 xj_1281 xj_1282 xj_1283 xj_64 xj_1284 (by decide +kernel)
theorem q_Lw_118 : LkV n_Lw n_Hb 118 y_Hb_homes c_Hb_homes 8 (some .int) 4 := lkV 4 xj_668 xj_669 xj_670 xj_52 xj_671 (by decide +kernel)
theorem q_Lw_121 : LkV n_Lw n_Mo 121 y_Mo_homes c_Mo_homes 10 (some .int) 4 := lkV 4 xj_1293 xj_1294 xj_1295 xj_64 xj_1296 (by decide +kernel)
theorem q_Lw_122 : LkV n_Lw n_Hb 122 y_Hb_whatIs c_Hb_whatIs 6 (some .int) 4 := lkV 4 xj_693 xj_694 xj_695 xj_52 xj_696 (by decide +kernel)
theorem q_Lw_125 : LkV n_Lw n_Mo 125 y_Mo_whatIs c_Mo_whatIs 8 (some .int) 4 := lkV 4 xj_1308 xj_1309 xj_1310 xj_64 xj_1311 (by decide +kernel)
theorem q_Lw_126 : LkV n_Lw n_Hb 126 y_Hb_two c_Hb_two 7 (some .int) 3 := lkV 3 xj_705 xj_706 xj_707 xj_52 xj_708 (by decide +kernel)
theorem q_Lw_129 : LkV n_Lw n_Mo 129 y_Mo_two c_Mo_two 7 (some .int) 3 := lkV 3 xj_1312 xj_1313 xj_1314 xj_64 xj_1315 (by decide +kernel)
theorem q_Lw_130 : LkV n_Lw n_Hb 130 y_Hb_storm c_Hb_storm 13 (some .long) 5 := lkV 5 xj_716 xj_717 xj_718 xj_52 xj_719 (by decide +kernel)
theorem q_Lw_134 : LkV n_Lw n_Mo 134 y_Mo_storm c_Mo_storm 14 (some .long) 5 := lkV 5 xj_1324 xj_1325 xj_1326 xj_64 xj_1327 (by decide +kernel)
theorem q_Lw_135 : LkV n_Lw n_Hb 135 y_Hb_mean c_Hb_mean 2 (some .long) 1 := lkV 1 xj_724 xj_725 xj_726 xj_52 xj_727 (by decide +kernel)
theorem q_Lw_139 : LkV n_Lw n_Mo 139 y_Mo_mean c_Mo_mean 2 (some .long) 1 := lkV 1 xj_1339 xj_1340 xj_1341 xj_64 xj_1342 (by decide +kernel)
theorem q_Lw_140 : LkV n_Lw n_Hb 140 y_Hb_forged c_Hb_forged 9 (some .int) 1 := lkV 1 xj_731 xj_732 xj_733 xj_52 xj_734 (by decide +kernel)
theorem q_Lw_143 : LkV n_Lw n_Mo 143 y_Mo_forged c_Mo_forged 11 (some .int) 1 := lkV 1 xj_1343 xj_1344 xj_1345 xj_64 xj_1346 (by decide +kernel)
theorem q_Lw_144 : LkV n_Lw n_Hb 144 y_Hb_judge c_Hb_judge 5 (some .int) 1 := lkV 1 xj_735 xj_736 xj_737 xj_52 xj_738 (by decide +kernel)
theorem q_Lw_147 : LkV n_Lw n_Mo 147 y_Mo_judge c_Mo_judge 7 (some .int) 1 := lkV 1 xj_1347 xj_1348 xj_1349 xj_64 xj_1350 (by decide +kernel)
theorem q_Lw_148 : LkV n_Lw n_Hb 148 y_Hb_lands c_Hb_lands 10 (some .int) 3 := lkV 3 xj_739 xj_740 xj_741 xj_52 xj_742 (by decide +kernel)
theorem q_Lw_151 : LkV n_Lw n_Mo 151 y_Mo_lands c_Mo_lands 7 (some .int) 3 := lkV 3 xj_1351 xj_1352 xj_1353 xj_64 xj_1354 (by decide +kernel)
theorem q_Lw_152 : LkV n_Lw n_Hb 152 y_Hb_image c_Hb_image 1 (some .int) 0 := lkV 0 xj_751 xj_752 xj_753 xj_52 xj_754 (by decide +kernel)
theorem q_Lw_155 : LkV n_Lw n_Mo 155 y_Mo_image c_Mo_image 1 (some .int) 0 := lkV 0 xj_1163 xj_1164 xj_1165 xj_64 xj_1166 (by decide +kernel)
theorem q_Lw_156 : LkV n_Lw n_Hb 156 y_Hb_restore c_Hb_restore 1 (some .int) 0 := lkV 0 xj_755 xj_756 xj_757 xj_52 xj_758 (by decide +kernel)
theorem q_Lw_159 : LkV n_Lw n_Mo 159 y_Mo_restore c_Mo_restore 1 (some .int) 0 := lkV 0 xj_1167 xj_1168 xj_1169 xj_64 xj_1170 (by decide +kernel)
theorem q_Lw_160 : LkV n_Lw n_Hb 160 y_Hb_count c_Hb_count 2 (some .int) 1 := lkV 1 xj_759 xj_760 xj_761 xj_52 xj_762 (by decide +kernel)
theorem q_Lw_163 : LkV n_Lw n_Mo 163 y_Mo_count c_Mo_count 4 (some .int) 1 := lkV 1 xj_1366 xj_1367 xj_1368 xj_64 xj_1369 (by decide +kernel)
theorem q_Lw_164 : LkV n_Lw n_Hb 164 y_Hb_keep c_Hb_keep 5 (some .int) 4 := lkV 4 xj_768 xj_769 xj_770 xj_52 xj_771 (by decide +kernel)
theorem q_Lw_167 : LkV n_Lw n_Mo 167 y_Mo_keep c_Mo_keep 5 (some .int) 4 := lkV 4 xj_1370 xj_1371 xj_1372 xj_64 xj_1373 (by decide +kernel)
theorem q_Lw_168 : LkV n_Lw n_Hb 168 y_Hb_row c_Hb_row 4 (some .int) 3 := lkV 3 xj_773 xj_774 xj_775 xj_52 xj_776 (by decide +kernel)
theorem q_Lw_171 : LkV n_Lw n_Mo 171 y_Mo_row c_Mo_row 5 (some .int) 3 := lkV 3 xj_1375 xj_1376 xj_1377 xj_64 xj_1378 (by decide +kernel)
theorem q_Lw_172 : LkV n_Lw n_Hb 172 y_Hb_put c_Hb_put 5 (some .int) 3 := lkV 3 xj_781 xj_782 xj_783 xj_52 xj_784 (by decide +kernel)
theorem q_Lw_175 : LkV n_Lw n_Mo 175 y_Mo_put c_Mo_put 5 (some .int) 3 := lkV 3 xj_1379 xj_1380 xj_1381 xj_64 xj_1382 (by decide +kernel)
theorem q_Lw_181 : LkV n_Lw n_Mo 181 y_Mo_element c_Mo_element 4 (some .long) 2 := lkV 2 xj_1386 xj_1387 xj_1388 xj_64 xj_1389 (by decide +kernel)
theorem q_Lw_182 : LkV n_Lw n_Mo 182 y_Mo_thrown c_Mo_thrown 1 (some .int) 0 := lkV 0 xj_1051 xj_1052 xj_1053 xj_64 xj_1054 (by decide +kernel)
theorem q_Lw_185 : LkV n_Lw n_Hb 185 y_Hb_copy c_Hb_copy 8 (some .int) 5 := lkV 5 xj_789 xj_790 xj_791 xj_52 xj_792 (by decide +kernel)
theorem q_Lw_189 : LkV n_Lw n_Mo 189 y_Mo_copy c_Mo_copy 7 (some .int) 5 := lkV 5 xj_1390 xj_1391 xj_1392 xj_64 xj_1393 (by decide +kernel)
theorem q_Lw_190 : LkV n_Lw n_Hb 190 y_Hb_cost c_Hb_cost 3 (some .int) 1 := lkV 1 xj_796 xj_797 xj_798 xj_52 xj_799 (by decide +kernel)
theorem q_Lw_193 : LkV n_Lw n_Mo 193 y_Mo_cost c_Mo_cost 2 (some .int) 1 := lkV 1 xj_1394 xj_1395 xj_1396 xj_64 xj_1397 (by decide +kernel)
theorem q_Lw_197 : LkV n_Lw n_Mo 197 y_Mo_toss c_Mo_toss 4 (some .int) 1 := lkV 1 xj_1398 xj_1399 xj_1400 xj_64 xj_1401 (by decide +kernel)
theorem lg_self (r : Int64) : lg_cmp r r = 0 := by
  unfold lg_cmp
  simp
/-- the script, as the law reads it -/
def XS (g : GC) (X : MX) (b L : Nat) (xs : Nat → Int32) : Prop := match X with
  | (_, _, _, _, s, _, _, _, _, _, _, _, _) => va_X b L xs s s.heap ∧ b < s.heap.size ∧ ¬ AB g b
section SL
variable {g : GC} {X : MX} {cc : ByteArray} {nL : Nat} {own : String} {lvl : Nat} {pc : Nat} {loc : List (Nat × Value)} {rest : List Value} {w : WD} {b L : Nat} {xs : Nat → Int32}
theorem k_sld (C : Cx g X cc nL own lvl) (hX : XS g X b L xs) {i : Int32} (hi : vp_in i L) (hd : decode cc pc = .ok (.iaload, 1)) (h : Wk g X nL (pc + 1) loc (.int (xs i.toNatClampNeg) :: rest) w) : Wk g X nL pc loc (.int i :: .ref b :: rest) w := by
  obtain ⟨p, l, e, R, s, m, args, below, meth, c, Q, cells, slots⟩ := X
  obtain ⟨hx, hb, hml, hown, hts, hK, hg, hbs, hfr, hlo, hnw⟩ := C
  exact fun H locs ls hP hS hl => va_sld hx hb hX.1 hX.2.1 hX.2.2 hS hi hd (h H locs ls hP hS hl)
theorem k_slen (C : Cx g X cc nL own lvl) (hX : XS g X b L xs) (hd : decode cc pc = .ok (.arraylength, 1)) (h : Wk g X nL (pc + 1) loc (.int (Int32.ofNat L) :: rest) w) : Wk g X nL pc loc (.ref b :: rest) w := by
  obtain ⟨p, l, e, R, s, m, args, below, meth, c, Q, cells, slots⟩ := X
  obtain ⟨hx, hb, hml, hown, hts, hK, hg, hbs, hfr, hlo, hnw⟩ := C
  exact fun H locs ls hP hS hl => va_slen hx hb hX.1 hX.2.1 hX.2.2 hS hd (h H locs ls hP hS hl)
end SL
abbrev lwloc (g : GC) (b : Nat) (v4 : Int32) : List (Nat × Value) := [(4, .int v4), (0, .ref b), (1, .ref (g_a g 0)), (2, .ref (g_a g 83)), (3, .ref (g_a g 104))]
/-- both sides answer alike, and the coupling stays -/
def St2 {α : Type} (I : XD → MD → Prop) (fx : XD → Option (α × XD)) (fm : MD → Option (α × MD)) : Prop := ∀ x m, I x m → ∃ r x' m', fx x = some (r, x') ∧ fm m = some (r, m') ∧ I x' m'
def StE (I : XD → MD → Prop) : Prop := ∀ a b x m, I x m → ∃ E v x' r m', f_Hb_element a b x = some ((E, v), x') ∧ (E = none ∨ E = some xE_a ∨ E = some xE_i) ∧ f_Mo_element a b m = some (r, m') ∧ m'.1 83 14 = x_code E ∧ (E = none → v = r) ∧ I x' m'
def LawOk (I : XD → MD → Prop) : Prop :=
  (∀ a1, St2 I (f_Hb_land a1) (f_Mo_land a1)) ∧
  (∀ a1 a2, St2 I (f_Hb_horse a1 a2) (f_Mo_horse a1 a2)) ∧
  (∀ a1 a2 a3, St2 I (f_Hb_comes a1 a2 a3) (f_Mo_comes a1 a2 a3)) ∧
  (∀ a1 a2, St2 I (f_Hb_rides a1 a2) (f_Mo_rides a1 a2)) ∧
  (∀ a1 a2, St2 I (f_Hb_taken a1 a2) (f_Mo_taken a1 a2)) ∧
  (∀ a1 a2, St2 I (f_Hb_longs a1 a2) (f_Mo_longs a1 a2)) ∧
  (∀ a1, St2 I (f_Hb_hangs a1) (f_Mo_hangs a1)) ∧
  (∀ a1, St2 I (f_Hb_days a1) (f_Mo_days a1)) ∧
  (∀ a1 a2, St2 I (f_Hb_howLong a1 a2) (f_Mo_howLong a1 a2)) ∧
  (∀ a1 a2 a3, St2 I (f_Hb_behind a1 a2 a3) (f_Mo_behind a1 a2 a3)) ∧
  (∀ a1 a2 a3, St2 I (f_Hb_chain a1 a2 a3) (f_Mo_chain a1 a2 a3)) ∧
  (∀ a1 a2, St2 I (f_Hb_hurry a1 a2) (f_Mo_hurry a1 a2)) ∧
  (∀ a1, St2 I (f_Hb_fastest a1) (f_Mo_fastest a1)) ∧
  (St2 I (f_Hb_away) (f_Mo_away)) ∧
  (∀ a1 a2, St2 I (f_Hb_ripe a1 a2) (f_Mo_ripe a1 a2)) ∧
  (∀ a1 a2 a3, St2 I (f_Hb_leastLonging a1 a2 a3) (f_Mo_leastLonging a1 a2 a3)) ∧
  (∀ a1 a2 a3, St2 I (f_Hb_soonest a1 a2 a3) (f_Mo_soonest a1 a2 a3)) ∧
  (∀ a1 a2 a3, St2 I (f_Hb_race a1 a2 a3) (f_Mo_race a1 a2 a3)) ∧
  (∀ a1 a2 a3 a4, St2 I (f_Hb_walkAhead a1 a2 a3 a4) (f_Mo_walkAhead a1 a2 a3 a4)) ∧
  (∀ a1 a2, St2 I (f_Hb_hang a1 a2) (f_Mo_hang a1 a2)) ∧
  (∀ a1, St2 I (f_Hb_meet a1) (f_Mo_meet a1)) ∧
  (St2 I (f_Hb_spread) (f_Mo_spread)) ∧
  (∀ a1 a2, St2 I (f_Hb_fees a1 a2) (f_Mo_fees a1 a2)) ∧
  (∀ a1 a2 a3 a4, St2 I (f_Hb_homes a1 a2 a3 a4) (f_Mo_homes a1 a2 a3 a4)) ∧
  (∀ a1 a2 a3 a4, St2 I (f_Hb_whatIs a1 a2 a3 a4) (f_Mo_whatIs a1 a2 a3 a4)) ∧
  (∀ a1 a2 a3, St2 I (f_Hb_two a1 a2 a3) (f_Mo_two a1 a2 a3)) ∧
  (∀ a1 a2 a3 a4 a5, St2 I (f_Hb_storm a1 a2 a3 a4 a5) (f_Mo_storm a1 a2 a3 a4 a5)) ∧
  (∀ a1, St2 I (f_Hb_mean a1) (f_Mo_mean a1)) ∧
  (∀ a1, St2 I (f_Hb_forged a1) (f_Mo_forged a1)) ∧
  (∀ a1, St2 I (f_Hb_judge a1) (f_Mo_judge a1)) ∧
  (∀ a1 a2 a3, St2 I (f_Hb_lands a1 a2 a3) (f_Mo_lands a1 a2 a3)) ∧
  (St2 I (f_Hb_image) (f_Mo_image)) ∧
  (St2 I (f_Hb_restore) (f_Mo_restore)) ∧
  (∀ a1, St2 I (f_Hb_count a1) (f_Mo_count a1)) ∧
  (∀ a1 a2 a3 a4, St2 I (f_Hb_keep a1 a2 a3 a4) (f_Mo_keep a1 a2 a3 a4)) ∧
  (∀ a1 a2 a3, St2 I (f_Hb_row a1 a2 a3) (f_Mo_row a1 a2 a3)) ∧
  (∀ a1 a2 a3, St2 I (f_Hb_put a1 a2 a3) (f_Mo_put a1 a2 a3)) ∧
  (StE I) ∧
  (∀ a1 a2 a3 a4 a5, St2 I (f_Hb_copy a1 a2 a3 a4 a5) (f_Mo_copy a1 a2 a3 a4 a5)) ∧
  (∀ a1, St2 I (f_Hb_cost a1) (f_Mo_cost a1)) ∧
  (∀ a1, St2 I (f_Hb_toss a1) (f_Mo_toss a1))
theorem lc_0 {g : GC} {X : MX} {b L : Nat} {xs : Nat → Int32} {v4 : Int32} (C : Cx g X code 8 n_Lw 100) (hX : XS g X b L xs) (hc : X.2.2.2.2.2.2.2.2.2.2.2.1 ≤ X.2.2.2.1.cells ∧ X.2.2.2.2.2.2.2.2.2.2.2.2 ≤ X.2.2.2.1.slots) (hi1 : vp_in (v4 + 1) L) (hi2 : vp_in (v4 + 2) L) (hi3 : vp_in (v4 + 3) L) (hi4 : vp_in (v4 + 4) L) (hi5 : vp_in (v4 + 5) L) {x x' : XD} {m m' : MD} {oo : Nat → Int64} {r : Int32} (e1 : f_Hb_land (xs (v4 + 1).toNatClampNeg) x = some (r, x')) (e2 : f_Mo_land (xs (v4 + 1).toNatClampNeg) m = some (r, m')) (h : Wk g X 8 1829 (lwloc g b v4) [] (x', m', oo)) : Wk g X 8 220 (lwloc g b v4) [] (x, m, oo) := by
  refine k_aload_n C d_Lw_law_220 2 rfl ?_
  refine k_aload_n C d_Lw_law_221 1 rfl ?_
  refine k_iload C d_Lw_law_222 0 rfl ?_
  refine k_iconst C 1 d_Lw_law_224 ic_1 ?_
  refine k_iadd C d_Lw_law_225 ?_
  refine k_sld C hX hi1 d_Lw_law_226 ?_
  refine k_callVi C q_Lw_21 (fun l => m_Hb_land (cx_g C) l (xs (v4 + 1).toNatClampNeg) x (m, oo) (r, x') e1) rfl rfl hc (by decide) sh_Hb rfl rfl rfl rfl d_Lw_law_227 ?_
  refine k_aload_n C d_Lw_law_230 3 rfl ?_
  refine k_aload_n C d_Lw_law_231 1 rfl ?_
  refine k_iload C d_Lw_law_232 0 rfl ?_
  refine k_iconst C 1 d_Lw_law_234 ic_1 ?_
  refine k_iadd C d_Lw_law_235 ?_
  refine k_sld C hX hi1 d_Lw_law_236 ?_
  refine k_callVi C q_Lw_25 (fun l => m_Mo_land (cx_g C) l (xs (v4 + 1).toNatClampNeg) m x' oo (r, m') e2) rfl rfl hc (by decide) sh_Mo rfl rfl rfl rfl d_Lw_law_237 ?_
  refine k_icmp_eq C 1829 d_Lw_law_240 (by decide) (fun c => ?_) (fun c => ?_)
  · exact h
  · exact absurd rfl c
theorem lc_1 {g : GC} {X : MX} {b L : Nat} {xs : Nat → Int32} {v4 : Int32} (C : Cx g X code 8 n_Lw 100) (hX : XS g X b L xs) (hc : X.2.2.2.2.2.2.2.2.2.2.2.1 ≤ X.2.2.2.1.cells ∧ X.2.2.2.2.2.2.2.2.2.2.2.2 ≤ X.2.2.2.1.slots) (hi1 : vp_in (v4 + 1) L) (hi2 : vp_in (v4 + 2) L) (hi3 : vp_in (v4 + 3) L) (hi4 : vp_in (v4 + 4) L) (hi5 : vp_in (v4 + 5) L) {x x' : XD} {m m' : MD} {oo : Nat → Int64} {r : Int32} (e1 : f_Hb_horse (xs (v4 + 1).toNatClampNeg) (xs (v4 + 2).toNatClampNeg) x = some (r, x')) (e2 : f_Mo_horse (xs (v4 + 1).toNatClampNeg) (xs (v4 + 2).toNatClampNeg) m = some (r, m')) (h : Wk g X 8 1829 (lwloc g b v4) [] (x', m', oo)) : Wk g X 8 245 (lwloc g b v4) [] (x, m, oo) := by
  refine k_aload_n C d_Lw_law_245 2 rfl ?_
  refine k_aload_n C d_Lw_law_246 1 rfl ?_
  refine k_iload C d_Lw_law_247 0 rfl ?_
  refine k_iconst C 1 d_Lw_law_249 ic_1 ?_
  refine k_iadd C d_Lw_law_250 ?_
  refine k_sld C hX hi1 d_Lw_law_251 ?_
  refine k_aload_n C d_Lw_law_252 1 rfl ?_
  refine k_iload C d_Lw_law_253 0 rfl ?_
  refine k_iconst C 2 d_Lw_law_255 ic_2 ?_
  refine k_iadd C d_Lw_law_256 ?_
  refine k_sld C hX hi2 d_Lw_law_257 ?_
  refine k_callVi C q_Lw_26 (fun l => m_Hb_horse (cx_g C) l (xs (v4 + 1).toNatClampNeg) (xs (v4 + 2).toNatClampNeg) x (m, oo) (r, x') e1) rfl rfl hc (by decide) sh_Hb rfl rfl rfl rfl d_Lw_law_258 ?_
  refine k_aload_n C d_Lw_law_261 3 rfl ?_
  refine k_aload_n C d_Lw_law_262 1 rfl ?_
  refine k_iload C d_Lw_law_263 0 rfl ?_
  refine k_iconst C 1 d_Lw_law_265 ic_1 ?_
  refine k_iadd C d_Lw_law_266 ?_
  refine k_sld C hX hi1 d_Lw_law_267 ?_
  refine k_aload_n C d_Lw_law_268 1 rfl ?_
  refine k_iload C d_Lw_law_269 0 rfl ?_
  refine k_iconst C 2 d_Lw_law_271 ic_2 ?_
  refine k_iadd C d_Lw_law_272 ?_
  refine k_sld C hX hi2 d_Lw_law_273 ?_
  refine k_callVi C q_Lw_30 (fun l => m_Mo_horse (cx_g C) l (xs (v4 + 1).toNatClampNeg) (xs (v4 + 2).toNatClampNeg) m x' oo (r, m') e2) rfl rfl hc (by decide) sh_Mo rfl rfl rfl rfl d_Lw_law_274 ?_
  refine k_icmp_eq C 1829 d_Lw_law_277 (by decide) (fun c => ?_) (fun c => ?_)
  · exact h
  · exact absurd rfl c
theorem lc_2 {g : GC} {X : MX} {b L : Nat} {xs : Nat → Int32} {v4 : Int32} (C : Cx g X code 8 n_Lw 100) (hX : XS g X b L xs) (hc : X.2.2.2.2.2.2.2.2.2.2.2.1 ≤ X.2.2.2.1.cells ∧ X.2.2.2.2.2.2.2.2.2.2.2.2 ≤ X.2.2.2.1.slots) (hi1 : vp_in (v4 + 1) L) (hi2 : vp_in (v4 + 2) L) (hi3 : vp_in (v4 + 3) L) (hi4 : vp_in (v4 + 4) L) (hi5 : vp_in (v4 + 5) L) {x x' : XD} {m m' : MD} {oo : Nat → Int64} {r : Int32} (e1 : f_Hb_comes (xs (v4 + 1).toNatClampNeg) (xs (v4 + 2).toNatClampNeg) (xs (v4 + 3).toNatClampNeg) x = some (r, x')) (e2 : f_Mo_comes (xs (v4 + 1).toNatClampNeg) (xs (v4 + 2).toNatClampNeg) (xs (v4 + 3).toNatClampNeg) m = some (r, m')) (h : Wk g X 8 1829 (lwloc g b v4) [] (x', m', oo)) : Wk g X 8 282 (lwloc g b v4) [] (x, m, oo) := by
  refine k_aload_n C d_Lw_law_282 2 rfl ?_
  refine k_aload_n C d_Lw_law_283 1 rfl ?_
  refine k_iload C d_Lw_law_284 0 rfl ?_
  refine k_iconst C 1 d_Lw_law_286 ic_1 ?_
  refine k_iadd C d_Lw_law_287 ?_
  refine k_sld C hX hi1 d_Lw_law_288 ?_
  refine k_aload_n C d_Lw_law_289 1 rfl ?_
  refine k_iload C d_Lw_law_290 0 rfl ?_
  refine k_iconst C 2 d_Lw_law_292 ic_2 ?_
  refine k_iadd C d_Lw_law_293 ?_
  refine k_sld C hX hi2 d_Lw_law_294 ?_
  refine k_aload_n C d_Lw_law_295 1 rfl ?_
  refine k_iload C d_Lw_law_296 0 rfl ?_
  refine k_iconst C 3 d_Lw_law_298 ic_3 ?_
  refine k_iadd C d_Lw_law_299 ?_
  refine k_sld C hX hi3 d_Lw_law_300 ?_
  refine k_callVi C q_Lw_31 (fun l => m_Hb_comes (cx_g C) l (xs (v4 + 1).toNatClampNeg) (xs (v4 + 2).toNatClampNeg) (xs (v4 + 3).toNatClampNeg) x (m, oo) (r, x') e1) rfl rfl hc (by decide) sh_Hb rfl rfl rfl rfl d_Lw_law_301 ?_
  refine k_aload_n C d_Lw_law_304 3 rfl ?_
  refine k_aload_n C d_Lw_law_305 1 rfl ?_
  refine k_iload C d_Lw_law_306 0 rfl ?_
  refine k_iconst C 1 d_Lw_law_308 ic_1 ?_
  refine k_iadd C d_Lw_law_309 ?_
  refine k_sld C hX hi1 d_Lw_law_310 ?_
  refine k_aload_n C d_Lw_law_311 1 rfl ?_
  refine k_iload C d_Lw_law_312 0 rfl ?_
  refine k_iconst C 2 d_Lw_law_314 ic_2 ?_
  refine k_iadd C d_Lw_law_315 ?_
  refine k_sld C hX hi2 d_Lw_law_316 ?_
  refine k_aload_n C d_Lw_law_317 1 rfl ?_
  refine k_iload C d_Lw_law_318 0 rfl ?_
  refine k_iconst C 3 d_Lw_law_320 ic_3 ?_
  refine k_iadd C d_Lw_law_321 ?_
  refine k_sld C hX hi3 d_Lw_law_322 ?_
  refine k_callVi C q_Lw_35 (fun l => m_Mo_comes (cx_g C) l (xs (v4 + 1).toNatClampNeg) (xs (v4 + 2).toNatClampNeg) (xs (v4 + 3).toNatClampNeg) m x' oo (r, m') e2) rfl rfl hc (by decide) sh_Mo rfl rfl rfl rfl d_Lw_law_323 ?_
  refine k_icmp_eq C 1829 d_Lw_law_326 (by decide) (fun c => ?_) (fun c => ?_)
  · exact h
  · exact absurd rfl c
theorem lc_3 {g : GC} {X : MX} {b L : Nat} {xs : Nat → Int32} {v4 : Int32} (C : Cx g X code 8 n_Lw 100) (hX : XS g X b L xs) (hc : X.2.2.2.2.2.2.2.2.2.2.2.1 ≤ X.2.2.2.1.cells ∧ X.2.2.2.2.2.2.2.2.2.2.2.2 ≤ X.2.2.2.1.slots) (hi1 : vp_in (v4 + 1) L) (hi2 : vp_in (v4 + 2) L) (hi3 : vp_in (v4 + 3) L) (hi4 : vp_in (v4 + 4) L) (hi5 : vp_in (v4 + 5) L) {x x' : XD} {m m' : MD} {oo : Nat → Int64} {r : Int32} (e1 : f_Hb_rides (xs (v4 + 1).toNatClampNeg) (xs (v4 + 2).toNatClampNeg) x = some (r, x')) (e2 : f_Mo_rides (xs (v4 + 1).toNatClampNeg) (xs (v4 + 2).toNatClampNeg) m = some (r, m')) (h : Wk g X 8 1829 (lwloc g b v4) [] (x', m', oo)) : Wk g X 8 331 (lwloc g b v4) [] (x, m, oo) := by
  refine k_aload_n C d_Lw_law_331 2 rfl ?_
  refine k_aload_n C d_Lw_law_332 1 rfl ?_
  refine k_iload C d_Lw_law_333 0 rfl ?_
  refine k_iconst C 1 d_Lw_law_335 ic_1 ?_
  refine k_iadd C d_Lw_law_336 ?_
  refine k_sld C hX hi1 d_Lw_law_337 ?_
  refine k_aload_n C d_Lw_law_338 1 rfl ?_
  refine k_iload C d_Lw_law_339 0 rfl ?_
  refine k_iconst C 2 d_Lw_law_341 ic_2 ?_
  refine k_iadd C d_Lw_law_342 ?_
  refine k_sld C hX hi2 d_Lw_law_343 ?_
  refine k_callVi C q_Lw_36 (fun l => m_Hb_rides (cx_g C) l (xs (v4 + 1).toNatClampNeg) (xs (v4 + 2).toNatClampNeg) x (m, oo) (r, x') e1) rfl rfl hc (by decide) sh_Hb rfl rfl rfl rfl d_Lw_law_344 ?_
  refine k_aload_n C d_Lw_law_347 3 rfl ?_
  refine k_aload_n C d_Lw_law_348 1 rfl ?_
  refine k_iload C d_Lw_law_349 0 rfl ?_
  refine k_iconst C 1 d_Lw_law_351 ic_1 ?_
  refine k_iadd C d_Lw_law_352 ?_
  refine k_sld C hX hi1 d_Lw_law_353 ?_
  refine k_aload_n C d_Lw_law_354 1 rfl ?_
  refine k_iload C d_Lw_law_355 0 rfl ?_
  refine k_iconst C 2 d_Lw_law_357 ic_2 ?_
  refine k_iadd C d_Lw_law_358 ?_
  refine k_sld C hX hi2 d_Lw_law_359 ?_
  refine k_callVi C q_Lw_39 (fun l => m_Mo_rides (cx_g C) l (xs (v4 + 1).toNatClampNeg) (xs (v4 + 2).toNatClampNeg) m x' oo (r, m') e2) rfl rfl hc (by decide) sh_Mo rfl rfl rfl rfl d_Lw_law_360 ?_
  refine k_icmp_eq C 1829 d_Lw_law_363 (by decide) (fun c => ?_) (fun c => ?_)
  · exact h
  · exact absurd rfl c
theorem lc_4 {g : GC} {X : MX} {b L : Nat} {xs : Nat → Int32} {v4 : Int32} (C : Cx g X code 8 n_Lw 100) (hX : XS g X b L xs) (hc : X.2.2.2.2.2.2.2.2.2.2.2.1 ≤ X.2.2.2.1.cells ∧ X.2.2.2.2.2.2.2.2.2.2.2.2 ≤ X.2.2.2.1.slots) (hi1 : vp_in (v4 + 1) L) (hi2 : vp_in (v4 + 2) L) (hi3 : vp_in (v4 + 3) L) (hi4 : vp_in (v4 + 4) L) (hi5 : vp_in (v4 + 5) L) {x x' : XD} {m m' : MD} {oo : Nat → Int64} {r : Int32} (e1 : f_Hb_taken (xs (v4 + 1).toNatClampNeg) (xs (v4 + 2).toNatClampNeg) x = some (r, x')) (e2 : f_Mo_taken (xs (v4 + 1).toNatClampNeg) (xs (v4 + 2).toNatClampNeg) m = some (r, m')) (h : Wk g X 8 1829 (lwloc g b v4) [] (x', m', oo)) : Wk g X 8 368 (lwloc g b v4) [] (x, m, oo) := by
  refine k_aload_n C d_Lw_law_368 2 rfl ?_
  refine k_aload_n C d_Lw_law_369 1 rfl ?_
  refine k_iload C d_Lw_law_370 0 rfl ?_
  refine k_iconst C 1 d_Lw_law_372 ic_1 ?_
  refine k_iadd C d_Lw_law_373 ?_
  refine k_sld C hX hi1 d_Lw_law_374 ?_
  refine k_aload_n C d_Lw_law_375 1 rfl ?_
  refine k_iload C d_Lw_law_376 0 rfl ?_
  refine k_iconst C 2 d_Lw_law_378 ic_2 ?_
  refine k_iadd C d_Lw_law_379 ?_
  refine k_sld C hX hi2 d_Lw_law_380 ?_
  refine k_callVi C q_Lw_40 (fun l => m_Hb_taken (cx_g C) l (xs (v4 + 1).toNatClampNeg) (xs (v4 + 2).toNatClampNeg) x (m, oo) (r, x') e1) rfl rfl hc (by decide) sh_Hb rfl rfl rfl rfl d_Lw_law_381 ?_
  refine k_aload_n C d_Lw_law_384 3 rfl ?_
  refine k_aload_n C d_Lw_law_385 1 rfl ?_
  refine k_iload C d_Lw_law_386 0 rfl ?_
  refine k_iconst C 1 d_Lw_law_388 ic_1 ?_
  refine k_iadd C d_Lw_law_389 ?_
  refine k_sld C hX hi1 d_Lw_law_390 ?_
  refine k_aload_n C d_Lw_law_391 1 rfl ?_
  refine k_iload C d_Lw_law_392 0 rfl ?_
  refine k_iconst C 2 d_Lw_law_394 ic_2 ?_
  refine k_iadd C d_Lw_law_395 ?_
  refine k_sld C hX hi2 d_Lw_law_396 ?_
  refine k_callVi C q_Lw_43 (fun l => m_Mo_taken (cx_g C) l (xs (v4 + 1).toNatClampNeg) (xs (v4 + 2).toNatClampNeg) m x' oo (r, m') e2) rfl rfl hc (by decide) sh_Mo rfl rfl rfl rfl d_Lw_law_397 ?_
  refine k_icmp_eq C 1829 d_Lw_law_400 (by decide) (fun c => ?_) (fun c => ?_)
  · exact h
  · exact absurd rfl c
theorem lc_5 {g : GC} {X : MX} {b L : Nat} {xs : Nat → Int32} {v4 : Int32} (C : Cx g X code 8 n_Lw 100) (hX : XS g X b L xs) (hc : X.2.2.2.2.2.2.2.2.2.2.2.1 ≤ X.2.2.2.1.cells ∧ X.2.2.2.2.2.2.2.2.2.2.2.2 ≤ X.2.2.2.1.slots) (hi1 : vp_in (v4 + 1) L) (hi2 : vp_in (v4 + 2) L) (hi3 : vp_in (v4 + 3) L) (hi4 : vp_in (v4 + 4) L) (hi5 : vp_in (v4 + 5) L) {x x' : XD} {m m' : MD} {oo : Nat → Int64} {r : Int32} (e1 : f_Hb_longs (xs (v4 + 1).toNatClampNeg) (xs (v4 + 2).toNatClampNeg) x = some (r, x')) (e2 : f_Mo_longs (xs (v4 + 1).toNatClampNeg) (xs (v4 + 2).toNatClampNeg) m = some (r, m')) (h : Wk g X 8 1829 (lwloc g b v4) [] (x', m', oo)) : Wk g X 8 405 (lwloc g b v4) [] (x, m, oo) := by
  refine k_aload_n C d_Lw_law_405 2 rfl ?_
  refine k_aload_n C d_Lw_law_406 1 rfl ?_
  refine k_iload C d_Lw_law_407 0 rfl ?_
  refine k_iconst C 1 d_Lw_law_409 ic_1 ?_
  refine k_iadd C d_Lw_law_410 ?_
  refine k_sld C hX hi1 d_Lw_law_411 ?_
  refine k_aload_n C d_Lw_law_412 1 rfl ?_
  refine k_iload C d_Lw_law_413 0 rfl ?_
  refine k_iconst C 2 d_Lw_law_415 ic_2 ?_
  refine k_iadd C d_Lw_law_416 ?_
  refine k_sld C hX hi2 d_Lw_law_417 ?_
  refine k_callVi C q_Lw_44 (fun l => m_Hb_longs (cx_g C) l (xs (v4 + 1).toNatClampNeg) (xs (v4 + 2).toNatClampNeg) x (m, oo) (r, x') e1) rfl rfl hc (by decide) sh_Hb rfl rfl rfl rfl d_Lw_law_418 ?_
  refine k_aload_n C d_Lw_law_421 3 rfl ?_
  refine k_aload_n C d_Lw_law_422 1 rfl ?_
  refine k_iload C d_Lw_law_423 0 rfl ?_
  refine k_iconst C 1 d_Lw_law_425 ic_1 ?_
  refine k_iadd C d_Lw_law_426 ?_
  refine k_sld C hX hi1 d_Lw_law_427 ?_
  refine k_aload_n C d_Lw_law_428 1 rfl ?_
  refine k_iload C d_Lw_law_429 0 rfl ?_
  refine k_iconst C 2 d_Lw_law_431 ic_2 ?_
  refine k_iadd C d_Lw_law_432 ?_
  refine k_sld C hX hi2 d_Lw_law_433 ?_
  refine k_callVi C q_Lw_47 (fun l => m_Mo_longs (cx_g C) l (xs (v4 + 1).toNatClampNeg) (xs (v4 + 2).toNatClampNeg) m x' oo (r, m') e2) rfl rfl hc (by decide) sh_Mo rfl rfl rfl rfl d_Lw_law_434 ?_
  refine k_icmp_eq C 1829 d_Lw_law_437 (by decide) (fun c => ?_) (fun c => ?_)
  · exact h
  · exact absurd rfl c
theorem lc_6 {g : GC} {X : MX} {b L : Nat} {xs : Nat → Int32} {v4 : Int32} (C : Cx g X code 8 n_Lw 100) (hX : XS g X b L xs) (hc : X.2.2.2.2.2.2.2.2.2.2.2.1 ≤ X.2.2.2.1.cells ∧ X.2.2.2.2.2.2.2.2.2.2.2.2 ≤ X.2.2.2.1.slots) (hi1 : vp_in (v4 + 1) L) (hi2 : vp_in (v4 + 2) L) (hi3 : vp_in (v4 + 3) L) (hi4 : vp_in (v4 + 4) L) (hi5 : vp_in (v4 + 5) L) {x x' : XD} {m m' : MD} {oo : Nat → Int64} {r : Int32} (e1 : f_Hb_hangs (xs (v4 + 1).toNatClampNeg) x = some (r, x')) (e2 : f_Mo_hangs (xs (v4 + 1).toNatClampNeg) m = some (r, m')) (h : Wk g X 8 1829 (lwloc g b v4) [] (x', m', oo)) : Wk g X 8 442 (lwloc g b v4) [] (x, m, oo) := by
  refine k_aload_n C d_Lw_law_442 2 rfl ?_
  refine k_aload_n C d_Lw_law_443 1 rfl ?_
  refine k_iload C d_Lw_law_444 0 rfl ?_
  refine k_iconst C 1 d_Lw_law_446 ic_1 ?_
  refine k_iadd C d_Lw_law_447 ?_
  refine k_sld C hX hi1 d_Lw_law_448 ?_
  refine k_callVi C q_Lw_48 (fun l => m_Hb_hangs (cx_g C) l (xs (v4 + 1).toNatClampNeg) x (m, oo) (r, x') e1) rfl rfl hc (by decide) sh_Hb rfl rfl rfl rfl d_Lw_law_449 ?_
  refine k_aload_n C d_Lw_law_452 3 rfl ?_
  refine k_aload_n C d_Lw_law_453 1 rfl ?_
  refine k_iload C d_Lw_law_454 0 rfl ?_
  refine k_iconst C 1 d_Lw_law_456 ic_1 ?_
  refine k_iadd C d_Lw_law_457 ?_
  refine k_sld C hX hi1 d_Lw_law_458 ?_
  refine k_callVi C q_Lw_51 (fun l => m_Mo_hangs (cx_g C) l (xs (v4 + 1).toNatClampNeg) m x' oo (r, m') e2) rfl rfl hc (by decide) sh_Mo rfl rfl rfl rfl d_Lw_law_459 ?_
  refine k_icmp_eq C 1829 d_Lw_law_462 (by decide) (fun c => ?_) (fun c => ?_)
  · exact h
  · exact absurd rfl c
theorem lc_7 {g : GC} {X : MX} {b L : Nat} {xs : Nat → Int32} {v4 : Int32} (C : Cx g X code 8 n_Lw 100) (hX : XS g X b L xs) (hc : X.2.2.2.2.2.2.2.2.2.2.2.1 ≤ X.2.2.2.1.cells ∧ X.2.2.2.2.2.2.2.2.2.2.2.2 ≤ X.2.2.2.1.slots) (hi1 : vp_in (v4 + 1) L) (hi2 : vp_in (v4 + 2) L) (hi3 : vp_in (v4 + 3) L) (hi4 : vp_in (v4 + 4) L) (hi5 : vp_in (v4 + 5) L) {x x' : XD} {m m' : MD} {oo : Nat → Int64} {r : Int32} (e1 : f_Hb_days (xs (v4 + 1).toNatClampNeg) x = some (r, x')) (e2 : f_Mo_days (xs (v4 + 1).toNatClampNeg) m = some (r, m')) (h : Wk g X 8 1829 (lwloc g b v4) [] (x', m', oo)) : Wk g X 8 467 (lwloc g b v4) [] (x, m, oo) := by
  refine k_aload_n C d_Lw_law_467 2 rfl ?_
  refine k_aload_n C d_Lw_law_468 1 rfl ?_
  refine k_iload C d_Lw_law_469 0 rfl ?_
  refine k_iconst C 1 d_Lw_law_471 ic_1 ?_
  refine k_iadd C d_Lw_law_472 ?_
  refine k_sld C hX hi1 d_Lw_law_473 ?_
  refine k_callVi C q_Lw_52 (fun l => m_Hb_days (cx_g C) l (xs (v4 + 1).toNatClampNeg) x (m, oo) (r, x') e1) rfl rfl hc (by decide) sh_Hb rfl rfl rfl rfl d_Lw_law_474 ?_
  refine k_aload_n C d_Lw_law_477 3 rfl ?_
  refine k_aload_n C d_Lw_law_478 1 rfl ?_
  refine k_iload C d_Lw_law_479 0 rfl ?_
  refine k_iconst C 1 d_Lw_law_481 ic_1 ?_
  refine k_iadd C d_Lw_law_482 ?_
  refine k_sld C hX hi1 d_Lw_law_483 ?_
  refine k_callVi C q_Lw_55 (fun l => m_Mo_days (cx_g C) l (xs (v4 + 1).toNatClampNeg) m x' oo (r, m') e2) rfl rfl hc (by decide) sh_Mo rfl rfl rfl rfl d_Lw_law_484 ?_
  refine k_icmp_eq C 1829 d_Lw_law_487 (by decide) (fun c => ?_) (fun c => ?_)
  · exact h
  · exact absurd rfl c
theorem lc_8 {g : GC} {X : MX} {b L : Nat} {xs : Nat → Int32} {v4 : Int32} (C : Cx g X code 8 n_Lw 100) (hX : XS g X b L xs) (hc : X.2.2.2.2.2.2.2.2.2.2.2.1 ≤ X.2.2.2.1.cells ∧ X.2.2.2.2.2.2.2.2.2.2.2.2 ≤ X.2.2.2.1.slots) (hi1 : vp_in (v4 + 1) L) (hi2 : vp_in (v4 + 2) L) (hi3 : vp_in (v4 + 3) L) (hi4 : vp_in (v4 + 4) L) (hi5 : vp_in (v4 + 5) L) {x x' : XD} {m m' : MD} {oo : Nat → Int64} {r : Int32} (e1 : f_Hb_howLong (xs (v4 + 1).toNatClampNeg) (xs (v4 + 2).toNatClampNeg) x = some (r, x')) (e2 : f_Mo_howLong (xs (v4 + 1).toNatClampNeg) (xs (v4 + 2).toNatClampNeg) m = some (r, m')) (h : Wk g X 8 1829 (lwloc g b v4) [] (x', m', oo)) : Wk g X 8 492 (lwloc g b v4) [] (x, m, oo) := by
  refine k_aload_n C d_Lw_law_492 2 rfl ?_
  refine k_aload_n C d_Lw_law_493 1 rfl ?_
  refine k_iload C d_Lw_law_494 0 rfl ?_
  refine k_iconst C 1 d_Lw_law_496 ic_1 ?_
  refine k_iadd C d_Lw_law_497 ?_
  refine k_sld C hX hi1 d_Lw_law_498 ?_
  refine k_aload_n C d_Lw_law_499 1 rfl ?_
  refine k_iload C d_Lw_law_500 0 rfl ?_
  refine k_iconst C 2 d_Lw_law_502 ic_2 ?_
  refine k_iadd C d_Lw_law_503 ?_
  refine k_sld C hX hi2 d_Lw_law_504 ?_
  refine k_callVi C q_Lw_56 (fun l => m_Hb_howLong (cx_g C) l (xs (v4 + 1).toNatClampNeg) (xs (v4 + 2).toNatClampNeg) x (m, oo) (r, x') e1) rfl rfl hc (by decide) sh_Hb rfl rfl rfl rfl d_Lw_law_505 ?_
  refine k_aload_n C d_Lw_law_508 3 rfl ?_
  refine k_aload_n C d_Lw_law_509 1 rfl ?_
  refine k_iload C d_Lw_law_510 0 rfl ?_
  refine k_iconst C 1 d_Lw_law_512 ic_1 ?_
  refine k_iadd C d_Lw_law_513 ?_
  refine k_sld C hX hi1 d_Lw_law_514 ?_
  refine k_aload_n C d_Lw_law_515 1 rfl ?_
  refine k_iload C d_Lw_law_516 0 rfl ?_
  refine k_iconst C 2 d_Lw_law_518 ic_2 ?_
  refine k_iadd C d_Lw_law_519 ?_
  refine k_sld C hX hi2 d_Lw_law_520 ?_
  refine k_callVi C q_Lw_59 (fun l => m_Mo_howLong (cx_g C) l (xs (v4 + 1).toNatClampNeg) (xs (v4 + 2).toNatClampNeg) m x' oo (r, m') e2) rfl rfl hc (by decide) sh_Mo rfl rfl rfl rfl d_Lw_law_521 ?_
  refine k_icmp_eq C 1829 d_Lw_law_524 (by decide) (fun c => ?_) (fun c => ?_)
  · exact h
  · exact absurd rfl c
theorem lc_9 {g : GC} {X : MX} {b L : Nat} {xs : Nat → Int32} {v4 : Int32} (C : Cx g X code 8 n_Lw 100) (hX : XS g X b L xs) (hc : X.2.2.2.2.2.2.2.2.2.2.2.1 ≤ X.2.2.2.1.cells ∧ X.2.2.2.2.2.2.2.2.2.2.2.2 ≤ X.2.2.2.1.slots) (hi1 : vp_in (v4 + 1) L) (hi2 : vp_in (v4 + 2) L) (hi3 : vp_in (v4 + 3) L) (hi4 : vp_in (v4 + 4) L) (hi5 : vp_in (v4 + 5) L) {x x' : XD} {m m' : MD} {oo : Nat → Int64} {r : Int32} (e1 : f_Hb_behind (xs (v4 + 1).toNatClampNeg) (xs (v4 + 2).toNatClampNeg) (xs (v4 + 3).toNatClampNeg) x = some (r, x')) (e2 : f_Mo_behind (xs (v4 + 1).toNatClampNeg) (xs (v4 + 2).toNatClampNeg) (xs (v4 + 3).toNatClampNeg) m = some (r, m')) (h : Wk g X 8 1829 (lwloc g b v4) [] (x', m', oo)) : Wk g X 8 529 (lwloc g b v4) [] (x, m, oo) := by
  refine k_aload_n C d_Lw_law_529 2 rfl ?_
  refine k_aload_n C d_Lw_law_530 1 rfl ?_
  refine k_iload C d_Lw_law_531 0 rfl ?_
  refine k_iconst C 1 d_Lw_law_533 ic_1 ?_
  refine k_iadd C d_Lw_law_534 ?_
  refine k_sld C hX hi1 d_Lw_law_535 ?_
  refine k_aload_n C d_Lw_law_536 1 rfl ?_
  refine k_iload C d_Lw_law_537 0 rfl ?_
  refine k_iconst C 2 d_Lw_law_539 ic_2 ?_
  refine k_iadd C d_Lw_law_540 ?_
  refine k_sld C hX hi2 d_Lw_law_541 ?_
  refine k_aload_n C d_Lw_law_542 1 rfl ?_
  refine k_iload C d_Lw_law_543 0 rfl ?_
  refine k_iconst C 3 d_Lw_law_545 ic_3 ?_
  refine k_iadd C d_Lw_law_546 ?_
  refine k_sld C hX hi3 d_Lw_law_547 ?_
  refine k_callVi C q_Lw_60 (fun l => m_Hb_behind (cx_g C) l (xs (v4 + 1).toNatClampNeg) (xs (v4 + 2).toNatClampNeg) (xs (v4 + 3).toNatClampNeg) x (m, oo) (r, x') e1) rfl rfl hc (by decide) sh_Hb rfl rfl rfl rfl d_Lw_law_548 ?_
  refine k_aload_n C d_Lw_law_551 3 rfl ?_
  refine k_aload_n C d_Lw_law_552 1 rfl ?_
  refine k_iload C d_Lw_law_553 0 rfl ?_
  refine k_iconst C 1 d_Lw_law_555 ic_1 ?_
  refine k_iadd C d_Lw_law_556 ?_
  refine k_sld C hX hi1 d_Lw_law_557 ?_
  refine k_aload_n C d_Lw_law_558 1 rfl ?_
  refine k_iload C d_Lw_law_559 0 rfl ?_
  refine k_iconst C 2 d_Lw_law_561 ic_2 ?_
  refine k_iadd C d_Lw_law_562 ?_
  refine k_sld C hX hi2 d_Lw_law_563 ?_
  refine k_aload_n C d_Lw_law_564 1 rfl ?_
  refine k_iload C d_Lw_law_565 0 rfl ?_
  refine k_iconst C 3 d_Lw_law_567 ic_3 ?_
  refine k_iadd C d_Lw_law_568 ?_
  refine k_sld C hX hi3 d_Lw_law_569 ?_
  refine k_callVi C q_Lw_63 (fun l => m_Mo_behind (cx_g C) l (xs (v4 + 1).toNatClampNeg) (xs (v4 + 2).toNatClampNeg) (xs (v4 + 3).toNatClampNeg) m x' oo (r, m') e2) rfl rfl hc (by decide) sh_Mo rfl rfl rfl rfl d_Lw_law_570 ?_
  refine k_icmp_eq C 1829 d_Lw_law_573 (by decide) (fun c => ?_) (fun c => ?_)
  · exact h
  · exact absurd rfl c
theorem lc_10 {g : GC} {X : MX} {b L : Nat} {xs : Nat → Int32} {v4 : Int32} (C : Cx g X code 8 n_Lw 100) (hX : XS g X b L xs) (hc : X.2.2.2.2.2.2.2.2.2.2.2.1 ≤ X.2.2.2.1.cells ∧ X.2.2.2.2.2.2.2.2.2.2.2.2 ≤ X.2.2.2.1.slots) (hi1 : vp_in (v4 + 1) L) (hi2 : vp_in (v4 + 2) L) (hi3 : vp_in (v4 + 3) L) (hi4 : vp_in (v4 + 4) L) (hi5 : vp_in (v4 + 5) L) {x x' : XD} {m m' : MD} {oo : Nat → Int64} {r : Int32} (e1 : f_Hb_chain (xs (v4 + 1).toNatClampNeg) (xs (v4 + 2).toNatClampNeg) (xs (v4 + 3).toNatClampNeg) x = some (r, x')) (e2 : f_Mo_chain (xs (v4 + 1).toNatClampNeg) (xs (v4 + 2).toNatClampNeg) (xs (v4 + 3).toNatClampNeg) m = some (r, m')) (h : Wk g X 8 1829 (lwloc g b v4) [] (x', m', oo)) : Wk g X 8 578 (lwloc g b v4) [] (x, m, oo) := by
  refine k_aload_n C d_Lw_law_578 2 rfl ?_
  refine k_aload_n C d_Lw_law_579 1 rfl ?_
  refine k_iload C d_Lw_law_580 0 rfl ?_
  refine k_iconst C 1 d_Lw_law_582 ic_1 ?_
  refine k_iadd C d_Lw_law_583 ?_
  refine k_sld C hX hi1 d_Lw_law_584 ?_
  refine k_aload_n C d_Lw_law_585 1 rfl ?_
  refine k_iload C d_Lw_law_586 0 rfl ?_
  refine k_iconst C 2 d_Lw_law_588 ic_2 ?_
  refine k_iadd C d_Lw_law_589 ?_
  refine k_sld C hX hi2 d_Lw_law_590 ?_
  refine k_aload_n C d_Lw_law_591 1 rfl ?_
  refine k_iload C d_Lw_law_592 0 rfl ?_
  refine k_iconst C 3 d_Lw_law_594 ic_3 ?_
  refine k_iadd C d_Lw_law_595 ?_
  refine k_sld C hX hi3 d_Lw_law_596 ?_
  refine k_callVi C q_Lw_64 (fun l => m_Hb_chain (cx_g C) l (xs (v4 + 1).toNatClampNeg) (xs (v4 + 2).toNatClampNeg) (xs (v4 + 3).toNatClampNeg) x (m, oo) (r, x') e1) rfl rfl hc (by decide) sh_Hb rfl rfl rfl rfl d_Lw_law_597 ?_
  refine k_aload_n C d_Lw_law_600 3 rfl ?_
  refine k_aload_n C d_Lw_law_601 1 rfl ?_
  refine k_iload C d_Lw_law_602 0 rfl ?_
  refine k_iconst C 1 d_Lw_law_604 ic_1 ?_
  refine k_iadd C d_Lw_law_605 ?_
  refine k_sld C hX hi1 d_Lw_law_606 ?_
  refine k_aload_n C d_Lw_law_607 1 rfl ?_
  refine k_iload C d_Lw_law_608 0 rfl ?_
  refine k_iconst C 2 d_Lw_law_610 ic_2 ?_
  refine k_iadd C d_Lw_law_611 ?_
  refine k_sld C hX hi2 d_Lw_law_612 ?_
  refine k_aload_n C d_Lw_law_613 1 rfl ?_
  refine k_iload C d_Lw_law_614 0 rfl ?_
  refine k_iconst C 3 d_Lw_law_616 ic_3 ?_
  refine k_iadd C d_Lw_law_617 ?_
  refine k_sld C hX hi3 d_Lw_law_618 ?_
  refine k_callVi C q_Lw_67 (fun l => m_Mo_chain (cx_g C) l (xs (v4 + 1).toNatClampNeg) (xs (v4 + 2).toNatClampNeg) (xs (v4 + 3).toNatClampNeg) m x' oo (r, m') e2) rfl rfl hc (by decide) sh_Mo rfl rfl rfl rfl d_Lw_law_619 ?_
  refine k_icmp_eq C 1829 d_Lw_law_622 (by decide) (fun c => ?_) (fun c => ?_)
  · exact h
  · exact absurd rfl c
theorem lc_11 {g : GC} {X : MX} {b L : Nat} {xs : Nat → Int32} {v4 : Int32} (C : Cx g X code 8 n_Lw 100) (hX : XS g X b L xs) (hc : X.2.2.2.2.2.2.2.2.2.2.2.1 ≤ X.2.2.2.1.cells ∧ X.2.2.2.2.2.2.2.2.2.2.2.2 ≤ X.2.2.2.1.slots) (hi1 : vp_in (v4 + 1) L) (hi2 : vp_in (v4 + 2) L) (hi3 : vp_in (v4 + 3) L) (hi4 : vp_in (v4 + 4) L) (hi5 : vp_in (v4 + 5) L) {x x' : XD} {m m' : MD} {oo : Nat → Int64} {r : Int32} (e1 : f_Hb_hurry (xs (v4 + 1).toNatClampNeg) (xs (v4 + 2).toNatClampNeg) x = some (r, x')) (e2 : f_Mo_hurry (xs (v4 + 1).toNatClampNeg) (xs (v4 + 2).toNatClampNeg) m = some (r, m')) (h : Wk g X 8 1829 (lwloc g b v4) [] (x', m', oo)) : Wk g X 8 627 (lwloc g b v4) [] (x, m, oo) := by
  refine k_aload_n C d_Lw_law_627 2 rfl ?_
  refine k_aload_n C d_Lw_law_628 1 rfl ?_
  refine k_iload C d_Lw_law_629 0 rfl ?_
  refine k_iconst C 1 d_Lw_law_631 ic_1 ?_
  refine k_iadd C d_Lw_law_632 ?_
  refine k_sld C hX hi1 d_Lw_law_633 ?_
  refine k_aload_n C d_Lw_law_634 1 rfl ?_
  refine k_iload C d_Lw_law_635 0 rfl ?_
  refine k_iconst C 2 d_Lw_law_637 ic_2 ?_
  refine k_iadd C d_Lw_law_638 ?_
  refine k_sld C hX hi2 d_Lw_law_639 ?_
  refine k_callVi C q_Lw_68 (fun l => m_Hb_hurry (cx_g C) l (xs (v4 + 1).toNatClampNeg) (xs (v4 + 2).toNatClampNeg) x (m, oo) (r, x') e1) rfl rfl hc (by decide) sh_Hb rfl rfl rfl rfl d_Lw_law_640 ?_
  refine k_aload_n C d_Lw_law_643 3 rfl ?_
  refine k_aload_n C d_Lw_law_644 1 rfl ?_
  refine k_iload C d_Lw_law_645 0 rfl ?_
  refine k_iconst C 1 d_Lw_law_647 ic_1 ?_
  refine k_iadd C d_Lw_law_648 ?_
  refine k_sld C hX hi1 d_Lw_law_649 ?_
  refine k_aload_n C d_Lw_law_650 1 rfl ?_
  refine k_iload C d_Lw_law_651 0 rfl ?_
  refine k_iconst C 2 d_Lw_law_653 ic_2 ?_
  refine k_iadd C d_Lw_law_654 ?_
  refine k_sld C hX hi2 d_Lw_law_655 ?_
  refine k_callVi C q_Lw_71 (fun l => m_Mo_hurry (cx_g C) l (xs (v4 + 1).toNatClampNeg) (xs (v4 + 2).toNatClampNeg) m x' oo (r, m') e2) rfl rfl hc (by decide) sh_Mo rfl rfl rfl rfl d_Lw_law_656 ?_
  refine k_icmp_eq C 1829 d_Lw_law_659 (by decide) (fun c => ?_) (fun c => ?_)
  · exact h
  · exact absurd rfl c
theorem lc_12 {g : GC} {X : MX} {b L : Nat} {xs : Nat → Int32} {v4 : Int32} (C : Cx g X code 8 n_Lw 100) (hX : XS g X b L xs) (hc : X.2.2.2.2.2.2.2.2.2.2.2.1 ≤ X.2.2.2.1.cells ∧ X.2.2.2.2.2.2.2.2.2.2.2.2 ≤ X.2.2.2.1.slots) (hi1 : vp_in (v4 + 1) L) (hi2 : vp_in (v4 + 2) L) (hi3 : vp_in (v4 + 3) L) (hi4 : vp_in (v4 + 4) L) (hi5 : vp_in (v4 + 5) L) {x x' : XD} {m m' : MD} {oo : Nat → Int64} {r : Int32} (e1 : f_Hb_fastest (xs (v4 + 1).toNatClampNeg) x = some (r, x')) (e2 : f_Mo_fastest (xs (v4 + 1).toNatClampNeg) m = some (r, m')) (h : Wk g X 8 1829 (lwloc g b v4) [] (x', m', oo)) : Wk g X 8 664 (lwloc g b v4) [] (x, m, oo) := by
  refine k_aload_n C d_Lw_law_664 2 rfl ?_
  refine k_aload_n C d_Lw_law_665 1 rfl ?_
  refine k_iload C d_Lw_law_666 0 rfl ?_
  refine k_iconst C 1 d_Lw_law_668 ic_1 ?_
  refine k_iadd C d_Lw_law_669 ?_
  refine k_sld C hX hi1 d_Lw_law_670 ?_
  refine k_callVi C q_Lw_72 (fun l => m_Hb_fastest (cx_g C) l (xs (v4 + 1).toNatClampNeg) x (m, oo) (r, x') e1) rfl rfl hc (by decide) sh_Hb rfl rfl rfl rfl d_Lw_law_671 ?_
  refine k_aload_n C d_Lw_law_674 3 rfl ?_
  refine k_aload_n C d_Lw_law_675 1 rfl ?_
  refine k_iload C d_Lw_law_676 0 rfl ?_
  refine k_iconst C 1 d_Lw_law_678 ic_1 ?_
  refine k_iadd C d_Lw_law_679 ?_
  refine k_sld C hX hi1 d_Lw_law_680 ?_
  refine k_callVi C q_Lw_75 (fun l => m_Mo_fastest (cx_g C) l (xs (v4 + 1).toNatClampNeg) m x' oo (r, m') e2) rfl rfl hc (by decide) sh_Mo rfl rfl rfl rfl d_Lw_law_681 ?_
  refine k_icmp_eq C 1829 d_Lw_law_684 (by decide) (fun c => ?_) (fun c => ?_)
  · exact h
  · exact absurd rfl c
theorem lc_13 {g : GC} {X : MX} {b L : Nat} {xs : Nat → Int32} {v4 : Int32} (C : Cx g X code 8 n_Lw 100) (hX : XS g X b L xs) (hc : X.2.2.2.2.2.2.2.2.2.2.2.1 ≤ X.2.2.2.1.cells ∧ X.2.2.2.2.2.2.2.2.2.2.2.2 ≤ X.2.2.2.1.slots) (hi1 : vp_in (v4 + 1) L) (hi2 : vp_in (v4 + 2) L) (hi3 : vp_in (v4 + 3) L) (hi4 : vp_in (v4 + 4) L) (hi5 : vp_in (v4 + 5) L) {x x' : XD} {m m' : MD} {oo : Nat → Int64} {r : Int32} (e1 : f_Hb_away x = some (r, x')) (e2 : f_Mo_away m = some (r, m')) (h : Wk g X 8 1829 (lwloc g b v4) [] (x', m', oo)) : Wk g X 8 689 (lwloc g b v4) [] (x, m, oo) := by
  refine k_aload_n C d_Lw_law_689 2 rfl ?_
  refine k_callVi C q_Lw_76 (fun l => m_Hb_away (cx_g C) l x (m, oo) (r, x') e1) rfl rfl hc (by decide) sh_Hb rfl rfl rfl rfl d_Lw_law_690 ?_
  refine k_aload_n C d_Lw_law_693 3 rfl ?_
  refine k_callVi C q_Lw_80 (fun l => m_Mo_away (cx_g C) l m x' oo (r, m') e2) rfl rfl hc (by decide) sh_Mo rfl rfl rfl rfl d_Lw_law_694 ?_
  refine k_icmp_eq C 1829 d_Lw_law_697 (by decide) (fun c => ?_) (fun c => ?_)
  · exact h
  · exact absurd rfl c
theorem lc_14 {g : GC} {X : MX} {b L : Nat} {xs : Nat → Int32} {v4 : Int32} (C : Cx g X code 8 n_Lw 100) (hX : XS g X b L xs) (hc : X.2.2.2.2.2.2.2.2.2.2.2.1 ≤ X.2.2.2.1.cells ∧ X.2.2.2.2.2.2.2.2.2.2.2.2 ≤ X.2.2.2.1.slots) (hi1 : vp_in (v4 + 1) L) (hi2 : vp_in (v4 + 2) L) (hi3 : vp_in (v4 + 3) L) (hi4 : vp_in (v4 + 4) L) (hi5 : vp_in (v4 + 5) L) {x x' : XD} {m m' : MD} {oo : Nat → Int64} {r : Int32} (e1 : f_Hb_ripe (xs (v4 + 1).toNatClampNeg) (xs (v4 + 2).toNatClampNeg) x = some (r, x')) (e2 : f_Mo_ripe (xs (v4 + 1).toNatClampNeg) (xs (v4 + 2).toNatClampNeg) m = some (r, m')) (h : Wk g X 8 1829 (lwloc g b v4) [] (x', m', oo)) : Wk g X 8 702 (lwloc g b v4) [] (x, m, oo) := by
  refine k_aload_n C d_Lw_law_702 2 rfl ?_
  refine k_aload_n C d_Lw_law_703 1 rfl ?_
  refine k_iload C d_Lw_law_704 0 rfl ?_
  refine k_iconst C 1 d_Lw_law_706 ic_1 ?_
  refine k_iadd C d_Lw_law_707 ?_
  refine k_sld C hX hi1 d_Lw_law_708 ?_
  refine k_aload_n C d_Lw_law_709 1 rfl ?_
  refine k_iload C d_Lw_law_710 0 rfl ?_
  refine k_iconst C 2 d_Lw_law_712 ic_2 ?_
  refine k_iadd C d_Lw_law_713 ?_
  refine k_sld C hX hi2 d_Lw_law_714 ?_
  refine k_callVi C q_Lw_81 (fun l => m_Hb_ripe (cx_g C) l (xs (v4 + 1).toNatClampNeg) (xs (v4 + 2).toNatClampNeg) x (m, oo) (r, x') e1) rfl rfl hc (by decide) sh_Hb rfl rfl rfl rfl d_Lw_law_715 ?_
  refine k_aload_n C d_Lw_law_718 3 rfl ?_
  refine k_aload_n C d_Lw_law_719 1 rfl ?_
  refine k_iload C d_Lw_law_720 0 rfl ?_
  refine k_iconst C 1 d_Lw_law_722 ic_1 ?_
  refine k_iadd C d_Lw_law_723 ?_
  refine k_sld C hX hi1 d_Lw_law_724 ?_
  refine k_aload_n C d_Lw_law_725 1 rfl ?_
  refine k_iload C d_Lw_law_726 0 rfl ?_
  refine k_iconst C 2 d_Lw_law_728 ic_2 ?_
  refine k_iadd C d_Lw_law_729 ?_
  refine k_sld C hX hi2 d_Lw_law_730 ?_
  refine k_callVi C q_Lw_84 (fun l => m_Mo_ripe (cx_g C) l (xs (v4 + 1).toNatClampNeg) (xs (v4 + 2).toNatClampNeg) m x' oo (r, m') e2) rfl rfl hc (by decide) sh_Mo rfl rfl rfl rfl d_Lw_law_731 ?_
  refine k_icmp_eq C 1829 d_Lw_law_734 (by decide) (fun c => ?_) (fun c => ?_)
  · exact h
  · exact absurd rfl c
theorem lc_15 {g : GC} {X : MX} {b L : Nat} {xs : Nat → Int32} {v4 : Int32} (C : Cx g X code 8 n_Lw 100) (hX : XS g X b L xs) (hc : X.2.2.2.2.2.2.2.2.2.2.2.1 ≤ X.2.2.2.1.cells ∧ X.2.2.2.2.2.2.2.2.2.2.2.2 ≤ X.2.2.2.1.slots) (hi1 : vp_in (v4 + 1) L) (hi2 : vp_in (v4 + 2) L) (hi3 : vp_in (v4 + 3) L) (hi4 : vp_in (v4 + 4) L) (hi5 : vp_in (v4 + 5) L) {x x' : XD} {m m' : MD} {oo : Nat → Int64} {r : Int32} (e1 : f_Hb_leastLonging (xs (v4 + 1).toNatClampNeg) (xs (v4 + 2).toNatClampNeg) (xs (v4 + 3).toNatClampNeg) x = some (r, x')) (e2 : f_Mo_leastLonging (xs (v4 + 1).toNatClampNeg) (xs (v4 + 2).toNatClampNeg) (xs (v4 + 3).toNatClampNeg) m = some (r, m')) (h : Wk g X 8 1829 (lwloc g b v4) [] (x', m', oo)) : Wk g X 8 739 (lwloc g b v4) [] (x, m, oo) := by
  refine k_aload_n C d_Lw_law_739 2 rfl ?_
  refine k_aload_n C d_Lw_law_740 1 rfl ?_
  refine k_iload C d_Lw_law_741 0 rfl ?_
  refine k_iconst C 1 d_Lw_law_743 ic_1 ?_
  refine k_iadd C d_Lw_law_744 ?_
  refine k_sld C hX hi1 d_Lw_law_745 ?_
  refine k_aload_n C d_Lw_law_746 1 rfl ?_
  refine k_iload C d_Lw_law_747 0 rfl ?_
  refine k_iconst C 2 d_Lw_law_749 ic_2 ?_
  refine k_iadd C d_Lw_law_750 ?_
  refine k_sld C hX hi2 d_Lw_law_751 ?_
  refine k_aload_n C d_Lw_law_752 1 rfl ?_
  refine k_iload C d_Lw_law_753 0 rfl ?_
  refine k_iconst C 3 d_Lw_law_755 ic_3 ?_
  refine k_iadd C d_Lw_law_756 ?_
  refine k_sld C hX hi3 d_Lw_law_757 ?_
  refine k_callVi C q_Lw_85 (fun l => m_Hb_leastLonging (cx_g C) l (xs (v4 + 1).toNatClampNeg) (xs (v4 + 2).toNatClampNeg) (xs (v4 + 3).toNatClampNeg) x (m, oo) (r, x') e1) rfl rfl hc (by decide) sh_Hb rfl rfl rfl rfl d_Lw_law_758 ?_
  refine k_aload_n C d_Lw_law_761 3 rfl ?_
  refine k_aload_n C d_Lw_law_762 1 rfl ?_
  refine k_iload C d_Lw_law_763 0 rfl ?_
  refine k_iconst C 1 d_Lw_law_765 ic_1 ?_
  refine k_iadd C d_Lw_law_766 ?_
  refine k_sld C hX hi1 d_Lw_law_767 ?_
  refine k_aload_n C d_Lw_law_768 1 rfl ?_
  refine k_iload C d_Lw_law_769 0 rfl ?_
  refine k_iconst C 2 d_Lw_law_771 ic_2 ?_
  refine k_iadd C d_Lw_law_772 ?_
  refine k_sld C hX hi2 d_Lw_law_773 ?_
  refine k_aload_n C d_Lw_law_774 1 rfl ?_
  refine k_iload C d_Lw_law_775 0 rfl ?_
  refine k_iconst C 3 d_Lw_law_777 ic_3 ?_
  refine k_iadd C d_Lw_law_778 ?_
  refine k_sld C hX hi3 d_Lw_law_779 ?_
  refine k_callVi C q_Lw_88 (fun l => m_Mo_leastLonging (cx_g C) l (xs (v4 + 1).toNatClampNeg) (xs (v4 + 2).toNatClampNeg) (xs (v4 + 3).toNatClampNeg) m x' oo (r, m') e2) rfl rfl hc (by decide) sh_Mo rfl rfl rfl rfl d_Lw_law_780 ?_
  refine k_icmp_eq C 1829 d_Lw_law_783 (by decide) (fun c => ?_) (fun c => ?_)
  · exact h
  · exact absurd rfl c
theorem lc_16 {g : GC} {X : MX} {b L : Nat} {xs : Nat → Int32} {v4 : Int32} (C : Cx g X code 8 n_Lw 100) (hX : XS g X b L xs) (hc : X.2.2.2.2.2.2.2.2.2.2.2.1 ≤ X.2.2.2.1.cells ∧ X.2.2.2.2.2.2.2.2.2.2.2.2 ≤ X.2.2.2.1.slots) (hi1 : vp_in (v4 + 1) L) (hi2 : vp_in (v4 + 2) L) (hi3 : vp_in (v4 + 3) L) (hi4 : vp_in (v4 + 4) L) (hi5 : vp_in (v4 + 5) L) {x x' : XD} {m m' : MD} {oo : Nat → Int64} {r : Int32} (e1 : f_Hb_soonest (xs (v4 + 1).toNatClampNeg) (xs (v4 + 2).toNatClampNeg) (xs (v4 + 3).toNatClampNeg) x = some (r, x')) (e2 : f_Mo_soonest (xs (v4 + 1).toNatClampNeg) (xs (v4 + 2).toNatClampNeg) (xs (v4 + 3).toNatClampNeg) m = some (r, m')) (h : Wk g X 8 1829 (lwloc g b v4) [] (x', m', oo)) : Wk g X 8 788 (lwloc g b v4) [] (x, m, oo) := by
  refine k_aload_n C d_Lw_law_788 2 rfl ?_
  refine k_aload_n C d_Lw_law_789 1 rfl ?_
  refine k_iload C d_Lw_law_790 0 rfl ?_
  refine k_iconst C 1 d_Lw_law_792 ic_1 ?_
  refine k_iadd C d_Lw_law_793 ?_
  refine k_sld C hX hi1 d_Lw_law_794 ?_
  refine k_aload_n C d_Lw_law_795 1 rfl ?_
  refine k_iload C d_Lw_law_796 0 rfl ?_
  refine k_iconst C 2 d_Lw_law_798 ic_2 ?_
  refine k_iadd C d_Lw_law_799 ?_
  refine k_sld C hX hi2 d_Lw_law_800 ?_
  refine k_aload_n C d_Lw_law_801 1 rfl ?_
  refine k_iload C d_Lw_law_802 0 rfl ?_
  refine k_iconst C 3 d_Lw_law_804 ic_3 ?_
  refine k_iadd C d_Lw_law_805 ?_
  refine k_sld C hX hi3 d_Lw_law_806 ?_
  refine k_callVi C q_Lw_89 (fun l => m_Hb_soonest (cx_g C) l (xs (v4 + 1).toNatClampNeg) (xs (v4 + 2).toNatClampNeg) (xs (v4 + 3).toNatClampNeg) x (m, oo) (r, x') e1) rfl rfl hc (by decide) sh_Hb rfl rfl rfl rfl d_Lw_law_807 ?_
  refine k_aload_n C d_Lw_law_810 3 rfl ?_
  refine k_aload_n C d_Lw_law_811 1 rfl ?_
  refine k_iload C d_Lw_law_812 0 rfl ?_
  refine k_iconst C 1 d_Lw_law_814 ic_1 ?_
  refine k_iadd C d_Lw_law_815 ?_
  refine k_sld C hX hi1 d_Lw_law_816 ?_
  refine k_aload_n C d_Lw_law_817 1 rfl ?_
  refine k_iload C d_Lw_law_818 0 rfl ?_
  refine k_iconst C 2 d_Lw_law_820 ic_2 ?_
  refine k_iadd C d_Lw_law_821 ?_
  refine k_sld C hX hi2 d_Lw_law_822 ?_
  refine k_aload_n C d_Lw_law_823 1 rfl ?_
  refine k_iload C d_Lw_law_824 0 rfl ?_
  refine k_iconst C 3 d_Lw_law_826 ic_3 ?_
  refine k_iadd C d_Lw_law_827 ?_
  refine k_sld C hX hi3 d_Lw_law_828 ?_
  refine k_callVi C q_Lw_92 (fun l => m_Mo_soonest (cx_g C) l (xs (v4 + 1).toNatClampNeg) (xs (v4 + 2).toNatClampNeg) (xs (v4 + 3).toNatClampNeg) m x' oo (r, m') e2) rfl rfl hc (by decide) sh_Mo rfl rfl rfl rfl d_Lw_law_829 ?_
  refine k_icmp_eq C 1829 d_Lw_law_832 (by decide) (fun c => ?_) (fun c => ?_)
  · exact h
  · exact absurd rfl c
theorem lc_17 {g : GC} {X : MX} {b L : Nat} {xs : Nat → Int32} {v4 : Int32} (C : Cx g X code 8 n_Lw 100) (hX : XS g X b L xs) (hc : X.2.2.2.2.2.2.2.2.2.2.2.1 ≤ X.2.2.2.1.cells ∧ X.2.2.2.2.2.2.2.2.2.2.2.2 ≤ X.2.2.2.1.slots) (hi1 : vp_in (v4 + 1) L) (hi2 : vp_in (v4 + 2) L) (hi3 : vp_in (v4 + 3) L) (hi4 : vp_in (v4 + 4) L) (hi5 : vp_in (v4 + 5) L) {x x' : XD} {m m' : MD} {oo : Nat → Int64} {r : Int32} (e1 : f_Hb_race (xs (v4 + 1).toNatClampNeg) (xs (v4 + 2).toNatClampNeg) (xs (v4 + 3).toNatClampNeg) x = some (r, x')) (e2 : f_Mo_race (xs (v4 + 1).toNatClampNeg) (xs (v4 + 2).toNatClampNeg) (xs (v4 + 3).toNatClampNeg) m = some (r, m')) (h : Wk g X 8 1829 (lwloc g b v4) [] (x', m', oo)) : Wk g X 8 837 (lwloc g b v4) [] (x, m, oo) := by
  refine k_aload_n C d_Lw_law_837 2 rfl ?_
  refine k_aload_n C d_Lw_law_838 1 rfl ?_
  refine k_iload C d_Lw_law_839 0 rfl ?_
  refine k_iconst C 1 d_Lw_law_841 ic_1 ?_
  refine k_iadd C d_Lw_law_842 ?_
  refine k_sld C hX hi1 d_Lw_law_843 ?_
  refine k_aload_n C d_Lw_law_844 1 rfl ?_
  refine k_iload C d_Lw_law_845 0 rfl ?_
  refine k_iconst C 2 d_Lw_law_847 ic_2 ?_
  refine k_iadd C d_Lw_law_848 ?_
  refine k_sld C hX hi2 d_Lw_law_849 ?_
  refine k_aload_n C d_Lw_law_850 1 rfl ?_
  refine k_iload C d_Lw_law_851 0 rfl ?_
  refine k_iconst C 3 d_Lw_law_853 ic_3 ?_
  refine k_iadd C d_Lw_law_854 ?_
  refine k_sld C hX hi3 d_Lw_law_855 ?_
  refine k_callVi C q_Lw_93 (fun l => m_Hb_race (cx_g C) l (xs (v4 + 1).toNatClampNeg) (xs (v4 + 2).toNatClampNeg) (xs (v4 + 3).toNatClampNeg) x (m, oo) (r, x') e1) rfl rfl hc (by decide) sh_Hb rfl rfl rfl rfl d_Lw_law_856 ?_
  refine k_aload_n C d_Lw_law_859 3 rfl ?_
  refine k_aload_n C d_Lw_law_860 1 rfl ?_
  refine k_iload C d_Lw_law_861 0 rfl ?_
  refine k_iconst C 1 d_Lw_law_863 ic_1 ?_
  refine k_iadd C d_Lw_law_864 ?_
  refine k_sld C hX hi1 d_Lw_law_865 ?_
  refine k_aload_n C d_Lw_law_866 1 rfl ?_
  refine k_iload C d_Lw_law_867 0 rfl ?_
  refine k_iconst C 2 d_Lw_law_869 ic_2 ?_
  refine k_iadd C d_Lw_law_870 ?_
  refine k_sld C hX hi2 d_Lw_law_871 ?_
  refine k_aload_n C d_Lw_law_872 1 rfl ?_
  refine k_iload C d_Lw_law_873 0 rfl ?_
  refine k_iconst C 3 d_Lw_law_875 ic_3 ?_
  refine k_iadd C d_Lw_law_876 ?_
  refine k_sld C hX hi3 d_Lw_law_877 ?_
  refine k_callVi C q_Lw_96 (fun l => m_Mo_race (cx_g C) l (xs (v4 + 1).toNatClampNeg) (xs (v4 + 2).toNatClampNeg) (xs (v4 + 3).toNatClampNeg) m x' oo (r, m') e2) rfl rfl hc (by decide) sh_Mo rfl rfl rfl rfl d_Lw_law_878 ?_
  refine k_icmp_eq C 1829 d_Lw_law_881 (by decide) (fun c => ?_) (fun c => ?_)
  · exact h
  · exact absurd rfl c
theorem lc_18 {g : GC} {X : MX} {b L : Nat} {xs : Nat → Int32} {v4 : Int32} (C : Cx g X code 8 n_Lw 100) (hX : XS g X b L xs) (hc : X.2.2.2.2.2.2.2.2.2.2.2.1 ≤ X.2.2.2.1.cells ∧ X.2.2.2.2.2.2.2.2.2.2.2.2 ≤ X.2.2.2.1.slots) (hi1 : vp_in (v4 + 1) L) (hi2 : vp_in (v4 + 2) L) (hi3 : vp_in (v4 + 3) L) (hi4 : vp_in (v4 + 4) L) (hi5 : vp_in (v4 + 5) L) {x x' : XD} {m m' : MD} {oo : Nat → Int64} {r : Int32} (e1 : f_Hb_walkAhead (xs (v4 + 1).toNatClampNeg) (xs (v4 + 2).toNatClampNeg) (xs (v4 + 3).toNatClampNeg) (xs (v4 + 4).toNatClampNeg) x = some (r, x')) (e2 : f_Mo_walkAhead (xs (v4 + 1).toNatClampNeg) (xs (v4 + 2).toNatClampNeg) (xs (v4 + 3).toNatClampNeg) (xs (v4 + 4).toNatClampNeg) m = some (r, m')) (h : Wk g X 8 1829 (lwloc g b v4) [] (x', m', oo)) : Wk g X 8 886 (lwloc g b v4) [] (x, m, oo) := by
  refine k_aload_n C d_Lw_law_886 2 rfl ?_
  refine k_aload_n C d_Lw_law_887 1 rfl ?_
  refine k_iload C d_Lw_law_888 0 rfl ?_
  refine k_iconst C 1 d_Lw_law_890 ic_1 ?_
  refine k_iadd C d_Lw_law_891 ?_
  refine k_sld C hX hi1 d_Lw_law_892 ?_
  refine k_aload_n C d_Lw_law_893 1 rfl ?_
  refine k_iload C d_Lw_law_894 0 rfl ?_
  refine k_iconst C 2 d_Lw_law_896 ic_2 ?_
  refine k_iadd C d_Lw_law_897 ?_
  refine k_sld C hX hi2 d_Lw_law_898 ?_
  refine k_aload_n C d_Lw_law_899 1 rfl ?_
  refine k_iload C d_Lw_law_900 0 rfl ?_
  refine k_iconst C 3 d_Lw_law_902 ic_3 ?_
  refine k_iadd C d_Lw_law_903 ?_
  refine k_sld C hX hi3 d_Lw_law_904 ?_
  refine k_aload_n C d_Lw_law_905 1 rfl ?_
  refine k_iload C d_Lw_law_906 0 rfl ?_
  refine k_iconst C 4 d_Lw_law_908 ic_4 ?_
  refine k_iadd C d_Lw_law_909 ?_
  refine k_sld C hX hi4 d_Lw_law_910 ?_
  refine k_callVi C q_Lw_97 (fun l => m_Hb_walkAhead (cx_g C) l (xs (v4 + 1).toNatClampNeg) (xs (v4 + 2).toNatClampNeg) (xs (v4 + 3).toNatClampNeg) (xs (v4 + 4).toNatClampNeg) x (m, oo) (r, x') e1) rfl rfl hc (by decide) sh_Hb rfl rfl rfl rfl d_Lw_law_911 ?_
  refine k_aload_n C d_Lw_law_914 3 rfl ?_
  refine k_aload_n C d_Lw_law_915 1 rfl ?_
  refine k_iload C d_Lw_law_916 0 rfl ?_
  refine k_iconst C 1 d_Lw_law_918 ic_1 ?_
  refine k_iadd C d_Lw_law_919 ?_
  refine k_sld C hX hi1 d_Lw_law_920 ?_
  refine k_aload_n C d_Lw_law_921 1 rfl ?_
  refine k_iload C d_Lw_law_922 0 rfl ?_
  refine k_iconst C 2 d_Lw_law_924 ic_2 ?_
  refine k_iadd C d_Lw_law_925 ?_
  refine k_sld C hX hi2 d_Lw_law_926 ?_
  refine k_aload_n C d_Lw_law_927 1 rfl ?_
  refine k_iload C d_Lw_law_928 0 rfl ?_
  refine k_iconst C 3 d_Lw_law_930 ic_3 ?_
  refine k_iadd C d_Lw_law_931 ?_
  refine k_sld C hX hi3 d_Lw_law_932 ?_
  refine k_aload_n C d_Lw_law_933 1 rfl ?_
  refine k_iload C d_Lw_law_934 0 rfl ?_
  refine k_iconst C 4 d_Lw_law_936 ic_4 ?_
  refine k_iadd C d_Lw_law_937 ?_
  refine k_sld C hX hi4 d_Lw_law_938 ?_
  refine k_callVi C q_Lw_101 (fun l => m_Mo_walkAhead (cx_g C) l (xs (v4 + 1).toNatClampNeg) (xs (v4 + 2).toNatClampNeg) (xs (v4 + 3).toNatClampNeg) (xs (v4 + 4).toNatClampNeg) m x' oo (r, m') e2) rfl rfl hc (by decide) sh_Mo rfl rfl rfl rfl d_Lw_law_939 ?_
  refine k_icmp_eq C 1829 d_Lw_law_942 (by decide) (fun c => ?_) (fun c => ?_)
  · exact h
  · exact absurd rfl c
theorem lc_19 {g : GC} {X : MX} {b L : Nat} {xs : Nat → Int32} {v4 : Int32} (C : Cx g X code 8 n_Lw 100) (hX : XS g X b L xs) (hc : X.2.2.2.2.2.2.2.2.2.2.2.1 ≤ X.2.2.2.1.cells ∧ X.2.2.2.2.2.2.2.2.2.2.2.2 ≤ X.2.2.2.1.slots) (hi1 : vp_in (v4 + 1) L) (hi2 : vp_in (v4 + 2) L) (hi3 : vp_in (v4 + 3) L) (hi4 : vp_in (v4 + 4) L) (hi5 : vp_in (v4 + 5) L) {x x' : XD} {m m' : MD} {oo : Nat → Int64} {r : Int32} (e1 : f_Hb_hang (xs (v4 + 1).toNatClampNeg) (xs (v4 + 2).toNatClampNeg) x = some (r, x')) (e2 : f_Mo_hang (xs (v4 + 1).toNatClampNeg) (xs (v4 + 2).toNatClampNeg) m = some (r, m')) (h : Wk g X 8 1829 (lwloc g b v4) [] (x', m', oo)) : Wk g X 8 947 (lwloc g b v4) [] (x, m, oo) := by
  refine k_aload_n C d_Lw_law_947 2 rfl ?_
  refine k_aload_n C d_Lw_law_948 1 rfl ?_
  refine k_iload C d_Lw_law_949 0 rfl ?_
  refine k_iconst C 1 d_Lw_law_951 ic_1 ?_
  refine k_iadd C d_Lw_law_952 ?_
  refine k_sld C hX hi1 d_Lw_law_953 ?_
  refine k_aload_n C d_Lw_law_954 1 rfl ?_
  refine k_iload C d_Lw_law_955 0 rfl ?_
  refine k_iconst C 2 d_Lw_law_957 ic_2 ?_
  refine k_iadd C d_Lw_law_958 ?_
  refine k_sld C hX hi2 d_Lw_law_959 ?_
  refine k_callVi C q_Lw_102 (fun l => m_Hb_hang (cx_g C) l (xs (v4 + 1).toNatClampNeg) (xs (v4 + 2).toNatClampNeg) x (m, oo) (r, x') e1) rfl rfl hc (by decide) sh_Hb rfl rfl rfl rfl d_Lw_law_960 ?_
  refine k_aload_n C d_Lw_law_963 3 rfl ?_
  refine k_aload_n C d_Lw_law_964 1 rfl ?_
  refine k_iload C d_Lw_law_965 0 rfl ?_
  refine k_iconst C 1 d_Lw_law_967 ic_1 ?_
  refine k_iadd C d_Lw_law_968 ?_
  refine k_sld C hX hi1 d_Lw_law_969 ?_
  refine k_aload_n C d_Lw_law_970 1 rfl ?_
  refine k_iload C d_Lw_law_971 0 rfl ?_
  refine k_iconst C 2 d_Lw_law_973 ic_2 ?_
  refine k_iadd C d_Lw_law_974 ?_
  refine k_sld C hX hi2 d_Lw_law_975 ?_
  refine k_callVi C q_Lw_105 (fun l => m_Mo_hang (cx_g C) l (xs (v4 + 1).toNatClampNeg) (xs (v4 + 2).toNatClampNeg) m x' oo (r, m') e2) rfl rfl hc (by decide) sh_Mo rfl rfl rfl rfl d_Lw_law_976 ?_
  refine k_icmp_eq C 1829 d_Lw_law_979 (by decide) (fun c => ?_) (fun c => ?_)
  · exact h
  · exact absurd rfl c
theorem lc_20 {g : GC} {X : MX} {b L : Nat} {xs : Nat → Int32} {v4 : Int32} (C : Cx g X code 8 n_Lw 100) (hX : XS g X b L xs) (hc : X.2.2.2.2.2.2.2.2.2.2.2.1 ≤ X.2.2.2.1.cells ∧ X.2.2.2.2.2.2.2.2.2.2.2.2 ≤ X.2.2.2.1.slots) (hi1 : vp_in (v4 + 1) L) (hi2 : vp_in (v4 + 2) L) (hi3 : vp_in (v4 + 3) L) (hi4 : vp_in (v4 + 4) L) (hi5 : vp_in (v4 + 5) L) {x x' : XD} {m m' : MD} {oo : Nat → Int64} {r : Int32} (e1 : f_Hb_meet (xs (v4 + 1).toNatClampNeg) x = some (r, x')) (e2 : f_Mo_meet (xs (v4 + 1).toNatClampNeg) m = some (r, m')) (h : Wk g X 8 1829 (lwloc g b v4) [] (x', m', oo)) : Wk g X 8 984 (lwloc g b v4) [] (x, m, oo) := by
  refine k_aload_n C d_Lw_law_984 2 rfl ?_
  refine k_aload_n C d_Lw_law_985 1 rfl ?_
  refine k_iload C d_Lw_law_986 0 rfl ?_
  refine k_iconst C 1 d_Lw_law_988 ic_1 ?_
  refine k_iadd C d_Lw_law_989 ?_
  refine k_sld C hX hi1 d_Lw_law_990 ?_
  refine k_callVi C q_Lw_106 (fun l => m_Hb_meet (cx_g C) l (xs (v4 + 1).toNatClampNeg) x (m, oo) (r, x') e1) rfl rfl hc (by decide) sh_Hb rfl rfl rfl rfl d_Lw_law_991 ?_
  refine k_aload_n C d_Lw_law_994 3 rfl ?_
  refine k_aload_n C d_Lw_law_995 1 rfl ?_
  refine k_iload C d_Lw_law_996 0 rfl ?_
  refine k_iconst C 1 d_Lw_law_998 ic_1 ?_
  refine k_iadd C d_Lw_law_999 ?_
  refine k_sld C hX hi1 d_Lw_law_1000 ?_
  refine k_callVi C q_Lw_109 (fun l => m_Mo_meet (cx_g C) l (xs (v4 + 1).toNatClampNeg) m x' oo (r, m') e2) rfl rfl hc (by decide) sh_Mo rfl rfl rfl rfl d_Lw_law_1001 ?_
  refine k_icmp_eq C 1829 d_Lw_law_1004 (by decide) (fun c => ?_) (fun c => ?_)
  · exact h
  · exact absurd rfl c
theorem lc_21 {g : GC} {X : MX} {b L : Nat} {xs : Nat → Int32} {v4 : Int32} (C : Cx g X code 8 n_Lw 100) (hX : XS g X b L xs) (hc : X.2.2.2.2.2.2.2.2.2.2.2.1 ≤ X.2.2.2.1.cells ∧ X.2.2.2.2.2.2.2.2.2.2.2.2 ≤ X.2.2.2.1.slots) (hi1 : vp_in (v4 + 1) L) (hi2 : vp_in (v4 + 2) L) (hi3 : vp_in (v4 + 3) L) (hi4 : vp_in (v4 + 4) L) (hi5 : vp_in (v4 + 5) L) {x x' : XD} {m m' : MD} {oo : Nat → Int64} {r : Int32} (e1 : f_Hb_spread x = some (r, x')) (e2 : f_Mo_spread m = some (r, m')) (h : Wk g X 8 1829 (lwloc g b v4) [] (x', m', oo)) : Wk g X 8 1009 (lwloc g b v4) [] (x, m, oo) := by
  refine k_aload_n C d_Lw_law_1009 2 rfl ?_
  refine k_callVi C q_Lw_110 (fun l => m_Hb_spread (cx_g C) l x (m, oo) (r, x') e1) rfl rfl hc (by decide) sh_Hb rfl rfl rfl rfl d_Lw_law_1010 ?_
  refine k_aload_n C d_Lw_law_1013 3 rfl ?_
  refine k_callVi C q_Lw_113 (fun l => m_Mo_spread (cx_g C) l m x' oo (r, m') e2) rfl rfl hc (by decide) sh_Mo rfl rfl rfl rfl d_Lw_law_1014 ?_
  refine k_icmp_eq C 1829 d_Lw_law_1017 (by decide) (fun c => ?_) (fun c => ?_)
  · exact h
  · exact absurd rfl c
theorem lc_22 {g : GC} {X : MX} {b L : Nat} {xs : Nat → Int32} {v4 : Int32} (C : Cx g X code 8 n_Lw 100) (hX : XS g X b L xs) (hc : X.2.2.2.2.2.2.2.2.2.2.2.1 ≤ X.2.2.2.1.cells ∧ X.2.2.2.2.2.2.2.2.2.2.2.2 ≤ X.2.2.2.1.slots) (hi1 : vp_in (v4 + 1) L) (hi2 : vp_in (v4 + 2) L) (hi3 : vp_in (v4 + 3) L) (hi4 : vp_in (v4 + 4) L) (hi5 : vp_in (v4 + 5) L) {x x' : XD} {m m' : MD} {oo : Nat → Int64} {r : Int32} (e1 : f_Hb_fees (xs (v4 + 1).toNatClampNeg) (xs (v4 + 2).toNatClampNeg) x = some (r, x')) (e2 : f_Mo_fees (xs (v4 + 1).toNatClampNeg) (xs (v4 + 2).toNatClampNeg) m = some (r, m')) (h : Wk g X 8 1829 (lwloc g b v4) [] (x', m', oo)) : Wk g X 8 1022 (lwloc g b v4) [] (x, m, oo) := by
  refine k_aload_n C d_Lw_law_1022 2 rfl ?_
  refine k_aload_n C d_Lw_law_1023 1 rfl ?_
  refine k_iload C d_Lw_law_1024 0 rfl ?_
  refine k_iconst C 1 d_Lw_law_1026 ic_1 ?_
  refine k_iadd C d_Lw_law_1027 ?_
  refine k_sld C hX hi1 d_Lw_law_1028 ?_
  refine k_aload_n C d_Lw_law_1029 1 rfl ?_
  refine k_iload C d_Lw_law_1030 0 rfl ?_
  refine k_iconst C 2 d_Lw_law_1032 ic_2 ?_
  refine k_iadd C d_Lw_law_1033 ?_
  refine k_sld C hX hi2 d_Lw_law_1034 ?_
  refine k_callVi C q_Lw_114 (fun l => m_Hb_fees (cx_g C) l (xs (v4 + 1).toNatClampNeg) (xs (v4 + 2).toNatClampNeg) x (m, oo) (r, x') e1) rfl rfl hc (by decide) sh_Hb rfl rfl rfl rfl d_Lw_law_1035 ?_
  refine k_aload_n C d_Lw_law_1038 3 rfl ?_
  refine k_aload_n C d_Lw_law_1039 1 rfl ?_
  refine k_iload C d_Lw_law_1040 0 rfl ?_
  refine k_iconst C 1 d_Lw_law_1042 ic_1 ?_
  refine k_iadd C d_Lw_law_1043 ?_
  refine k_sld C hX hi1 d_Lw_law_1044 ?_
  refine k_aload_n C d_Lw_law_1045 1 rfl ?_
  refine k_iload C d_Lw_law_1046 0 rfl ?_
  refine k_iconst C 2 d_Lw_law_1048 ic_2 ?_
  refine k_iadd C d_Lw_law_1049 ?_
  refine k_sld C hX hi2 d_Lw_law_1050 ?_
  refine k_callVi C q_Lw_117 (fun l => m_Mo_fees (cx_g C) l (xs (v4 + 1).toNatClampNeg) (xs (v4 + 2).toNatClampNeg) m x' oo (r, m') e2) rfl rfl hc (by decide) sh_Mo rfl rfl rfl rfl d_Lw_law_1051 ?_
  refine k_icmp_eq C 1829 d_Lw_law_1054 (by decide) (fun c => ?_) (fun c => ?_)
  · exact h
  · exact absurd rfl c
theorem lc_23 {g : GC} {X : MX} {b L : Nat} {xs : Nat → Int32} {v4 : Int32} (C : Cx g X code 8 n_Lw 100) (hX : XS g X b L xs) (hc : X.2.2.2.2.2.2.2.2.2.2.2.1 ≤ X.2.2.2.1.cells ∧ X.2.2.2.2.2.2.2.2.2.2.2.2 ≤ X.2.2.2.1.slots) (hi1 : vp_in (v4 + 1) L) (hi2 : vp_in (v4 + 2) L) (hi3 : vp_in (v4 + 3) L) (hi4 : vp_in (v4 + 4) L) (hi5 : vp_in (v4 + 5) L) {x x' : XD} {m m' : MD} {oo : Nat → Int64} {r : Int32} (e1 : f_Hb_homes (xs (v4 + 1).toNatClampNeg) (xs (v4 + 2).toNatClampNeg) (xs (v4 + 3).toNatClampNeg) (xs (v4 + 4).toNatClampNeg) x = some (r, x')) (e2 : f_Mo_homes (xs (v4 + 1).toNatClampNeg) (xs (v4 + 2).toNatClampNeg) (xs (v4 + 3).toNatClampNeg) (xs (v4 + 4).toNatClampNeg) m = some (r, m')) (h : Wk g X 8 1829 (lwloc g b v4) [] (x', m', oo)) : Wk g X 8 1059 (lwloc g b v4) [] (x, m, oo) := by
  refine k_aload_n C d_Lw_law_1059 2 rfl ?_
  refine k_aload_n C d_Lw_law_1060 1 rfl ?_
  refine k_iload C d_Lw_law_1061 0 rfl ?_
  refine k_iconst C 1 d_Lw_law_1063 ic_1 ?_
  refine k_iadd C d_Lw_law_1064 ?_
  refine k_sld C hX hi1 d_Lw_law_1065 ?_
  refine k_aload_n C d_Lw_law_1066 1 rfl ?_
  refine k_iload C d_Lw_law_1067 0 rfl ?_
  refine k_iconst C 2 d_Lw_law_1069 ic_2 ?_
  refine k_iadd C d_Lw_law_1070 ?_
  refine k_sld C hX hi2 d_Lw_law_1071 ?_
  refine k_aload_n C d_Lw_law_1072 1 rfl ?_
  refine k_iload C d_Lw_law_1073 0 rfl ?_
  refine k_iconst C 3 d_Lw_law_1075 ic_3 ?_
  refine k_iadd C d_Lw_law_1076 ?_
  refine k_sld C hX hi3 d_Lw_law_1077 ?_
  refine k_aload_n C d_Lw_law_1078 1 rfl ?_
  refine k_iload C d_Lw_law_1079 0 rfl ?_
  refine k_iconst C 4 d_Lw_law_1081 ic_4 ?_
  refine k_iadd C d_Lw_law_1082 ?_
  refine k_sld C hX hi4 d_Lw_law_1083 ?_
  refine k_callVi C q_Lw_118 (fun l => m_Hb_homes (cx_g C) l (xs (v4 + 1).toNatClampNeg) (xs (v4 + 2).toNatClampNeg) (xs (v4 + 3).toNatClampNeg) (xs (v4 + 4).toNatClampNeg) x (m, oo) (r, x') e1) rfl rfl hc (by decide) sh_Hb rfl rfl rfl rfl d_Lw_law_1084 ?_
  refine k_aload_n C d_Lw_law_1087 3 rfl ?_
  refine k_aload_n C d_Lw_law_1088 1 rfl ?_
  refine k_iload C d_Lw_law_1089 0 rfl ?_
  refine k_iconst C 1 d_Lw_law_1091 ic_1 ?_
  refine k_iadd C d_Lw_law_1092 ?_
  refine k_sld C hX hi1 d_Lw_law_1093 ?_
  refine k_aload_n C d_Lw_law_1094 1 rfl ?_
  refine k_iload C d_Lw_law_1095 0 rfl ?_
  refine k_iconst C 2 d_Lw_law_1097 ic_2 ?_
  refine k_iadd C d_Lw_law_1098 ?_
  refine k_sld C hX hi2 d_Lw_law_1099 ?_
  refine k_aload_n C d_Lw_law_1100 1 rfl ?_
  refine k_iload C d_Lw_law_1101 0 rfl ?_
  refine k_iconst C 3 d_Lw_law_1103 ic_3 ?_
  refine k_iadd C d_Lw_law_1104 ?_
  refine k_sld C hX hi3 d_Lw_law_1105 ?_
  refine k_aload_n C d_Lw_law_1106 1 rfl ?_
  refine k_iload C d_Lw_law_1107 0 rfl ?_
  refine k_iconst C 4 d_Lw_law_1109 ic_4 ?_
  refine k_iadd C d_Lw_law_1110 ?_
  refine k_sld C hX hi4 d_Lw_law_1111 ?_
  refine k_callVi C q_Lw_121 (fun l => m_Mo_homes (cx_g C) l (xs (v4 + 1).toNatClampNeg) (xs (v4 + 2).toNatClampNeg) (xs (v4 + 3).toNatClampNeg) (xs (v4 + 4).toNatClampNeg) m x' oo (r, m') e2) rfl rfl hc (by decide) sh_Mo rfl rfl rfl rfl d_Lw_law_1112 ?_
  refine k_icmp_eq C 1829 d_Lw_law_1115 (by decide) (fun c => ?_) (fun c => ?_)
  · exact h
  · exact absurd rfl c
theorem lc_24 {g : GC} {X : MX} {b L : Nat} {xs : Nat → Int32} {v4 : Int32} (C : Cx g X code 8 n_Lw 100) (hX : XS g X b L xs) (hc : X.2.2.2.2.2.2.2.2.2.2.2.1 ≤ X.2.2.2.1.cells ∧ X.2.2.2.2.2.2.2.2.2.2.2.2 ≤ X.2.2.2.1.slots) (hi1 : vp_in (v4 + 1) L) (hi2 : vp_in (v4 + 2) L) (hi3 : vp_in (v4 + 3) L) (hi4 : vp_in (v4 + 4) L) (hi5 : vp_in (v4 + 5) L) {x x' : XD} {m m' : MD} {oo : Nat → Int64} {r : Int32} (e1 : f_Hb_whatIs (xs (v4 + 1).toNatClampNeg) (xs (v4 + 2).toNatClampNeg) (xs (v4 + 3).toNatClampNeg) (xs (v4 + 4).toNatClampNeg) x = some (r, x')) (e2 : f_Mo_whatIs (xs (v4 + 1).toNatClampNeg) (xs (v4 + 2).toNatClampNeg) (xs (v4 + 3).toNatClampNeg) (xs (v4 + 4).toNatClampNeg) m = some (r, m')) (h : Wk g X 8 1829 (lwloc g b v4) [] (x', m', oo)) : Wk g X 8 1120 (lwloc g b v4) [] (x, m, oo) := by
  refine k_aload_n C d_Lw_law_1120 2 rfl ?_
  refine k_aload_n C d_Lw_law_1121 1 rfl ?_
  refine k_iload C d_Lw_law_1122 0 rfl ?_
  refine k_iconst C 1 d_Lw_law_1124 ic_1 ?_
  refine k_iadd C d_Lw_law_1125 ?_
  refine k_sld C hX hi1 d_Lw_law_1126 ?_
  refine k_aload_n C d_Lw_law_1127 1 rfl ?_
  refine k_iload C d_Lw_law_1128 0 rfl ?_
  refine k_iconst C 2 d_Lw_law_1130 ic_2 ?_
  refine k_iadd C d_Lw_law_1131 ?_
  refine k_sld C hX hi2 d_Lw_law_1132 ?_
  refine k_aload_n C d_Lw_law_1133 1 rfl ?_
  refine k_iload C d_Lw_law_1134 0 rfl ?_
  refine k_iconst C 3 d_Lw_law_1136 ic_3 ?_
  refine k_iadd C d_Lw_law_1137 ?_
  refine k_sld C hX hi3 d_Lw_law_1138 ?_
  refine k_aload_n C d_Lw_law_1139 1 rfl ?_
  refine k_iload C d_Lw_law_1140 0 rfl ?_
  refine k_iconst C 4 d_Lw_law_1142 ic_4 ?_
  refine k_iadd C d_Lw_law_1143 ?_
  refine k_sld C hX hi4 d_Lw_law_1144 ?_
  refine k_callVi C q_Lw_122 (fun l => m_Hb_whatIs (cx_g C) l (xs (v4 + 1).toNatClampNeg) (xs (v4 + 2).toNatClampNeg) (xs (v4 + 3).toNatClampNeg) (xs (v4 + 4).toNatClampNeg) x (m, oo) (r, x') e1) rfl rfl hc (by decide) sh_Hb rfl rfl rfl rfl d_Lw_law_1145 ?_
  refine k_aload_n C d_Lw_law_1148 3 rfl ?_
  refine k_aload_n C d_Lw_law_1149 1 rfl ?_
  refine k_iload C d_Lw_law_1150 0 rfl ?_
  refine k_iconst C 1 d_Lw_law_1152 ic_1 ?_
  refine k_iadd C d_Lw_law_1153 ?_
  refine k_sld C hX hi1 d_Lw_law_1154 ?_
  refine k_aload_n C d_Lw_law_1155 1 rfl ?_
  refine k_iload C d_Lw_law_1156 0 rfl ?_
  refine k_iconst C 2 d_Lw_law_1158 ic_2 ?_
  refine k_iadd C d_Lw_law_1159 ?_
  refine k_sld C hX hi2 d_Lw_law_1160 ?_
  refine k_aload_n C d_Lw_law_1161 1 rfl ?_
  refine k_iload C d_Lw_law_1162 0 rfl ?_
  refine k_iconst C 3 d_Lw_law_1164 ic_3 ?_
  refine k_iadd C d_Lw_law_1165 ?_
  refine k_sld C hX hi3 d_Lw_law_1166 ?_
  refine k_aload_n C d_Lw_law_1167 1 rfl ?_
  refine k_iload C d_Lw_law_1168 0 rfl ?_
  refine k_iconst C 4 d_Lw_law_1170 ic_4 ?_
  refine k_iadd C d_Lw_law_1171 ?_
  refine k_sld C hX hi4 d_Lw_law_1172 ?_
  refine k_callVi C q_Lw_125 (fun l => m_Mo_whatIs (cx_g C) l (xs (v4 + 1).toNatClampNeg) (xs (v4 + 2).toNatClampNeg) (xs (v4 + 3).toNatClampNeg) (xs (v4 + 4).toNatClampNeg) m x' oo (r, m') e2) rfl rfl hc (by decide) sh_Mo rfl rfl rfl rfl d_Lw_law_1173 ?_
  refine k_icmp_eq C 1829 d_Lw_law_1176 (by decide) (fun c => ?_) (fun c => ?_)
  · exact h
  · exact absurd rfl c
theorem lc_25 {g : GC} {X : MX} {b L : Nat} {xs : Nat → Int32} {v4 : Int32} (C : Cx g X code 8 n_Lw 100) (hX : XS g X b L xs) (hc : X.2.2.2.2.2.2.2.2.2.2.2.1 ≤ X.2.2.2.1.cells ∧ X.2.2.2.2.2.2.2.2.2.2.2.2 ≤ X.2.2.2.1.slots) (hi1 : vp_in (v4 + 1) L) (hi2 : vp_in (v4 + 2) L) (hi3 : vp_in (v4 + 3) L) (hi4 : vp_in (v4 + 4) L) (hi5 : vp_in (v4 + 5) L) {x x' : XD} {m m' : MD} {oo : Nat → Int64} {r : Int32} (e1 : f_Hb_two (xs (v4 + 1).toNatClampNeg) (xs (v4 + 2).toNatClampNeg) (xs (v4 + 3).toNatClampNeg) x = some (r, x')) (e2 : f_Mo_two (xs (v4 + 1).toNatClampNeg) (xs (v4 + 2).toNatClampNeg) (xs (v4 + 3).toNatClampNeg) m = some (r, m')) (h : Wk g X 8 1829 (lwloc g b v4) [] (x', m', oo)) : Wk g X 8 1181 (lwloc g b v4) [] (x, m, oo) := by
  refine k_aload_n C d_Lw_law_1181 2 rfl ?_
  refine k_aload_n C d_Lw_law_1182 1 rfl ?_
  refine k_iload C d_Lw_law_1183 0 rfl ?_
  refine k_iconst C 1 d_Lw_law_1185 ic_1 ?_
  refine k_iadd C d_Lw_law_1186 ?_
  refine k_sld C hX hi1 d_Lw_law_1187 ?_
  refine k_aload_n C d_Lw_law_1188 1 rfl ?_
  refine k_iload C d_Lw_law_1189 0 rfl ?_
  refine k_iconst C 2 d_Lw_law_1191 ic_2 ?_
  refine k_iadd C d_Lw_law_1192 ?_
  refine k_sld C hX hi2 d_Lw_law_1193 ?_
  refine k_aload_n C d_Lw_law_1194 1 rfl ?_
  refine k_iload C d_Lw_law_1195 0 rfl ?_
  refine k_iconst C 3 d_Lw_law_1197 ic_3 ?_
  refine k_iadd C d_Lw_law_1198 ?_
  refine k_sld C hX hi3 d_Lw_law_1199 ?_
  refine k_callVi C q_Lw_126 (fun l => m_Hb_two (cx_g C) l (xs (v4 + 1).toNatClampNeg) (xs (v4 + 2).toNatClampNeg) (xs (v4 + 3).toNatClampNeg) x (m, oo) (r, x') e1) rfl rfl hc (by decide) sh_Hb rfl rfl rfl rfl d_Lw_law_1200 ?_
  refine k_aload_n C d_Lw_law_1203 3 rfl ?_
  refine k_aload_n C d_Lw_law_1204 1 rfl ?_
  refine k_iload C d_Lw_law_1205 0 rfl ?_
  refine k_iconst C 1 d_Lw_law_1207 ic_1 ?_
  refine k_iadd C d_Lw_law_1208 ?_
  refine k_sld C hX hi1 d_Lw_law_1209 ?_
  refine k_aload_n C d_Lw_law_1210 1 rfl ?_
  refine k_iload C d_Lw_law_1211 0 rfl ?_
  refine k_iconst C 2 d_Lw_law_1213 ic_2 ?_
  refine k_iadd C d_Lw_law_1214 ?_
  refine k_sld C hX hi2 d_Lw_law_1215 ?_
  refine k_aload_n C d_Lw_law_1216 1 rfl ?_
  refine k_iload C d_Lw_law_1217 0 rfl ?_
  refine k_iconst C 3 d_Lw_law_1219 ic_3 ?_
  refine k_iadd C d_Lw_law_1220 ?_
  refine k_sld C hX hi3 d_Lw_law_1221 ?_
  refine k_callVi C q_Lw_129 (fun l => m_Mo_two (cx_g C) l (xs (v4 + 1).toNatClampNeg) (xs (v4 + 2).toNatClampNeg) (xs (v4 + 3).toNatClampNeg) m x' oo (r, m') e2) rfl rfl hc (by decide) sh_Mo rfl rfl rfl rfl d_Lw_law_1222 ?_
  refine k_icmp_eq C 1829 d_Lw_law_1225 (by decide) (fun c => ?_) (fun c => ?_)
  · exact h
  · exact absurd rfl c
theorem lc_26 {g : GC} {X : MX} {b L : Nat} {xs : Nat → Int32} {v4 : Int32} (C : Cx g X code 8 n_Lw 100) (hX : XS g X b L xs) (hc : X.2.2.2.2.2.2.2.2.2.2.2.1 ≤ X.2.2.2.1.cells ∧ X.2.2.2.2.2.2.2.2.2.2.2.2 ≤ X.2.2.2.1.slots) (hi1 : vp_in (v4 + 1) L) (hi2 : vp_in (v4 + 2) L) (hi3 : vp_in (v4 + 3) L) (hi4 : vp_in (v4 + 4) L) (hi5 : vp_in (v4 + 5) L) {x x' : XD} {m m' : MD} {oo : Nat → Int64} {r : Int64} (e1 : f_Hb_storm (xs (v4 + 1).toNatClampNeg) (xs (v4 + 2).toNatClampNeg) (xs (v4 + 3).toNatClampNeg) (xs (v4 + 4).toNatClampNeg) (xs (v4 + 5).toNatClampNeg) x = some (r, x')) (e2 : f_Mo_storm (xs (v4 + 1).toNatClampNeg) (xs (v4 + 2).toNatClampNeg) (xs (v4 + 3).toNatClampNeg) (xs (v4 + 4).toNatClampNeg) (xs (v4 + 5).toNatClampNeg) m = some (r, m')) (h : Wk g X 8 1829 (lwloc g b v4) [] (x', m', oo)) : Wk g X 8 1230 (lwloc g b v4) [] (x, m, oo) := by
  refine k_aload_n C d_Lw_law_1230 2 rfl ?_
  refine k_aload_n C d_Lw_law_1231 1 rfl ?_
  refine k_iload C d_Lw_law_1232 0 rfl ?_
  refine k_iconst C 1 d_Lw_law_1234 ic_1 ?_
  refine k_iadd C d_Lw_law_1235 ?_
  refine k_sld C hX hi1 d_Lw_law_1236 ?_
  refine k_aload_n C d_Lw_law_1237 1 rfl ?_
  refine k_iload C d_Lw_law_1238 0 rfl ?_
  refine k_iconst C 2 d_Lw_law_1240 ic_2 ?_
  refine k_iadd C d_Lw_law_1241 ?_
  refine k_sld C hX hi2 d_Lw_law_1242 ?_
  refine k_aload_n C d_Lw_law_1243 1 rfl ?_
  refine k_iload C d_Lw_law_1244 0 rfl ?_
  refine k_iconst C 3 d_Lw_law_1246 ic_3 ?_
  refine k_iadd C d_Lw_law_1247 ?_
  refine k_sld C hX hi3 d_Lw_law_1248 ?_
  refine k_aload_n C d_Lw_law_1249 1 rfl ?_
  refine k_iload C d_Lw_law_1250 0 rfl ?_
  refine k_iconst C 4 d_Lw_law_1252 ic_4 ?_
  refine k_iadd C d_Lw_law_1253 ?_
  refine k_sld C hX hi4 d_Lw_law_1254 ?_
  refine k_aload_n C d_Lw_law_1255 1 rfl ?_
  refine k_iload C d_Lw_law_1256 0 rfl ?_
  refine k_iconst C 5 d_Lw_law_1258 ic_5 ?_
  refine k_iadd C d_Lw_law_1259 ?_
  refine k_sld C hX hi5 d_Lw_law_1260 ?_
  refine k_callVl C q_Lw_130 (fun l => m_Hb_storm (cx_g C) l (xs (v4 + 1).toNatClampNeg) (xs (v4 + 2).toNatClampNeg) (xs (v4 + 3).toNatClampNeg) (xs (v4 + 4).toNatClampNeg) (xs (v4 + 5).toNatClampNeg) x (m, oo) (r, x') e1) rfl rfl hc (by decide) sh_Hb rfl rfl rfl rfl d_Lw_law_1261 ?_
  refine k_aload_n C d_Lw_law_1264 3 rfl ?_
  refine k_aload_n C d_Lw_law_1265 1 rfl ?_
  refine k_iload C d_Lw_law_1266 0 rfl ?_
  refine k_iconst C 1 d_Lw_law_1268 ic_1 ?_
  refine k_iadd C d_Lw_law_1269 ?_
  refine k_sld C hX hi1 d_Lw_law_1270 ?_
  refine k_aload_n C d_Lw_law_1271 1 rfl ?_
  refine k_iload C d_Lw_law_1272 0 rfl ?_
  refine k_iconst C 2 d_Lw_law_1274 ic_2 ?_
  refine k_iadd C d_Lw_law_1275 ?_
  refine k_sld C hX hi2 d_Lw_law_1276 ?_
  refine k_aload_n C d_Lw_law_1277 1 rfl ?_
  refine k_iload C d_Lw_law_1278 0 rfl ?_
  refine k_iconst C 3 d_Lw_law_1280 ic_3 ?_
  refine k_iadd C d_Lw_law_1281 ?_
  refine k_sld C hX hi3 d_Lw_law_1282 ?_
  refine k_aload_n C d_Lw_law_1283 1 rfl ?_
  refine k_iload C d_Lw_law_1284 0 rfl ?_
  refine k_iconst C 4 d_Lw_law_1286 ic_4 ?_
  refine k_iadd C d_Lw_law_1287 ?_
  refine k_sld C hX hi4 d_Lw_law_1288 ?_
  refine k_aload_n C d_Lw_law_1289 1 rfl ?_
  refine k_iload C d_Lw_law_1290 0 rfl ?_
  refine k_iconst C 5 d_Lw_law_1292 ic_5 ?_
  refine k_iadd C d_Lw_law_1293 ?_
  refine k_sld C hX hi5 d_Lw_law_1294 ?_
  refine k_callVl C q_Lw_134 (fun l => m_Mo_storm (cx_g C) l (xs (v4 + 1).toNatClampNeg) (xs (v4 + 2).toNatClampNeg) (xs (v4 + 3).toNatClampNeg) (xs (v4 + 4).toNatClampNeg) (xs (v4 + 5).toNatClampNeg) m x' oo (r, m') e2) rfl rfl hc (by decide) sh_Mo rfl rfl rfl rfl d_Lw_law_1295 ?_
  refine k_lcmp C d_Lw_law_1298 ?_
  refine k_if_eq C 1829 d_Lw_law_1299 (by decide) (fun c => ?_) (fun c => ?_)
  · exact h
  · exact absurd (lg_self r) c
theorem lc_27 {g : GC} {X : MX} {b L : Nat} {xs : Nat → Int32} {v4 : Int32} (C : Cx g X code 8 n_Lw 100) (hX : XS g X b L xs) (hc : X.2.2.2.2.2.2.2.2.2.2.2.1 ≤ X.2.2.2.1.cells ∧ X.2.2.2.2.2.2.2.2.2.2.2.2 ≤ X.2.2.2.1.slots) (hi1 : vp_in (v4 + 1) L) (hi2 : vp_in (v4 + 2) L) (hi3 : vp_in (v4 + 3) L) (hi4 : vp_in (v4 + 4) L) (hi5 : vp_in (v4 + 5) L) {x x' : XD} {m m' : MD} {oo : Nat → Int64} {r : Int64} (e1 : f_Hb_mean (xs (v4 + 1).toNatClampNeg) x = some (r, x')) (e2 : f_Mo_mean (xs (v4 + 1).toNatClampNeg) m = some (r, m')) (h : Wk g X 8 1829 (lwloc g b v4) [] (x', m', oo)) : Wk g X 8 1304 (lwloc g b v4) [] (x, m, oo) := by
  refine k_aload_n C d_Lw_law_1304 2 rfl ?_
  refine k_aload_n C d_Lw_law_1305 1 rfl ?_
  refine k_iload C d_Lw_law_1306 0 rfl ?_
  refine k_iconst C 1 d_Lw_law_1308 ic_1 ?_
  refine k_iadd C d_Lw_law_1309 ?_
  refine k_sld C hX hi1 d_Lw_law_1310 ?_
  refine k_callVl C q_Lw_135 (fun l => m_Hb_mean (cx_g C) l (xs (v4 + 1).toNatClampNeg) x (m, oo) (r, x') e1) rfl rfl hc (by decide) sh_Hb rfl rfl rfl rfl d_Lw_law_1311 ?_
  refine k_aload_n C d_Lw_law_1314 3 rfl ?_
  refine k_aload_n C d_Lw_law_1315 1 rfl ?_
  refine k_iload C d_Lw_law_1316 0 rfl ?_
  refine k_iconst C 1 d_Lw_law_1318 ic_1 ?_
  refine k_iadd C d_Lw_law_1319 ?_
  refine k_sld C hX hi1 d_Lw_law_1320 ?_
  refine k_callVl C q_Lw_139 (fun l => m_Mo_mean (cx_g C) l (xs (v4 + 1).toNatClampNeg) m x' oo (r, m') e2) rfl rfl hc (by decide) sh_Mo rfl rfl rfl rfl d_Lw_law_1321 ?_
  refine k_lcmp C d_Lw_law_1324 ?_
  refine k_if_eq C 1829 d_Lw_law_1325 (by decide) (fun c => ?_) (fun c => ?_)
  · exact h
  · exact absurd (lg_self r) c
theorem lc_28 {g : GC} {X : MX} {b L : Nat} {xs : Nat → Int32} {v4 : Int32} (C : Cx g X code 8 n_Lw 100) (hX : XS g X b L xs) (hc : X.2.2.2.2.2.2.2.2.2.2.2.1 ≤ X.2.2.2.1.cells ∧ X.2.2.2.2.2.2.2.2.2.2.2.2 ≤ X.2.2.2.1.slots) (hi1 : vp_in (v4 + 1) L) (hi2 : vp_in (v4 + 2) L) (hi3 : vp_in (v4 + 3) L) (hi4 : vp_in (v4 + 4) L) (hi5 : vp_in (v4 + 5) L) {x x' : XD} {m m' : MD} {oo : Nat → Int64} {r : Int32} (e1 : f_Hb_forged (xs (v4 + 1).toNatClampNeg) x = some (r, x')) (e2 : f_Mo_forged (xs (v4 + 1).toNatClampNeg) m = some (r, m')) (h : Wk g X 8 1829 (lwloc g b v4) [] (x', m', oo)) : Wk g X 8 1330 (lwloc g b v4) [] (x, m, oo) := by
  refine k_aload_n C d_Lw_law_1330 2 rfl ?_
  refine k_aload_n C d_Lw_law_1331 1 rfl ?_
  refine k_iload C d_Lw_law_1332 0 rfl ?_
  refine k_iconst C 1 d_Lw_law_1334 ic_1 ?_
  refine k_iadd C d_Lw_law_1335 ?_
  refine k_sld C hX hi1 d_Lw_law_1336 ?_
  refine k_callVi C q_Lw_140 (fun l => m_Hb_forged (cx_g C) l (xs (v4 + 1).toNatClampNeg) x (m, oo) (r, x') e1) rfl rfl hc (by decide) sh_Hb rfl rfl rfl rfl d_Lw_law_1337 ?_
  refine k_aload_n C d_Lw_law_1340 3 rfl ?_
  refine k_aload_n C d_Lw_law_1341 1 rfl ?_
  refine k_iload C d_Lw_law_1342 0 rfl ?_
  refine k_iconst C 1 d_Lw_law_1344 ic_1 ?_
  refine k_iadd C d_Lw_law_1345 ?_
  refine k_sld C hX hi1 d_Lw_law_1346 ?_
  refine k_callVi C q_Lw_143 (fun l => m_Mo_forged (cx_g C) l (xs (v4 + 1).toNatClampNeg) m x' oo (r, m') e2) rfl rfl hc (by decide) sh_Mo rfl rfl rfl rfl d_Lw_law_1347 ?_
  refine k_icmp_eq C 1829 d_Lw_law_1350 (by decide) (fun c => ?_) (fun c => ?_)
  · exact h
  · exact absurd rfl c
theorem lc_29 {g : GC} {X : MX} {b L : Nat} {xs : Nat → Int32} {v4 : Int32} (C : Cx g X code 8 n_Lw 100) (hX : XS g X b L xs) (hc : X.2.2.2.2.2.2.2.2.2.2.2.1 ≤ X.2.2.2.1.cells ∧ X.2.2.2.2.2.2.2.2.2.2.2.2 ≤ X.2.2.2.1.slots) (hi1 : vp_in (v4 + 1) L) (hi2 : vp_in (v4 + 2) L) (hi3 : vp_in (v4 + 3) L) (hi4 : vp_in (v4 + 4) L) (hi5 : vp_in (v4 + 5) L) {x x' : XD} {m m' : MD} {oo : Nat → Int64} {r : Int32} (e1 : f_Hb_judge (xs (v4 + 1).toNatClampNeg) x = some (r, x')) (e2 : f_Mo_judge (xs (v4 + 1).toNatClampNeg) m = some (r, m')) (h : Wk g X 8 1829 (lwloc g b v4) [] (x', m', oo)) : Wk g X 8 1355 (lwloc g b v4) [] (x, m, oo) := by
  refine k_aload_n C d_Lw_law_1355 2 rfl ?_
  refine k_aload_n C d_Lw_law_1356 1 rfl ?_
  refine k_iload C d_Lw_law_1357 0 rfl ?_
  refine k_iconst C 1 d_Lw_law_1359 ic_1 ?_
  refine k_iadd C d_Lw_law_1360 ?_
  refine k_sld C hX hi1 d_Lw_law_1361 ?_
  refine k_callVi C q_Lw_144 (fun l => m_Hb_judge (cx_g C) l (xs (v4 + 1).toNatClampNeg) x (m, oo) (r, x') e1) rfl rfl hc (by decide) sh_Hb rfl rfl rfl rfl d_Lw_law_1362 ?_
  refine k_aload_n C d_Lw_law_1365 3 rfl ?_
  refine k_aload_n C d_Lw_law_1366 1 rfl ?_
  refine k_iload C d_Lw_law_1367 0 rfl ?_
  refine k_iconst C 1 d_Lw_law_1369 ic_1 ?_
  refine k_iadd C d_Lw_law_1370 ?_
  refine k_sld C hX hi1 d_Lw_law_1371 ?_
  refine k_callVi C q_Lw_147 (fun l => m_Mo_judge (cx_g C) l (xs (v4 + 1).toNatClampNeg) m x' oo (r, m') e2) rfl rfl hc (by decide) sh_Mo rfl rfl rfl rfl d_Lw_law_1372 ?_
  refine k_icmp_eq C 1829 d_Lw_law_1375 (by decide) (fun c => ?_) (fun c => ?_)
  · exact h
  · exact absurd rfl c
theorem lc_30 {g : GC} {X : MX} {b L : Nat} {xs : Nat → Int32} {v4 : Int32} (C : Cx g X code 8 n_Lw 100) (hX : XS g X b L xs) (hc : X.2.2.2.2.2.2.2.2.2.2.2.1 ≤ X.2.2.2.1.cells ∧ X.2.2.2.2.2.2.2.2.2.2.2.2 ≤ X.2.2.2.1.slots) (hi1 : vp_in (v4 + 1) L) (hi2 : vp_in (v4 + 2) L) (hi3 : vp_in (v4 + 3) L) (hi4 : vp_in (v4 + 4) L) (hi5 : vp_in (v4 + 5) L) {x x' : XD} {m m' : MD} {oo : Nat → Int64} {r : Int32} (e1 : f_Hb_lands (xs (v4 + 1).toNatClampNeg) (xs (v4 + 2).toNatClampNeg) (xs (v4 + 3).toNatClampNeg) x = some (r, x')) (e2 : f_Mo_lands (xs (v4 + 1).toNatClampNeg) (xs (v4 + 2).toNatClampNeg) (xs (v4 + 3).toNatClampNeg) m = some (r, m')) (h : Wk g X 8 1829 (lwloc g b v4) [] (x', m', oo)) : Wk g X 8 1380 (lwloc g b v4) [] (x, m, oo) := by
  refine k_aload_n C d_Lw_law_1380 2 rfl ?_
  refine k_aload_n C d_Lw_law_1381 1 rfl ?_
  refine k_iload C d_Lw_law_1382 0 rfl ?_
  refine k_iconst C 1 d_Lw_law_1384 ic_1 ?_
  refine k_iadd C d_Lw_law_1385 ?_
  refine k_sld C hX hi1 d_Lw_law_1386 ?_
  refine k_aload_n C d_Lw_law_1387 1 rfl ?_
  refine k_iload C d_Lw_law_1388 0 rfl ?_
  refine k_iconst C 2 d_Lw_law_1390 ic_2 ?_
  refine k_iadd C d_Lw_law_1391 ?_
  refine k_sld C hX hi2 d_Lw_law_1392 ?_
  refine k_aload_n C d_Lw_law_1393 1 rfl ?_
  refine k_iload C d_Lw_law_1394 0 rfl ?_
  refine k_iconst C 3 d_Lw_law_1396 ic_3 ?_
  refine k_iadd C d_Lw_law_1397 ?_
  refine k_sld C hX hi3 d_Lw_law_1398 ?_
  refine k_callVi C q_Lw_148 (fun l => m_Hb_lands (cx_g C) l (xs (v4 + 1).toNatClampNeg) (xs (v4 + 2).toNatClampNeg) (xs (v4 + 3).toNatClampNeg) x (m, oo) (r, x') e1) rfl rfl hc (by decide) sh_Hb rfl rfl rfl rfl d_Lw_law_1399 ?_
  refine k_aload_n C d_Lw_law_1402 3 rfl ?_
  refine k_aload_n C d_Lw_law_1403 1 rfl ?_
  refine k_iload C d_Lw_law_1404 0 rfl ?_
  refine k_iconst C 1 d_Lw_law_1406 ic_1 ?_
  refine k_iadd C d_Lw_law_1407 ?_
  refine k_sld C hX hi1 d_Lw_law_1408 ?_
  refine k_aload_n C d_Lw_law_1409 1 rfl ?_
  refine k_iload C d_Lw_law_1410 0 rfl ?_
  refine k_iconst C 2 d_Lw_law_1412 ic_2 ?_
  refine k_iadd C d_Lw_law_1413 ?_
  refine k_sld C hX hi2 d_Lw_law_1414 ?_
  refine k_aload_n C d_Lw_law_1415 1 rfl ?_
  refine k_iload C d_Lw_law_1416 0 rfl ?_
  refine k_iconst C 3 d_Lw_law_1418 ic_3 ?_
  refine k_iadd C d_Lw_law_1419 ?_
  refine k_sld C hX hi3 d_Lw_law_1420 ?_
  refine k_callVi C q_Lw_151 (fun l => m_Mo_lands (cx_g C) l (xs (v4 + 1).toNatClampNeg) (xs (v4 + 2).toNatClampNeg) (xs (v4 + 3).toNatClampNeg) m x' oo (r, m') e2) rfl rfl hc (by decide) sh_Mo rfl rfl rfl rfl d_Lw_law_1421 ?_
  refine k_icmp_eq C 1829 d_Lw_law_1424 (by decide) (fun c => ?_) (fun c => ?_)
  · exact h
  · exact absurd rfl c
theorem lc_31 {g : GC} {X : MX} {b L : Nat} {xs : Nat → Int32} {v4 : Int32} (C : Cx g X code 8 n_Lw 100) (hX : XS g X b L xs) (hc : X.2.2.2.2.2.2.2.2.2.2.2.1 ≤ X.2.2.2.1.cells ∧ X.2.2.2.2.2.2.2.2.2.2.2.2 ≤ X.2.2.2.1.slots) (hi1 : vp_in (v4 + 1) L) (hi2 : vp_in (v4 + 2) L) (hi3 : vp_in (v4 + 3) L) (hi4 : vp_in (v4 + 4) L) (hi5 : vp_in (v4 + 5) L) {x x' : XD} {m m' : MD} {oo : Nat → Int64} {r : Int32} (e1 : f_Hb_image x = some (r, x')) (e2 : f_Mo_image m = some (r, m')) (h : Wk g X 8 1829 (lwloc g b v4) [] (x', m', oo)) : Wk g X 8 1429 (lwloc g b v4) [] (x, m, oo) := by
  refine k_aload_n C d_Lw_law_1429 2 rfl ?_
  refine k_callVi C q_Lw_152 (fun l => m_Hb_image (cx_g C) l x (m, oo) (r, x') e1) rfl rfl hc (by decide) sh_Hb rfl rfl rfl rfl d_Lw_law_1430 ?_
  refine k_aload_n C d_Lw_law_1433 3 rfl ?_
  refine k_callVi C q_Lw_155 (fun l => m_Mo_image (cx_g C) l m x' oo (r, m') e2) rfl rfl hc (by decide) sh_Mo rfl rfl rfl rfl d_Lw_law_1434 ?_
  refine k_icmp_eq C 1829 d_Lw_law_1437 (by decide) (fun c => ?_) (fun c => ?_)
  · exact h
  · exact absurd rfl c
theorem lc_32 {g : GC} {X : MX} {b L : Nat} {xs : Nat → Int32} {v4 : Int32} (C : Cx g X code 8 n_Lw 100) (hX : XS g X b L xs) (hc : X.2.2.2.2.2.2.2.2.2.2.2.1 ≤ X.2.2.2.1.cells ∧ X.2.2.2.2.2.2.2.2.2.2.2.2 ≤ X.2.2.2.1.slots) (hi1 : vp_in (v4 + 1) L) (hi2 : vp_in (v4 + 2) L) (hi3 : vp_in (v4 + 3) L) (hi4 : vp_in (v4 + 4) L) (hi5 : vp_in (v4 + 5) L) {x x' : XD} {m m' : MD} {oo : Nat → Int64} {r : Int32} (e1 : f_Hb_restore x = some (r, x')) (e2 : f_Mo_restore m = some (r, m')) (h : Wk g X 8 1829 (lwloc g b v4) [] (x', m', oo)) : Wk g X 8 1442 (lwloc g b v4) [] (x, m, oo) := by
  refine k_aload_n C d_Lw_law_1442 2 rfl ?_
  refine k_callVi C q_Lw_156 (fun l => m_Hb_restore (cx_g C) l x (m, oo) (r, x') e1) rfl rfl hc (by decide) sh_Hb rfl rfl rfl rfl d_Lw_law_1443 ?_
  refine k_aload_n C d_Lw_law_1446 3 rfl ?_
  refine k_callVi C q_Lw_159 (fun l => m_Mo_restore (cx_g C) l m x' oo (r, m') e2) rfl rfl hc (by decide) sh_Mo rfl rfl rfl rfl d_Lw_law_1447 ?_
  refine k_icmp_eq C 1829 d_Lw_law_1450 (by decide) (fun c => ?_) (fun c => ?_)
  · exact h
  · exact absurd rfl c
theorem lc_33 {g : GC} {X : MX} {b L : Nat} {xs : Nat → Int32} {v4 : Int32} (C : Cx g X code 8 n_Lw 100) (hX : XS g X b L xs) (hc : X.2.2.2.2.2.2.2.2.2.2.2.1 ≤ X.2.2.2.1.cells ∧ X.2.2.2.2.2.2.2.2.2.2.2.2 ≤ X.2.2.2.1.slots) (hi1 : vp_in (v4 + 1) L) (hi2 : vp_in (v4 + 2) L) (hi3 : vp_in (v4 + 3) L) (hi4 : vp_in (v4 + 4) L) (hi5 : vp_in (v4 + 5) L) {x x' : XD} {m m' : MD} {oo : Nat → Int64} {r : Int32} (e1 : f_Hb_count (xs (v4 + 1).toNatClampNeg) x = some (r, x')) (e2 : f_Mo_count (xs (v4 + 1).toNatClampNeg) m = some (r, m')) (h : Wk g X 8 1829 (lwloc g b v4) [] (x', m', oo)) : Wk g X 8 1455 (lwloc g b v4) [] (x, m, oo) := by
  refine k_aload_n C d_Lw_law_1455 2 rfl ?_
  refine k_aload_n C d_Lw_law_1456 1 rfl ?_
  refine k_iload C d_Lw_law_1457 0 rfl ?_
  refine k_iconst C 1 d_Lw_law_1459 ic_1 ?_
  refine k_iadd C d_Lw_law_1460 ?_
  refine k_sld C hX hi1 d_Lw_law_1461 ?_
  refine k_callVi C q_Lw_160 (fun l => m_Hb_count (cx_g C) l (xs (v4 + 1).toNatClampNeg) x (m, oo) (r, x') e1) rfl rfl hc (by decide) sh_Hb rfl rfl rfl rfl d_Lw_law_1462 ?_
  refine k_aload_n C d_Lw_law_1465 3 rfl ?_
  refine k_aload_n C d_Lw_law_1466 1 rfl ?_
  refine k_iload C d_Lw_law_1467 0 rfl ?_
  refine k_iconst C 1 d_Lw_law_1469 ic_1 ?_
  refine k_iadd C d_Lw_law_1470 ?_
  refine k_sld C hX hi1 d_Lw_law_1471 ?_
  refine k_callVi C q_Lw_163 (fun l => m_Mo_count (cx_g C) l (xs (v4 + 1).toNatClampNeg) m x' oo (r, m') e2) rfl rfl hc (by decide) sh_Mo rfl rfl rfl rfl d_Lw_law_1472 ?_
  refine k_icmp_eq C 1829 d_Lw_law_1475 (by decide) (fun c => ?_) (fun c => ?_)
  · exact h
  · exact absurd rfl c
theorem lc_34 {g : GC} {X : MX} {b L : Nat} {xs : Nat → Int32} {v4 : Int32} (C : Cx g X code 8 n_Lw 100) (hX : XS g X b L xs) (hc : X.2.2.2.2.2.2.2.2.2.2.2.1 ≤ X.2.2.2.1.cells ∧ X.2.2.2.2.2.2.2.2.2.2.2.2 ≤ X.2.2.2.1.slots) (hi1 : vp_in (v4 + 1) L) (hi2 : vp_in (v4 + 2) L) (hi3 : vp_in (v4 + 3) L) (hi4 : vp_in (v4 + 4) L) (hi5 : vp_in (v4 + 5) L) {x x' : XD} {m m' : MD} {oo : Nat → Int64} {r : Int32} (e1 : f_Hb_keep (xs (v4 + 1).toNatClampNeg) (xs (v4 + 2).toNatClampNeg) (xs (v4 + 3).toNatClampNeg) (xs (v4 + 4).toNatClampNeg) x = some (r, x')) (e2 : f_Mo_keep (xs (v4 + 1).toNatClampNeg) (xs (v4 + 2).toNatClampNeg) (xs (v4 + 3).toNatClampNeg) (xs (v4 + 4).toNatClampNeg) m = some (r, m')) (h : Wk g X 8 1829 (lwloc g b v4) [] (x', m', oo)) : Wk g X 8 1480 (lwloc g b v4) [] (x, m, oo) := by
  refine k_aload_n C d_Lw_law_1480 2 rfl ?_
  refine k_aload_n C d_Lw_law_1481 1 rfl ?_
  refine k_iload C d_Lw_law_1482 0 rfl ?_
  refine k_iconst C 1 d_Lw_law_1484 ic_1 ?_
  refine k_iadd C d_Lw_law_1485 ?_
  refine k_sld C hX hi1 d_Lw_law_1486 ?_
  refine k_aload_n C d_Lw_law_1487 1 rfl ?_
  refine k_iload C d_Lw_law_1488 0 rfl ?_
  refine k_iconst C 2 d_Lw_law_1490 ic_2 ?_
  refine k_iadd C d_Lw_law_1491 ?_
  refine k_sld C hX hi2 d_Lw_law_1492 ?_
  refine k_aload_n C d_Lw_law_1493 1 rfl ?_
  refine k_iload C d_Lw_law_1494 0 rfl ?_
  refine k_iconst C 3 d_Lw_law_1496 ic_3 ?_
  refine k_iadd C d_Lw_law_1497 ?_
  refine k_sld C hX hi3 d_Lw_law_1498 ?_
  refine k_aload_n C d_Lw_law_1499 1 rfl ?_
  refine k_iload C d_Lw_law_1500 0 rfl ?_
  refine k_iconst C 4 d_Lw_law_1502 ic_4 ?_
  refine k_iadd C d_Lw_law_1503 ?_
  refine k_sld C hX hi4 d_Lw_law_1504 ?_
  refine k_callVi C q_Lw_164 (fun l => m_Hb_keep (cx_g C) l (xs (v4 + 1).toNatClampNeg) (xs (v4 + 2).toNatClampNeg) (xs (v4 + 3).toNatClampNeg) (xs (v4 + 4).toNatClampNeg) x (m, oo) (r, x') e1) rfl rfl hc (by decide) sh_Hb rfl rfl rfl rfl d_Lw_law_1505 ?_
  refine k_aload_n C d_Lw_law_1508 3 rfl ?_
  refine k_aload_n C d_Lw_law_1509 1 rfl ?_
  refine k_iload C d_Lw_law_1510 0 rfl ?_
  refine k_iconst C 1 d_Lw_law_1512 ic_1 ?_
  refine k_iadd C d_Lw_law_1513 ?_
  refine k_sld C hX hi1 d_Lw_law_1514 ?_
  refine k_aload_n C d_Lw_law_1515 1 rfl ?_
  refine k_iload C d_Lw_law_1516 0 rfl ?_
  refine k_iconst C 2 d_Lw_law_1518 ic_2 ?_
  refine k_iadd C d_Lw_law_1519 ?_
  refine k_sld C hX hi2 d_Lw_law_1520 ?_
  refine k_aload_n C d_Lw_law_1521 1 rfl ?_
  refine k_iload C d_Lw_law_1522 0 rfl ?_
  refine k_iconst C 3 d_Lw_law_1524 ic_3 ?_
  refine k_iadd C d_Lw_law_1525 ?_
  refine k_sld C hX hi3 d_Lw_law_1526 ?_
  refine k_aload_n C d_Lw_law_1527 1 rfl ?_
  refine k_iload C d_Lw_law_1528 0 rfl ?_
  refine k_iconst C 4 d_Lw_law_1530 ic_4 ?_
  refine k_iadd C d_Lw_law_1531 ?_
  refine k_sld C hX hi4 d_Lw_law_1532 ?_
  refine k_callVi C q_Lw_167 (fun l => m_Mo_keep (cx_g C) l (xs (v4 + 1).toNatClampNeg) (xs (v4 + 2).toNatClampNeg) (xs (v4 + 3).toNatClampNeg) (xs (v4 + 4).toNatClampNeg) m x' oo (r, m') e2) rfl rfl hc (by decide) sh_Mo rfl rfl rfl rfl d_Lw_law_1533 ?_
  refine k_icmp_eq C 1829 d_Lw_law_1536 (by decide) (fun c => ?_) (fun c => ?_)
  · exact h
  · exact absurd rfl c
theorem lc_35 {g : GC} {X : MX} {b L : Nat} {xs : Nat → Int32} {v4 : Int32} (C : Cx g X code 8 n_Lw 100) (hX : XS g X b L xs) (hc : X.2.2.2.2.2.2.2.2.2.2.2.1 ≤ X.2.2.2.1.cells ∧ X.2.2.2.2.2.2.2.2.2.2.2.2 ≤ X.2.2.2.1.slots) (hi1 : vp_in (v4 + 1) L) (hi2 : vp_in (v4 + 2) L) (hi3 : vp_in (v4 + 3) L) (hi4 : vp_in (v4 + 4) L) (hi5 : vp_in (v4 + 5) L) {x x' : XD} {m m' : MD} {oo : Nat → Int64} {r : Int32} (e1 : f_Hb_row (xs (v4 + 1).toNatClampNeg) (xs (v4 + 2).toNatClampNeg) (xs (v4 + 3).toNatClampNeg) x = some (r, x')) (e2 : f_Mo_row (xs (v4 + 1).toNatClampNeg) (xs (v4 + 2).toNatClampNeg) (xs (v4 + 3).toNatClampNeg) m = some (r, m')) (h : Wk g X 8 1829 (lwloc g b v4) [] (x', m', oo)) : Wk g X 8 1541 (lwloc g b v4) [] (x, m, oo) := by
  refine k_aload_n C d_Lw_law_1541 2 rfl ?_
  refine k_aload_n C d_Lw_law_1542 1 rfl ?_
  refine k_iload C d_Lw_law_1543 0 rfl ?_
  refine k_iconst C 1 d_Lw_law_1545 ic_1 ?_
  refine k_iadd C d_Lw_law_1546 ?_
  refine k_sld C hX hi1 d_Lw_law_1547 ?_
  refine k_aload_n C d_Lw_law_1548 1 rfl ?_
  refine k_iload C d_Lw_law_1549 0 rfl ?_
  refine k_iconst C 2 d_Lw_law_1551 ic_2 ?_
  refine k_iadd C d_Lw_law_1552 ?_
  refine k_sld C hX hi2 d_Lw_law_1553 ?_
  refine k_aload_n C d_Lw_law_1554 1 rfl ?_
  refine k_iload C d_Lw_law_1555 0 rfl ?_
  refine k_iconst C 3 d_Lw_law_1557 ic_3 ?_
  refine k_iadd C d_Lw_law_1558 ?_
  refine k_sld C hX hi3 d_Lw_law_1559 ?_
  refine k_callVi C q_Lw_168 (fun l => m_Hb_row (cx_g C) l (xs (v4 + 1).toNatClampNeg) (xs (v4 + 2).toNatClampNeg) (xs (v4 + 3).toNatClampNeg) x (m, oo) (r, x') e1) rfl rfl hc (by decide) sh_Hb rfl rfl rfl rfl d_Lw_law_1560 ?_
  refine k_aload_n C d_Lw_law_1563 3 rfl ?_
  refine k_aload_n C d_Lw_law_1564 1 rfl ?_
  refine k_iload C d_Lw_law_1565 0 rfl ?_
  refine k_iconst C 1 d_Lw_law_1567 ic_1 ?_
  refine k_iadd C d_Lw_law_1568 ?_
  refine k_sld C hX hi1 d_Lw_law_1569 ?_
  refine k_aload_n C d_Lw_law_1570 1 rfl ?_
  refine k_iload C d_Lw_law_1571 0 rfl ?_
  refine k_iconst C 2 d_Lw_law_1573 ic_2 ?_
  refine k_iadd C d_Lw_law_1574 ?_
  refine k_sld C hX hi2 d_Lw_law_1575 ?_
  refine k_aload_n C d_Lw_law_1576 1 rfl ?_
  refine k_iload C d_Lw_law_1577 0 rfl ?_
  refine k_iconst C 3 d_Lw_law_1579 ic_3 ?_
  refine k_iadd C d_Lw_law_1580 ?_
  refine k_sld C hX hi3 d_Lw_law_1581 ?_
  refine k_callVi C q_Lw_171 (fun l => m_Mo_row (cx_g C) l (xs (v4 + 1).toNatClampNeg) (xs (v4 + 2).toNatClampNeg) (xs (v4 + 3).toNatClampNeg) m x' oo (r, m') e2) rfl rfl hc (by decide) sh_Mo rfl rfl rfl rfl d_Lw_law_1582 ?_
  refine k_icmp_eq C 1829 d_Lw_law_1585 (by decide) (fun c => ?_) (fun c => ?_)
  · exact h
  · exact absurd rfl c
theorem lc_36 {g : GC} {X : MX} {b L : Nat} {xs : Nat → Int32} {v4 : Int32} (C : Cx g X code 8 n_Lw 100) (hX : XS g X b L xs) (hc : X.2.2.2.2.2.2.2.2.2.2.2.1 ≤ X.2.2.2.1.cells ∧ X.2.2.2.2.2.2.2.2.2.2.2.2 ≤ X.2.2.2.1.slots) (hi1 : vp_in (v4 + 1) L) (hi2 : vp_in (v4 + 2) L) (hi3 : vp_in (v4 + 3) L) (hi4 : vp_in (v4 + 4) L) (hi5 : vp_in (v4 + 5) L) {x x' : XD} {m m' : MD} {oo : Nat → Int64} {r : Int32} (e1 : f_Hb_put (xs (v4 + 1).toNatClampNeg) (xs (v4 + 2).toNatClampNeg) (xs (v4 + 3).toNatClampNeg) x = some (r, x')) (e2 : f_Mo_put (xs (v4 + 1).toNatClampNeg) (xs (v4 + 2).toNatClampNeg) (xs (v4 + 3).toNatClampNeg) m = some (r, m')) (h : Wk g X 8 1829 (lwloc g b v4) [] (x', m', oo)) : Wk g X 8 1590 (lwloc g b v4) [] (x, m, oo) := by
  refine k_aload_n C d_Lw_law_1590 2 rfl ?_
  refine k_aload_n C d_Lw_law_1591 1 rfl ?_
  refine k_iload C d_Lw_law_1592 0 rfl ?_
  refine k_iconst C 1 d_Lw_law_1594 ic_1 ?_
  refine k_iadd C d_Lw_law_1595 ?_
  refine k_sld C hX hi1 d_Lw_law_1596 ?_
  refine k_aload_n C d_Lw_law_1597 1 rfl ?_
  refine k_iload C d_Lw_law_1598 0 rfl ?_
  refine k_iconst C 2 d_Lw_law_1600 ic_2 ?_
  refine k_iadd C d_Lw_law_1601 ?_
  refine k_sld C hX hi2 d_Lw_law_1602 ?_
  refine k_aload_n C d_Lw_law_1603 1 rfl ?_
  refine k_iload C d_Lw_law_1604 0 rfl ?_
  refine k_iconst C 3 d_Lw_law_1606 ic_3 ?_
  refine k_iadd C d_Lw_law_1607 ?_
  refine k_sld C hX hi3 d_Lw_law_1608 ?_
  refine k_callVi C q_Lw_172 (fun l => m_Hb_put (cx_g C) l (xs (v4 + 1).toNatClampNeg) (xs (v4 + 2).toNatClampNeg) (xs (v4 + 3).toNatClampNeg) x (m, oo) (r, x') e1) rfl rfl hc (by decide) sh_Hb rfl rfl rfl rfl d_Lw_law_1609 ?_
  refine k_aload_n C d_Lw_law_1612 3 rfl ?_
  refine k_aload_n C d_Lw_law_1613 1 rfl ?_
  refine k_iload C d_Lw_law_1614 0 rfl ?_
  refine k_iconst C 1 d_Lw_law_1616 ic_1 ?_
  refine k_iadd C d_Lw_law_1617 ?_
  refine k_sld C hX hi1 d_Lw_law_1618 ?_
  refine k_aload_n C d_Lw_law_1619 1 rfl ?_
  refine k_iload C d_Lw_law_1620 0 rfl ?_
  refine k_iconst C 2 d_Lw_law_1622 ic_2 ?_
  refine k_iadd C d_Lw_law_1623 ?_
  refine k_sld C hX hi2 d_Lw_law_1624 ?_
  refine k_aload_n C d_Lw_law_1625 1 rfl ?_
  refine k_iload C d_Lw_law_1626 0 rfl ?_
  refine k_iconst C 3 d_Lw_law_1628 ic_3 ?_
  refine k_iadd C d_Lw_law_1629 ?_
  refine k_sld C hX hi3 d_Lw_law_1630 ?_
  refine k_callVi C q_Lw_175 (fun l => m_Mo_put (cx_g C) l (xs (v4 + 1).toNatClampNeg) (xs (v4 + 2).toNatClampNeg) (xs (v4 + 3).toNatClampNeg) m x' oo (r, m') e2) rfl rfl hc (by decide) sh_Mo rfl rfl rfl rfl d_Lw_law_1631 ?_
  refine k_icmp_eq C 1829 d_Lw_law_1634 (by decide) (fun c => ?_) (fun c => ?_)
  · exact h
  · exact absurd rfl c
theorem lc_38 {g : GC} {X : MX} {b L : Nat} {xs : Nat → Int32} {v4 : Int32} (C : Cx g X code 8 n_Lw 100) (hX : XS g X b L xs) (hc : X.2.2.2.2.2.2.2.2.2.2.2.1 ≤ X.2.2.2.1.cells ∧ X.2.2.2.2.2.2.2.2.2.2.2.2 ≤ X.2.2.2.1.slots) (hi1 : vp_in (v4 + 1) L) (hi2 : vp_in (v4 + 2) L) (hi3 : vp_in (v4 + 3) L) (hi4 : vp_in (v4 + 4) L) (hi5 : vp_in (v4 + 5) L) {x x' : XD} {m m' : MD} {oo : Nat → Int64} {r : Int32} (e1 : f_Hb_copy (xs (v4 + 1).toNatClampNeg) (xs (v4 + 2).toNatClampNeg) (xs (v4 + 3).toNatClampNeg) (xs (v4 + 4).toNatClampNeg) (xs (v4 + 5).toNatClampNeg) x = some (r, x')) (e2 : f_Mo_copy (xs (v4 + 1).toNatClampNeg) (xs (v4 + 2).toNatClampNeg) (xs (v4 + 3).toNatClampNeg) (xs (v4 + 4).toNatClampNeg) (xs (v4 + 5).toNatClampNeg) m = some (r, m')) (h : Wk g X 8 1829 (lwloc g b v4) [] (x', m', oo)) : Wk g X 8 1706 (lwloc g b v4) [] (x, m, oo) := by
  refine k_aload_n C d_Lw_law_1706 2 rfl ?_
  refine k_aload_n C d_Lw_law_1707 1 rfl ?_
  refine k_iload C d_Lw_law_1708 0 rfl ?_
  refine k_iconst C 1 d_Lw_law_1710 ic_1 ?_
  refine k_iadd C d_Lw_law_1711 ?_
  refine k_sld C hX hi1 d_Lw_law_1712 ?_
  refine k_aload_n C d_Lw_law_1713 1 rfl ?_
  refine k_iload C d_Lw_law_1714 0 rfl ?_
  refine k_iconst C 2 d_Lw_law_1716 ic_2 ?_
  refine k_iadd C d_Lw_law_1717 ?_
  refine k_sld C hX hi2 d_Lw_law_1718 ?_
  refine k_aload_n C d_Lw_law_1719 1 rfl ?_
  refine k_iload C d_Lw_law_1720 0 rfl ?_
  refine k_iconst C 3 d_Lw_law_1722 ic_3 ?_
  refine k_iadd C d_Lw_law_1723 ?_
  refine k_sld C hX hi3 d_Lw_law_1724 ?_
  refine k_aload_n C d_Lw_law_1725 1 rfl ?_
  refine k_iload C d_Lw_law_1726 0 rfl ?_
  refine k_iconst C 4 d_Lw_law_1728 ic_4 ?_
  refine k_iadd C d_Lw_law_1729 ?_
  refine k_sld C hX hi4 d_Lw_law_1730 ?_
  refine k_aload_n C d_Lw_law_1731 1 rfl ?_
  refine k_iload C d_Lw_law_1732 0 rfl ?_
  refine k_iconst C 5 d_Lw_law_1734 ic_5 ?_
  refine k_iadd C d_Lw_law_1735 ?_
  refine k_sld C hX hi5 d_Lw_law_1736 ?_
  refine k_callVi C q_Lw_185 (fun l => m_Hb_copy (cx_g C) l (xs (v4 + 1).toNatClampNeg) (xs (v4 + 2).toNatClampNeg) (xs (v4 + 3).toNatClampNeg) (xs (v4 + 4).toNatClampNeg) (xs (v4 + 5).toNatClampNeg) x (m, oo) (r, x') e1) rfl rfl hc (by decide) sh_Hb rfl rfl rfl rfl d_Lw_law_1737 ?_
  refine k_aload_n C d_Lw_law_1740 3 rfl ?_
  refine k_aload_n C d_Lw_law_1741 1 rfl ?_
  refine k_iload C d_Lw_law_1742 0 rfl ?_
  refine k_iconst C 1 d_Lw_law_1744 ic_1 ?_
  refine k_iadd C d_Lw_law_1745 ?_
  refine k_sld C hX hi1 d_Lw_law_1746 ?_
  refine k_aload_n C d_Lw_law_1747 1 rfl ?_
  refine k_iload C d_Lw_law_1748 0 rfl ?_
  refine k_iconst C 2 d_Lw_law_1750 ic_2 ?_
  refine k_iadd C d_Lw_law_1751 ?_
  refine k_sld C hX hi2 d_Lw_law_1752 ?_
  refine k_aload_n C d_Lw_law_1753 1 rfl ?_
  refine k_iload C d_Lw_law_1754 0 rfl ?_
  refine k_iconst C 3 d_Lw_law_1756 ic_3 ?_
  refine k_iadd C d_Lw_law_1757 ?_
  refine k_sld C hX hi3 d_Lw_law_1758 ?_
  refine k_aload_n C d_Lw_law_1759 1 rfl ?_
  refine k_iload C d_Lw_law_1760 0 rfl ?_
  refine k_iconst C 4 d_Lw_law_1762 ic_4 ?_
  refine k_iadd C d_Lw_law_1763 ?_
  refine k_sld C hX hi4 d_Lw_law_1764 ?_
  refine k_aload_n C d_Lw_law_1765 1 rfl ?_
  refine k_iload C d_Lw_law_1766 0 rfl ?_
  refine k_iconst C 5 d_Lw_law_1768 ic_5 ?_
  refine k_iadd C d_Lw_law_1769 ?_
  refine k_sld C hX hi5 d_Lw_law_1770 ?_
  refine k_callVi C q_Lw_189 (fun l => m_Mo_copy (cx_g C) l (xs (v4 + 1).toNatClampNeg) (xs (v4 + 2).toNatClampNeg) (xs (v4 + 3).toNatClampNeg) (xs (v4 + 4).toNatClampNeg) (xs (v4 + 5).toNatClampNeg) m x' oo (r, m') e2) rfl rfl hc (by decide) sh_Mo rfl rfl rfl rfl d_Lw_law_1771 ?_
  refine k_icmp_eq C 1829 d_Lw_law_1774 (by decide) (fun c => ?_) (fun c => ?_)
  · exact h
  · exact absurd rfl c
theorem lc_39 {g : GC} {X : MX} {b L : Nat} {xs : Nat → Int32} {v4 : Int32} (C : Cx g X code 8 n_Lw 100) (hX : XS g X b L xs) (hc : X.2.2.2.2.2.2.2.2.2.2.2.1 ≤ X.2.2.2.1.cells ∧ X.2.2.2.2.2.2.2.2.2.2.2.2 ≤ X.2.2.2.1.slots) (hi1 : vp_in (v4 + 1) L) (hi2 : vp_in (v4 + 2) L) (hi3 : vp_in (v4 + 3) L) (hi4 : vp_in (v4 + 4) L) (hi5 : vp_in (v4 + 5) L) {x x' : XD} {m m' : MD} {oo : Nat → Int64} {r : Int32} (e1 : f_Hb_cost (xs (v4 + 1).toNatClampNeg) x = some (r, x')) (e2 : f_Mo_cost (xs (v4 + 1).toNatClampNeg) m = some (r, m')) (h : Wk g X 8 1829 (lwloc g b v4) [] (x', m', oo)) : Wk g X 8 1779 (lwloc g b v4) [] (x, m, oo) := by
  refine k_aload_n C d_Lw_law_1779 2 rfl ?_
  refine k_aload_n C d_Lw_law_1780 1 rfl ?_
  refine k_iload C d_Lw_law_1781 0 rfl ?_
  refine k_iconst C 1 d_Lw_law_1783 ic_1 ?_
  refine k_iadd C d_Lw_law_1784 ?_
  refine k_sld C hX hi1 d_Lw_law_1785 ?_
  refine k_callVi C q_Lw_190 (fun l => m_Hb_cost (cx_g C) l (xs (v4 + 1).toNatClampNeg) x (m, oo) (r, x') e1) rfl rfl hc (by decide) sh_Hb rfl rfl rfl rfl d_Lw_law_1786 ?_
  refine k_aload_n C d_Lw_law_1789 3 rfl ?_
  refine k_aload_n C d_Lw_law_1790 1 rfl ?_
  refine k_iload C d_Lw_law_1791 0 rfl ?_
  refine k_iconst C 1 d_Lw_law_1793 ic_1 ?_
  refine k_iadd C d_Lw_law_1794 ?_
  refine k_sld C hX hi1 d_Lw_law_1795 ?_
  refine k_callVi C q_Lw_193 (fun l => m_Mo_cost (cx_g C) l (xs (v4 + 1).toNatClampNeg) m x' oo (r, m') e2) rfl rfl hc (by decide) sh_Mo rfl rfl rfl rfl d_Lw_law_1796 ?_
  refine k_icmp_eq C 1829 d_Lw_law_1799 (by decide) (fun c => ?_) (fun c => ?_)
  · exact h
  · exact absurd rfl c
