theorem dLw_0 : decode code 0 = .ok (.new 7, 3) := by decide +kernel
theorem dLw_3 : decode code 3 = .ok (.dup, 1) := by decide +kernel
theorem dLw_4 : decode code 4 = .ok (.invokespecial 9, 3) := by decide +kernel
theorem dLw_7 : decode code 7 = .ok (.astore_n 1, 1) := by decide +kernel
theorem dLw_8 : decode code 8 = .ok (.new 10, 3) := by decide +kernel
theorem dLw_11 : decode code 11 = .ok (.dup, 1) := by decide +kernel
theorem dLw_12 : decode code 12 = .ok (.invokespecial 12, 3) := by decide +kernel
theorem dLw_15 : decode code 15 = .ok (.astore_n 2, 1) := by decide +kernel
theorem dLw_16 : decode code 16 = .ok (.iconst 0, 1) := by decide +kernel
theorem dLw_17 : decode code 17 = .ok (.istore_n 3, 1) := by decide +kernel
theorem dLw_18 : decode code 18 = .ok (.iload_n 3, 1) := by decide +kernel
theorem dLw_19 : decode code 19 = .ok (.aload_n 0, 1) := by decide +kernel
theorem dLw_20 : decode code 20 = .ok (.arraylength, 1) := by decide +kernel
theorem dLw_21 : decode code 21 = .ok (.bipush 6, 2) := by decide +kernel
theorem dLw_23 : decode code 23 = .ok (.isub, 1) := by decide +kernel
theorem dLw_24 : decode code 24 = .ok (.if_icmp .gt 1493, 3) := by decide +kernel
theorem dLw_27 : decode code 27 = .ok (.aload_n 0, 1) := by decide +kernel
theorem dLw_28 : decode code 28 = .ok (.iload_n 3, 1) := by decide +kernel
theorem dLw_29 : decode code 29 = .ok (.iaload, 1) := by decide +kernel
theorem dLw_30 : decode code 30 = .ok (.bipush 63, 2) := by decide +kernel
theorem dLw_32 : decode code 32 = .ok (.iand, 1) := by decide +kernel
theorem dLw_33 : decode code 33 = .ok (.tableswitch 1478 0 48 #[211, 274, 297, 310, 333, 376, 399, 422, 455, 508, 531, 544, 577, 590, 603, 616, 629, 642, 675, 708, 731, 754, 777, 810, 833, 856, 879, 902, 925, 958, 981, 1004, 1027, 1060, 1083, 1096, 1119, 1162, 1185, 1208, 1251, 1274, 1297, 1320, 1353, 1376, 1399, 1432, 1455], 211) := by decide +kernel
theorem dLw_244 : decode code 244 = .ok (.aload_n 1, 1) := by decide +kernel
theorem dLw_245 : decode code 245 = .ok (.aload_n 0, 1) := by decide +kernel
theorem dLw_246 : decode code 246 = .ok (.iload_n 3, 1) := by decide +kernel
theorem dLw_247 : decode code 247 = .ok (.iconst 1, 1) := by decide +kernel
theorem dLw_248 : decode code 248 = .ok (.iadd, 1) := by decide +kernel
theorem dLw_249 : decode code 249 = .ok (.iaload, 1) := by decide +kernel
theorem dLw_250 : decode code 250 = .ok (.aload_n 0, 1) := by decide +kernel
theorem dLw_251 : decode code 251 = .ok (.iload_n 3, 1) := by decide +kernel
theorem dLw_252 : decode code 252 = .ok (.iconst 2, 1) := by decide +kernel
theorem dLw_253 : decode code 253 = .ok (.iadd, 1) := by decide +kernel
theorem dLw_254 : decode code 254 = .ok (.iaload, 1) := by decide +kernel
theorem dLw_255 : decode code 255 = .ok (.aload_n 0, 1) := by decide +kernel
theorem dLw_256 : decode code 256 = .ok (.iload_n 3, 1) := by decide +kernel
theorem dLw_257 : decode code 257 = .ok (.iconst 3, 1) := by decide +kernel
theorem dLw_258 : decode code 258 = .ok (.iadd, 1) := by decide +kernel
theorem dLw_259 : decode code 259 = .ok (.iaload, 1) := by decide +kernel
theorem dLw_260 : decode code 260 = .ok (.aload_n 0, 1) := by decide +kernel
theorem dLw_261 : decode code 261 = .ok (.iload_n 3, 1) := by decide +kernel
theorem dLw_262 : decode code 262 = .ok (.iconst 4, 1) := by decide +kernel
theorem dLw_263 : decode code 263 = .ok (.iadd, 1) := by decide +kernel
theorem dLw_264 : decode code 264 = .ok (.iaload, 1) := by decide +kernel
theorem dLw_265 : decode code 265 = .ok (.aload_n 0, 1) := by decide +kernel
theorem dLw_266 : decode code 266 = .ok (.iload_n 3, 1) := by decide +kernel
theorem dLw_267 : decode code 267 = .ok (.iconst 5, 1) := by decide +kernel
theorem dLw_268 : decode code 268 = .ok (.iadd, 1) := by decide +kernel
theorem dLw_269 : decode code 269 = .ok (.iaload, 1) := by decide +kernel
theorem dLw_270 : decode code 270 = .ok (.invokevirtual 13, 3) := by decide +kernel
theorem dLw_273 : decode code 273 = .ok (.aload_n 2, 1) := by decide +kernel
theorem dLw_274 : decode code 274 = .ok (.aload_n 0, 1) := by decide +kernel
theorem dLw_275 : decode code 275 = .ok (.iload_n 3, 1) := by decide +kernel
theorem dLw_276 : decode code 276 = .ok (.iconst 1, 1) := by decide +kernel
theorem dLw_277 : decode code 277 = .ok (.iadd, 1) := by decide +kernel
theorem dLw_278 : decode code 278 = .ok (.iaload, 1) := by decide +kernel
theorem dLw_279 : decode code 279 = .ok (.aload_n 0, 1) := by decide +kernel
theorem dLw_280 : decode code 280 = .ok (.iload_n 3, 1) := by decide +kernel
theorem dLw_281 : decode code 281 = .ok (.iconst 2, 1) := by decide +kernel
theorem dLw_282 : decode code 282 = .ok (.iadd, 1) := by decide +kernel
theorem dLw_283 : decode code 283 = .ok (.iaload, 1) := by decide +kernel
theorem dLw_284 : decode code 284 = .ok (.aload_n 0, 1) := by decide +kernel
theorem dLw_285 : decode code 285 = .ok (.iload_n 3, 1) := by decide +kernel
theorem dLw_286 : decode code 286 = .ok (.iconst 3, 1) := by decide +kernel
theorem dLw_287 : decode code 287 = .ok (.iadd, 1) := by decide +kernel
theorem dLw_288 : decode code 288 = .ok (.iaload, 1) := by decide +kernel
theorem dLw_289 : decode code 289 = .ok (.aload_n 0, 1) := by decide +kernel
theorem dLw_290 : decode code 290 = .ok (.iload_n 3, 1) := by decide +kernel
theorem dLw_291 : decode code 291 = .ok (.iconst 4, 1) := by decide +kernel
theorem dLw_292 : decode code 292 = .ok (.iadd, 1) := by decide +kernel
theorem dLw_293 : decode code 293 = .ok (.iaload, 1) := by decide +kernel
theorem dLw_294 : decode code 294 = .ok (.aload_n 0, 1) := by decide +kernel
theorem dLw_295 : decode code 295 = .ok (.iload_n 3, 1) := by decide +kernel
theorem dLw_296 : decode code 296 = .ok (.iconst 5, 1) := by decide +kernel
theorem dLw_297 : decode code 297 = .ok (.iadd, 1) := by decide +kernel
theorem dLw_298 : decode code 298 = .ok (.iaload, 1) := by decide +kernel
theorem dLw_299 : decode code 299 = .ok (.invokevirtual 17, 3) := by decide +kernel
theorem dLw_302 : decode code 302 = .ok (.if_icmp .eq 1209, 3) := by decide +kernel
theorem dLw_305 : decode code 305 = .ok (.iconst 0, 1) := by decide +kernel
theorem dLw_306 : decode code 306 = .ok (.ireturn, 1) := by decide +kernel
theorem dLw_307 : decode code 307 = .ok (.aload_n 1, 1) := by decide +kernel
theorem dLw_308 : decode code 308 = .ok (.aload_n 0, 1) := by decide +kernel
theorem dLw_309 : decode code 309 = .ok (.iload_n 3, 1) := by decide +kernel
theorem dLw_310 : decode code 310 = .ok (.iconst 1, 1) := by decide +kernel
theorem dLw_311 : decode code 311 = .ok (.iadd, 1) := by decide +kernel
theorem dLw_312 : decode code 312 = .ok (.iaload, 1) := by decide +kernel
theorem dLw_313 : decode code 313 = .ok (.invokevirtual 18, 3) := by decide +kernel
theorem dLw_316 : decode code 316 = .ok (.aload_n 2, 1) := by decide +kernel
theorem dLw_317 : decode code 317 = .ok (.aload_n 0, 1) := by decide +kernel
theorem dLw_318 : decode code 318 = .ok (.iload_n 3, 1) := by decide +kernel
theorem dLw_319 : decode code 319 = .ok (.iconst 1, 1) := by decide +kernel
theorem dLw_320 : decode code 320 = .ok (.iadd, 1) := by decide +kernel
theorem dLw_321 : decode code 321 = .ok (.iaload, 1) := by decide +kernel
theorem dLw_322 : decode code 322 = .ok (.invokevirtual 22, 3) := by decide +kernel
theorem dLw_325 : decode code 325 = .ok (.if_icmp .eq 1186, 3) := by decide +kernel
theorem dLw_328 : decode code 328 = .ok (.iconst 0, 1) := by decide +kernel
theorem dLw_329 : decode code 329 = .ok (.ireturn, 1) := by decide +kernel
theorem dLw_330 : decode code 330 = .ok (.aload_n 1, 1) := by decide +kernel
theorem dLw_331 : decode code 331 = .ok (.invokevirtual 23, 3) := by decide +kernel
theorem dLw_334 : decode code 334 = .ok (.aload_n 2, 1) := by decide +kernel
theorem dLw_335 : decode code 335 = .ok (.invokevirtual 27, 3) := by decide +kernel
theorem dLw_338 : decode code 338 = .ok (.if_icmp .eq 1173, 3) := by decide +kernel
theorem dLw_341 : decode code 341 = .ok (.iconst 0, 1) := by decide +kernel
theorem dLw_342 : decode code 342 = .ok (.ireturn, 1) := by decide +kernel
theorem dLw_343 : decode code 343 = .ok (.aload_n 1, 1) := by decide +kernel
theorem dLw_344 : decode code 344 = .ok (.aload_n 0, 1) := by decide +kernel
theorem dLw_345 : decode code 345 = .ok (.iload_n 3, 1) := by decide +kernel
theorem dLw_346 : decode code 346 = .ok (.iconst 1, 1) := by decide +kernel
theorem dLw_347 : decode code 347 = .ok (.iadd, 1) := by decide +kernel
theorem dLw_348 : decode code 348 = .ok (.iaload, 1) := by decide +kernel
theorem dLw_349 : decode code 349 = .ok (.invokevirtual 28, 3) := by decide +kernel
theorem dLw_352 : decode code 352 = .ok (.aload_n 2, 1) := by decide +kernel
theorem dLw_353 : decode code 353 = .ok (.aload_n 0, 1) := by decide +kernel
theorem dLw_354 : decode code 354 = .ok (.iload_n 3, 1) := by decide +kernel
theorem dLw_355 : decode code 355 = .ok (.iconst 1, 1) := by decide +kernel
theorem dLw_356 : decode code 356 = .ok (.iadd, 1) := by decide +kernel
theorem dLw_357 : decode code 357 = .ok (.iaload, 1) := by decide +kernel
theorem dLw_358 : decode code 358 = .ok (.invokevirtual 31, 3) := by decide +kernel
theorem dLw_361 : decode code 361 = .ok (.if_icmp .eq 1150, 3) := by decide +kernel
theorem dLw_364 : decode code 364 = .ok (.iconst 0, 1) := by decide +kernel
theorem dLw_365 : decode code 365 = .ok (.ireturn, 1) := by decide +kernel
theorem dLw_366 : decode code 366 = .ok (.aload_n 1, 1) := by decide +kernel
theorem dLw_367 : decode code 367 = .ok (.aload_n 0, 1) := by decide +kernel
theorem dLw_368 : decode code 368 = .ok (.iload_n 3, 1) := by decide +kernel
theorem dLw_369 : decode code 369 = .ok (.iconst 1, 1) := by decide +kernel
theorem dLw_370 : decode code 370 = .ok (.iadd, 1) := by decide +kernel
theorem dLw_371 : decode code 371 = .ok (.iaload, 1) := by decide +kernel
theorem dLw_372 : decode code 372 = .ok (.aload_n 0, 1) := by decide +kernel
theorem dLw_373 : decode code 373 = .ok (.iload_n 3, 1) := by decide +kernel
theorem dLw_374 : decode code 374 = .ok (.iconst 2, 1) := by decide +kernel
theorem dLw_375 : decode code 375 = .ok (.iadd, 1) := by decide +kernel
theorem dLw_376 : decode code 376 = .ok (.iaload, 1) := by decide +kernel
theorem dLw_377 : decode code 377 = .ok (.aload_n 0, 1) := by decide +kernel
theorem dLw_378 : decode code 378 = .ok (.iload_n 3, 1) := by decide +kernel
theorem dLw_379 : decode code 379 = .ok (.iconst 3, 1) := by decide +kernel
theorem dLw_380 : decode code 380 = .ok (.iadd, 1) := by decide +kernel
theorem dLw_381 : decode code 381 = .ok (.iaload, 1) := by decide +kernel
theorem dLw_382 : decode code 382 = .ok (.invokevirtual 32, 3) := by decide +kernel
theorem dLw_385 : decode code 385 = .ok (.aload_n 2, 1) := by decide +kernel
theorem dLw_386 : decode code 386 = .ok (.aload_n 0, 1) := by decide +kernel
theorem dLw_387 : decode code 387 = .ok (.iload_n 3, 1) := by decide +kernel
theorem dLw_388 : decode code 388 = .ok (.iconst 1, 1) := by decide +kernel
theorem dLw_389 : decode code 389 = .ok (.iadd, 1) := by decide +kernel
theorem dLw_390 : decode code 390 = .ok (.iaload, 1) := by decide +kernel
theorem dLw_391 : decode code 391 = .ok (.aload_n 0, 1) := by decide +kernel
theorem dLw_392 : decode code 392 = .ok (.iload_n 3, 1) := by decide +kernel
theorem dLw_393 : decode code 393 = .ok (.iconst 2, 1) := by decide +kernel
theorem dLw_394 : decode code 394 = .ok (.iadd, 1) := by decide +kernel
theorem dLw_395 : decode code 395 = .ok (.iaload, 1) := by decide +kernel
theorem dLw_396 : decode code 396 = .ok (.aload_n 0, 1) := by decide +kernel
theorem dLw_397 : decode code 397 = .ok (.iload_n 3, 1) := by decide +kernel
theorem dLw_398 : decode code 398 = .ok (.iconst 3, 1) := by decide +kernel
theorem dLw_399 : decode code 399 = .ok (.iadd, 1) := by decide +kernel
theorem dLw_400 : decode code 400 = .ok (.iaload, 1) := by decide +kernel
theorem dLw_401 : decode code 401 = .ok (.invokevirtual 36, 3) := by decide +kernel
theorem dLw_404 : decode code 404 = .ok (.if_icmp .eq 1107, 3) := by decide +kernel
theorem dLw_407 : decode code 407 = .ok (.iconst 0, 1) := by decide +kernel
theorem dLw_408 : decode code 408 = .ok (.ireturn, 1) := by decide +kernel
theorem dLw_409 : decode code 409 = .ok (.aload_n 1, 1) := by decide +kernel
theorem dLw_410 : decode code 410 = .ok (.aload_n 0, 1) := by decide +kernel
theorem dLw_411 : decode code 411 = .ok (.iload_n 3, 1) := by decide +kernel
theorem dLw_412 : decode code 412 = .ok (.iconst 1, 1) := by decide +kernel
theorem dLw_413 : decode code 413 = .ok (.iadd, 1) := by decide +kernel
theorem dLw_414 : decode code 414 = .ok (.iaload, 1) := by decide +kernel
theorem dLw_415 : decode code 415 = .ok (.invokevirtual 37, 3) := by decide +kernel
theorem dLw_418 : decode code 418 = .ok (.aload_n 2, 1) := by decide +kernel
theorem dLw_419 : decode code 419 = .ok (.aload_n 0, 1) := by decide +kernel
theorem dLw_420 : decode code 420 = .ok (.iload_n 3, 1) := by decide +kernel
theorem dLw_421 : decode code 421 = .ok (.iconst 1, 1) := by decide +kernel
theorem dLw_422 : decode code 422 = .ok (.iadd, 1) := by decide +kernel
theorem dLw_423 : decode code 423 = .ok (.iaload, 1) := by decide +kernel
theorem dLw_424 : decode code 424 = .ok (.invokevirtual 40, 3) := by decide +kernel
theorem dLw_427 : decode code 427 = .ok (.if_icmp .eq 1084, 3) := by decide +kernel
theorem dLw_430 : decode code 430 = .ok (.iconst 0, 1) := by decide +kernel
theorem dLw_431 : decode code 431 = .ok (.ireturn, 1) := by decide +kernel
theorem dLw_432 : decode code 432 = .ok (.aload_n 1, 1) := by decide +kernel
theorem dLw_433 : decode code 433 = .ok (.aload_n 0, 1) := by decide +kernel
theorem dLw_434 : decode code 434 = .ok (.iload_n 3, 1) := by decide +kernel
theorem dLw_435 : decode code 435 = .ok (.iconst 1, 1) := by decide +kernel
theorem dLw_436 : decode code 436 = .ok (.iadd, 1) := by decide +kernel
theorem dLw_437 : decode code 437 = .ok (.iaload, 1) := by decide +kernel
theorem dLw_438 : decode code 438 = .ok (.invokevirtual 41, 3) := by decide +kernel
theorem dLw_441 : decode code 441 = .ok (.aload_n 2, 1) := by decide +kernel
theorem dLw_442 : decode code 442 = .ok (.aload_n 0, 1) := by decide +kernel
theorem dLw_443 : decode code 443 = .ok (.iload_n 3, 1) := by decide +kernel
theorem dLw_444 : decode code 444 = .ok (.iconst 1, 1) := by decide +kernel
theorem dLw_445 : decode code 445 = .ok (.iadd, 1) := by decide +kernel
theorem dLw_446 : decode code 446 = .ok (.iaload, 1) := by decide +kernel
theorem dLw_447 : decode code 447 = .ok (.invokevirtual 44, 3) := by decide +kernel
theorem dLw_450 : decode code 450 = .ok (.if_icmp .eq 1061, 3) := by decide +kernel
theorem dLw_453 : decode code 453 = .ok (.iconst 0, 1) := by decide +kernel
theorem dLw_454 : decode code 454 = .ok (.ireturn, 1) := by decide +kernel
theorem dLw_455 : decode code 455 = .ok (.aload_n 1, 1) := by decide +kernel
theorem dLw_456 : decode code 456 = .ok (.aload_n 0, 1) := by decide +kernel
theorem dLw_457 : decode code 457 = .ok (.iload_n 3, 1) := by decide +kernel
theorem dLw_458 : decode code 458 = .ok (.iconst 1, 1) := by decide +kernel
theorem dLw_459 : decode code 459 = .ok (.iadd, 1) := by decide +kernel
theorem dLw_460 : decode code 460 = .ok (.iaload, 1) := by decide +kernel
theorem dLw_461 : decode code 461 = .ok (.aload_n 0, 1) := by decide +kernel
theorem dLw_462 : decode code 462 = .ok (.iload_n 3, 1) := by decide +kernel
theorem dLw_463 : decode code 463 = .ok (.iconst 2, 1) := by decide +kernel
theorem dLw_464 : decode code 464 = .ok (.iadd, 1) := by decide +kernel
theorem dLw_465 : decode code 465 = .ok (.iaload, 1) := by decide +kernel
theorem dLw_466 : decode code 466 = .ok (.invokevirtual 45, 3) := by decide +kernel
theorem dLw_469 : decode code 469 = .ok (.aload_n 2, 1) := by decide +kernel
theorem dLw_470 : decode code 470 = .ok (.aload_n 0, 1) := by decide +kernel
theorem dLw_471 : decode code 471 = .ok (.iload_n 3, 1) := by decide +kernel
theorem dLw_472 : decode code 472 = .ok (.iconst 1, 1) := by decide +kernel
theorem dLw_473 : decode code 473 = .ok (.iadd, 1) := by decide +kernel
theorem dLw_474 : decode code 474 = .ok (.iaload, 1) := by decide +kernel
theorem dLw_475 : decode code 475 = .ok (.aload_n 0, 1) := by decide +kernel
theorem dLw_476 : decode code 476 = .ok (.iload_n 3, 1) := by decide +kernel
theorem dLw_477 : decode code 477 = .ok (.iconst 2, 1) := by decide +kernel
theorem dLw_478 : decode code 478 = .ok (.iadd, 1) := by decide +kernel
theorem dLw_479 : decode code 479 = .ok (.iaload, 1) := by decide +kernel
theorem dLw_480 : decode code 480 = .ok (.invokevirtual 49, 3) := by decide +kernel
theorem dLw_483 : decode code 483 = .ok (.if_icmp .eq 1028, 3) := by decide +kernel
theorem dLw_486 : decode code 486 = .ok (.iconst 0, 1) := by decide +kernel
theorem dLw_487 : decode code 487 = .ok (.ireturn, 1) := by decide +kernel
theorem dLw_488 : decode code 488 = .ok (.aload_n 1, 1) := by decide +kernel
theorem dLw_489 : decode code 489 = .ok (.aload_n 0, 1) := by decide +kernel
theorem dLw_490 : decode code 490 = .ok (.iload_n 3, 1) := by decide +kernel
theorem dLw_491 : decode code 491 = .ok (.iconst 1, 1) := by decide +kernel
theorem dLw_492 : decode code 492 = .ok (.iadd, 1) := by decide +kernel
theorem dLw_493 : decode code 493 = .ok (.iaload, 1) := by decide +kernel
theorem dLw_494 : decode code 494 = .ok (.aload_n 0, 1) := by decide +kernel
theorem dLw_495 : decode code 495 = .ok (.iload_n 3, 1) := by decide +kernel
theorem dLw_496 : decode code 496 = .ok (.iconst 2, 1) := by decide +kernel
theorem dLw_497 : decode code 497 = .ok (.iadd, 1) := by decide +kernel
theorem dLw_498 : decode code 498 = .ok (.iaload, 1) := by decide +kernel
theorem dLw_499 : decode code 499 = .ok (.aload_n 0, 1) := by decide +kernel
theorem dLw_500 : decode code 500 = .ok (.iload_n 3, 1) := by decide +kernel
theorem dLw_501 : decode code 501 = .ok (.iconst 3, 1) := by decide +kernel
theorem dLw_502 : decode code 502 = .ok (.iadd, 1) := by decide +kernel
theorem dLw_503 : decode code 503 = .ok (.iaload, 1) := by decide +kernel
theorem dLw_504 : decode code 504 = .ok (.aload_n 0, 1) := by decide +kernel
theorem dLw_505 : decode code 505 = .ok (.iload_n 3, 1) := by decide +kernel
theorem dLw_506 : decode code 506 = .ok (.iconst 4, 1) := by decide +kernel
theorem dLw_507 : decode code 507 = .ok (.iadd, 1) := by decide +kernel
theorem dLw_508 : decode code 508 = .ok (.iaload, 1) := by decide +kernel
theorem dLw_509 : decode code 509 = .ok (.invokevirtual 50, 3) := by decide +kernel
theorem dLw_512 : decode code 512 = .ok (.aload_n 2, 1) := by decide +kernel
theorem dLw_513 : decode code 513 = .ok (.aload_n 0, 1) := by decide +kernel
theorem dLw_514 : decode code 514 = .ok (.iload_n 3, 1) := by decide +kernel
theorem dLw_515 : decode code 515 = .ok (.iconst 1, 1) := by decide +kernel
theorem dLw_516 : decode code 516 = .ok (.iadd, 1) := by decide +kernel
theorem dLw_517 : decode code 517 = .ok (.iaload, 1) := by decide +kernel
theorem dLw_518 : decode code 518 = .ok (.aload_n 0, 1) := by decide +kernel
theorem dLw_519 : decode code 519 = .ok (.iload_n 3, 1) := by decide +kernel
theorem dLw_520 : decode code 520 = .ok (.iconst 2, 1) := by decide +kernel
theorem dLw_521 : decode code 521 = .ok (.iadd, 1) := by decide +kernel
theorem dLw_522 : decode code 522 = .ok (.iaload, 1) := by decide +kernel
theorem dLw_523 : decode code 523 = .ok (.aload_n 0, 1) := by decide +kernel
theorem dLw_524 : decode code 524 = .ok (.iload_n 3, 1) := by decide +kernel
theorem dLw_525 : decode code 525 = .ok (.iconst 3, 1) := by decide +kernel
theorem dLw_526 : decode code 526 = .ok (.iadd, 1) := by decide +kernel
theorem dLw_527 : decode code 527 = .ok (.iaload, 1) := by decide +kernel
theorem dLw_528 : decode code 528 = .ok (.aload_n 0, 1) := by decide +kernel
theorem dLw_529 : decode code 529 = .ok (.iload_n 3, 1) := by decide +kernel
theorem dLw_530 : decode code 530 = .ok (.iconst 4, 1) := by decide +kernel
theorem dLw_531 : decode code 531 = .ok (.iadd, 1) := by decide +kernel
theorem dLw_532 : decode code 532 = .ok (.iaload, 1) := by decide +kernel
theorem dLw_533 : decode code 533 = .ok (.invokevirtual 54, 3) := by decide +kernel
theorem dLw_536 : decode code 536 = .ok (.if_icmp .eq 975, 3) := by decide +kernel
theorem dLw_539 : decode code 539 = .ok (.iconst 0, 1) := by decide +kernel
theorem dLw_540 : decode code 540 = .ok (.ireturn, 1) := by decide +kernel
theorem dLw_541 : decode code 541 = .ok (.aload_n 1, 1) := by decide +kernel
theorem dLw_542 : decode code 542 = .ok (.aload_n 0, 1) := by decide +kernel
theorem dLw_543 : decode code 543 = .ok (.iload_n 3, 1) := by decide +kernel
theorem dLw_544 : decode code 544 = .ok (.iconst 1, 1) := by decide +kernel
theorem dLw_545 : decode code 545 = .ok (.iadd, 1) := by decide +kernel
theorem dLw_546 : decode code 546 = .ok (.iaload, 1) := by decide +kernel
theorem dLw_547 : decode code 547 = .ok (.invokevirtual 55, 3) := by decide +kernel
theorem dLw_550 : decode code 550 = .ok (.aload_n 2, 1) := by decide +kernel
theorem dLw_551 : decode code 551 = .ok (.aload_n 0, 1) := by decide +kernel
theorem dLw_552 : decode code 552 = .ok (.iload_n 3, 1) := by decide +kernel
theorem dLw_553 : decode code 553 = .ok (.iconst 1, 1) := by decide +kernel
theorem dLw_554 : decode code 554 = .ok (.iadd, 1) := by decide +kernel
theorem dLw_555 : decode code 555 = .ok (.iaload, 1) := by decide +kernel
theorem dLw_556 : decode code 556 = .ok (.invokevirtual 59, 3) := by decide +kernel
theorem dLw_559 : decode code 559 = .ok (.if_icmp .eq 952, 3) := by decide +kernel
theorem dLw_562 : decode code 562 = .ok (.iconst 0, 1) := by decide +kernel
theorem dLw_563 : decode code 563 = .ok (.ireturn, 1) := by decide +kernel
theorem dLw_564 : decode code 564 = .ok (.aload_n 1, 1) := by decide +kernel
theorem dLw_565 : decode code 565 = .ok (.invokevirtual 60, 3) := by decide +kernel
theorem dLw_568 : decode code 568 = .ok (.aload_n 2, 1) := by decide +kernel
theorem dLw_569 : decode code 569 = .ok (.invokevirtual 63, 3) := by decide +kernel
theorem dLw_572 : decode code 572 = .ok (.if_icmp .eq 939, 3) := by decide +kernel
theorem dLw_575 : decode code 575 = .ok (.iconst 0, 1) := by decide +kernel
theorem dLw_576 : decode code 576 = .ok (.ireturn, 1) := by decide +kernel
theorem dLw_577 : decode code 577 = .ok (.aload_n 1, 1) := by decide +kernel
theorem dLw_578 : decode code 578 = .ok (.aload_n 0, 1) := by decide +kernel
theorem dLw_579 : decode code 579 = .ok (.iload_n 3, 1) := by decide +kernel
theorem dLw_580 : decode code 580 = .ok (.iconst 1, 1) := by decide +kernel
theorem dLw_581 : decode code 581 = .ok (.iadd, 1) := by decide +kernel
theorem dLw_582 : decode code 582 = .ok (.iaload, 1) := by decide +kernel
theorem dLw_583 : decode code 583 = .ok (.aload_n 0, 1) := by decide +kernel
theorem dLw_584 : decode code 584 = .ok (.iload_n 3, 1) := by decide +kernel
theorem dLw_585 : decode code 585 = .ok (.iconst 2, 1) := by decide +kernel
theorem dLw_586 : decode code 586 = .ok (.iadd, 1) := by decide +kernel
theorem dLw_587 : decode code 587 = .ok (.iaload, 1) := by decide +kernel
theorem dLw_588 : decode code 588 = .ok (.invokevirtual 64, 3) := by decide +kernel
theorem dLw_591 : decode code 591 = .ok (.aload_n 2, 1) := by decide +kernel
theorem dLw_592 : decode code 592 = .ok (.aload_n 0, 1) := by decide +kernel
theorem dLw_593 : decode code 593 = .ok (.iload_n 3, 1) := by decide +kernel
theorem dLw_594 : decode code 594 = .ok (.iconst 1, 1) := by decide +kernel
theorem dLw_595 : decode code 595 = .ok (.iadd, 1) := by decide +kernel
theorem dLw_596 : decode code 596 = .ok (.iaload, 1) := by decide +kernel
theorem dLw_597 : decode code 597 = .ok (.aload_n 0, 1) := by decide +kernel
theorem dLw_598 : decode code 598 = .ok (.iload_n 3, 1) := by decide +kernel
theorem dLw_599 : decode code 599 = .ok (.iconst 2, 1) := by decide +kernel
theorem dLw_600 : decode code 600 = .ok (.iadd, 1) := by decide +kernel
theorem dLw_601 : decode code 601 = .ok (.iaload, 1) := by decide +kernel
theorem dLw_602 : decode code 602 = .ok (.invokevirtual 67, 3) := by decide +kernel
theorem dLw_605 : decode code 605 = .ok (.if_icmp .eq 906, 3) := by decide +kernel
theorem dLw_608 : decode code 608 = .ok (.iconst 0, 1) := by decide +kernel
theorem dLw_609 : decode code 609 = .ok (.ireturn, 1) := by decide +kernel
theorem dLw_610 : decode code 610 = .ok (.aload_n 1, 1) := by decide +kernel
theorem dLw_611 : decode code 611 = .ok (.invokevirtual 68, 3) := by decide +kernel
theorem dLw_614 : decode code 614 = .ok (.aload_n 2, 1) := by decide +kernel
theorem dLw_615 : decode code 615 = .ok (.invokevirtual 71, 3) := by decide +kernel
theorem dLw_618 : decode code 618 = .ok (.if_icmp .eq 893, 3) := by decide +kernel
theorem dLw_621 : decode code 621 = .ok (.iconst 0, 1) := by decide +kernel
theorem dLw_622 : decode code 622 = .ok (.ireturn, 1) := by decide +kernel
theorem dLw_623 : decode code 623 = .ok (.aload_n 1, 1) := by decide +kernel
theorem dLw_624 : decode code 624 = .ok (.invokevirtual 72, 3) := by decide +kernel
theorem dLw_627 : decode code 627 = .ok (.aload_n 2, 1) := by decide +kernel
theorem dLw_628 : decode code 628 = .ok (.invokevirtual 75, 3) := by decide +kernel
theorem dLw_631 : decode code 631 = .ok (.if_icmp .eq 880, 3) := by decide +kernel
theorem dLw_634 : decode code 634 = .ok (.iconst 0, 1) := by decide +kernel
theorem dLw_635 : decode code 635 = .ok (.ireturn, 1) := by decide +kernel
theorem dLw_636 : decode code 636 = .ok (.aload_n 1, 1) := by decide +kernel
theorem dLw_637 : decode code 637 = .ok (.invokevirtual 76, 3) := by decide +kernel
theorem dLw_640 : decode code 640 = .ok (.aload_n 2, 1) := by decide +kernel
theorem dLw_641 : decode code 641 = .ok (.invokevirtual 79, 3) := by decide +kernel
theorem dLw_644 : decode code 644 = .ok (.if_icmp .eq 867, 3) := by decide +kernel
theorem dLw_647 : decode code 647 = .ok (.iconst 0, 1) := by decide +kernel
theorem dLw_648 : decode code 648 = .ok (.ireturn, 1) := by decide +kernel
theorem dLw_649 : decode code 649 = .ok (.aload_n 1, 1) := by decide +kernel
theorem dLw_650 : decode code 650 = .ok (.invokevirtual 80, 3) := by decide +kernel
theorem dLw_653 : decode code 653 = .ok (.aload_n 2, 1) := by decide +kernel
theorem dLw_654 : decode code 654 = .ok (.invokevirtual 84, 3) := by decide +kernel
theorem dLw_657 : decode code 657 = .ok (.if_icmp .eq 854, 3) := by decide +kernel
theorem dLw_660 : decode code 660 = .ok (.iconst 0, 1) := by decide +kernel
theorem dLw_661 : decode code 661 = .ok (.ireturn, 1) := by decide +kernel
theorem dLw_662 : decode code 662 = .ok (.aload_n 1, 1) := by decide +kernel
theorem dLw_663 : decode code 663 = .ok (.invokevirtual 85, 3) := by decide +kernel
theorem dLw_666 : decode code 666 = .ok (.aload_n 2, 1) := by decide +kernel
theorem dLw_667 : decode code 667 = .ok (.invokevirtual 88, 3) := by decide +kernel
theorem dLw_670 : decode code 670 = .ok (.if_icmp .eq 841, 3) := by decide +kernel
theorem dLw_673 : decode code 673 = .ok (.iconst 0, 1) := by decide +kernel
theorem dLw_674 : decode code 674 = .ok (.ireturn, 1) := by decide +kernel
theorem dLw_675 : decode code 675 = .ok (.aload_n 1, 1) := by decide +kernel
theorem dLw_676 : decode code 676 = .ok (.aload_n 0, 1) := by decide +kernel
theorem dLw_677 : decode code 677 = .ok (.iload_n 3, 1) := by decide +kernel
theorem dLw_678 : decode code 678 = .ok (.iconst 1, 1) := by decide +kernel
theorem dLw_679 : decode code 679 = .ok (.iadd, 1) := by decide +kernel
theorem dLw_680 : decode code 680 = .ok (.iaload, 1) := by decide +kernel
theorem dLw_681 : decode code 681 = .ok (.aload_n 0, 1) := by decide +kernel
theorem dLw_682 : decode code 682 = .ok (.iload_n 3, 1) := by decide +kernel
theorem dLw_683 : decode code 683 = .ok (.iconst 2, 1) := by decide +kernel
theorem dLw_684 : decode code 684 = .ok (.iadd, 1) := by decide +kernel
theorem dLw_685 : decode code 685 = .ok (.iaload, 1) := by decide +kernel
theorem dLw_686 : decode code 686 = .ok (.invokevirtual 89, 3) := by decide +kernel
theorem dLw_689 : decode code 689 = .ok (.aload_n 2, 1) := by decide +kernel
theorem dLw_690 : decode code 690 = .ok (.aload_n 0, 1) := by decide +kernel
theorem dLw_691 : decode code 691 = .ok (.iload_n 3, 1) := by decide +kernel
theorem dLw_692 : decode code 692 = .ok (.iconst 1, 1) := by decide +kernel
theorem dLw_693 : decode code 693 = .ok (.iadd, 1) := by decide +kernel
theorem dLw_694 : decode code 694 = .ok (.iaload, 1) := by decide +kernel
theorem dLw_695 : decode code 695 = .ok (.aload_n 0, 1) := by decide +kernel
theorem dLw_696 : decode code 696 = .ok (.iload_n 3, 1) := by decide +kernel
theorem dLw_697 : decode code 697 = .ok (.iconst 2, 1) := by decide +kernel
theorem dLw_698 : decode code 698 = .ok (.iadd, 1) := by decide +kernel
theorem dLw_699 : decode code 699 = .ok (.iaload, 1) := by decide +kernel
theorem dLw_700 : decode code 700 = .ok (.invokevirtual 92, 3) := by decide +kernel
theorem dLw_703 : decode code 703 = .ok (.if_icmp .eq 808, 3) := by decide +kernel
theorem dLw_706 : decode code 706 = .ok (.iconst 0, 1) := by decide +kernel
theorem dLw_707 : decode code 707 = .ok (.ireturn, 1) := by decide +kernel
theorem dLw_708 : decode code 708 = .ok (.aload_n 1, 1) := by decide +kernel
theorem dLw_709 : decode code 709 = .ok (.aload_n 0, 1) := by decide +kernel
theorem dLw_710 : decode code 710 = .ok (.iload_n 3, 1) := by decide +kernel
theorem dLw_711 : decode code 711 = .ok (.iconst 1, 1) := by decide +kernel
theorem dLw_712 : decode code 712 = .ok (.iadd, 1) := by decide +kernel
theorem dLw_713 : decode code 713 = .ok (.iaload, 1) := by decide +kernel
theorem dLw_714 : decode code 714 = .ok (.aload_n 0, 1) := by decide +kernel
theorem dLw_715 : decode code 715 = .ok (.iload_n 3, 1) := by decide +kernel
theorem dLw_716 : decode code 716 = .ok (.iconst 2, 1) := by decide +kernel
theorem dLw_717 : decode code 717 = .ok (.iadd, 1) := by decide +kernel
theorem dLw_718 : decode code 718 = .ok (.iaload, 1) := by decide +kernel
theorem dLw_719 : decode code 719 = .ok (.invokevirtual 93, 3) := by decide +kernel
theorem dLw_722 : decode code 722 = .ok (.aload_n 2, 1) := by decide +kernel
theorem dLw_723 : decode code 723 = .ok (.aload_n 0, 1) := by decide +kernel
theorem dLw_724 : decode code 724 = .ok (.iload_n 3, 1) := by decide +kernel
theorem dLw_725 : decode code 725 = .ok (.iconst 1, 1) := by decide +kernel
theorem dLw_726 : decode code 726 = .ok (.iadd, 1) := by decide +kernel
theorem dLw_727 : decode code 727 = .ok (.iaload, 1) := by decide +kernel
theorem dLw_728 : decode code 728 = .ok (.aload_n 0, 1) := by decide +kernel
theorem dLw_729 : decode code 729 = .ok (.iload_n 3, 1) := by decide +kernel
theorem dLw_730 : decode code 730 = .ok (.iconst 2, 1) := by decide +kernel
theorem dLw_731 : decode code 731 = .ok (.iadd, 1) := by decide +kernel
theorem dLw_732 : decode code 732 = .ok (.iaload, 1) := by decide +kernel
theorem dLw_733 : decode code 733 = .ok (.invokevirtual 96, 3) := by decide +kernel
theorem dLw_736 : decode code 736 = .ok (.if_icmp .eq 775, 3) := by decide +kernel
theorem dLw_739 : decode code 739 = .ok (.iconst 0, 1) := by decide +kernel
theorem dLw_740 : decode code 740 = .ok (.ireturn, 1) := by decide +kernel
theorem dLw_741 : decode code 741 = .ok (.aload_n 1, 1) := by decide +kernel
theorem dLw_742 : decode code 742 = .ok (.aload_n 0, 1) := by decide +kernel
theorem dLw_743 : decode code 743 = .ok (.iload_n 3, 1) := by decide +kernel
theorem dLw_744 : decode code 744 = .ok (.iconst 1, 1) := by decide +kernel
theorem dLw_745 : decode code 745 = .ok (.iadd, 1) := by decide +kernel
theorem dLw_746 : decode code 746 = .ok (.iaload, 1) := by decide +kernel
theorem dLw_747 : decode code 747 = .ok (.invokevirtual 97, 3) := by decide +kernel
theorem dLw_750 : decode code 750 = .ok (.aload_n 2, 1) := by decide +kernel
theorem dLw_751 : decode code 751 = .ok (.aload_n 0, 1) := by decide +kernel
theorem dLw_752 : decode code 752 = .ok (.iload_n 3, 1) := by decide +kernel
theorem dLw_753 : decode code 753 = .ok (.iconst 1, 1) := by decide +kernel
theorem dLw_754 : decode code 754 = .ok (.iadd, 1) := by decide +kernel
theorem dLw_755 : decode code 755 = .ok (.iaload, 1) := by decide +kernel
theorem dLw_756 : decode code 756 = .ok (.invokevirtual 100, 3) := by decide +kernel
theorem dLw_759 : decode code 759 = .ok (.if_icmp .eq 752, 3) := by decide +kernel
theorem dLw_762 : decode code 762 = .ok (.iconst 0, 1) := by decide +kernel
theorem dLw_763 : decode code 763 = .ok (.ireturn, 1) := by decide +kernel
theorem dLw_764 : decode code 764 = .ok (.aload_n 1, 1) := by decide +kernel
theorem dLw_765 : decode code 765 = .ok (.aload_n 0, 1) := by decide +kernel
theorem dLw_766 : decode code 766 = .ok (.iload_n 3, 1) := by decide +kernel
theorem dLw_767 : decode code 767 = .ok (.iconst 1, 1) := by decide +kernel
theorem dLw_768 : decode code 768 = .ok (.iadd, 1) := by decide +kernel
theorem dLw_769 : decode code 769 = .ok (.iaload, 1) := by decide +kernel
theorem dLw_770 : decode code 770 = .ok (.invokevirtual 101, 3) := by decide +kernel
theorem dLw_773 : decode code 773 = .ok (.aload_n 2, 1) := by decide +kernel
theorem dLw_774 : decode code 774 = .ok (.aload_n 0, 1) := by decide +kernel
theorem dLw_775 : decode code 775 = .ok (.iload_n 3, 1) := by decide +kernel
theorem dLw_776 : decode code 776 = .ok (.iconst 1, 1) := by decide +kernel
theorem dLw_777 : decode code 777 = .ok (.iadd, 1) := by decide +kernel
theorem dLw_778 : decode code 778 = .ok (.iaload, 1) := by decide +kernel
theorem dLw_779 : decode code 779 = .ok (.invokevirtual 104, 3) := by decide +kernel
theorem dLw_782 : decode code 782 = .ok (.if_icmp .eq 729, 3) := by decide +kernel
theorem dLw_785 : decode code 785 = .ok (.iconst 0, 1) := by decide +kernel
theorem dLw_786 : decode code 786 = .ok (.ireturn, 1) := by decide +kernel
theorem dLw_787 : decode code 787 = .ok (.aload_n 1, 1) := by decide +kernel
theorem dLw_788 : decode code 788 = .ok (.aload_n 0, 1) := by decide +kernel
theorem dLw_789 : decode code 789 = .ok (.iload_n 3, 1) := by decide +kernel
theorem dLw_790 : decode code 790 = .ok (.iconst 1, 1) := by decide +kernel
theorem dLw_791 : decode code 791 = .ok (.iadd, 1) := by decide +kernel
theorem dLw_792 : decode code 792 = .ok (.iaload, 1) := by decide +kernel
theorem dLw_793 : decode code 793 = .ok (.invokevirtual 105, 3) := by decide +kernel
theorem dLw_796 : decode code 796 = .ok (.aload_n 2, 1) := by decide +kernel
theorem dLw_797 : decode code 797 = .ok (.aload_n 0, 1) := by decide +kernel
theorem dLw_798 : decode code 798 = .ok (.iload_n 3, 1) := by decide +kernel
theorem dLw_799 : decode code 799 = .ok (.iconst 1, 1) := by decide +kernel
theorem dLw_800 : decode code 800 = .ok (.iadd, 1) := by decide +kernel
theorem dLw_801 : decode code 801 = .ok (.iaload, 1) := by decide +kernel
theorem dLw_802 : decode code 802 = .ok (.invokevirtual 108, 3) := by decide +kernel
theorem dLw_805 : decode code 805 = .ok (.if_icmp .eq 706, 3) := by decide +kernel
theorem dLw_808 : decode code 808 = .ok (.iconst 0, 1) := by decide +kernel
theorem dLw_809 : decode code 809 = .ok (.ireturn, 1) := by decide +kernel
theorem dLw_810 : decode code 810 = .ok (.aload_n 1, 1) := by decide +kernel
theorem dLw_811 : decode code 811 = .ok (.aload_n 0, 1) := by decide +kernel
theorem dLw_812 : decode code 812 = .ok (.iload_n 3, 1) := by decide +kernel
theorem dLw_813 : decode code 813 = .ok (.iconst 1, 1) := by decide +kernel
theorem dLw_814 : decode code 814 = .ok (.iadd, 1) := by decide +kernel
theorem dLw_815 : decode code 815 = .ok (.iaload, 1) := by decide +kernel
theorem dLw_816 : decode code 816 = .ok (.aload_n 0, 1) := by decide +kernel
theorem dLw_817 : decode code 817 = .ok (.iload_n 3, 1) := by decide +kernel
theorem dLw_818 : decode code 818 = .ok (.iconst 2, 1) := by decide +kernel
theorem dLw_819 : decode code 819 = .ok (.iadd, 1) := by decide +kernel
theorem dLw_820 : decode code 820 = .ok (.iaload, 1) := by decide +kernel
theorem dLw_821 : decode code 821 = .ok (.invokevirtual 109, 3) := by decide +kernel
theorem dLw_824 : decode code 824 = .ok (.aload_n 2, 1) := by decide +kernel
theorem dLw_825 : decode code 825 = .ok (.aload_n 0, 1) := by decide +kernel
theorem dLw_826 : decode code 826 = .ok (.iload_n 3, 1) := by decide +kernel
theorem dLw_827 : decode code 827 = .ok (.iconst 1, 1) := by decide +kernel
theorem dLw_828 : decode code 828 = .ok (.iadd, 1) := by decide +kernel
theorem dLw_829 : decode code 829 = .ok (.iaload, 1) := by decide +kernel
theorem dLw_830 : decode code 830 = .ok (.aload_n 0, 1) := by decide +kernel
theorem dLw_831 : decode code 831 = .ok (.iload_n 3, 1) := by decide +kernel
theorem dLw_832 : decode code 832 = .ok (.iconst 2, 1) := by decide +kernel
theorem dLw_833 : decode code 833 = .ok (.iadd, 1) := by decide +kernel
theorem dLw_834 : decode code 834 = .ok (.iaload, 1) := by decide +kernel
theorem dLw_835 : decode code 835 = .ok (.invokevirtual 112, 3) := by decide +kernel
theorem dLw_838 : decode code 838 = .ok (.if_icmp .eq 673, 3) := by decide +kernel
theorem dLw_841 : decode code 841 = .ok (.iconst 0, 1) := by decide +kernel
theorem dLw_842 : decode code 842 = .ok (.ireturn, 1) := by decide +kernel
theorem dLw_843 : decode code 843 = .ok (.aload_n 1, 1) := by decide +kernel
theorem dLw_844 : decode code 844 = .ok (.aload_n 0, 1) := by decide +kernel
theorem dLw_845 : decode code 845 = .ok (.iload_n 3, 1) := by decide +kernel
theorem dLw_846 : decode code 846 = .ok (.iconst 1, 1) := by decide +kernel
theorem dLw_847 : decode code 847 = .ok (.iadd, 1) := by decide +kernel
theorem dLw_848 : decode code 848 = .ok (.iaload, 1) := by decide +kernel
theorem dLw_849 : decode code 849 = .ok (.invokevirtual 113, 3) := by decide +kernel
theorem dLw_852 : decode code 852 = .ok (.aload_n 2, 1) := by decide +kernel
theorem dLw_853 : decode code 853 = .ok (.aload_n 0, 1) := by decide +kernel
theorem dLw_854 : decode code 854 = .ok (.iload_n 3, 1) := by decide +kernel
theorem dLw_855 : decode code 855 = .ok (.iconst 1, 1) := by decide +kernel
theorem dLw_856 : decode code 856 = .ok (.iadd, 1) := by decide +kernel
theorem dLw_857 : decode code 857 = .ok (.iaload, 1) := by decide +kernel
theorem dLw_858 : decode code 858 = .ok (.invokevirtual 116, 3) := by decide +kernel
theorem dLw_861 : decode code 861 = .ok (.if_icmp .eq 650, 3) := by decide +kernel
theorem dLw_864 : decode code 864 = .ok (.iconst 0, 1) := by decide +kernel
theorem dLw_865 : decode code 865 = .ok (.ireturn, 1) := by decide +kernel
theorem dLw_866 : decode code 866 = .ok (.aload_n 1, 1) := by decide +kernel
theorem dLw_867 : decode code 867 = .ok (.aload_n 0, 1) := by decide +kernel
theorem dLw_868 : decode code 868 = .ok (.iload_n 3, 1) := by decide +kernel
theorem dLw_869 : decode code 869 = .ok (.iconst 1, 1) := by decide +kernel
theorem dLw_870 : decode code 870 = .ok (.iadd, 1) := by decide +kernel
theorem dLw_871 : decode code 871 = .ok (.iaload, 1) := by decide +kernel
theorem dLw_872 : decode code 872 = .ok (.invokevirtual 117, 3) := by decide +kernel
theorem dLw_875 : decode code 875 = .ok (.aload_n 2, 1) := by decide +kernel
theorem dLw_876 : decode code 876 = .ok (.aload_n 0, 1) := by decide +kernel
theorem dLw_877 : decode code 877 = .ok (.iload_n 3, 1) := by decide +kernel
theorem dLw_878 : decode code 878 = .ok (.iconst 1, 1) := by decide +kernel
theorem dLw_879 : decode code 879 = .ok (.iadd, 1) := by decide +kernel
theorem dLw_880 : decode code 880 = .ok (.iaload, 1) := by decide +kernel
theorem dLw_881 : decode code 881 = .ok (.invokevirtual 120, 3) := by decide +kernel
theorem dLw_884 : decode code 884 = .ok (.if_icmp .eq 627, 3) := by decide +kernel
theorem dLw_887 : decode code 887 = .ok (.iconst 0, 1) := by decide +kernel
theorem dLw_888 : decode code 888 = .ok (.ireturn, 1) := by decide +kernel
theorem dLw_889 : decode code 889 = .ok (.aload_n 1, 1) := by decide +kernel
theorem dLw_890 : decode code 890 = .ok (.aload_n 0, 1) := by decide +kernel
theorem dLw_891 : decode code 891 = .ok (.iload_n 3, 1) := by decide +kernel
theorem dLw_892 : decode code 892 = .ok (.iconst 1, 1) := by decide +kernel
theorem dLw_893 : decode code 893 = .ok (.iadd, 1) := by decide +kernel
theorem dLw_894 : decode code 894 = .ok (.iaload, 1) := by decide +kernel
theorem dLw_895 : decode code 895 = .ok (.invokevirtual 121, 3) := by decide +kernel
theorem dLw_898 : decode code 898 = .ok (.aload_n 2, 1) := by decide +kernel
theorem dLw_899 : decode code 899 = .ok (.aload_n 0, 1) := by decide +kernel
theorem dLw_900 : decode code 900 = .ok (.iload_n 3, 1) := by decide +kernel
theorem dLw_901 : decode code 901 = .ok (.iconst 1, 1) := by decide +kernel
theorem dLw_902 : decode code 902 = .ok (.iadd, 1) := by decide +kernel
theorem dLw_903 : decode code 903 = .ok (.iaload, 1) := by decide +kernel
theorem dLw_904 : decode code 904 = .ok (.invokevirtual 124, 3) := by decide +kernel
theorem dLw_907 : decode code 907 = .ok (.if_icmp .eq 604, 3) := by decide +kernel
theorem dLw_910 : decode code 910 = .ok (.iconst 0, 1) := by decide +kernel
theorem dLw_911 : decode code 911 = .ok (.ireturn, 1) := by decide +kernel
theorem dLw_912 : decode code 912 = .ok (.aload_n 1, 1) := by decide +kernel
theorem dLw_913 : decode code 913 = .ok (.aload_n 0, 1) := by decide +kernel
theorem dLw_914 : decode code 914 = .ok (.iload_n 3, 1) := by decide +kernel
theorem dLw_915 : decode code 915 = .ok (.iconst 1, 1) := by decide +kernel
theorem dLw_916 : decode code 916 = .ok (.iadd, 1) := by decide +kernel
theorem dLw_917 : decode code 917 = .ok (.iaload, 1) := by decide +kernel
theorem dLw_918 : decode code 918 = .ok (.invokevirtual 125, 3) := by decide +kernel
theorem dLw_921 : decode code 921 = .ok (.aload_n 2, 1) := by decide +kernel
theorem dLw_922 : decode code 922 = .ok (.aload_n 0, 1) := by decide +kernel
theorem dLw_923 : decode code 923 = .ok (.iload_n 3, 1) := by decide +kernel
theorem dLw_924 : decode code 924 = .ok (.iconst 1, 1) := by decide +kernel
theorem dLw_925 : decode code 925 = .ok (.iadd, 1) := by decide +kernel
theorem dLw_926 : decode code 926 = .ok (.iaload, 1) := by decide +kernel
theorem dLw_927 : decode code 927 = .ok (.invokevirtual 128, 3) := by decide +kernel
theorem dLw_930 : decode code 930 = .ok (.if_icmp .eq 581, 3) := by decide +kernel
theorem dLw_933 : decode code 933 = .ok (.iconst 0, 1) := by decide +kernel
theorem dLw_934 : decode code 934 = .ok (.ireturn, 1) := by decide +kernel
theorem dLw_935 : decode code 935 = .ok (.aload_n 1, 1) := by decide +kernel
theorem dLw_936 : decode code 936 = .ok (.aload_n 0, 1) := by decide +kernel
theorem dLw_937 : decode code 937 = .ok (.iload_n 3, 1) := by decide +kernel
theorem dLw_938 : decode code 938 = .ok (.iconst 1, 1) := by decide +kernel
theorem dLw_939 : decode code 939 = .ok (.iadd, 1) := by decide +kernel
theorem dLw_940 : decode code 940 = .ok (.iaload, 1) := by decide +kernel
theorem dLw_941 : decode code 941 = .ok (.invokevirtual 129, 3) := by decide +kernel
theorem dLw_944 : decode code 944 = .ok (.aload_n 2, 1) := by decide +kernel
theorem dLw_945 : decode code 945 = .ok (.aload_n 0, 1) := by decide +kernel
theorem dLw_946 : decode code 946 = .ok (.iload_n 3, 1) := by decide +kernel
theorem dLw_947 : decode code 947 = .ok (.iconst 1, 1) := by decide +kernel
theorem dLw_948 : decode code 948 = .ok (.iadd, 1) := by decide +kernel
theorem dLw_949 : decode code 949 = .ok (.iaload, 1) := by decide +kernel
theorem dLw_950 : decode code 950 = .ok (.invokevirtual 132, 3) := by decide +kernel
theorem dLw_953 : decode code 953 = .ok (.if_icmp .eq 558, 3) := by decide +kernel
theorem dLw_956 : decode code 956 = .ok (.iconst 0, 1) := by decide +kernel
theorem dLw_957 : decode code 957 = .ok (.ireturn, 1) := by decide +kernel
theorem dLw_958 : decode code 958 = .ok (.aload_n 1, 1) := by decide +kernel
theorem dLw_959 : decode code 959 = .ok (.aload_n 0, 1) := by decide +kernel
theorem dLw_960 : decode code 960 = .ok (.iload_n 3, 1) := by decide +kernel
theorem dLw_961 : decode code 961 = .ok (.iconst 1, 1) := by decide +kernel
theorem dLw_962 : decode code 962 = .ok (.iadd, 1) := by decide +kernel
theorem dLw_963 : decode code 963 = .ok (.iaload, 1) := by decide +kernel
theorem dLw_964 : decode code 964 = .ok (.aload_n 0, 1) := by decide +kernel
theorem dLw_965 : decode code 965 = .ok (.iload_n 3, 1) := by decide +kernel
theorem dLw_966 : decode code 966 = .ok (.iconst 2, 1) := by decide +kernel
theorem dLw_967 : decode code 967 = .ok (.iadd, 1) := by decide +kernel
theorem dLw_968 : decode code 968 = .ok (.iaload, 1) := by decide +kernel
theorem dLw_969 : decode code 969 = .ok (.invokevirtual 133, 3) := by decide +kernel
theorem dLw_972 : decode code 972 = .ok (.aload_n 2, 1) := by decide +kernel
theorem dLw_973 : decode code 973 = .ok (.aload_n 0, 1) := by decide +kernel
theorem dLw_974 : decode code 974 = .ok (.iload_n 3, 1) := by decide +kernel
theorem dLw_975 : decode code 975 = .ok (.iconst 1, 1) := by decide +kernel
theorem dLw_976 : decode code 976 = .ok (.iadd, 1) := by decide +kernel
theorem dLw_977 : decode code 977 = .ok (.iaload, 1) := by decide +kernel
theorem dLw_978 : decode code 978 = .ok (.aload_n 0, 1) := by decide +kernel
theorem dLw_979 : decode code 979 = .ok (.iload_n 3, 1) := by decide +kernel
theorem dLw_980 : decode code 980 = .ok (.iconst 2, 1) := by decide +kernel
theorem dLw_981 : decode code 981 = .ok (.iadd, 1) := by decide +kernel
theorem dLw_982 : decode code 982 = .ok (.iaload, 1) := by decide +kernel
theorem dLw_983 : decode code 983 = .ok (.invokevirtual 136, 3) := by decide +kernel
theorem dLw_986 : decode code 986 = .ok (.if_icmp .eq 525, 3) := by decide +kernel
theorem dLw_989 : decode code 989 = .ok (.iconst 0, 1) := by decide +kernel
theorem dLw_990 : decode code 990 = .ok (.ireturn, 1) := by decide +kernel
theorem dLw_991 : decode code 991 = .ok (.aload_n 1, 1) := by decide +kernel
theorem dLw_992 : decode code 992 = .ok (.aload_n 0, 1) := by decide +kernel
theorem dLw_993 : decode code 993 = .ok (.iload_n 3, 1) := by decide +kernel
theorem dLw_994 : decode code 994 = .ok (.iconst 1, 1) := by decide +kernel
theorem dLw_995 : decode code 995 = .ok (.iadd, 1) := by decide +kernel
theorem dLw_996 : decode code 996 = .ok (.iaload, 1) := by decide +kernel
theorem dLw_997 : decode code 997 = .ok (.invokevirtual 137, 3) := by decide +kernel
theorem dLw_1000 : decode code 1000 = .ok (.aload_n 2, 1) := by decide +kernel
theorem dLw_1001 : decode code 1001 = .ok (.aload_n 0, 1) := by decide +kernel
theorem dLw_1002 : decode code 1002 = .ok (.iload_n 3, 1) := by decide +kernel
theorem dLw_1003 : decode code 1003 = .ok (.iconst 1, 1) := by decide +kernel
theorem dLw_1004 : decode code 1004 = .ok (.iadd, 1) := by decide +kernel
theorem dLw_1005 : decode code 1005 = .ok (.iaload, 1) := by decide +kernel
theorem dLw_1006 : decode code 1006 = .ok (.invokevirtual 140, 3) := by decide +kernel
theorem dLw_1009 : decode code 1009 = .ok (.if_icmp .eq 502, 3) := by decide +kernel
theorem dLw_1012 : decode code 1012 = .ok (.iconst 0, 1) := by decide +kernel
theorem dLw_1013 : decode code 1013 = .ok (.ireturn, 1) := by decide +kernel
theorem dLw_1014 : decode code 1014 = .ok (.aload_n 1, 1) := by decide +kernel
theorem dLw_1015 : decode code 1015 = .ok (.aload_n 0, 1) := by decide +kernel
theorem dLw_1016 : decode code 1016 = .ok (.iload_n 3, 1) := by decide +kernel
theorem dLw_1017 : decode code 1017 = .ok (.iconst 1, 1) := by decide +kernel
theorem dLw_1018 : decode code 1018 = .ok (.iadd, 1) := by decide +kernel
theorem dLw_1019 : decode code 1019 = .ok (.iaload, 1) := by decide +kernel
theorem dLw_1020 : decode code 1020 = .ok (.invokevirtual 141, 3) := by decide +kernel
theorem dLw_1023 : decode code 1023 = .ok (.aload_n 2, 1) := by decide +kernel
theorem dLw_1024 : decode code 1024 = .ok (.aload_n 0, 1) := by decide +kernel
theorem dLw_1025 : decode code 1025 = .ok (.iload_n 3, 1) := by decide +kernel
theorem dLw_1026 : decode code 1026 = .ok (.iconst 1, 1) := by decide +kernel
theorem dLw_1027 : decode code 1027 = .ok (.iadd, 1) := by decide +kernel
theorem dLw_1028 : decode code 1028 = .ok (.iaload, 1) := by decide +kernel
theorem dLw_1029 : decode code 1029 = .ok (.invokevirtual 144, 3) := by decide +kernel
theorem dLw_1032 : decode code 1032 = .ok (.if_icmp .eq 479, 3) := by decide +kernel
theorem dLw_1035 : decode code 1035 = .ok (.iconst 0, 1) := by decide +kernel
theorem dLw_1036 : decode code 1036 = .ok (.ireturn, 1) := by decide +kernel
theorem dLw_1037 : decode code 1037 = .ok (.aload_n 1, 1) := by decide +kernel
theorem dLw_1038 : decode code 1038 = .ok (.aload_n 0, 1) := by decide +kernel
theorem dLw_1039 : decode code 1039 = .ok (.iload_n 3, 1) := by decide +kernel
theorem dLw_1040 : decode code 1040 = .ok (.iconst 1, 1) := by decide +kernel
theorem dLw_1041 : decode code 1041 = .ok (.iadd, 1) := by decide +kernel
theorem dLw_1042 : decode code 1042 = .ok (.iaload, 1) := by decide +kernel
theorem dLw_1043 : decode code 1043 = .ok (.invokevirtual 145, 3) := by decide +kernel
theorem dLw_1046 : decode code 1046 = .ok (.aload_n 2, 1) := by decide +kernel
theorem dLw_1047 : decode code 1047 = .ok (.aload_n 0, 1) := by decide +kernel
theorem dLw_1048 : decode code 1048 = .ok (.iload_n 3, 1) := by decide +kernel
theorem dLw_1049 : decode code 1049 = .ok (.iconst 1, 1) := by decide +kernel
theorem dLw_1050 : decode code 1050 = .ok (.iadd, 1) := by decide +kernel
theorem dLw_1051 : decode code 1051 = .ok (.iaload, 1) := by decide +kernel
theorem dLw_1052 : decode code 1052 = .ok (.invokevirtual 148, 3) := by decide +kernel
theorem dLw_1055 : decode code 1055 = .ok (.if_icmp .eq 456, 3) := by decide +kernel
theorem dLw_1058 : decode code 1058 = .ok (.iconst 0, 1) := by decide +kernel
theorem dLw_1059 : decode code 1059 = .ok (.ireturn, 1) := by decide +kernel
theorem dLw_1060 : decode code 1060 = .ok (.aload_n 1, 1) := by decide +kernel
theorem dLw_1061 : decode code 1061 = .ok (.aload_n 0, 1) := by decide +kernel
theorem dLw_1062 : decode code 1062 = .ok (.iload_n 3, 1) := by decide +kernel
theorem dLw_1063 : decode code 1063 = .ok (.iconst 1, 1) := by decide +kernel
theorem dLw_1064 : decode code 1064 = .ok (.iadd, 1) := by decide +kernel
theorem dLw_1065 : decode code 1065 = .ok (.iaload, 1) := by decide +kernel
theorem dLw_1066 : decode code 1066 = .ok (.aload_n 0, 1) := by decide +kernel
theorem dLw_1067 : decode code 1067 = .ok (.iload_n 3, 1) := by decide +kernel
theorem dLw_1068 : decode code 1068 = .ok (.iconst 2, 1) := by decide +kernel
theorem dLw_1069 : decode code 1069 = .ok (.iadd, 1) := by decide +kernel
theorem dLw_1070 : decode code 1070 = .ok (.iaload, 1) := by decide +kernel
theorem dLw_1071 : decode code 1071 = .ok (.invokevirtual 149, 3) := by decide +kernel
theorem dLw_1074 : decode code 1074 = .ok (.aload_n 2, 1) := by decide +kernel
theorem dLw_1075 : decode code 1075 = .ok (.aload_n 0, 1) := by decide +kernel
theorem dLw_1076 : decode code 1076 = .ok (.iload_n 3, 1) := by decide +kernel
theorem dLw_1077 : decode code 1077 = .ok (.iconst 1, 1) := by decide +kernel
theorem dLw_1078 : decode code 1078 = .ok (.iadd, 1) := by decide +kernel
theorem dLw_1079 : decode code 1079 = .ok (.iaload, 1) := by decide +kernel
theorem dLw_1080 : decode code 1080 = .ok (.aload_n 0, 1) := by decide +kernel
theorem dLw_1081 : decode code 1081 = .ok (.iload_n 3, 1) := by decide +kernel
theorem dLw_1082 : decode code 1082 = .ok (.iconst 2, 1) := by decide +kernel
theorem dLw_1083 : decode code 1083 = .ok (.iadd, 1) := by decide +kernel
theorem dLw_1084 : decode code 1084 = .ok (.iaload, 1) := by decide +kernel
theorem dLw_1085 : decode code 1085 = .ok (.invokevirtual 152, 3) := by decide +kernel
theorem dLw_1088 : decode code 1088 = .ok (.if_icmp .eq 423, 3) := by decide +kernel
theorem dLw_1091 : decode code 1091 = .ok (.iconst 0, 1) := by decide +kernel
theorem dLw_1092 : decode code 1092 = .ok (.ireturn, 1) := by decide +kernel
theorem dLw_1093 : decode code 1093 = .ok (.aload_n 1, 1) := by decide +kernel
theorem dLw_1094 : decode code 1094 = .ok (.aload_n 0, 1) := by decide +kernel
theorem dLw_1095 : decode code 1095 = .ok (.iload_n 3, 1) := by decide +kernel
theorem dLw_1096 : decode code 1096 = .ok (.iconst 1, 1) := by decide +kernel
theorem dLw_1097 : decode code 1097 = .ok (.iadd, 1) := by decide +kernel
theorem dLw_1098 : decode code 1098 = .ok (.iaload, 1) := by decide +kernel
theorem dLw_1099 : decode code 1099 = .ok (.invokevirtual 153, 3) := by decide +kernel
theorem dLw_1102 : decode code 1102 = .ok (.aload_n 2, 1) := by decide +kernel
theorem dLw_1103 : decode code 1103 = .ok (.aload_n 0, 1) := by decide +kernel
theorem dLw_1104 : decode code 1104 = .ok (.iload_n 3, 1) := by decide +kernel
theorem dLw_1105 : decode code 1105 = .ok (.iconst 1, 1) := by decide +kernel
theorem dLw_1106 : decode code 1106 = .ok (.iadd, 1) := by decide +kernel
theorem dLw_1107 : decode code 1107 = .ok (.iaload, 1) := by decide +kernel
theorem dLw_1108 : decode code 1108 = .ok (.invokevirtual 156, 3) := by decide +kernel
theorem dLw_1111 : decode code 1111 = .ok (.if_icmp .eq 400, 3) := by decide +kernel
theorem dLw_1114 : decode code 1114 = .ok (.iconst 0, 1) := by decide +kernel
theorem dLw_1115 : decode code 1115 = .ok (.ireturn, 1) := by decide +kernel
theorem dLw_1116 : decode code 1116 = .ok (.aload_n 1, 1) := by decide +kernel
theorem dLw_1117 : decode code 1117 = .ok (.invokevirtual 157, 3) := by decide +kernel
theorem dLw_1120 : decode code 1120 = .ok (.aload_n 2, 1) := by decide +kernel
theorem dLw_1121 : decode code 1121 = .ok (.invokevirtual 160, 3) := by decide +kernel
theorem dLw_1124 : decode code 1124 = .ok (.if_icmp .eq 387, 3) := by decide +kernel
theorem dLw_1127 : decode code 1127 = .ok (.iconst 0, 1) := by decide +kernel
theorem dLw_1128 : decode code 1128 = .ok (.ireturn, 1) := by decide +kernel
theorem dLw_1129 : decode code 1129 = .ok (.aload_n 1, 1) := by decide +kernel
theorem dLw_1130 : decode code 1130 = .ok (.aload_n 0, 1) := by decide +kernel
theorem dLw_1131 : decode code 1131 = .ok (.iload_n 3, 1) := by decide +kernel
theorem dLw_1132 : decode code 1132 = .ok (.iconst 1, 1) := by decide +kernel
theorem dLw_1133 : decode code 1133 = .ok (.iadd, 1) := by decide +kernel
theorem dLw_1134 : decode code 1134 = .ok (.iaload, 1) := by decide +kernel
theorem dLw_1135 : decode code 1135 = .ok (.invokevirtual 161, 3) := by decide +kernel
theorem dLw_1138 : decode code 1138 = .ok (.aload_n 2, 1) := by decide +kernel
theorem dLw_1139 : decode code 1139 = .ok (.aload_n 0, 1) := by decide +kernel
theorem dLw_1140 : decode code 1140 = .ok (.iload_n 3, 1) := by decide +kernel
theorem dLw_1141 : decode code 1141 = .ok (.iconst 1, 1) := by decide +kernel
theorem dLw_1142 : decode code 1142 = .ok (.iadd, 1) := by decide +kernel
theorem dLw_1143 : decode code 1143 = .ok (.iaload, 1) := by decide +kernel
theorem dLw_1144 : decode code 1144 = .ok (.invokevirtual 164, 3) := by decide +kernel
theorem dLw_1147 : decode code 1147 = .ok (.if_icmp .eq 364, 3) := by decide +kernel
theorem dLw_1150 : decode code 1150 = .ok (.iconst 0, 1) := by decide +kernel
theorem dLw_1151 : decode code 1151 = .ok (.ireturn, 1) := by decide +kernel
theorem dLw_1152 : decode code 1152 = .ok (.aload_n 1, 1) := by decide +kernel
theorem dLw_1153 : decode code 1153 = .ok (.aload_n 0, 1) := by decide +kernel
theorem dLw_1154 : decode code 1154 = .ok (.iload_n 3, 1) := by decide +kernel
theorem dLw_1155 : decode code 1155 = .ok (.iconst 1, 1) := by decide +kernel
theorem dLw_1156 : decode code 1156 = .ok (.iadd, 1) := by decide +kernel
theorem dLw_1157 : decode code 1157 = .ok (.iaload, 1) := by decide +kernel
theorem dLw_1158 : decode code 1158 = .ok (.aload_n 0, 1) := by decide +kernel
theorem dLw_1159 : decode code 1159 = .ok (.iload_n 3, 1) := by decide +kernel
theorem dLw_1160 : decode code 1160 = .ok (.iconst 2, 1) := by decide +kernel
theorem dLw_1161 : decode code 1161 = .ok (.iadd, 1) := by decide +kernel
theorem dLw_1162 : decode code 1162 = .ok (.iaload, 1) := by decide +kernel
theorem dLw_1163 : decode code 1163 = .ok (.aload_n 0, 1) := by decide +kernel
theorem dLw_1164 : decode code 1164 = .ok (.iload_n 3, 1) := by decide +kernel
theorem dLw_1165 : decode code 1165 = .ok (.iconst 3, 1) := by decide +kernel
theorem dLw_1166 : decode code 1166 = .ok (.iadd, 1) := by decide +kernel
theorem dLw_1167 : decode code 1167 = .ok (.iaload, 1) := by decide +kernel
theorem dLw_1168 : decode code 1168 = .ok (.invokevirtual 165, 3) := by decide +kernel
theorem dLw_1171 : decode code 1171 = .ok (.aload_n 2, 1) := by decide +kernel
theorem dLw_1172 : decode code 1172 = .ok (.aload_n 0, 1) := by decide +kernel
theorem dLw_1173 : decode code 1173 = .ok (.iload_n 3, 1) := by decide +kernel
theorem dLw_1174 : decode code 1174 = .ok (.iconst 1, 1) := by decide +kernel
theorem dLw_1175 : decode code 1175 = .ok (.iadd, 1) := by decide +kernel
theorem dLw_1176 : decode code 1176 = .ok (.iaload, 1) := by decide +kernel
theorem dLw_1177 : decode code 1177 = .ok (.aload_n 0, 1) := by decide +kernel
theorem dLw_1178 : decode code 1178 = .ok (.iload_n 3, 1) := by decide +kernel
theorem dLw_1179 : decode code 1179 = .ok (.iconst 2, 1) := by decide +kernel
theorem dLw_1180 : decode code 1180 = .ok (.iadd, 1) := by decide +kernel
theorem dLw_1181 : decode code 1181 = .ok (.iaload, 1) := by decide +kernel
theorem dLw_1182 : decode code 1182 = .ok (.aload_n 0, 1) := by decide +kernel
theorem dLw_1183 : decode code 1183 = .ok (.iload_n 3, 1) := by decide +kernel
theorem dLw_1184 : decode code 1184 = .ok (.iconst 3, 1) := by decide +kernel
theorem dLw_1185 : decode code 1185 = .ok (.iadd, 1) := by decide +kernel
theorem dLw_1186 : decode code 1186 = .ok (.iaload, 1) := by decide +kernel
theorem dLw_1187 : decode code 1187 = .ok (.invokevirtual 168, 3) := by decide +kernel
theorem dLw_1190 : decode code 1190 = .ok (.if_icmp .eq 321, 3) := by decide +kernel
theorem dLw_1193 : decode code 1193 = .ok (.iconst 0, 1) := by decide +kernel
theorem dLw_1194 : decode code 1194 = .ok (.ireturn, 1) := by decide +kernel
theorem dLw_1195 : decode code 1195 = .ok (.aload_n 1, 1) := by decide +kernel
theorem dLw_1196 : decode code 1196 = .ok (.aload_n 0, 1) := by decide +kernel
theorem dLw_1197 : decode code 1197 = .ok (.iload_n 3, 1) := by decide +kernel
theorem dLw_1198 : decode code 1198 = .ok (.iconst 1, 1) := by decide +kernel
theorem dLw_1199 : decode code 1199 = .ok (.iadd, 1) := by decide +kernel
theorem dLw_1200 : decode code 1200 = .ok (.iaload, 1) := by decide +kernel
theorem dLw_1201 : decode code 1201 = .ok (.invokevirtual 169, 3) := by decide +kernel
theorem dLw_1204 : decode code 1204 = .ok (.aload_n 2, 1) := by decide +kernel
theorem dLw_1205 : decode code 1205 = .ok (.aload_n 0, 1) := by decide +kernel
theorem dLw_1206 : decode code 1206 = .ok (.iload_n 3, 1) := by decide +kernel
theorem dLw_1207 : decode code 1207 = .ok (.iconst 1, 1) := by decide +kernel
theorem dLw_1208 : decode code 1208 = .ok (.iadd, 1) := by decide +kernel
theorem dLw_1209 : decode code 1209 = .ok (.iaload, 1) := by decide +kernel
theorem dLw_1210 : decode code 1210 = .ok (.invokevirtual 172, 3) := by decide +kernel
theorem dLw_1213 : decode code 1213 = .ok (.if_icmp .eq 298, 3) := by decide +kernel
theorem dLw_1216 : decode code 1216 = .ok (.iconst 0, 1) := by decide +kernel
theorem dLw_1217 : decode code 1217 = .ok (.ireturn, 1) := by decide +kernel
theorem dLw_1218 : decode code 1218 = .ok (.aload_n 1, 1) := by decide +kernel
theorem dLw_1219 : decode code 1219 = .ok (.aload_n 0, 1) := by decide +kernel
theorem dLw_1220 : decode code 1220 = .ok (.iload_n 3, 1) := by decide +kernel
theorem dLw_1221 : decode code 1221 = .ok (.iconst 1, 1) := by decide +kernel
theorem dLw_1222 : decode code 1222 = .ok (.iadd, 1) := by decide +kernel
theorem dLw_1223 : decode code 1223 = .ok (.iaload, 1) := by decide +kernel
theorem dLw_1224 : decode code 1224 = .ok (.invokevirtual 173, 3) := by decide +kernel
theorem dLw_1227 : decode code 1227 = .ok (.aload_n 2, 1) := by decide +kernel
theorem dLw_1228 : decode code 1228 = .ok (.aload_n 0, 1) := by decide +kernel
theorem dLw_1229 : decode code 1229 = .ok (.iload_n 3, 1) := by decide +kernel
theorem dLw_1230 : decode code 1230 = .ok (.iconst 1, 1) := by decide +kernel
theorem dLw_1231 : decode code 1231 = .ok (.iadd, 1) := by decide +kernel
theorem dLw_1232 : decode code 1232 = .ok (.iaload, 1) := by decide +kernel
theorem dLw_1233 : decode code 1233 = .ok (.invokevirtual 176, 3) := by decide +kernel
theorem dLw_1236 : decode code 1236 = .ok (.if_icmp .eq 275, 3) := by decide +kernel
theorem dLw_1239 : decode code 1239 = .ok (.iconst 0, 1) := by decide +kernel
theorem dLw_1240 : decode code 1240 = .ok (.ireturn, 1) := by decide +kernel
theorem dLw_1241 : decode code 1241 = .ok (.aload_n 1, 1) := by decide +kernel
theorem dLw_1242 : decode code 1242 = .ok (.aload_n 0, 1) := by decide +kernel
theorem dLw_1243 : decode code 1243 = .ok (.iload_n 3, 1) := by decide +kernel
theorem dLw_1244 : decode code 1244 = .ok (.iconst 1, 1) := by decide +kernel
theorem dLw_1245 : decode code 1245 = .ok (.iadd, 1) := by decide +kernel
theorem dLw_1246 : decode code 1246 = .ok (.iaload, 1) := by decide +kernel
theorem dLw_1247 : decode code 1247 = .ok (.aload_n 0, 1) := by decide +kernel
theorem dLw_1248 : decode code 1248 = .ok (.iload_n 3, 1) := by decide +kernel
theorem dLw_1249 : decode code 1249 = .ok (.iconst 2, 1) := by decide +kernel
theorem dLw_1250 : decode code 1250 = .ok (.iadd, 1) := by decide +kernel
theorem dLw_1251 : decode code 1251 = .ok (.iaload, 1) := by decide +kernel
theorem dLw_1252 : decode code 1252 = .ok (.aload_n 0, 1) := by decide +kernel
theorem dLw_1253 : decode code 1253 = .ok (.iload_n 3, 1) := by decide +kernel
theorem dLw_1254 : decode code 1254 = .ok (.iconst 3, 1) := by decide +kernel
theorem dLw_1255 : decode code 1255 = .ok (.iadd, 1) := by decide +kernel
theorem dLw_1256 : decode code 1256 = .ok (.iaload, 1) := by decide +kernel
theorem dLw_1257 : decode code 1257 = .ok (.invokevirtual 177, 3) := by decide +kernel
theorem dLw_1260 : decode code 1260 = .ok (.aload_n 2, 1) := by decide +kernel
theorem dLw_1261 : decode code 1261 = .ok (.aload_n 0, 1) := by decide +kernel
theorem dLw_1262 : decode code 1262 = .ok (.iload_n 3, 1) := by decide +kernel
theorem dLw_1263 : decode code 1263 = .ok (.iconst 1, 1) := by decide +kernel
theorem dLw_1264 : decode code 1264 = .ok (.iadd, 1) := by decide +kernel
theorem dLw_1265 : decode code 1265 = .ok (.iaload, 1) := by decide +kernel
theorem dLw_1266 : decode code 1266 = .ok (.aload_n 0, 1) := by decide +kernel
theorem dLw_1267 : decode code 1267 = .ok (.iload_n 3, 1) := by decide +kernel
theorem dLw_1268 : decode code 1268 = .ok (.iconst 2, 1) := by decide +kernel
theorem dLw_1269 : decode code 1269 = .ok (.iadd, 1) := by decide +kernel
theorem dLw_1270 : decode code 1270 = .ok (.iaload, 1) := by decide +kernel
theorem dLw_1271 : decode code 1271 = .ok (.aload_n 0, 1) := by decide +kernel
theorem dLw_1272 : decode code 1272 = .ok (.iload_n 3, 1) := by decide +kernel
theorem dLw_1273 : decode code 1273 = .ok (.iconst 3, 1) := by decide +kernel
theorem dLw_1274 : decode code 1274 = .ok (.iadd, 1) := by decide +kernel
theorem dLw_1275 : decode code 1275 = .ok (.iaload, 1) := by decide +kernel
theorem dLw_1276 : decode code 1276 = .ok (.invokevirtual 180, 3) := by decide +kernel
theorem dLw_1279 : decode code 1279 = .ok (.if_icmp .eq 232, 3) := by decide +kernel
theorem dLw_1282 : decode code 1282 = .ok (.iconst 0, 1) := by decide +kernel
theorem dLw_1283 : decode code 1283 = .ok (.ireturn, 1) := by decide +kernel
theorem dLw_1284 : decode code 1284 = .ok (.aload_n 1, 1) := by decide +kernel
theorem dLw_1285 : decode code 1285 = .ok (.aload_n 0, 1) := by decide +kernel
theorem dLw_1286 : decode code 1286 = .ok (.iload_n 3, 1) := by decide +kernel
theorem dLw_1287 : decode code 1287 = .ok (.iconst 1, 1) := by decide +kernel
theorem dLw_1288 : decode code 1288 = .ok (.iadd, 1) := by decide +kernel
theorem dLw_1289 : decode code 1289 = .ok (.iaload, 1) := by decide +kernel
theorem dLw_1290 : decode code 1290 = .ok (.invokevirtual 181, 3) := by decide +kernel
theorem dLw_1293 : decode code 1293 = .ok (.aload_n 2, 1) := by decide +kernel
theorem dLw_1294 : decode code 1294 = .ok (.aload_n 0, 1) := by decide +kernel
theorem dLw_1295 : decode code 1295 = .ok (.iload_n 3, 1) := by decide +kernel
theorem dLw_1296 : decode code 1296 = .ok (.iconst 1, 1) := by decide +kernel
theorem dLw_1297 : decode code 1297 = .ok (.iadd, 1) := by decide +kernel
theorem dLw_1298 : decode code 1298 = .ok (.iaload, 1) := by decide +kernel
theorem dLw_1299 : decode code 1299 = .ok (.invokevirtual 184, 3) := by decide +kernel
theorem dLw_1302 : decode code 1302 = .ok (.if_icmp .eq 209, 3) := by decide +kernel
theorem dLw_1305 : decode code 1305 = .ok (.iconst 0, 1) := by decide +kernel
theorem dLw_1306 : decode code 1306 = .ok (.ireturn, 1) := by decide +kernel
theorem dLw_1307 : decode code 1307 = .ok (.aload_n 1, 1) := by decide +kernel
theorem dLw_1308 : decode code 1308 = .ok (.aload_n 0, 1) := by decide +kernel
theorem dLw_1309 : decode code 1309 = .ok (.iload_n 3, 1) := by decide +kernel
theorem dLw_1310 : decode code 1310 = .ok (.iconst 1, 1) := by decide +kernel
theorem dLw_1311 : decode code 1311 = .ok (.iadd, 1) := by decide +kernel
theorem dLw_1312 : decode code 1312 = .ok (.iaload, 1) := by decide +kernel
theorem dLw_1313 : decode code 1313 = .ok (.invokevirtual 185, 3) := by decide +kernel
theorem dLw_1316 : decode code 1316 = .ok (.aload_n 2, 1) := by decide +kernel
theorem dLw_1317 : decode code 1317 = .ok (.aload_n 0, 1) := by decide +kernel
theorem dLw_1318 : decode code 1318 = .ok (.iload_n 3, 1) := by decide +kernel
theorem dLw_1319 : decode code 1319 = .ok (.iconst 1, 1) := by decide +kernel
theorem dLw_1320 : decode code 1320 = .ok (.iadd, 1) := by decide +kernel
theorem dLw_1321 : decode code 1321 = .ok (.iaload, 1) := by decide +kernel
theorem dLw_1322 : decode code 1322 = .ok (.invokevirtual 188, 3) := by decide +kernel
theorem dLw_1325 : decode code 1325 = .ok (.if_icmp .eq 186, 3) := by decide +kernel
theorem dLw_1328 : decode code 1328 = .ok (.iconst 0, 1) := by decide +kernel
theorem dLw_1329 : decode code 1329 = .ok (.ireturn, 1) := by decide +kernel
theorem dLw_1330 : decode code 1330 = .ok (.aload_n 1, 1) := by decide +kernel
theorem dLw_1331 : decode code 1331 = .ok (.aload_n 0, 1) := by decide +kernel
theorem dLw_1332 : decode code 1332 = .ok (.iload_n 3, 1) := by decide +kernel
theorem dLw_1333 : decode code 1333 = .ok (.iconst 1, 1) := by decide +kernel
theorem dLw_1334 : decode code 1334 = .ok (.iadd, 1) := by decide +kernel
theorem dLw_1335 : decode code 1335 = .ok (.iaload, 1) := by decide +kernel
theorem dLw_1336 : decode code 1336 = .ok (.invokevirtual 189, 3) := by decide +kernel
theorem dLw_1339 : decode code 1339 = .ok (.aload_n 2, 1) := by decide +kernel
theorem dLw_1340 : decode code 1340 = .ok (.aload_n 0, 1) := by decide +kernel
theorem dLw_1341 : decode code 1341 = .ok (.iload_n 3, 1) := by decide +kernel
theorem dLw_1342 : decode code 1342 = .ok (.iconst 1, 1) := by decide +kernel
theorem dLw_1343 : decode code 1343 = .ok (.iadd, 1) := by decide +kernel
theorem dLw_1344 : decode code 1344 = .ok (.iaload, 1) := by decide +kernel
theorem dLw_1345 : decode code 1345 = .ok (.invokevirtual 192, 3) := by decide +kernel
theorem dLw_1348 : decode code 1348 = .ok (.if_icmp .eq 163, 3) := by decide +kernel
theorem dLw_1351 : decode code 1351 = .ok (.iconst 0, 1) := by decide +kernel
theorem dLw_1352 : decode code 1352 = .ok (.ireturn, 1) := by decide +kernel
theorem dLw_1353 : decode code 1353 = .ok (.aload_n 1, 1) := by decide +kernel
theorem dLw_1354 : decode code 1354 = .ok (.aload_n 0, 1) := by decide +kernel
theorem dLw_1355 : decode code 1355 = .ok (.iload_n 3, 1) := by decide +kernel
theorem dLw_1356 : decode code 1356 = .ok (.iconst 1, 1) := by decide +kernel
theorem dLw_1357 : decode code 1357 = .ok (.iadd, 1) := by decide +kernel
theorem dLw_1358 : decode code 1358 = .ok (.iaload, 1) := by decide +kernel
theorem dLw_1359 : decode code 1359 = .ok (.aload_n 0, 1) := by decide +kernel
theorem dLw_1360 : decode code 1360 = .ok (.iload_n 3, 1) := by decide +kernel
theorem dLw_1361 : decode code 1361 = .ok (.iconst 2, 1) := by decide +kernel
theorem dLw_1362 : decode code 1362 = .ok (.iadd, 1) := by decide +kernel
theorem dLw_1363 : decode code 1363 = .ok (.iaload, 1) := by decide +kernel
theorem dLw_1364 : decode code 1364 = .ok (.invokevirtual 193, 3) := by decide +kernel
theorem dLw_1367 : decode code 1367 = .ok (.aload_n 2, 1) := by decide +kernel
theorem dLw_1368 : decode code 1368 = .ok (.aload_n 0, 1) := by decide +kernel
theorem dLw_1369 : decode code 1369 = .ok (.iload_n 3, 1) := by decide +kernel
theorem dLw_1370 : decode code 1370 = .ok (.iconst 1, 1) := by decide +kernel
theorem dLw_1371 : decode code 1371 = .ok (.iadd, 1) := by decide +kernel
theorem dLw_1372 : decode code 1372 = .ok (.iaload, 1) := by decide +kernel
theorem dLw_1373 : decode code 1373 = .ok (.aload_n 0, 1) := by decide +kernel
theorem dLw_1374 : decode code 1374 = .ok (.iload_n 3, 1) := by decide +kernel
theorem dLw_1375 : decode code 1375 = .ok (.iconst 2, 1) := by decide +kernel
theorem dLw_1376 : decode code 1376 = .ok (.iadd, 1) := by decide +kernel
theorem dLw_1377 : decode code 1377 = .ok (.iaload, 1) := by decide +kernel
theorem dLw_1378 : decode code 1378 = .ok (.invokevirtual 196, 3) := by decide +kernel
theorem dLw_1381 : decode code 1381 = .ok (.if_icmp .eq 130, 3) := by decide +kernel
theorem dLw_1384 : decode code 1384 = .ok (.iconst 0, 1) := by decide +kernel
theorem dLw_1385 : decode code 1385 = .ok (.ireturn, 1) := by decide +kernel
theorem dLw_1386 : decode code 1386 = .ok (.aload_n 1, 1) := by decide +kernel
theorem dLw_1387 : decode code 1387 = .ok (.aload_n 0, 1) := by decide +kernel
theorem dLw_1388 : decode code 1388 = .ok (.iload_n 3, 1) := by decide +kernel
theorem dLw_1389 : decode code 1389 = .ok (.iconst 1, 1) := by decide +kernel
theorem dLw_1390 : decode code 1390 = .ok (.iadd, 1) := by decide +kernel
theorem dLw_1391 : decode code 1391 = .ok (.iaload, 1) := by decide +kernel
theorem dLw_1392 : decode code 1392 = .ok (.invokevirtual 197, 3) := by decide +kernel
theorem dLw_1395 : decode code 1395 = .ok (.aload_n 2, 1) := by decide +kernel
theorem dLw_1396 : decode code 1396 = .ok (.aload_n 0, 1) := by decide +kernel
theorem dLw_1397 : decode code 1397 = .ok (.iload_n 3, 1) := by decide +kernel
theorem dLw_1398 : decode code 1398 = .ok (.iconst 1, 1) := by decide +kernel
theorem dLw_1399 : decode code 1399 = .ok (.iadd, 1) := by decide +kernel
theorem dLw_1400 : decode code 1400 = .ok (.iaload, 1) := by decide +kernel
theorem dLw_1401 : decode code 1401 = .ok (.invokevirtual 200, 3) := by decide +kernel
theorem dLw_1404 : decode code 1404 = .ok (.if_icmp .eq 107, 3) := by decide +kernel
theorem dLw_1407 : decode code 1407 = .ok (.iconst 0, 1) := by decide +kernel
theorem dLw_1408 : decode code 1408 = .ok (.ireturn, 1) := by decide +kernel
theorem dLw_1409 : decode code 1409 = .ok (.aload_n 1, 1) := by decide +kernel
theorem dLw_1410 : decode code 1410 = .ok (.aload_n 0, 1) := by decide +kernel
theorem dLw_1411 : decode code 1411 = .ok (.iload_n 3, 1) := by decide +kernel
theorem dLw_1412 : decode code 1412 = .ok (.iconst 1, 1) := by decide +kernel
theorem dLw_1413 : decode code 1413 = .ok (.iadd, 1) := by decide +kernel
theorem dLw_1414 : decode code 1414 = .ok (.iaload, 1) := by decide +kernel
theorem dLw_1415 : decode code 1415 = .ok (.invokevirtual 201, 3) := by decide +kernel
theorem dLw_1418 : decode code 1418 = .ok (.aload_n 2, 1) := by decide +kernel
theorem dLw_1419 : decode code 1419 = .ok (.aload_n 0, 1) := by decide +kernel
theorem dLw_1420 : decode code 1420 = .ok (.iload_n 3, 1) := by decide +kernel
theorem dLw_1421 : decode code 1421 = .ok (.iconst 1, 1) := by decide +kernel
theorem dLw_1422 : decode code 1422 = .ok (.iadd, 1) := by decide +kernel
theorem dLw_1423 : decode code 1423 = .ok (.iaload, 1) := by decide +kernel
theorem dLw_1424 : decode code 1424 = .ok (.invokevirtual 204, 3) := by decide +kernel
theorem dLw_1427 : decode code 1427 = .ok (.if_icmp .eq 84, 3) := by decide +kernel
theorem dLw_1430 : decode code 1430 = .ok (.iconst 0, 1) := by decide +kernel
theorem dLw_1431 : decode code 1431 = .ok (.ireturn, 1) := by decide +kernel
theorem dLw_1432 : decode code 1432 = .ok (.aload_n 1, 1) := by decide +kernel
theorem dLw_1433 : decode code 1433 = .ok (.aload_n 0, 1) := by decide +kernel
theorem dLw_1434 : decode code 1434 = .ok (.iload_n 3, 1) := by decide +kernel
theorem dLw_1435 : decode code 1435 = .ok (.iconst 1, 1) := by decide +kernel
theorem dLw_1436 : decode code 1436 = .ok (.iadd, 1) := by decide +kernel
theorem dLw_1437 : decode code 1437 = .ok (.iaload, 1) := by decide +kernel
theorem dLw_1438 : decode code 1438 = .ok (.aload_n 0, 1) := by decide +kernel
theorem dLw_1439 : decode code 1439 = .ok (.iload_n 3, 1) := by decide +kernel
theorem dLw_1440 : decode code 1440 = .ok (.iconst 2, 1) := by decide +kernel
theorem dLw_1441 : decode code 1441 = .ok (.iadd, 1) := by decide +kernel
theorem dLw_1442 : decode code 1442 = .ok (.iaload, 1) := by decide +kernel
theorem dLw_1443 : decode code 1443 = .ok (.invokevirtual 205, 3) := by decide +kernel
theorem dLw_1446 : decode code 1446 = .ok (.aload_n 2, 1) := by decide +kernel
theorem dLw_1447 : decode code 1447 = .ok (.aload_n 0, 1) := by decide +kernel
theorem dLw_1448 : decode code 1448 = .ok (.iload_n 3, 1) := by decide +kernel
theorem dLw_1449 : decode code 1449 = .ok (.iconst 1, 1) := by decide +kernel
theorem dLw_1450 : decode code 1450 = .ok (.iadd, 1) := by decide +kernel
theorem dLw_1451 : decode code 1451 = .ok (.iaload, 1) := by decide +kernel
theorem dLw_1452 : decode code 1452 = .ok (.aload_n 0, 1) := by decide +kernel
theorem dLw_1453 : decode code 1453 = .ok (.iload_n 3, 1) := by decide +kernel
theorem dLw_1454 : decode code 1454 = .ok (.iconst 2, 1) := by decide +kernel
theorem dLw_1455 : decode code 1455 = .ok (.iadd, 1) := by decide +kernel
theorem dLw_1456 : decode code 1456 = .ok (.iaload, 1) := by decide +kernel
theorem dLw_1457 : decode code 1457 = .ok (.invokevirtual 208, 3) := by decide +kernel
theorem dLw_1460 : decode code 1460 = .ok (.if_icmp .eq 51, 3) := by decide +kernel
theorem dLw_1463 : decode code 1463 = .ok (.iconst 0, 1) := by decide +kernel
theorem dLw_1464 : decode code 1464 = .ok (.ireturn, 1) := by decide +kernel
theorem dLw_1465 : decode code 1465 = .ok (.aload_n 1, 1) := by decide +kernel
theorem dLw_1466 : decode code 1466 = .ok (.aload_n 0, 1) := by decide +kernel
theorem dLw_1467 : decode code 1467 = .ok (.iload_n 3, 1) := by decide +kernel
theorem dLw_1468 : decode code 1468 = .ok (.iconst 1, 1) := by decide +kernel
theorem dLw_1469 : decode code 1469 = .ok (.iadd, 1) := by decide +kernel
theorem dLw_1470 : decode code 1470 = .ok (.iaload, 1) := by decide +kernel
theorem dLw_1471 : decode code 1471 = .ok (.invokevirtual 209, 3) := by decide +kernel
theorem dLw_1474 : decode code 1474 = .ok (.aload_n 2, 1) := by decide +kernel
theorem dLw_1475 : decode code 1475 = .ok (.aload_n 0, 1) := by decide +kernel
theorem dLw_1476 : decode code 1476 = .ok (.iload_n 3, 1) := by decide +kernel
theorem dLw_1477 : decode code 1477 = .ok (.iconst 1, 1) := by decide +kernel
theorem dLw_1478 : decode code 1478 = .ok (.iadd, 1) := by decide +kernel
theorem dLw_1479 : decode code 1479 = .ok (.iaload, 1) := by decide +kernel
theorem dLw_1480 : decode code 1480 = .ok (.invokevirtual 212, 3) := by decide +kernel
theorem dLw_1483 : decode code 1483 = .ok (.if_icmp .eq 28, 3) := by decide +kernel
theorem dLw_1486 : decode code 1486 = .ok (.iconst 0, 1) := by decide +kernel
theorem dLw_1487 : decode code 1487 = .ok (.ireturn, 1) := by decide +kernel
theorem dLw_1488 : decode code 1488 = .ok (.aload_n 1, 1) := by decide +kernel
theorem dLw_1489 : decode code 1489 = .ok (.aload_n 0, 1) := by decide +kernel
theorem dLw_1490 : decode code 1490 = .ok (.iload_n 3, 1) := by decide +kernel
theorem dLw_1491 : decode code 1491 = .ok (.iconst 1, 1) := by decide +kernel
theorem dLw_1492 : decode code 1492 = .ok (.iadd, 1) := by decide +kernel
theorem dLw_1493 : decode code 1493 = .ok (.iaload, 1) := by decide +kernel
theorem dLw_1494 : decode code 1494 = .ok (.invokevirtual 213, 3) := by decide +kernel
theorem dLw_1497 : decode code 1497 = .ok (.aload_n 2, 1) := by decide +kernel
theorem dLw_1498 : decode code 1498 = .ok (.aload_n 0, 1) := by decide +kernel
theorem dLw_1499 : decode code 1499 = .ok (.iload_n 3, 1) := by decide +kernel
theorem dLw_1500 : decode code 1500 = .ok (.iconst 1, 1) := by decide +kernel
theorem dLw_1501 : decode code 1501 = .ok (.iadd, 1) := by decide +kernel
theorem dLw_1502 : decode code 1502 = .ok (.iaload, 1) := by decide +kernel
theorem dLw_1503 : decode code 1503 = .ok (.invokevirtual 216, 3) := by decide +kernel
theorem dLw_1506 : decode code 1506 = .ok (.if_icmp .eq 5, 3) := by decide +kernel
theorem dLw_1509 : decode code 1509 = .ok (.iconst 0, 1) := by decide +kernel
theorem dLw_1510 : decode code 1510 = .ok (.ireturn, 1) := by decide +kernel
theorem dLw_1511 : decode code 1511 = .ok (.iinc 3 6, 3) := by decide +kernel
theorem dLw_1514 : decode code 1514 = .ok (.goto (-1496), 3) := by decide +kernel
theorem dLw_1517 : decode code 1517 = .ok (.iconst 1, 1) := by decide +kernel
theorem dLw_1518 : decode code 1518 = .ok (.ireturn, 1) := by decide +kernel
def RLaw : String := "SpanKindsLaw"
section LW
variable {p : Program} {l : Launch} {e : Env} {R : Room} {s : State} {m : MethodId} {args : Array Value} {below : List Frame} {meth : Method} {c : Code} {H : Heap} {locs : List Loc} {Q : State → Prop}
variable {cc : ByteArray} {pc nL d cells slots : Nat} {ls : Array Slot} {rest : List Value} {own : String} {E : Ge} {L : Lay} {M M' : Mm} {a : Nat}
variable {y : MethodName} {cb : ByteArray} {nb : Nat} {ret : Option FieldType} {r : Option Value} {index n : Nat} {As : List Value}
theorem r_callVG (B : Bx p s m args c cc nL own E L) (hR : Rx s E L M H locs) {ci N : Nat} {C : String} {T : u_T} (hc : vwCl[ci]? = some (C, T, N)) (hcode : Cond.code y cb nb ret ∈ ws0) (hlink : Cond.methodLink own index y ∈ ws0) (hinst : Cond.instanceMethod y ∈ ws0) (hsel : Cond.selects C y y ∈ ws0) (hini : Cond.initialized C ∈ ws0) (hd : y.cls = C ∧ y.cls ≠ "java/lang/invoke/MethodHandle" ∧ y.cls ≠ "java/lang/invoke/VarHandle" ∧ (parseMethodDescriptor y.desc).map (fun d => d.parameters.length) = some n) (hnb : nb ≤ 23)
    (hm : (a, (ci + 5, 0)) ∈ L) (hn : As.length = n) (hl : ls.size = nL) (hC : Ct l E L y cb nb ret d (.ref a :: As) M r M') (hf : d + 1 ≤ R.frames ∧ 42 * d + 42 ≤ R.locals ∧ cells ≤ R.cells ∧ slots ≤ R.slots) (hst : (rest.map fun v => v.category).sum ≤ 8) (hdg : decode cc pc = .ok (.invokevirtual index, 3))
    (kk : ∀ (H1 : Heap) (locs1 : List Loc), Rx s E L M' H1 locs1 → W p l e R s m args below meth c H1 locs1 cells slots Q (F0 m (pc + 3) ls (r.toList ++ rest))) : W p l e R s m args below meth c H locs cells slots Q (F0 m pc ls (As.reverse ++ .ref a :: rest)) := by
  have B0 := B
  obtain ⟨hx, hb, hml, hown, hts, hK, hD, hX⟩ := B
  obtain ⟨q, -, hq⟩ := wsOf_at (g := E.2.1) M hm
  have hG : GoodIn ws0 (wsV own index C y (Cond.code y cb nb ret :: ws0)) := fun w hw => by
    unfold wsV at hw
    rcases List.mem_append.mp hw with h | h
    · have h2 : w ∈ ws0 := by
        simp only [List.mem_cons, List.not_mem_nil, or_false] at h
        rcases h with rfl | rfl | rfl | rfl
        · exact hlink
        · exact hinst
        · exact hsel
        · exact hini
      exact ⟨h2, ws0_good h2⟩
    · exact ws0_in hcode w h
  exact c_on hR (va_runV (As := As) (rest := rest) ⟨hx, hb, hml, hown, hts⟩ hC (cwV n hts hG rfl rfl rfl hd (rm_ok hf.1 hf.2.1 hnb)) ⟨PcM.blind, va_recv hK hR.1 hc hq, c_pre B0 hR⟩ rfl hn hl rfl (lv_room hst) hdg ⟨hf.2.2.1, hf.2.2.2⟩) kk
end LW
theorem wc_X10_feed : Cond.code yX10_feed cX10_feed 6 (some .int) ∈ ws0 := tb_3 34 (by decide +kernel) rfl
theorem wi_X10_feed : Cond.instanceMethod yX10_feed ∈ ws0 := tb_3 32 (by decide +kernel) rfl
theorem we_X10_feed : Cond.selects RX10 yX10_feed yX10_feed ∈ ws0 := tb_3 33 (by decide +kernel) rfl
theorem ml_LW_13 : Cond.methodLink RLaw 13 yX10_feed ∈ ws0 := tb_3 31 (by decide +kernel) rfl
theorem wc_X11_feed : Cond.code yX11_feed cX11_feed 8 (some .int) ∈ ws0 := tb_7 112 (by decide +kernel) rfl
theorem wi_X11_feed : Cond.instanceMethod yX11_feed ∈ ws0 := tb_7 110 (by decide +kernel) rfl
theorem we_X11_feed : Cond.selects RX11 yX11_feed yX11_feed ∈ ws0 := tb_7 111 (by decide +kernel) rfl
theorem ml_LW_17 : Cond.methodLink RLaw 17 yX11_feed ∈ ws0 := tb_7 109 (by decide +kernel) rfl
theorem wc_X10_end : Cond.code yX10_end cX10_end 2 (some .int) ∈ ws0 := tb_3 42 (by decide +kernel) rfl
theorem wi_X10_end : Cond.instanceMethod yX10_end ∈ ws0 := tb_3 40 (by decide +kernel) rfl
theorem we_X10_end : Cond.selects RX10 yX10_end yX10_end ∈ ws0 := tb_3 41 (by decide +kernel) rfl
theorem ml_LW_18 : Cond.methodLink RLaw 18 yX10_end ∈ ws0 := tb_3 39 (by decide +kernel) rfl
theorem wc_X11_end : Cond.code yX11_end cX11_end 2 (some .int) ∈ ws0 := tb_7 116 (by decide +kernel) rfl
theorem wi_X11_end : Cond.instanceMethod yX11_end ∈ ws0 := tb_7 114 (by decide +kernel) rfl
theorem we_X11_end : Cond.selects RX11 yX11_end yX11_end ∈ ws0 := tb_7 115 (by decide +kernel) rfl
theorem ml_LW_22 : Cond.methodLink RLaw 22 yX11_end ∈ ws0 := tb_7 113 (by decide +kernel) rfl
theorem wc_X10_store : Cond.code yX10_store cX10_store 2 (some .int) ∈ ws0 := tb_3 46 (by decide +kernel) rfl
theorem wi_X10_store : Cond.instanceMethod yX10_store ∈ ws0 := tb_3 44 (by decide +kernel) rfl
theorem we_X10_store : Cond.selects RX10 yX10_store yX10_store ∈ ws0 := tb_3 45 (by decide +kernel) rfl
theorem ml_LW_23 : Cond.methodLink RLaw 23 yX10_store ∈ ws0 := tb_3 43 (by decide +kernel) rfl
theorem wc_X11_store : Cond.code yX11_store cX11_store 2 (some .int) ∈ ws0 := tb_7 120 (by decide +kernel) rfl
theorem wi_X11_store : Cond.instanceMethod yX11_store ∈ ws0 := tb_7 118 (by decide +kernel) rfl
theorem we_X11_store : Cond.selects RX11 yX11_store yX11_store ∈ ws0 := tb_7 119 (by decide +kernel) rfl
theorem ml_LW_27 : Cond.methodLink RLaw 27 yX11_store ∈ ws0 := tb_7 117 (by decide +kernel) rfl
theorem wc_X10_fault : Cond.code yX10_fault cX10_fault 2 (some .int) ∈ ws0 := tb_3 232 (by decide +kernel) rfl
theorem wi_X10_fault : Cond.instanceMethod yX10_fault ∈ ws0 := tb_3 230 (by decide +kernel) rfl
theorem we_X10_fault : Cond.selects RX10 yX10_fault yX10_fault ∈ ws0 := tb_3 231 (by decide +kernel) rfl
theorem ml_LW_28 : Cond.methodLink RLaw 28 yX10_fault ∈ ws0 := tb_3 229 (by decide +kernel) rfl
theorem wc_X11_fault : Cond.code yX11_fault cX11_fault 2 (some .int) ∈ ws0 := tb_7 221 (by decide +kernel) rfl
theorem wi_X11_fault : Cond.instanceMethod yX11_fault ∈ ws0 := tb_7 219 (by decide +kernel) rfl
theorem we_X11_fault : Cond.selects RX11 yX11_fault yX11_fault ∈ ws0 := tb_7 220 (by decide +kernel) rfl
theorem ml_LW_31 : Cond.methodLink RLaw 31 yX11_fault ∈ ws0 := tb_7 218 (by decide +kernel) rfl
theorem wc_X10_span : Cond.code yX10_span cX10_span 5 (some .int) ∈ ws0 := tb_3 236 (by decide +kernel) rfl
theorem wi_X10_span : Cond.instanceMethod yX10_span ∈ ws0 := tb_3 234 (by decide +kernel) rfl
theorem we_X10_span : Cond.selects RX10 yX10_span yX10_span ∈ ws0 := tb_3 235 (by decide +kernel) rfl
theorem ml_LW_32 : Cond.methodLink RLaw 32 yX10_span ∈ ws0 := tb_3 233 (by decide +kernel) rfl
theorem wc_X11_span : Cond.code yX11_span cX11_span 5 (some .int) ∈ ws0 := tb_9 127 (by decide +kernel) rfl
theorem wi_X11_span : Cond.instanceMethod yX11_span ∈ ws0 := tb_9 125 (by decide +kernel) rfl
theorem we_X11_span : Cond.selects RX11 yX11_span yX11_span ∈ ws0 := tb_9 126 (by decide +kernel) rfl
theorem ml_LW_36 : Cond.methodLink RLaw 36 yX11_span ∈ ws0 := tb_9 124 (by decide +kernel) rfl
theorem wc_X10_drop : Cond.code yX10_drop cX10_drop 2 (some .int) ∈ ws0 := tb_4 12 (by decide +kernel) rfl
theorem wi_X10_drop : Cond.instanceMethod yX10_drop ∈ ws0 := tb_4 10 (by decide +kernel) rfl
theorem we_X10_drop : Cond.selects RX10 yX10_drop yX10_drop ∈ ws0 := tb_4 11 (by decide +kernel) rfl
theorem ml_LW_37 : Cond.methodLink RLaw 37 yX10_drop ∈ ws0 := tb_4 9 (by decide +kernel) rfl
theorem wc_X11_drop : Cond.code yX11_drop cX11_drop 3 (some .int) ∈ ws0 := tb_9 135 (by decide +kernel) rfl
theorem wi_X11_drop : Cond.instanceMethod yX11_drop ∈ ws0 := tb_9 133 (by decide +kernel) rfl
theorem we_X11_drop : Cond.selects RX11 yX11_drop yX11_drop ∈ ws0 := tb_9 134 (by decide +kernel) rfl
theorem ml_LW_40 : Cond.methodLink RLaw 40 yX11_drop ∈ ws0 := tb_9 132 (by decide +kernel) rfl
theorem wc_X10_prefer : Cond.code yX10_prefer cX10_prefer 3 (some .int) ∈ ws0 := tb_4 20 (by decide +kernel) rfl
theorem wi_X10_prefer : Cond.instanceMethod yX10_prefer ∈ ws0 := tb_4 18 (by decide +kernel) rfl
theorem we_X10_prefer : Cond.selects RX10 yX10_prefer yX10_prefer ∈ ws0 := tb_4 19 (by decide +kernel) rfl
theorem ml_LW_41 : Cond.methodLink RLaw 41 yX10_prefer ∈ ws0 := tb_4 17 (by decide +kernel) rfl
theorem wc_X11_prefer : Cond.code yX11_prefer cX11_prefer 2 (some .int) ∈ ws0 := tb_9 139 (by decide +kernel) rfl
theorem wi_X11_prefer : Cond.instanceMethod yX11_prefer ∈ ws0 := tb_9 137 (by decide +kernel) rfl
theorem we_X11_prefer : Cond.selects RX11 yX11_prefer yX11_prefer ∈ ws0 := tb_9 138 (by decide +kernel) rfl
theorem ml_LW_44 : Cond.methodLink RLaw 44 yX11_prefer ∈ ws0 := tb_9 136 (by decide +kernel) rfl
theorem wc_X10_fix : Cond.code yX10_fix cX10_fix 4 (some .int) ∈ ws0 := tb_4 24 (by decide +kernel) rfl
theorem wi_X10_fix : Cond.instanceMethod yX10_fix ∈ ws0 := tb_4 22 (by decide +kernel) rfl
theorem we_X10_fix : Cond.selects RX10 yX10_fix yX10_fix ∈ ws0 := tb_4 23 (by decide +kernel) rfl
theorem ml_LW_45 : Cond.methodLink RLaw 45 yX10_fix ∈ ws0 := tb_4 21 (by decide +kernel) rfl
theorem wc_X11_fix : Cond.code yX11_fix cX11_fix 3 (some .int) ∈ ws0 := tb_9 147 (by decide +kernel) rfl
theorem wi_X11_fix : Cond.instanceMethod yX11_fix ∈ ws0 := tb_9 145 (by decide +kernel) rfl
theorem we_X11_fix : Cond.selects RX11 yX11_fix yX11_fix ∈ ws0 := tb_9 146 (by decide +kernel) rfl
theorem ml_LW_49 : Cond.methodLink RLaw 49 yX11_fix ∈ ws0 := tb_9 144 (by decide +kernel) rfl
theorem wc_X10_set : Cond.code yX10_set cX10_set 6 (some .boolean) ∈ ws0 := tb_4 36 (by decide +kernel) rfl
theorem wi_X10_set : Cond.instanceMethod yX10_set ∈ ws0 := tb_4 34 (by decide +kernel) rfl
theorem we_X10_set : Cond.selects RX10 yX10_set yX10_set ∈ ws0 := tb_4 35 (by decide +kernel) rfl
theorem ml_LW_50 : Cond.methodLink RLaw 50 yX10_set ∈ ws0 := tb_4 33 (by decide +kernel) rfl
theorem wc_X11_set : Cond.code yX11_set cX11_set 5 (some .boolean) ∈ ws0 := tb_9 155 (by decide +kernel) rfl
theorem wi_X11_set : Cond.instanceMethod yX11_set ∈ ws0 := tb_9 153 (by decide +kernel) rfl
theorem we_X11_set : Cond.selects RX11 yX11_set yX11_set ∈ ws0 := tb_9 154 (by decide +kernel) rfl
theorem ml_LW_54 : Cond.methodLink RLaw 54 yX11_set ∈ ws0 := tb_9 152 (by decide +kernel) rfl
theorem wc_X10_clear : Cond.code yX10_clear cX10_clear 2 (some .boolean) ∈ ws0 := tb_4 47 (by decide +kernel) rfl
theorem wi_X10_clear : Cond.instanceMethod yX10_clear ∈ ws0 := tb_4 45 (by decide +kernel) rfl
theorem we_X10_clear : Cond.selects RX10 yX10_clear yX10_clear ∈ ws0 := tb_4 46 (by decide +kernel) rfl
theorem ml_LW_55 : Cond.methodLink RLaw 55 yX10_clear ∈ ws0 := tb_4 44 (by decide +kernel) rfl
theorem wc_X11_clear : Cond.code yX11_clear cX11_clear 2 (some .boolean) ∈ ws0 := tb_9 163 (by decide +kernel) rfl
theorem wi_X11_clear : Cond.instanceMethod yX11_clear ∈ ws0 := tb_9 161 (by decide +kernel) rfl
theorem we_X11_clear : Cond.selects RX11 yX11_clear yX11_clear ∈ ws0 := tb_9 162 (by decide +kernel) rfl
theorem ml_LW_59 : Cond.methodLink RLaw 59 yX11_clear ∈ ws0 := tb_9 160 (by decide +kernel) rfl
theorem wc_X10_lay : Cond.code yX10_lay cX10_lay 2 (some .int) ∈ ws0 := tb_4 56 (by decide +kernel) rfl
theorem wi_X10_lay : Cond.instanceMethod yX10_lay ∈ ws0 := tb_4 54 (by decide +kernel) rfl
theorem we_X10_lay : Cond.selects RX10 yX10_lay yX10_lay ∈ ws0 := tb_4 55 (by decide +kernel) rfl
theorem ml_LW_60 : Cond.methodLink RLaw 60 yX10_lay ∈ ws0 := tb_4 53 (by decide +kernel) rfl
theorem wc_X11_lay : Cond.code yX11_lay cX11_lay 1 (some .int) ∈ ws0 := tb_9 167 (by decide +kernel) rfl
theorem wi_X11_lay : Cond.instanceMethod yX11_lay ∈ ws0 := tb_9 165 (by decide +kernel) rfl
theorem we_X11_lay : Cond.selects RX11 yX11_lay yX11_lay ∈ ws0 := tb_9 166 (by decide +kernel) rfl
theorem ml_LW_63 : Cond.methodLink RLaw 63 yX11_lay ∈ ws0 := tb_9 164 (by decide +kernel) rfl
theorem wc_X10_page : Cond.code yX10_page cX10_page 4 (some .int) ∈ ws0 := tb_4 134 (by decide +kernel) rfl
theorem wi_X10_page : Cond.instanceMethod yX10_page ∈ ws0 := tb_4 132 (by decide +kernel) rfl
theorem we_X10_page : Cond.selects RX10 yX10_page yX10_page ∈ ws0 := tb_4 133 (by decide +kernel) rfl
theorem ml_LW_64 : Cond.methodLink RLaw 64 yX10_page ∈ ws0 := tb_4 131 (by decide +kernel) rfl
theorem wc_X11_page : Cond.code yX11_page cX11_page 3 (some .int) ∈ ws0 := tb_9 151 (by decide +kernel) rfl
theorem wi_X11_page : Cond.instanceMethod yX11_page ∈ ws0 := tb_9 149 (by decide +kernel) rfl
theorem we_X11_page : Cond.selects RX11 yX11_page yX11_page ∈ ws0 := tb_9 150 (by decide +kernel) rfl
theorem ml_LW_67 : Cond.methodLink RLaw 67 yX11_page ∈ ws0 := tb_9 148 (by decide +kernel) rfl
theorem wc_X10_mend : Cond.code yX10_mend cX10_mend 5 (some .int) ∈ ws0 := tb_4 143 (by decide +kernel) rfl
theorem wi_X10_mend : Cond.instanceMethod yX10_mend ∈ ws0 := tb_4 141 (by decide +kernel) rfl
theorem we_X10_mend : Cond.selects RX10 yX10_mend yX10_mend ∈ ws0 := tb_4 142 (by decide +kernel) rfl
theorem ml_LW_68 : Cond.methodLink RLaw 68 yX10_mend ∈ ws0 := tb_4 140 (by decide +kernel) rfl
theorem wc_X11_mend : Cond.code yX11_mend cX11_mend 4 (some .int) ∈ ws0 := tb_9 179 (by decide +kernel) rfl
theorem wi_X11_mend : Cond.instanceMethod yX11_mend ∈ ws0 := tb_9 177 (by decide +kernel) rfl
theorem we_X11_mend : Cond.selects RX11 yX11_mend yX11_mend ∈ ws0 := tb_9 178 (by decide +kernel) rfl
theorem ml_LW_71 : Cond.methodLink RLaw 71 yX11_mend ∈ ws0 := tb_9 176 (by decide +kernel) rfl
theorem wc_X10_layAll : Cond.code yX10_layAll cX10_layAll 3 (some .int) ∈ ws0 := tb_4 210 (by decide +kernel) rfl
theorem wi_X10_layAll : Cond.instanceMethod yX10_layAll ∈ ws0 := tb_4 208 (by decide +kernel) rfl
theorem we_X10_layAll : Cond.selects RX10 yX10_layAll yX10_layAll ∈ ws0 := tb_4 209 (by decide +kernel) rfl
theorem ml_LW_72 : Cond.methodLink RLaw 72 yX10_layAll ∈ ws0 := tb_4 207 (by decide +kernel) rfl
theorem wc_X11_layAll : Cond.code yX11_layAll cX11_layAll 2 (some .int) ∈ ws0 := tb_9 175 (by decide +kernel) rfl
theorem wi_X11_layAll : Cond.instanceMethod yX11_layAll ∈ ws0 := tb_9 173 (by decide +kernel) rfl
theorem we_X11_layAll : Cond.selects RX11 yX11_layAll yX11_layAll ∈ ws0 := tb_9 174 (by decide +kernel) rfl
theorem ml_LW_75 : Cond.methodLink RLaw 75 yX11_layAll ∈ ws0 := tb_9 172 (by decide +kernel) rfl
theorem wc_X10_tidy : Cond.code yX10_tidy cX10_tidy 4 (some .int) ∈ ws0 := tb_5 13 (by decide +kernel) rfl
theorem wi_X10_tidy : Cond.instanceMethod yX10_tidy ∈ ws0 := tb_5 11 (by decide +kernel) rfl
theorem we_X10_tidy : Cond.selects RX10 yX10_tidy yX10_tidy ∈ ws0 := tb_5 12 (by decide +kernel) rfl
theorem ml_LW_76 : Cond.methodLink RLaw 76 yX10_tidy ∈ ws0 := tb_5 10 (by decide +kernel) rfl
theorem wc_X11_tidy : Cond.code yX11_tidy cX11_tidy 4 (some .int) ∈ ws0 := tb_9 184 (by decide +kernel) rfl
theorem wi_X11_tidy : Cond.instanceMethod yX11_tidy ∈ ws0 := tb_9 182 (by decide +kernel) rfl
theorem we_X11_tidy : Cond.selects RX11 yX11_tidy yX11_tidy ∈ ws0 := tb_9 183 (by decide +kernel) rfl
theorem ml_LW_79 : Cond.methodLink RLaw 79 yX11_tidy ∈ ws0 := tb_9 181 (by decide +kernel) rfl
theorem wc_X10_undo : Cond.code yX10_undo cX10_undo 1 (some .boolean) ∈ ws0 := tb_5 17 (by decide +kernel) rfl
theorem wi_X10_undo : Cond.instanceMethod yX10_undo ∈ ws0 := tb_5 15 (by decide +kernel) rfl
theorem we_X10_undo : Cond.selects RX10 yX10_undo yX10_undo ∈ ws0 := tb_5 16 (by decide +kernel) rfl
theorem ml_LW_80 : Cond.methodLink RLaw 80 yX10_undo ∈ ws0 := tb_5 14 (by decide +kernel) rfl
theorem wc_X11_undo : Cond.code yX11_undo cX11_undo 1 (some .boolean) ∈ ws0 := tb_9 192 (by decide +kernel) rfl
theorem wi_X11_undo : Cond.instanceMethod yX11_undo ∈ ws0 := tb_9 190 (by decide +kernel) rfl
theorem we_X11_undo : Cond.selects RX11 yX11_undo yX11_undo ∈ ws0 := tb_9 191 (by decide +kernel) rfl
theorem ml_LW_84 : Cond.methodLink RLaw 84 yX11_undo ∈ ws0 := tb_9 189 (by decide +kernel) rfl
theorem wc_X10_redo : Cond.code yX10_redo cX10_redo 1 (some .boolean) ∈ ws0 := tb_5 25 (by decide +kernel) rfl
theorem wi_X10_redo : Cond.instanceMethod yX10_redo ∈ ws0 := tb_5 23 (by decide +kernel) rfl
theorem we_X10_redo : Cond.selects RX10 yX10_redo yX10_redo ∈ ws0 := tb_5 24 (by decide +kernel) rfl
theorem ml_LW_85 : Cond.methodLink RLaw 85 yX10_redo ∈ ws0 := tb_5 22 (by decide +kernel) rfl
theorem wc_X11_redo : Cond.code yX11_redo cX11_redo 1 (some .boolean) ∈ ws0 := tb_9 200 (by decide +kernel) rfl
theorem wi_X11_redo : Cond.instanceMethod yX11_redo ∈ ws0 := tb_9 198 (by decide +kernel) rfl
theorem we_X11_redo : Cond.selects RX11 yX11_redo yX11_redo ∈ ws0 := tb_9 199 (by decide +kernel) rfl
theorem ml_LW_88 : Cond.methodLink RLaw 88 yX11_redo ∈ ws0 := tb_9 197 (by decide +kernel) rfl
theorem wc_X10_told : Cond.code yX10_told cX10_told 3 (some .int) ∈ ws0 := tb_5 33 (by decide +kernel) rfl
theorem wi_X10_told : Cond.instanceMethod yX10_told ∈ ws0 := tb_5 31 (by decide +kernel) rfl
theorem we_X10_told : Cond.selects RX10 yX10_told yX10_told ∈ ws0 := tb_5 32 (by decide +kernel) rfl
theorem ml_LW_89 : Cond.methodLink RLaw 89 yX10_told ∈ ws0 := tb_5 30 (by decide +kernel) rfl
theorem wc_X11_told : Cond.code yX11_told cX11_told 3 (some .int) ∈ ws0 := tb_8 71 (by decide +kernel) rfl
theorem wi_X11_told : Cond.instanceMethod yX11_told ∈ ws0 := tb_8 69 (by decide +kernel) rfl
theorem we_X11_told : Cond.selects RX11 yX11_told yX11_told ∈ ws0 := tb_8 70 (by decide +kernel) rfl
theorem ml_LW_92 : Cond.methodLink RLaw 92 yX11_told ∈ ws0 := tb_8 68 (by decide +kernel) rfl
theorem wc_X10_register : Cond.code yX10_register cX10_register 3 (some .int) ∈ ws0 := tb_5 40 (by decide +kernel) rfl
theorem wi_X10_register : Cond.instanceMethod yX10_register ∈ ws0 := tb_5 38 (by decide +kernel) rfl
theorem we_X10_register : Cond.selects RX10 yX10_register yX10_register ∈ ws0 := tb_5 39 (by decide +kernel) rfl
theorem ml_LW_93 : Cond.methodLink RLaw 93 yX10_register ∈ ws0 := tb_5 37 (by decide +kernel) rfl
theorem wc_X11_register : Cond.code yX11_register cX11_register 3 (some .int) ∈ ws0 := tb_8 75 (by decide +kernel) rfl
theorem wi_X11_register : Cond.instanceMethod yX11_register ∈ ws0 := tb_8 73 (by decide +kernel) rfl
theorem we_X11_register : Cond.selects RX11 yX11_register yX11_register ∈ ws0 := tb_8 74 (by decide +kernel) rfl
theorem ml_LW_96 : Cond.methodLink RLaw 96 yX11_register ∈ ws0 := tb_8 72 (by decide +kernel) rfl
theorem wc_X10_part : Cond.code yX10_part cX10_part 2 (some .int) ∈ ws0 := tb_5 44 (by decide +kernel) rfl
theorem wi_X10_part : Cond.instanceMethod yX10_part ∈ ws0 := tb_5 42 (by decide +kernel) rfl
theorem we_X10_part : Cond.selects RX10 yX10_part yX10_part ∈ ws0 := tb_5 43 (by decide +kernel) rfl
theorem ml_LW_97 : Cond.methodLink RLaw 97 yX10_part ∈ ws0 := tb_5 41 (by decide +kernel) rfl
theorem wc_X11_part : Cond.code yX11_part cX11_part 2 (some .int) ∈ ws0 := tb_8 67 (by decide +kernel) rfl
theorem wi_X11_part : Cond.instanceMethod yX11_part ∈ ws0 := tb_8 65 (by decide +kernel) rfl
theorem we_X11_part : Cond.selects RX11 yX11_part yX11_part ∈ ws0 := tb_8 66 (by decide +kernel) rfl
theorem ml_LW_100 : Cond.methodLink RLaw 100 yX11_part ∈ ws0 := tb_8 64 (by decide +kernel) rfl
theorem wc_X10_wanted : Cond.code yX10_wanted cX10_wanted 2 (some .int) ∈ ws0 := tb_5 48 (by decide +kernel) rfl
theorem wi_X10_wanted : Cond.instanceMethod yX10_wanted ∈ ws0 := tb_5 46 (by decide +kernel) rfl
theorem we_X10_wanted : Cond.selects RX10 yX10_wanted yX10_wanted ∈ ws0 := tb_5 47 (by decide +kernel) rfl
theorem ml_LW_101 : Cond.methodLink RLaw 101 yX10_wanted ∈ ws0 := tb_5 45 (by decide +kernel) rfl
theorem wc_X11_wanted : Cond.code yX11_wanted cX11_wanted 2 (some .int) ∈ ws0 := tb_7 225 (by decide +kernel) rfl
theorem wi_X11_wanted : Cond.instanceMethod yX11_wanted ∈ ws0 := tb_7 223 (by decide +kernel) rfl
theorem we_X11_wanted : Cond.selects RX11 yX11_wanted yX11_wanted ∈ ws0 := tb_7 224 (by decide +kernel) rfl
theorem ml_LW_104 : Cond.methodLink RLaw 104 yX11_wanted ∈ ws0 := tb_7 222 (by decide +kernel) rfl
theorem wc_X10_kind : Cond.code yX10_kind cX10_kind 2 (some .int) ∈ ws0 := tb_5 54 (by decide +kernel) rfl
theorem wi_X10_kind : Cond.instanceMethod yX10_kind ∈ ws0 := tb_5 52 (by decide +kernel) rfl
theorem we_X10_kind : Cond.selects RX10 yX10_kind yX10_kind ∈ ws0 := tb_5 53 (by decide +kernel) rfl
theorem ml_LW_105 : Cond.methodLink RLaw 105 yX10_kind ∈ ws0 := tb_5 51 (by decide +kernel) rfl
theorem wc_X11_kind : Cond.code yX11_kind cX11_kind 2 (some .int) ∈ ws0 := tb_8 1 (by decide +kernel) rfl
theorem wi_X11_kind : Cond.instanceMethod yX11_kind ∈ ws0 := tb_7 239 (by decide +kernel) rfl
theorem we_X11_kind : Cond.selects RX11 yX11_kind yX11_kind ∈ ws0 := tb_8 0 (by decide +kernel) rfl
theorem ml_LW_108 : Cond.methodLink RLaw 108 yX11_kind ∈ ws0 := tb_7 238 (by decide +kernel) rfl
theorem wc_X10_run : Cond.code yX10_run cX10_run 4 (some .int) ∈ ws0 := tb_5 59 (by decide +kernel) rfl
theorem wi_X10_run : Cond.instanceMethod yX10_run ∈ ws0 := tb_5 57 (by decide +kernel) rfl
theorem we_X10_run : Cond.selects RX10 yX10_run yX10_run ∈ ws0 := tb_5 58 (by decide +kernel) rfl
theorem ml_LW_109 : Cond.methodLink RLaw 109 yX10_run ∈ ws0 := tb_5 56 (by decide +kernel) rfl
theorem wc_X11_run : Cond.code yX11_run cX11_run 5 (some .int) ∈ ws0 := tb_8 87 (by decide +kernel) rfl
theorem wi_X11_run : Cond.instanceMethod yX11_run ∈ ws0 := tb_8 85 (by decide +kernel) rfl
theorem we_X11_run : Cond.selects RX11 yX11_run yX11_run ∈ ws0 := tb_8 86 (by decide +kernel) rfl
theorem ml_LW_112 : Cond.methodLink RLaw 112 yX11_run ∈ ws0 := tb_8 84 (by decide +kernel) rfl
theorem wc_X10_paged : Cond.code yX10_paged cX10_paged 2 (some .int) ∈ ws0 := tb_5 63 (by decide +kernel) rfl
theorem wi_X10_paged : Cond.instanceMethod yX10_paged ∈ ws0 := tb_5 61 (by decide +kernel) rfl
theorem we_X10_paged : Cond.selects RX10 yX10_paged yX10_paged ∈ ws0 := tb_5 62 (by decide +kernel) rfl
theorem ml_LW_113 : Cond.methodLink RLaw 113 yX10_paged ∈ ws0 := tb_5 60 (by decide +kernel) rfl
theorem wc_X11_paged : Cond.code yX11_paged cX11_paged 2 (some .int) ∈ ws0 := tb_8 59 (by decide +kernel) rfl
theorem wi_X11_paged : Cond.instanceMethod yX11_paged ∈ ws0 := tb_8 57 (by decide +kernel) rfl
theorem we_X11_paged : Cond.selects RX11 yX11_paged yX11_paged ∈ ws0 := tb_8 58 (by decide +kernel) rfl
theorem ml_LW_116 : Cond.methodLink RLaw 116 yX11_paged ∈ ws0 := tb_8 56 (by decide +kernel) rfl
theorem wc_X10_seen : Cond.code yX10_seen cX10_seen 2 (some .int) ∈ ws0 := tb_5 67 (by decide +kernel) rfl
theorem wi_X10_seen : Cond.instanceMethod yX10_seen ∈ ws0 := tb_5 65 (by decide +kernel) rfl
theorem we_X10_seen : Cond.selects RX10 yX10_seen yX10_seen ∈ ws0 := tb_5 66 (by decide +kernel) rfl
theorem ml_LW_117 : Cond.methodLink RLaw 117 yX10_seen ∈ ws0 := tb_5 64 (by decide +kernel) rfl
theorem wc_X11_seen : Cond.code yX11_seen cX11_seen 2 (some .int) ∈ ws0 := tb_8 45 (by decide +kernel) rfl
theorem wi_X11_seen : Cond.instanceMethod yX11_seen ∈ ws0 := tb_8 43 (by decide +kernel) rfl
theorem we_X11_seen : Cond.selects RX11 yX11_seen yX11_seen ∈ ws0 := tb_8 44 (by decide +kernel) rfl
theorem ml_LW_120 : Cond.methodLink RLaw 120 yX11_seen ∈ ws0 := tb_8 42 (by decide +kernel) rfl
theorem wc_X10_strange : Cond.code yX10_strange cX10_strange 6 (some .int) ∈ ws0 := tb_5 76 (by decide +kernel) rfl
theorem wi_X10_strange : Cond.instanceMethod yX10_strange ∈ ws0 := tb_5 74 (by decide +kernel) rfl
theorem we_X10_strange : Cond.selects RX10 yX10_strange yX10_strange ∈ ws0 := tb_5 75 (by decide +kernel) rfl
theorem ml_LW_121 : Cond.methodLink RLaw 121 yX10_strange ∈ ws0 := tb_5 73 (by decide +kernel) rfl
theorem wc_X11_strange : Cond.code yX11_strange cX11_strange 5 (some .int) ∈ ws0 := tb_8 99 (by decide +kernel) rfl
theorem wi_X11_strange : Cond.instanceMethod yX11_strange ∈ ws0 := tb_8 97 (by decide +kernel) rfl
theorem we_X11_strange : Cond.selects RX11 yX11_strange yX11_strange ∈ ws0 := tb_8 98 (by decide +kernel) rfl
theorem ml_LW_124 : Cond.methodLink RLaw 124 yX11_strange ∈ ws0 := tb_8 96 (by decide +kernel) rfl
theorem wc_X10_mendable : Cond.code yX10_mendable cX10_mendable 2 (some .int) ∈ ws0 := tb_5 88 (by decide +kernel) rfl
theorem wi_X10_mendable : Cond.instanceMethod yX10_mendable ∈ ws0 := tb_5 86 (by decide +kernel) rfl
theorem we_X10_mendable : Cond.selects RX10 yX10_mendable yX10_mendable ∈ ws0 := tb_5 87 (by decide +kernel) rfl
theorem ml_LW_125 : Cond.methodLink RLaw 125 yX10_mendable ∈ ws0 := tb_5 85 (by decide +kernel) rfl
theorem ml_LW_128 : Cond.methodLink RLaw 128 yX11_mendable ∈ ws0 := tb_8 104 (by decide +kernel) rfl
theorem wc_X10_withPages : Cond.code yX10_withPages cX10_withPages 3 (some .int) ∈ ws0 := tb_5 92 (by decide +kernel) rfl
theorem wi_X10_withPages : Cond.instanceMethod yX10_withPages ∈ ws0 := tb_5 90 (by decide +kernel) rfl
theorem we_X10_withPages : Cond.selects RX10 yX10_withPages yX10_withPages ∈ ws0 := tb_5 91 (by decide +kernel) rfl
theorem ml_LW_129 : Cond.methodLink RLaw 129 yX10_withPages ∈ ws0 := tb_5 89 (by decide +kernel) rfl
theorem wc_X11_withPages : Cond.code yX11_withPages cX11_withPages 2 (some .int) ∈ ws0 := tb_8 213 (by decide +kernel) rfl
theorem wi_X11_withPages : Cond.instanceMethod yX11_withPages ∈ ws0 := tb_8 211 (by decide +kernel) rfl
theorem we_X11_withPages : Cond.selects RX11 yX11_withPages yX11_withPages ∈ ws0 := tb_8 212 (by decide +kernel) rfl
theorem ml_LW_132 : Cond.methodLink RLaw 132 yX11_withPages ∈ ws0 := tb_8 210 (by decide +kernel) rfl
theorem wc_X10_pagedPlan : Cond.code yX10_pagedPlan cX10_pagedPlan 3 (some .int) ∈ ws0 := tb_5 99 (by decide +kernel) rfl
theorem wi_X10_pagedPlan : Cond.instanceMethod yX10_pagedPlan ∈ ws0 := tb_5 97 (by decide +kernel) rfl
theorem we_X10_pagedPlan : Cond.selects RX10 yX10_pagedPlan yX10_pagedPlan ∈ ws0 := tb_5 98 (by decide +kernel) rfl
theorem ml_LW_133 : Cond.methodLink RLaw 133 yX10_pagedPlan ∈ ws0 := tb_5 96 (by decide +kernel) rfl
theorem wc_X11_pagedPlan : Cond.code yX11_pagedPlan cX11_pagedPlan 3 (some .int) ∈ ws0 := tb_9 0 (by decide +kernel) rfl
theorem wi_X11_pagedPlan : Cond.instanceMethod yX11_pagedPlan ∈ ws0 := tb_8 238 (by decide +kernel) rfl
theorem we_X11_pagedPlan : Cond.selects RX11 yX11_pagedPlan yX11_pagedPlan ∈ ws0 := tb_8 239 (by decide +kernel) rfl
theorem ml_LW_136 : Cond.methodLink RLaw 136 yX11_pagedPlan ∈ ws0 := tb_8 237 (by decide +kernel) rfl
theorem wc_X10_pageFor : Cond.code yX10_pageFor cX10_pageFor 2 (some .int) ∈ ws0 := tb_5 108 (by decide +kernel) rfl
theorem wi_X10_pageFor : Cond.instanceMethod yX10_pageFor ∈ ws0 := tb_5 106 (by decide +kernel) rfl
theorem we_X10_pageFor : Cond.selects RX10 yX10_pageFor yX10_pageFor ∈ ws0 := tb_5 107 (by decide +kernel) rfl
theorem ml_LW_137 : Cond.methodLink RLaw 137 yX10_pageFor ∈ ws0 := tb_5 105 (by decide +kernel) rfl
theorem wc_X11_pageFor : Cond.code yX11_pageFor cX11_pageFor 2 (some .int) ∈ ws0 := tb_9 4 (by decide +kernel) rfl
theorem wi_X11_pageFor : Cond.instanceMethod yX11_pageFor ∈ ws0 := tb_9 2 (by decide +kernel) rfl
theorem we_X11_pageFor : Cond.selects RX11 yX11_pageFor yX11_pageFor ∈ ws0 := tb_9 3 (by decide +kernel) rfl
theorem ml_LW_140 : Cond.methodLink RLaw 140 yX11_pageFor ∈ ws0 := tb_9 1 (by decide +kernel) rfl
theorem wc_X10_wrong : Cond.code yX10_wrong cX10_wrong 3 (some .int) ∈ ws0 := tb_5 112 (by decide +kernel) rfl
theorem wi_X10_wrong : Cond.instanceMethod yX10_wrong ∈ ws0 := tb_5 110 (by decide +kernel) rfl
theorem we_X10_wrong : Cond.selects RX10 yX10_wrong yX10_wrong ∈ ws0 := tb_5 111 (by decide +kernel) rfl
theorem ml_LW_141 : Cond.methodLink RLaw 141 yX10_wrong ∈ ws0 := tb_5 109 (by decide +kernel) rfl
theorem wc_X11_wrong : Cond.code yX11_wrong cX11_wrong 7 (some .int) ∈ ws0 := tb_8 103 (by decide +kernel) rfl
theorem wi_X11_wrong : Cond.instanceMethod yX11_wrong ∈ ws0 := tb_8 101 (by decide +kernel) rfl
theorem we_X11_wrong : Cond.selects RX11 yX11_wrong yX11_wrong ∈ ws0 := tb_8 102 (by decide +kernel) rfl
theorem ml_LW_144 : Cond.methodLink RLaw 144 yX11_wrong ∈ ws0 := tb_8 100 (by decide +kernel) rfl
theorem wc_X10_cost : Cond.code yX10_cost cX10_cost 2 (some .int) ∈ ws0 := tb_5 129 (by decide +kernel) rfl
theorem wi_X10_cost : Cond.instanceMethod yX10_cost ∈ ws0 := tb_5 127 (by decide +kernel) rfl
theorem we_X10_cost : Cond.selects RX10 yX10_cost yX10_cost ∈ ws0 := tb_5 128 (by decide +kernel) rfl
theorem ml_LW_145 : Cond.methodLink RLaw 145 yX10_cost ∈ ws0 := tb_5 126 (by decide +kernel) rfl
theorem wc_X11_cost : Cond.code yX11_cost cX11_cost 2 (some .int) ∈ ws0 := tb_8 130 (by decide +kernel) rfl
theorem wi_X11_cost : Cond.instanceMethod yX11_cost ∈ ws0 := tb_8 128 (by decide +kernel) rfl
theorem we_X11_cost : Cond.selects RX11 yX11_cost yX11_cost ∈ ws0 := tb_8 129 (by decide +kernel) rfl
theorem ml_LW_148 : Cond.methodLink RLaw 148 yX11_cost ∈ ws0 := tb_8 127 (by decide +kernel) rfl
theorem wc_X10_plan : Cond.code yX10_plan cX10_plan 3 (some .int) ∈ ws0 := tb_5 137 (by decide +kernel) rfl
theorem wi_X10_plan : Cond.instanceMethod yX10_plan ∈ ws0 := tb_5 135 (by decide +kernel) rfl
theorem we_X10_plan : Cond.selects RX10 yX10_plan yX10_plan ∈ ws0 := tb_5 136 (by decide +kernel) rfl
theorem ml_LW_149 : Cond.methodLink RLaw 149 yX10_plan ∈ ws0 := tb_5 134 (by decide +kernel) rfl
theorem wc_X11_plan : Cond.code yX11_plan cX11_plan 3 (some .int) ∈ ws0 := tb_8 177 (by decide +kernel) rfl
theorem wi_X11_plan : Cond.instanceMethod yX11_plan ∈ ws0 := tb_8 175 (by decide +kernel) rfl
theorem we_X11_plan : Cond.selects RX11 yX11_plan yX11_plan ∈ ws0 := tb_8 176 (by decide +kernel) rfl
theorem ml_LW_152 : Cond.methodLink RLaw 152 yX11_plan ∈ ws0 := tb_8 174 (by decide +kernel) rfl
theorem wc_X10_byDefault : Cond.code yX10_byDefault cX10_byDefault 2 (some .int) ∈ ws0 := tb_5 141 (by decide +kernel) rfl
theorem wi_X10_byDefault : Cond.instanceMethod yX10_byDefault ∈ ws0 := tb_5 139 (by decide +kernel) rfl
theorem we_X10_byDefault : Cond.selects RX10 yX10_byDefault yX10_byDefault ∈ ws0 := tb_5 140 (by decide +kernel) rfl
theorem ml_LW_153 : Cond.methodLink RLaw 153 yX10_byDefault ∈ ws0 := tb_5 138 (by decide +kernel) rfl
theorem wc_X11_byDefault : Cond.code yX11_byDefault cX11_byDefault 2 (some .int) ∈ ws0 := tb_8 169 (by decide +kernel) rfl
theorem wi_X11_byDefault : Cond.instanceMethod yX11_byDefault ∈ ws0 := tb_8 167 (by decide +kernel) rfl
theorem we_X11_byDefault : Cond.selects RX11 yX11_byDefault yX11_byDefault ∈ ws0 := tb_8 168 (by decide +kernel) rfl
theorem ml_LW_156 : Cond.methodLink RLaw 156 yX11_byDefault ∈ ws0 := tb_8 166 (by decide +kernel) rfl
theorem wc_X10_bestDefault : Cond.code yX10_bestDefault cX10_bestDefault 5 (some .int) ∈ ws0 := tb_5 149 (by decide +kernel) rfl
theorem wi_X10_bestDefault : Cond.instanceMethod yX10_bestDefault ∈ ws0 := tb_5 147 (by decide +kernel) rfl
theorem we_X10_bestDefault : Cond.selects RX10 yX10_bestDefault yX10_bestDefault ∈ ws0 := tb_5 148 (by decide +kernel) rfl
theorem ml_LW_157 : Cond.methodLink RLaw 157 yX10_bestDefault ∈ ws0 := tb_5 146 (by decide +kernel) rfl
theorem wc_X11_bestDefault : Cond.code yX11_bestDefault cX11_bestDefault 3 (some .int) ∈ ws0 := tb_8 173 (by decide +kernel) rfl
theorem wi_X11_bestDefault : Cond.instanceMethod yX11_bestDefault ∈ ws0 := tb_8 171 (by decide +kernel) rfl
theorem we_X11_bestDefault : Cond.selects RX11 yX11_bestDefault yX11_bestDefault ∈ ws0 := tb_8 172 (by decide +kernel) rfl
theorem ml_LW_160 : Cond.methodLink RLaw 160 yX11_bestDefault ∈ ws0 := tb_8 170 (by decide +kernel) rfl
theorem wc_X10_most : Cond.code yX10_most cX10_most 2 (some .int) ∈ ws0 := tb_5 153 (by decide +kernel) rfl
theorem wi_X10_most : Cond.instanceMethod yX10_most ∈ ws0 := tb_5 151 (by decide +kernel) rfl
theorem we_X10_most : Cond.selects RX10 yX10_most yX10_most ∈ ws0 := tb_5 152 (by decide +kernel) rfl
theorem wc_X11_most : Cond.code yX11_most cX11_most 2 (some .int) ∈ ws0 := tb_9 8 (by decide +kernel) rfl
theorem wi_X11_most : Cond.instanceMethod yX11_most ∈ ws0 := tb_9 6 (by decide +kernel) rfl
theorem we_X11_most : Cond.selects RX11 yX11_most yX11_most ∈ ws0 := tb_9 7 (by decide +kernel) rfl
theorem wc_X10_bestSet : Cond.code yX10_bestSet cX10_bestSet 4 (some .int) ∈ ws0 := tb_5 217 (by decide +kernel) rfl
theorem wi_X10_bestSet : Cond.instanceMethod yX10_bestSet ∈ ws0 := tb_5 215 (by decide +kernel) rfl
theorem we_X10_bestSet : Cond.selects RX10 yX10_bestSet yX10_bestSet ∈ ws0 := tb_5 216 (by decide +kernel) rfl
theorem wc_X11_bestSet : Cond.code yX11_bestSet cX11_bestSet 4 (some .int) ∈ ws0 := tb_9 27 (by decide +kernel) rfl
theorem wi_X11_bestSet : Cond.instanceMethod yX11_bestSet ∈ ws0 := tb_9 25 (by decide +kernel) rfl
theorem we_X11_bestSet : Cond.selects RX11 yX11_bestSet yX11_bestSet ∈ ws0 := tb_9 26 (by decide +kernel) rfl
theorem wc_X10_idle : Cond.code yX10_idle cX10_idle 2 (some .int) ∈ ws0 := tb_6 2 (by decide +kernel) rfl
theorem wi_X10_idle : Cond.instanceMethod yX10_idle ∈ ws0 := tb_6 0 (by decide +kernel) rfl
theorem we_X10_idle : Cond.selects RX10 yX10_idle yX10_idle ∈ ws0 := tb_6 1 (by decide +kernel) rfl
theorem ml_LW_169 : Cond.methodLink RLaw 169 yX10_idle ∈ ws0 := tb_5 239 (by decide +kernel) rfl
theorem wc_X11_idle : Cond.code yX11_idle cX11_idle 3 (some .int) ∈ ws0 := tb_9 47 (by decide +kernel) rfl
theorem wi_X11_idle : Cond.instanceMethod yX11_idle ∈ ws0 := tb_9 45 (by decide +kernel) rfl
theorem we_X11_idle : Cond.selects RX11 yX11_idle yX11_idle ∈ ws0 := tb_9 46 (by decide +kernel) rfl
theorem ml_LW_172 : Cond.methodLink RLaw 172 yX11_idle ∈ ws0 := tb_9 44 (by decide +kernel) rfl
theorem wc_X10_without : Cond.code yX10_without cX10_without 2 (some .int) ∈ ws0 := tb_6 10 (by decide +kernel) rfl
theorem wi_X10_without : Cond.instanceMethod yX10_without ∈ ws0 := tb_6 8 (by decide +kernel) rfl
theorem we_X10_without : Cond.selects RX10 yX10_without yX10_without ∈ ws0 := tb_6 9 (by decide +kernel) rfl
theorem ml_LW_173 : Cond.methodLink RLaw 173 yX10_without ∈ ws0 := tb_6 7 (by decide +kernel) rfl
theorem wc_X11_without : Cond.code yX11_without cX11_without 4 (some .int) ∈ ws0 := tb_9 51 (by decide +kernel) rfl
theorem wi_X11_without : Cond.instanceMethod yX11_without ∈ ws0 := tb_9 49 (by decide +kernel) rfl
theorem we_X11_without : Cond.selects RX11 yX11_without yX11_without ∈ ws0 := tb_9 50 (by decide +kernel) rfl
theorem ml_LW_176 : Cond.methodLink RLaw 176 yX11_without ∈ ws0 := tb_9 48 (by decide +kernel) rfl
theorem wc_X10_besides : Cond.code yX10_besides cX10_besides 10 (some .int) ∈ ws0 := tb_6 22 (by decide +kernel) rfl
theorem wi_X10_besides : Cond.instanceMethod yX10_besides ∈ ws0 := tb_6 20 (by decide +kernel) rfl
theorem we_X10_besides : Cond.selects RX10 yX10_besides yX10_besides ∈ ws0 := tb_6 21 (by decide +kernel) rfl
theorem ml_LW_177 : Cond.methodLink RLaw 177 yX10_besides ∈ ws0 := tb_6 19 (by decide +kernel) rfl
theorem wc_X11_besides : Cond.code yX11_besides cX11_besides 8 (some .int) ∈ ws0 := tb_9 55 (by decide +kernel) rfl
theorem wi_X11_besides : Cond.instanceMethod yX11_besides ∈ ws0 := tb_9 53 (by decide +kernel) rfl
theorem we_X11_besides : Cond.selects RX11 yX11_besides yX11_besides ∈ ws0 := tb_9 54 (by decide +kernel) rfl
theorem ml_LW_180 : Cond.methodLink RLaw 180 yX11_besides ∈ ws0 := tb_9 52 (by decide +kernel) rfl
theorem wc_X10_change : Cond.code yX10_change cX10_change 3 (some .int) ∈ ws0 := tb_6 39 (by decide +kernel) rfl
theorem wi_X10_change : Cond.instanceMethod yX10_change ∈ ws0 := tb_6 37 (by decide +kernel) rfl
theorem we_X10_change : Cond.selects RX10 yX10_change yX10_change ∈ ws0 := tb_6 38 (by decide +kernel) rfl
theorem ml_LW_181 : Cond.methodLink RLaw 181 yX10_change ∈ ws0 := tb_6 36 (by decide +kernel) rfl
theorem wc_X11_change : Cond.code yX11_change cX11_change 3 (some .int) ∈ ws0 := tb_9 67 (by decide +kernel) rfl
theorem wi_X11_change : Cond.instanceMethod yX11_change ∈ ws0 := tb_9 65 (by decide +kernel) rfl
theorem we_X11_change : Cond.selects RX11 yX11_change yX11_change ∈ ws0 := tb_9 66 (by decide +kernel) rfl
theorem ml_LW_184 : Cond.methodLink RLaw 184 yX11_change ∈ ws0 := tb_9 64 (by decide +kernel) rfl
theorem wc_X10_order : Cond.code yX10_order cX10_order 3 (some .int) ∈ ws0 := tb_6 111 (by decide +kernel) rfl
theorem wi_X10_order : Cond.instanceMethod yX10_order ∈ ws0 := tb_6 109 (by decide +kernel) rfl
theorem we_X10_order : Cond.selects RX10 yX10_order yX10_order ∈ ws0 := tb_6 110 (by decide +kernel) rfl
theorem ml_LW_185 : Cond.methodLink RLaw 185 yX10_order ∈ ws0 := tb_6 108 (by decide +kernel) rfl
theorem wc_X11_order : Cond.code yX11_order cX11_order 2 (some .int) ∈ ws0 := tb_9 115 (by decide +kernel) rfl
theorem wi_X11_order : Cond.instanceMethod yX11_order ∈ ws0 := tb_9 113 (by decide +kernel) rfl
theorem we_X11_order : Cond.selects RX11 yX11_order yX11_order ∈ ws0 := tb_9 114 (by decide +kernel) rfl
theorem ml_LW_188 : Cond.methodLink RLaw 188 yX11_order ∈ ws0 := tb_9 112 (by decide +kernel) rfl
theorem wc_X10_stir : Cond.code yX10_stir cX10_stir 3 (some .int) ∈ ws0 := tb_6 119 (by decide +kernel) rfl
theorem wi_X10_stir : Cond.instanceMethod yX10_stir ∈ ws0 := tb_6 117 (by decide +kernel) rfl
theorem we_X10_stir : Cond.selects RX10 yX10_stir yX10_stir ∈ ws0 := tb_6 118 (by decide +kernel) rfl
theorem ml_LW_189 : Cond.methodLink RLaw 189 yX10_stir ∈ ws0 := tb_6 116 (by decide +kernel) rfl
theorem wc_X11_stir : Cond.code yX11_stir cX11_stir 5 (some .int) ∈ ws0 := tb_9 123 (by decide +kernel) rfl
theorem wi_X11_stir : Cond.instanceMethod yX11_stir ∈ ws0 := tb_9 121 (by decide +kernel) rfl
theorem we_X11_stir : Cond.selects RX11 yX11_stir yX11_stir ∈ ws0 := tb_9 122 (by decide +kernel) rfl
theorem ml_LW_192 : Cond.methodLink RLaw 192 yX11_stir ∈ ws0 := tb_9 120 (by decide +kernel) rfl
theorem wc_X10_block : Cond.code yX10_block cX10_block 6 (some .int) ∈ ws0 := tb_6 127 (by decide +kernel) rfl
theorem wi_X10_block : Cond.instanceMethod yX10_block ∈ ws0 := tb_6 125 (by decide +kernel) rfl
theorem we_X10_block : Cond.selects RX10 yX10_block yX10_block ∈ ws0 := tb_6 126 (by decide +kernel) rfl
theorem ml_LW_193 : Cond.methodLink RLaw 193 yX10_block ∈ ws0 := tb_6 124 (by decide +kernel) rfl
theorem wc_X11_block : Cond.code yX11_block cX11_block 5 (some .int) ∈ ws0 := tb_8 115 (by decide +kernel) rfl
theorem wi_X11_block : Cond.instanceMethod yX11_block ∈ ws0 := tb_8 113 (by decide +kernel) rfl
theorem we_X11_block : Cond.selects RX11 yX11_block yX11_block ∈ ws0 := tb_8 114 (by decide +kernel) rfl
theorem ml_LW_196 : Cond.methodLink RLaw 196 yX11_block ∈ ws0 := tb_8 112 (by decide +kernel) rfl
theorem wc_X10_bits : Cond.code yX10_bits cX10_bits 5 (some .int) ∈ ws0 := tb_6 135 (by decide +kernel) rfl
theorem wi_X10_bits : Cond.instanceMethod yX10_bits ∈ ws0 := tb_6 133 (by decide +kernel) rfl
theorem we_X10_bits : Cond.selects RX10 yX10_bits yX10_bits ∈ ws0 := tb_6 134 (by decide +kernel) rfl
theorem ml_LW_197 : Cond.methodLink RLaw 197 yX10_bits ∈ ws0 := tb_6 132 (by decide +kernel) rfl
theorem wc_X11_bits : Cond.code yX11_bits cX11_bits 5 (some .int) ∈ ws0 := tb_8 126 (by decide +kernel) rfl
theorem wi_X11_bits : Cond.instanceMethod yX11_bits ∈ ws0 := tb_8 124 (by decide +kernel) rfl
theorem we_X11_bits : Cond.selects RX11 yX11_bits yX11_bits ∈ ws0 := tb_8 125 (by decide +kernel) rfl
theorem ml_LW_200 : Cond.methodLink RLaw 200 yX11_bits ∈ ws0 := tb_8 123 (by decide +kernel) rfl
theorem wc_X10_image : Cond.code yX10_image cX10_image 2 (some .int) ∈ ws0 := tb_6 143 (by decide +kernel) rfl
theorem wi_X10_image : Cond.instanceMethod yX10_image ∈ ws0 := tb_6 141 (by decide +kernel) rfl
theorem we_X10_image : Cond.selects RX10 yX10_image yX10_image ∈ ws0 := tb_6 142 (by decide +kernel) rfl
theorem ml_LW_201 : Cond.methodLink RLaw 201 yX10_image ∈ ws0 := tb_6 140 (by decide +kernel) rfl
theorem wc_X11_image : Cond.code yX11_image cX11_image 3 (some .int) ∈ ws0 := tb_9 204 (by decide +kernel) rfl
theorem wi_X11_image : Cond.instanceMethod yX11_image ∈ ws0 := tb_9 202 (by decide +kernel) rfl
theorem we_X11_image : Cond.selects RX11 yX11_image yX11_image ∈ ws0 := tb_9 203 (by decide +kernel) rfl
theorem ml_LW_204 : Cond.methodLink RLaw 204 yX11_image ∈ ws0 := tb_9 201 (by decide +kernel) rfl
theorem wc_X10_differs : Cond.code yX10_differs cX10_differs 3 (some .int) ∈ ws0 := tb_6 147 (by decide +kernel) rfl
theorem wi_X10_differs : Cond.instanceMethod yX10_differs ∈ ws0 := tb_6 145 (by decide +kernel) rfl
theorem we_X10_differs : Cond.selects RX10 yX10_differs yX10_differs ∈ ws0 := tb_6 146 (by decide +kernel) rfl
theorem ml_LW_205 : Cond.methodLink RLaw 205 yX10_differs ∈ ws0 := tb_6 144 (by decide +kernel) rfl
theorem wc_X11_differs : Cond.code yX11_differs cX11_differs 7 (some .int) ∈ ws0 := tb_9 188 (by decide +kernel) rfl
theorem wi_X11_differs : Cond.instanceMethod yX11_differs ∈ ws0 := tb_9 186 (by decide +kernel) rfl
theorem we_X11_differs : Cond.selects RX11 yX11_differs yX11_differs ∈ ws0 := tb_9 187 (by decide +kernel) rfl
theorem ml_LW_208 : Cond.methodLink RLaw 208 yX11_differs ∈ ws0 := tb_9 185 (by decide +kernel) rfl
theorem wc_X10_back : Cond.code yX10_back cX10_back 2 (some .int) ∈ ws0 := tb_6 171 (by decide +kernel) rfl
theorem wi_X10_back : Cond.instanceMethod yX10_back ∈ ws0 := tb_6 169 (by decide +kernel) rfl
theorem we_X10_back : Cond.selects RX10 yX10_back yX10_back ∈ ws0 := tb_6 170 (by decide +kernel) rfl
theorem ml_LW_209 : Cond.methodLink RLaw 209 yX10_back ∈ ws0 := tb_6 168 (by decide +kernel) rfl
theorem wc_X11_back : Cond.code yX11_back cX11_back 3 (some .int) ∈ ws0 := tb_9 208 (by decide +kernel) rfl
theorem wi_X11_back : Cond.instanceMethod yX11_back ∈ ws0 := tb_9 206 (by decide +kernel) rfl
theorem we_X11_back : Cond.selects RX11 yX11_back yX11_back ∈ ws0 := tb_9 207 (by decide +kernel) rfl
theorem ml_LW_212 : Cond.methodLink RLaw 212 yX11_back ∈ ws0 := tb_9 205 (by decide +kernel) rfl
theorem wc_X10_about : Cond.code yX10_about cX10_about 2 (some .int) ∈ ws0 := tb_6 175 (by decide +kernel) rfl
theorem wi_X10_about : Cond.instanceMethod yX10_about ∈ ws0 := tb_6 173 (by decide +kernel) rfl
theorem we_X10_about : Cond.selects RX10 yX10_about yX10_about ∈ ws0 := tb_6 174 (by decide +kernel) rfl
theorem ml_LW_213 : Cond.methodLink RLaw 213 yX10_about ∈ ws0 := tb_6 172 (by decide +kernel) rfl
theorem wc_X11_about : Cond.code yX11_about cX11_about 2 (some .int) ∈ ws0 := tb_9 212 (by decide +kernel) rfl
theorem wi_X11_about : Cond.instanceMethod yX11_about ∈ ws0 := tb_9 210 (by decide +kernel) rfl
theorem we_X11_about : Cond.selects RX11 yX11_about yX11_about ∈ ws0 := tb_9 211 (by decide +kernel) rfl
theorem ml_LW_216 : Cond.methodLink RLaw 216 yX11_about ∈ ws0 := tb_9 209 (by decide +kernel) rfl
section LC
variable {p : Program} {l : Launch} {e : Env} {s : State} {m : MethodId} {args : Array Value} {below : List Frame} {meth : Method} {c : Code} {H : Heap} {locs : List Loc} {Q : State → Prop} {cells slots : Nat} {ls : Array Slot} {E : Ge} {L : Lay} {M M1 M2 : Mm} {b n qx qm : Nat} {xs : Nat → Int32} {x3 r : Int32} {fu : Nat}
/-- what stands at the law's cases -/
def Lx (p : Program) (s : State) (m : MethodId) (args : Array Value) (c : Code) (E : Ge) (L : Lay) (b n qx qm : Nat) (xs : Nat → Int32) (x3 : Int32) (cells slots : Nat) (ls : Array Slot) : Prop :=
  Bx p s m args c code 4 RLaw E L ∧ va_X b n xs s s.heap ∧ b < s.heap.size ∧ ¬ E.2.2.2 b ∧ At L qx T10 ∧ At L qm T11 ∧ (∀ k : Int32, 0 ≤ k → k ≤ 5 → vp_in (x3 + k) n) ∧ cells ≤ room_1.cells ∧ slots ≤ room_1.slots ∧ lv_has ls 4 [(0, .ref b), (1, .ref qx), (2, .ref qm), (3, .int x3)]
set_option maxRecDepth 100000 in
set_option maxHeartbeats 4000000 in
theorem lw_c0 (X : Lx p s m args c E L b n qx qm xs x3 cells slots ls) (h1 : fX10_feed fu qx (xs (ix (x3 + 1))) (xs (ix (x3 + 2))) (xs (ix (x3 + 3))) (xs (ix (x3 + 4))) (xs (ix (x3 + 5))) M = some (r, M1)) (h2 : fX11_feed fu qm (xs (ix (x3 + 1))) (xs (ix (x3 + 2))) (xs (ix (x3 + 3))) (xs (ix (x3 + 4))) (xs (ix (x3 + 5))) M1 = some (r, M2)) (hR : Rx s E L M H locs) (kk : ∀ (H1 : Heap) (locs1 : List Loc), Rx s E L M2 H1 locs1 → W p l e room_1 s m args below meth c H1 locs1 cells slots Q (F0 m 1511 ls [])) : W p l e room_1 s m args below meth c H locs cells slots Q (F0 m 244 ls []) := by
  obtain ⟨B, hXs, hbl, hbA, hq, hmm, hin, hce, hsl, hl⟩ := X
  have hx := B.1
  have hb := B.2.1
  refine lv_aload_n hx hb dLw_244 rfl (lv_at hl 1 rfl) ?_
  refine lv_aload_n hx hb dLw_245 rfl (lv_at hl 0 rfl) ?_
  refine lv_iload_n hx hb dLw_246 rfl (lv_at hl 3 rfl) ?_
  refine lv_iconst (v := 1) hx hb dLw_247 (by decide) ?_
  refine lv_iadd hx hb dLw_248 ?_
  refine va_sld hx hb hXs hbl hbA hR.2 (hin 1 (by decide) (by decide)) dLw_249 ?_
  refine lv_aload_n hx hb dLw_250 rfl (lv_at hl 0 rfl) ?_
  refine lv_iload_n hx hb dLw_251 rfl (lv_at hl 3 rfl) ?_
  refine lv_iconst (v := 2) hx hb dLw_252 (by decide) ?_
  refine lv_iadd hx hb dLw_253 ?_
  refine va_sld hx hb hXs hbl hbA hR.2 (hin 2 (by decide) (by decide)) dLw_254 ?_
  refine lv_aload_n hx hb dLw_255 rfl (lv_at hl 0 rfl) ?_
  refine lv_iload_n hx hb dLw_256 rfl (lv_at hl 3 rfl) ?_
  refine lv_iconst (v := 3) hx hb dLw_257 (by decide) ?_
  refine lv_iadd hx hb dLw_258 ?_
  refine va_sld hx hb hXs hbl hbA hR.2 (hin 3 (by decide) (by decide)) dLw_259 ?_
  refine lv_aload_n hx hb dLw_260 rfl (lv_at hl 0 rfl) ?_
  refine lv_iload_n hx hb dLw_261 rfl (lv_at hl 3 rfl) ?_
  refine lv_iconst (v := 4) hx hb dLw_262 (by decide) ?_
  refine lv_iadd hx hb dLw_263 ?_
  refine va_sld hx hb hXs hbl hbA hR.2 (hin 4 (by decide) (by decide)) dLw_264 ?_
  refine lv_aload_n hx hb dLw_265 rfl (lv_at hl 0 rfl) ?_
  refine lv_iload_n hx hb dLw_266 rfl (lv_at hl 3 rfl) ?_
  refine lv_iconst (v := 5) hx hb dLw_267 (by decide) ?_
  refine lv_iadd hx hb dLw_268 ?_
  refine va_sld hx hb hXs hbl hbA hR.2 (hin 5 (by decide) (by decide)) dLw_269 ?_
  refine r_callVG (As := [.int (xs (ix (x3 + 1))), .int (xs (ix (x3 + 2))), .int (xs (ix (x3 + 3))), .int (xs (ix (x3 + 4))), .int (xs (ix (x3 + 5)))]) (n := 5) (r := (some (.int r))) B hR (ci := 10) (C := RX10) (T := TX10) (N := 19) rfl wc_X10_feed ml_LW_13 wi_X10_feed we_X10_feed ini_10 (by decide +kernel) (by decide) (hq.at0 rfl) rfl hl.1 (mX10_feed fu 0 hq h1) ⟨Nat.le_of_ble_eq_true rfl, Nat.le_of_ble_eq_true rfl, hce, hsl⟩ (Nat.le_of_ble_eq_true rfl) dLw_270 (fun H locs hR => ?_)
  refine lv_aload_n hx hb dLw_273 rfl (lv_at hl 2 rfl) ?_
  refine lv_aload_n hx hb dLw_274 rfl (lv_at hl 0 rfl) ?_
  refine lv_iload_n hx hb dLw_275 rfl (lv_at hl 3 rfl) ?_
  refine lv_iconst (v := 1) hx hb dLw_276 (by decide) ?_
  refine lv_iadd hx hb dLw_277 ?_
  refine va_sld hx hb hXs hbl hbA hR.2 (hin 1 (by decide) (by decide)) dLw_278 ?_
  refine lv_aload_n hx hb dLw_279 rfl (lv_at hl 0 rfl) ?_
  refine lv_iload_n hx hb dLw_280 rfl (lv_at hl 3 rfl) ?_
  refine lv_iconst (v := 2) hx hb dLw_281 (by decide) ?_
  refine lv_iadd hx hb dLw_282 ?_
  refine va_sld hx hb hXs hbl hbA hR.2 (hin 2 (by decide) (by decide)) dLw_283 ?_
  refine lv_aload_n hx hb dLw_284 rfl (lv_at hl 0 rfl) ?_
  refine lv_iload_n hx hb dLw_285 rfl (lv_at hl 3 rfl) ?_
  refine lv_iconst (v := 3) hx hb dLw_286 (by decide) ?_
  refine lv_iadd hx hb dLw_287 ?_
  refine va_sld hx hb hXs hbl hbA hR.2 (hin 3 (by decide) (by decide)) dLw_288 ?_
  refine lv_aload_n hx hb dLw_289 rfl (lv_at hl 0 rfl) ?_
  refine lv_iload_n hx hb dLw_290 rfl (lv_at hl 3 rfl) ?_
  refine lv_iconst (v := 4) hx hb dLw_291 (by decide) ?_
  refine lv_iadd hx hb dLw_292 ?_
  refine va_sld hx hb hXs hbl hbA hR.2 (hin 4 (by decide) (by decide)) dLw_293 ?_
  refine lv_aload_n hx hb dLw_294 rfl (lv_at hl 0 rfl) ?_
  refine lv_iload_n hx hb dLw_295 rfl (lv_at hl 3 rfl) ?_
  refine lv_iconst (v := 5) hx hb dLw_296 (by decide) ?_
  refine lv_iadd hx hb dLw_297 ?_
  refine va_sld hx hb hXs hbl hbA hR.2 (hin 5 (by decide) (by decide)) dLw_298 ?_
  refine r_callVG (As := [.int (xs (ix (x3 + 1))), .int (xs (ix (x3 + 2))), .int (xs (ix (x3 + 3))), .int (xs (ix (x3 + 4))), .int (xs (ix (x3 + 5)))]) (n := 5) (r := (some (.int r))) B hR (ci := 11) (C := RX11) (T := TX11) (N := 52) rfl wc_X11_feed ml_LW_17 wi_X11_feed we_X11_feed ini_11 (by decide +kernel) (by decide) (hmm.at0 rfl) rfl hl.1 (mX11_feed fu 0 hmm h2) ⟨Nat.le_of_ble_eq_true rfl, Nat.le_of_ble_eq_true rfl, hce, hsl⟩ (Nat.le_of_ble_eq_true rfl) dLw_299 (fun H locs hR => ?_)
  exact lv_icmp_eq (x := r) (y := r) (tgt := 1511) hx hb dLw_302 (by decide) (fun _ => kk H locs hR) (fun c0 => absurd rfl c0)
set_option maxRecDepth 100000 in
set_option maxHeartbeats 4000000 in
theorem lw_c1 (X : Lx p s m args c E L b n qx qm xs x3 cells slots ls) (h1 : fX10_end fu qx (xs (ix (x3 + 1))) M = some (r, M1)) (h2 : fX11_end fu qm (xs (ix (x3 + 1))) M1 = some (r, M2)) (hR : Rx s E L M H locs) (kk : ∀ (H1 : Heap) (locs1 : List Loc), Rx s E L M2 H1 locs1 → W p l e room_1 s m args below meth c H1 locs1 cells slots Q (F0 m 1511 ls [])) : W p l e room_1 s m args below meth c H locs cells slots Q (F0 m 307 ls []) := by
  obtain ⟨B, hXs, hbl, hbA, hq, hmm, hin, hce, hsl, hl⟩ := X
  have hx := B.1
  have hb := B.2.1
  refine lv_aload_n hx hb dLw_307 rfl (lv_at hl 1 rfl) ?_
  refine lv_aload_n hx hb dLw_308 rfl (lv_at hl 0 rfl) ?_
  refine lv_iload_n hx hb dLw_309 rfl (lv_at hl 3 rfl) ?_
  refine lv_iconst (v := 1) hx hb dLw_310 (by decide) ?_
  refine lv_iadd hx hb dLw_311 ?_
  refine va_sld hx hb hXs hbl hbA hR.2 (hin 1 (by decide) (by decide)) dLw_312 ?_
  refine r_callVG (As := [.int (xs (ix (x3 + 1)))]) (n := 1) (r := (some (.int r))) B hR (ci := 10) (C := RX10) (T := TX10) (N := 19) rfl wc_X10_end ml_LW_18 wi_X10_end we_X10_end ini_10 (by decide +kernel) (by decide) (hq.at0 rfl) rfl hl.1 (mX10_end fu 0 hq h1) ⟨Nat.le_of_ble_eq_true rfl, Nat.le_of_ble_eq_true rfl, hce, hsl⟩ (Nat.le_of_ble_eq_true rfl) dLw_313 (fun H locs hR => ?_)
  refine lv_aload_n hx hb dLw_316 rfl (lv_at hl 2 rfl) ?_
  refine lv_aload_n hx hb dLw_317 rfl (lv_at hl 0 rfl) ?_
  refine lv_iload_n hx hb dLw_318 rfl (lv_at hl 3 rfl) ?_
  refine lv_iconst (v := 1) hx hb dLw_319 (by decide) ?_
  refine lv_iadd hx hb dLw_320 ?_
  refine va_sld hx hb hXs hbl hbA hR.2 (hin 1 (by decide) (by decide)) dLw_321 ?_
  refine r_callVG (As := [.int (xs (ix (x3 + 1)))]) (n := 1) (r := (some (.int r))) B hR (ci := 11) (C := RX11) (T := TX11) (N := 52) rfl wc_X11_end ml_LW_22 wi_X11_end we_X11_end ini_11 (by decide +kernel) (by decide) (hmm.at0 rfl) rfl hl.1 (mX11_end fu 0 hmm h2) ⟨Nat.le_of_ble_eq_true rfl, Nat.le_of_ble_eq_true rfl, hce, hsl⟩ (Nat.le_of_ble_eq_true rfl) dLw_322 (fun H locs hR => ?_)
  exact lv_icmp_eq (x := r) (y := r) (tgt := 1511) hx hb dLw_325 (by decide) (fun _ => kk H locs hR) (fun c0 => absurd rfl c0)
set_option maxRecDepth 100000 in
set_option maxHeartbeats 4000000 in
theorem lw_c2 (X : Lx p s m args c E L b n qx qm xs x3 cells slots ls) (h1 : fX10_store fu qx M = some (r, M1)) (h2 : fX11_store fu qm M1 = some (r, M2)) (hR : Rx s E L M H locs) (kk : ∀ (H1 : Heap) (locs1 : List Loc), Rx s E L M2 H1 locs1 → W p l e room_1 s m args below meth c H1 locs1 cells slots Q (F0 m 1511 ls [])) : W p l e room_1 s m args below meth c H locs cells slots Q (F0 m 330 ls []) := by
  obtain ⟨B, hXs, hbl, hbA, hq, hmm, hin, hce, hsl, hl⟩ := X
  have hx := B.1
  have hb := B.2.1
  refine lv_aload_n hx hb dLw_330 rfl (lv_at hl 1 rfl) ?_
  refine r_callVG (As := []) (n := 0) (r := (some (.int r))) B hR (ci := 10) (C := RX10) (T := TX10) (N := 19) rfl wc_X10_store ml_LW_23 wi_X10_store we_X10_store ini_10 (by decide +kernel) (by decide) (hq.at0 rfl) rfl hl.1 (mX10_store fu 0 hq h1) ⟨Nat.le_of_ble_eq_true rfl, Nat.le_of_ble_eq_true rfl, hce, hsl⟩ (Nat.le_of_ble_eq_true rfl) dLw_331 (fun H locs hR => ?_)
  refine lv_aload_n hx hb dLw_334 rfl (lv_at hl 2 rfl) ?_
  refine r_callVG (As := []) (n := 0) (r := (some (.int r))) B hR (ci := 11) (C := RX11) (T := TX11) (N := 52) rfl wc_X11_store ml_LW_27 wi_X11_store we_X11_store ini_11 (by decide +kernel) (by decide) (hmm.at0 rfl) rfl hl.1 (mX11_store fu 0 hmm h2) ⟨Nat.le_of_ble_eq_true rfl, Nat.le_of_ble_eq_true rfl, hce, hsl⟩ (Nat.le_of_ble_eq_true rfl) dLw_335 (fun H locs hR => ?_)
  exact lv_icmp_eq (x := r) (y := r) (tgt := 1511) hx hb dLw_338 (by decide) (fun _ => kk H locs hR) (fun c0 => absurd rfl c0)
set_option maxRecDepth 100000 in
set_option maxHeartbeats 4000000 in
theorem lw_c3 (X : Lx p s m args c E L b n qx qm xs x3 cells slots ls) (h1 : fX10_fault fu qx (xs (ix (x3 + 1))) M = some r) (h2 : fX11_fault fu qm (xs (ix (x3 + 1))) M = some r) (hR : Rx s E L M H locs) (kk : ∀ (H1 : Heap) (locs1 : List Loc), Rx s E L M H1 locs1 → W p l e room_1 s m args below meth c H1 locs1 cells slots Q (F0 m 1511 ls [])) : W p l e room_1 s m args below meth c H locs cells slots Q (F0 m 343 ls []) := by
  obtain ⟨B, hXs, hbl, hbA, hq, hmm, hin, hce, hsl, hl⟩ := X
  have hx := B.1
  have hb := B.2.1
  refine lv_aload_n hx hb dLw_343 rfl (lv_at hl 1 rfl) ?_
  refine lv_aload_n hx hb dLw_344 rfl (lv_at hl 0 rfl) ?_
  refine lv_iload_n hx hb dLw_345 rfl (lv_at hl 3 rfl) ?_
  refine lv_iconst (v := 1) hx hb dLw_346 (by decide) ?_
  refine lv_iadd hx hb dLw_347 ?_
  refine va_sld hx hb hXs hbl hbA hR.2 (hin 1 (by decide) (by decide)) dLw_348 ?_
  refine r_callVG (As := [.int (xs (ix (x3 + 1)))]) (n := 1) (r := (some (.int r))) B hR (ci := 10) (C := RX10) (T := TX10) (N := 19) rfl wc_X10_fault ml_LW_28 wi_X10_fault we_X10_fault ini_10 (by decide +kernel) (by decide) (hq.at0 rfl) rfl hl.1 (mX10_fault fu 0 hq h1) ⟨Nat.le_of_ble_eq_true rfl, Nat.le_of_ble_eq_true rfl, hce, hsl⟩ (Nat.le_of_ble_eq_true rfl) dLw_349 (fun H locs hR => ?_)
  refine lv_aload_n hx hb dLw_352 rfl (lv_at hl 2 rfl) ?_
  refine lv_aload_n hx hb dLw_353 rfl (lv_at hl 0 rfl) ?_
  refine lv_iload_n hx hb dLw_354 rfl (lv_at hl 3 rfl) ?_
  refine lv_iconst (v := 1) hx hb dLw_355 (by decide) ?_
  refine lv_iadd hx hb dLw_356 ?_
  refine va_sld hx hb hXs hbl hbA hR.2 (hin 1 (by decide) (by decide)) dLw_357 ?_
  refine r_callVG (As := [.int (xs (ix (x3 + 1)))]) (n := 1) (r := (some (.int r))) B hR (ci := 11) (C := RX11) (T := TX11) (N := 52) rfl wc_X11_fault ml_LW_31 wi_X11_fault we_X11_fault ini_11 (by decide +kernel) (by decide) (hmm.at0 rfl) rfl hl.1 (mX11_fault fu 0 hmm h2) ⟨Nat.le_of_ble_eq_true rfl, Nat.le_of_ble_eq_true rfl, hce, hsl⟩ (Nat.le_of_ble_eq_true rfl) dLw_358 (fun H locs hR => ?_)
  exact lv_icmp_eq (x := r) (y := r) (tgt := 1511) hx hb dLw_361 (by decide) (fun _ => kk H locs hR) (fun c0 => absurd rfl c0)
set_option maxRecDepth 100000 in
set_option maxHeartbeats 4000000 in
theorem lw_c4 (X : Lx p s m args c E L b n qx qm xs x3 cells slots ls) (h1 : fX10_span fu qx (xs (ix (x3 + 1))) (xs (ix (x3 + 2))) (xs (ix (x3 + 3))) M = some (r, M1)) (h2 : fX11_span fu qm (xs (ix (x3 + 1))) (xs (ix (x3 + 2))) (xs (ix (x3 + 3))) M1 = some (r, M2)) (hR : Rx s E L M H locs) (kk : ∀ (H1 : Heap) (locs1 : List Loc), Rx s E L M2 H1 locs1 → W p l e room_1 s m args below meth c H1 locs1 cells slots Q (F0 m 1511 ls [])) : W p l e room_1 s m args below meth c H locs cells slots Q (F0 m 366 ls []) := by
  obtain ⟨B, hXs, hbl, hbA, hq, hmm, hin, hce, hsl, hl⟩ := X
  have hx := B.1
  have hb := B.2.1
  refine lv_aload_n hx hb dLw_366 rfl (lv_at hl 1 rfl) ?_
  refine lv_aload_n hx hb dLw_367 rfl (lv_at hl 0 rfl) ?_
  refine lv_iload_n hx hb dLw_368 rfl (lv_at hl 3 rfl) ?_
  refine lv_iconst (v := 1) hx hb dLw_369 (by decide) ?_
  refine lv_iadd hx hb dLw_370 ?_
  refine va_sld hx hb hXs hbl hbA hR.2 (hin 1 (by decide) (by decide)) dLw_371 ?_
  refine lv_aload_n hx hb dLw_372 rfl (lv_at hl 0 rfl) ?_
  refine lv_iload_n hx hb dLw_373 rfl (lv_at hl 3 rfl) ?_
  refine lv_iconst (v := 2) hx hb dLw_374 (by decide) ?_
  refine lv_iadd hx hb dLw_375 ?_
  refine va_sld hx hb hXs hbl hbA hR.2 (hin 2 (by decide) (by decide)) dLw_376 ?_
  refine lv_aload_n hx hb dLw_377 rfl (lv_at hl 0 rfl) ?_
  refine lv_iload_n hx hb dLw_378 rfl (lv_at hl 3 rfl) ?_
  refine lv_iconst (v := 3) hx hb dLw_379 (by decide) ?_
  refine lv_iadd hx hb dLw_380 ?_
  refine va_sld hx hb hXs hbl hbA hR.2 (hin 3 (by decide) (by decide)) dLw_381 ?_
  refine r_callVG (As := [.int (xs (ix (x3 + 1))), .int (xs (ix (x3 + 2))), .int (xs (ix (x3 + 3)))]) (n := 3) (r := (some (.int r))) B hR (ci := 10) (C := RX10) (T := TX10) (N := 19) rfl wc_X10_span ml_LW_32 wi_X10_span we_X10_span ini_10 (by decide +kernel) (by decide) (hq.at0 rfl) rfl hl.1 (mX10_span fu 0 hq h1) ⟨Nat.le_of_ble_eq_true rfl, Nat.le_of_ble_eq_true rfl, hce, hsl⟩ (Nat.le_of_ble_eq_true rfl) dLw_382 (fun H locs hR => ?_)
  refine lv_aload_n hx hb dLw_385 rfl (lv_at hl 2 rfl) ?_
  refine lv_aload_n hx hb dLw_386 rfl (lv_at hl 0 rfl) ?_
  refine lv_iload_n hx hb dLw_387 rfl (lv_at hl 3 rfl) ?_
  refine lv_iconst (v := 1) hx hb dLw_388 (by decide) ?_
  refine lv_iadd hx hb dLw_389 ?_
  refine va_sld hx hb hXs hbl hbA hR.2 (hin 1 (by decide) (by decide)) dLw_390 ?_
  refine lv_aload_n hx hb dLw_391 rfl (lv_at hl 0 rfl) ?_
  refine lv_iload_n hx hb dLw_392 rfl (lv_at hl 3 rfl) ?_
  refine lv_iconst (v := 2) hx hb dLw_393 (by decide) ?_
  refine lv_iadd hx hb dLw_394 ?_
  refine va_sld hx hb hXs hbl hbA hR.2 (hin 2 (by decide) (by decide)) dLw_395 ?_
  refine lv_aload_n hx hb dLw_396 rfl (lv_at hl 0 rfl) ?_
  refine lv_iload_n hx hb dLw_397 rfl (lv_at hl 3 rfl) ?_
  refine lv_iconst (v := 3) hx hb dLw_398 (by decide) ?_
  refine lv_iadd hx hb dLw_399 ?_
  refine va_sld hx hb hXs hbl hbA hR.2 (hin 3 (by decide) (by decide)) dLw_400 ?_
  refine r_callVG (As := [.int (xs (ix (x3 + 1))), .int (xs (ix (x3 + 2))), .int (xs (ix (x3 + 3)))]) (n := 3) (r := (some (.int r))) B hR (ci := 11) (C := RX11) (T := TX11) (N := 52) rfl wc_X11_span ml_LW_36 wi_X11_span we_X11_span ini_11 (by decide +kernel) (by decide) (hmm.at0 rfl) rfl hl.1 (mX11_span fu 0 hmm h2) ⟨Nat.le_of_ble_eq_true rfl, Nat.le_of_ble_eq_true rfl, hce, hsl⟩ (Nat.le_of_ble_eq_true rfl) dLw_401 (fun H locs hR => ?_)
  exact lv_icmp_eq (x := r) (y := r) (tgt := 1511) hx hb dLw_404 (by decide) (fun _ => kk H locs hR) (fun c0 => absurd rfl c0)
set_option maxRecDepth 100000 in
set_option maxHeartbeats 4000000 in
theorem lw_c5 (X : Lx p s m args c E L b n qx qm xs x3 cells slots ls) (h1 : fX10_drop fu qx (xs (ix (x3 + 1))) M = some (r, M1)) (h2 : fX11_drop fu qm (xs (ix (x3 + 1))) M1 = some (r, M2)) (hR : Rx s E L M H locs) (kk : ∀ (H1 : Heap) (locs1 : List Loc), Rx s E L M2 H1 locs1 → W p l e room_1 s m args below meth c H1 locs1 cells slots Q (F0 m 1511 ls [])) : W p l e room_1 s m args below meth c H locs cells slots Q (F0 m 409 ls []) := by
  obtain ⟨B, hXs, hbl, hbA, hq, hmm, hin, hce, hsl, hl⟩ := X
  have hx := B.1
  have hb := B.2.1
  refine lv_aload_n hx hb dLw_409 rfl (lv_at hl 1 rfl) ?_
  refine lv_aload_n hx hb dLw_410 rfl (lv_at hl 0 rfl) ?_
  refine lv_iload_n hx hb dLw_411 rfl (lv_at hl 3 rfl) ?_
  refine lv_iconst (v := 1) hx hb dLw_412 (by decide) ?_
  refine lv_iadd hx hb dLw_413 ?_
  refine va_sld hx hb hXs hbl hbA hR.2 (hin 1 (by decide) (by decide)) dLw_414 ?_
  refine r_callVG (As := [.int (xs (ix (x3 + 1)))]) (n := 1) (r := (some (.int r))) B hR (ci := 10) (C := RX10) (T := TX10) (N := 19) rfl wc_X10_drop ml_LW_37 wi_X10_drop we_X10_drop ini_10 (by decide +kernel) (by decide) (hq.at0 rfl) rfl hl.1 (mX10_drop fu 0 hq h1) ⟨Nat.le_of_ble_eq_true rfl, Nat.le_of_ble_eq_true rfl, hce, hsl⟩ (Nat.le_of_ble_eq_true rfl) dLw_415 (fun H locs hR => ?_)
  refine lv_aload_n hx hb dLw_418 rfl (lv_at hl 2 rfl) ?_
  refine lv_aload_n hx hb dLw_419 rfl (lv_at hl 0 rfl) ?_
  refine lv_iload_n hx hb dLw_420 rfl (lv_at hl 3 rfl) ?_
  refine lv_iconst (v := 1) hx hb dLw_421 (by decide) ?_
  refine lv_iadd hx hb dLw_422 ?_
  refine va_sld hx hb hXs hbl hbA hR.2 (hin 1 (by decide) (by decide)) dLw_423 ?_
  refine r_callVG (As := [.int (xs (ix (x3 + 1)))]) (n := 1) (r := (some (.int r))) B hR (ci := 11) (C := RX11) (T := TX11) (N := 52) rfl wc_X11_drop ml_LW_40 wi_X11_drop we_X11_drop ini_11 (by decide +kernel) (by decide) (hmm.at0 rfl) rfl hl.1 (mX11_drop fu 0 hmm h2) ⟨Nat.le_of_ble_eq_true rfl, Nat.le_of_ble_eq_true rfl, hce, hsl⟩ (Nat.le_of_ble_eq_true rfl) dLw_424 (fun H locs hR => ?_)
  exact lv_icmp_eq (x := r) (y := r) (tgt := 1511) hx hb dLw_427 (by decide) (fun _ => kk H locs hR) (fun c0 => absurd rfl c0)
set_option maxRecDepth 100000 in
set_option maxHeartbeats 4000000 in
theorem lw_c6 (X : Lx p s m args c E L b n qx qm xs x3 cells slots ls) (h1 : fX10_prefer fu qx (xs (ix (x3 + 1))) M = some (r, M1)) (h2 : fX11_prefer fu qm (xs (ix (x3 + 1))) M1 = some (r, M2)) (hR : Rx s E L M H locs) (kk : ∀ (H1 : Heap) (locs1 : List Loc), Rx s E L M2 H1 locs1 → W p l e room_1 s m args below meth c H1 locs1 cells slots Q (F0 m 1511 ls [])) : W p l e room_1 s m args below meth c H locs cells slots Q (F0 m 432 ls []) := by
  obtain ⟨B, hXs, hbl, hbA, hq, hmm, hin, hce, hsl, hl⟩ := X
  have hx := B.1
  have hb := B.2.1
  refine lv_aload_n hx hb dLw_432 rfl (lv_at hl 1 rfl) ?_
  refine lv_aload_n hx hb dLw_433 rfl (lv_at hl 0 rfl) ?_
  refine lv_iload_n hx hb dLw_434 rfl (lv_at hl 3 rfl) ?_
  refine lv_iconst (v := 1) hx hb dLw_435 (by decide) ?_
  refine lv_iadd hx hb dLw_436 ?_
  refine va_sld hx hb hXs hbl hbA hR.2 (hin 1 (by decide) (by decide)) dLw_437 ?_
  refine r_callVG (As := [.int (xs (ix (x3 + 1)))]) (n := 1) (r := (some (.int r))) B hR (ci := 10) (C := RX10) (T := TX10) (N := 19) rfl wc_X10_prefer ml_LW_41 wi_X10_prefer we_X10_prefer ini_10 (by decide +kernel) (by decide) (hq.at0 rfl) rfl hl.1 (mX10_prefer fu 0 hq h1) ⟨Nat.le_of_ble_eq_true rfl, Nat.le_of_ble_eq_true rfl, hce, hsl⟩ (Nat.le_of_ble_eq_true rfl) dLw_438 (fun H locs hR => ?_)
  refine lv_aload_n hx hb dLw_441 rfl (lv_at hl 2 rfl) ?_
  refine lv_aload_n hx hb dLw_442 rfl (lv_at hl 0 rfl) ?_
  refine lv_iload_n hx hb dLw_443 rfl (lv_at hl 3 rfl) ?_
  refine lv_iconst (v := 1) hx hb dLw_444 (by decide) ?_
  refine lv_iadd hx hb dLw_445 ?_
  refine va_sld hx hb hXs hbl hbA hR.2 (hin 1 (by decide) (by decide)) dLw_446 ?_
  refine r_callVG (As := [.int (xs (ix (x3 + 1)))]) (n := 1) (r := (some (.int r))) B hR (ci := 11) (C := RX11) (T := TX11) (N := 52) rfl wc_X11_prefer ml_LW_44 wi_X11_prefer we_X11_prefer ini_11 (by decide +kernel) (by decide) (hmm.at0 rfl) rfl hl.1 (mX11_prefer fu 0 hmm h2) ⟨Nat.le_of_ble_eq_true rfl, Nat.le_of_ble_eq_true rfl, hce, hsl⟩ (Nat.le_of_ble_eq_true rfl) dLw_447 (fun H locs hR => ?_)
  exact lv_icmp_eq (x := r) (y := r) (tgt := 1511) hx hb dLw_450 (by decide) (fun _ => kk H locs hR) (fun c0 => absurd rfl c0)
set_option maxRecDepth 100000 in
set_option maxHeartbeats 4000000 in
theorem lw_c7 (X : Lx p s m args c E L b n qx qm xs x3 cells slots ls) (h1 : fX10_fix fu qx (xs (ix (x3 + 1))) (xs (ix (x3 + 2))) M = some (r, M1)) (h2 : fX11_fix fu qm (xs (ix (x3 + 1))) (xs (ix (x3 + 2))) M1 = some (r, M2)) (hR : Rx s E L M H locs) (kk : ∀ (H1 : Heap) (locs1 : List Loc), Rx s E L M2 H1 locs1 → W p l e room_1 s m args below meth c H1 locs1 cells slots Q (F0 m 1511 ls [])) : W p l e room_1 s m args below meth c H locs cells slots Q (F0 m 455 ls []) := by
  obtain ⟨B, hXs, hbl, hbA, hq, hmm, hin, hce, hsl, hl⟩ := X
  have hx := B.1
  have hb := B.2.1
  refine lv_aload_n hx hb dLw_455 rfl (lv_at hl 1 rfl) ?_
  refine lv_aload_n hx hb dLw_456 rfl (lv_at hl 0 rfl) ?_
  refine lv_iload_n hx hb dLw_457 rfl (lv_at hl 3 rfl) ?_
  refine lv_iconst (v := 1) hx hb dLw_458 (by decide) ?_
  refine lv_iadd hx hb dLw_459 ?_
  refine va_sld hx hb hXs hbl hbA hR.2 (hin 1 (by decide) (by decide)) dLw_460 ?_
  refine lv_aload_n hx hb dLw_461 rfl (lv_at hl 0 rfl) ?_
  refine lv_iload_n hx hb dLw_462 rfl (lv_at hl 3 rfl) ?_
  refine lv_iconst (v := 2) hx hb dLw_463 (by decide) ?_
  refine lv_iadd hx hb dLw_464 ?_
  refine va_sld hx hb hXs hbl hbA hR.2 (hin 2 (by decide) (by decide)) dLw_465 ?_
  refine r_callVG (As := [.int (xs (ix (x3 + 1))), .int (xs (ix (x3 + 2)))]) (n := 2) (r := (some (.int r))) B hR (ci := 10) (C := RX10) (T := TX10) (N := 19) rfl wc_X10_fix ml_LW_45 wi_X10_fix we_X10_fix ini_10 (by decide +kernel) (by decide) (hq.at0 rfl) rfl hl.1 (mX10_fix fu 0 hq h1) ⟨Nat.le_of_ble_eq_true rfl, Nat.le_of_ble_eq_true rfl, hce, hsl⟩ (Nat.le_of_ble_eq_true rfl) dLw_466 (fun H locs hR => ?_)
  refine lv_aload_n hx hb dLw_469 rfl (lv_at hl 2 rfl) ?_
  refine lv_aload_n hx hb dLw_470 rfl (lv_at hl 0 rfl) ?_
  refine lv_iload_n hx hb dLw_471 rfl (lv_at hl 3 rfl) ?_
  refine lv_iconst (v := 1) hx hb dLw_472 (by decide) ?_
  refine lv_iadd hx hb dLw_473 ?_
  refine va_sld hx hb hXs hbl hbA hR.2 (hin 1 (by decide) (by decide)) dLw_474 ?_
  refine lv_aload_n hx hb dLw_475 rfl (lv_at hl 0 rfl) ?_
  refine lv_iload_n hx hb dLw_476 rfl (lv_at hl 3 rfl) ?_
  refine lv_iconst (v := 2) hx hb dLw_477 (by decide) ?_
  refine lv_iadd hx hb dLw_478 ?_
  refine va_sld hx hb hXs hbl hbA hR.2 (hin 2 (by decide) (by decide)) dLw_479 ?_
  refine r_callVG (As := [.int (xs (ix (x3 + 1))), .int (xs (ix (x3 + 2)))]) (n := 2) (r := (some (.int r))) B hR (ci := 11) (C := RX11) (T := TX11) (N := 52) rfl wc_X11_fix ml_LW_49 wi_X11_fix we_X11_fix ini_11 (by decide +kernel) (by decide) (hmm.at0 rfl) rfl hl.1 (mX11_fix fu 0 hmm h2) ⟨Nat.le_of_ble_eq_true rfl, Nat.le_of_ble_eq_true rfl, hce, hsl⟩ (Nat.le_of_ble_eq_true rfl) dLw_480 (fun H locs hR => ?_)
  exact lv_icmp_eq (x := r) (y := r) (tgt := 1511) hx hb dLw_483 (by decide) (fun _ => kk H locs hR) (fun c0 => absurd rfl c0)
set_option maxRecDepth 100000 in
set_option maxHeartbeats 4000000 in
theorem lw_c8 (X : Lx p s m args c E L b n qx qm xs x3 cells slots ls) (h1 : fX10_set fu qx (xs (ix (x3 + 1))) (xs (ix (x3 + 2))) (xs (ix (x3 + 3))) (xs (ix (x3 + 4))) M = some (r, M1)) (h2 : fX11_set fu qm (xs (ix (x3 + 1))) (xs (ix (x3 + 2))) (xs (ix (x3 + 3))) (xs (ix (x3 + 4))) M1 = some (r, M2)) (hR : Rx s E L M H locs) (kk : ∀ (H1 : Heap) (locs1 : List Loc), Rx s E L M2 H1 locs1 → W p l e room_1 s m args below meth c H1 locs1 cells slots Q (F0 m 1511 ls [])) : W p l e room_1 s m args below meth c H locs cells slots Q (F0 m 488 ls []) := by
  obtain ⟨B, hXs, hbl, hbA, hq, hmm, hin, hce, hsl, hl⟩ := X
  have hx := B.1
  have hb := B.2.1
  refine lv_aload_n hx hb dLw_488 rfl (lv_at hl 1 rfl) ?_
  refine lv_aload_n hx hb dLw_489 rfl (lv_at hl 0 rfl) ?_
  refine lv_iload_n hx hb dLw_490 rfl (lv_at hl 3 rfl) ?_
  refine lv_iconst (v := 1) hx hb dLw_491 (by decide) ?_
  refine lv_iadd hx hb dLw_492 ?_
  refine va_sld hx hb hXs hbl hbA hR.2 (hin 1 (by decide) (by decide)) dLw_493 ?_
  refine lv_aload_n hx hb dLw_494 rfl (lv_at hl 0 rfl) ?_
  refine lv_iload_n hx hb dLw_495 rfl (lv_at hl 3 rfl) ?_
  refine lv_iconst (v := 2) hx hb dLw_496 (by decide) ?_
  refine lv_iadd hx hb dLw_497 ?_
  refine va_sld hx hb hXs hbl hbA hR.2 (hin 2 (by decide) (by decide)) dLw_498 ?_
  refine lv_aload_n hx hb dLw_499 rfl (lv_at hl 0 rfl) ?_
  refine lv_iload_n hx hb dLw_500 rfl (lv_at hl 3 rfl) ?_
  refine lv_iconst (v := 3) hx hb dLw_501 (by decide) ?_
  refine lv_iadd hx hb dLw_502 ?_
  refine va_sld hx hb hXs hbl hbA hR.2 (hin 3 (by decide) (by decide)) dLw_503 ?_
  refine lv_aload_n hx hb dLw_504 rfl (lv_at hl 0 rfl) ?_
  refine lv_iload_n hx hb dLw_505 rfl (lv_at hl 3 rfl) ?_
  refine lv_iconst (v := 4) hx hb dLw_506 (by decide) ?_
  refine lv_iadd hx hb dLw_507 ?_
  refine va_sld hx hb hXs hbl hbA hR.2 (hin 4 (by decide) (by decide)) dLw_508 ?_
  refine r_callVG (As := [.int (xs (ix (x3 + 1))), .int (xs (ix (x3 + 2))), .int (xs (ix (x3 + 3))), .int (xs (ix (x3 + 4)))]) (n := 4) (r := (some (.int r))) B hR (ci := 10) (C := RX10) (T := TX10) (N := 19) rfl wc_X10_set ml_LW_50 wi_X10_set we_X10_set ini_10 (by decide +kernel) (by decide) (hq.at0 rfl) rfl hl.1 (mX10_set fu 0 hq h1) ⟨Nat.le_of_ble_eq_true rfl, Nat.le_of_ble_eq_true rfl, hce, hsl⟩ (Nat.le_of_ble_eq_true rfl) dLw_509 (fun H locs hR => ?_)
  refine lv_aload_n hx hb dLw_512 rfl (lv_at hl 2 rfl) ?_
  refine lv_aload_n hx hb dLw_513 rfl (lv_at hl 0 rfl) ?_
  refine lv_iload_n hx hb dLw_514 rfl (lv_at hl 3 rfl) ?_
  refine lv_iconst (v := 1) hx hb dLw_515 (by decide) ?_
  refine lv_iadd hx hb dLw_516 ?_
  refine va_sld hx hb hXs hbl hbA hR.2 (hin 1 (by decide) (by decide)) dLw_517 ?_
  refine lv_aload_n hx hb dLw_518 rfl (lv_at hl 0 rfl) ?_
  refine lv_iload_n hx hb dLw_519 rfl (lv_at hl 3 rfl) ?_
  refine lv_iconst (v := 2) hx hb dLw_520 (by decide) ?_
  refine lv_iadd hx hb dLw_521 ?_
  refine va_sld hx hb hXs hbl hbA hR.2 (hin 2 (by decide) (by decide)) dLw_522 ?_
  refine lv_aload_n hx hb dLw_523 rfl (lv_at hl 0 rfl) ?_
  refine lv_iload_n hx hb dLw_524 rfl (lv_at hl 3 rfl) ?_
  refine lv_iconst (v := 3) hx hb dLw_525 (by decide) ?_
  refine lv_iadd hx hb dLw_526 ?_
  refine va_sld hx hb hXs hbl hbA hR.2 (hin 3 (by decide) (by decide)) dLw_527 ?_
  refine lv_aload_n hx hb dLw_528 rfl (lv_at hl 0 rfl) ?_
  refine lv_iload_n hx hb dLw_529 rfl (lv_at hl 3 rfl) ?_
  refine lv_iconst (v := 4) hx hb dLw_530 (by decide) ?_
  refine lv_iadd hx hb dLw_531 ?_
  refine va_sld hx hb hXs hbl hbA hR.2 (hin 4 (by decide) (by decide)) dLw_532 ?_
  refine r_callVG (As := [.int (xs (ix (x3 + 1))), .int (xs (ix (x3 + 2))), .int (xs (ix (x3 + 3))), .int (xs (ix (x3 + 4)))]) (n := 4) (r := (some (.int r))) B hR (ci := 11) (C := RX11) (T := TX11) (N := 52) rfl wc_X11_set ml_LW_54 wi_X11_set we_X11_set ini_11 (by decide +kernel) (by decide) (hmm.at0 rfl) rfl hl.1 (mX11_set fu 0 hmm h2) ⟨Nat.le_of_ble_eq_true rfl, Nat.le_of_ble_eq_true rfl, hce, hsl⟩ (Nat.le_of_ble_eq_true rfl) dLw_533 (fun H locs hR => ?_)
  exact lv_icmp_eq (x := r) (y := r) (tgt := 1511) hx hb dLw_536 (by decide) (fun _ => kk H locs hR) (fun c0 => absurd rfl c0)
set_option maxRecDepth 100000 in
set_option maxHeartbeats 4000000 in
theorem lw_c9 (X : Lx p s m args c E L b n qx qm xs x3 cells slots ls) (h1 : fX10_clear fu qx (xs (ix (x3 + 1))) M = some (r, M1)) (h2 : fX11_clear fu qm (xs (ix (x3 + 1))) M1 = some (r, M2)) (hR : Rx s E L M H locs) (kk : ∀ (H1 : Heap) (locs1 : List Loc), Rx s E L M2 H1 locs1 → W p l e room_1 s m args below meth c H1 locs1 cells slots Q (F0 m 1511 ls [])) : W p l e room_1 s m args below meth c H locs cells slots Q (F0 m 541 ls []) := by
  obtain ⟨B, hXs, hbl, hbA, hq, hmm, hin, hce, hsl, hl⟩ := X
  have hx := B.1
  have hb := B.2.1
  refine lv_aload_n hx hb dLw_541 rfl (lv_at hl 1 rfl) ?_
  refine lv_aload_n hx hb dLw_542 rfl (lv_at hl 0 rfl) ?_
  refine lv_iload_n hx hb dLw_543 rfl (lv_at hl 3 rfl) ?_
  refine lv_iconst (v := 1) hx hb dLw_544 (by decide) ?_
  refine lv_iadd hx hb dLw_545 ?_
  refine va_sld hx hb hXs hbl hbA hR.2 (hin 1 (by decide) (by decide)) dLw_546 ?_
  refine r_callVG (As := [.int (xs (ix (x3 + 1)))]) (n := 1) (r := (some (.int r))) B hR (ci := 10) (C := RX10) (T := TX10) (N := 19) rfl wc_X10_clear ml_LW_55 wi_X10_clear we_X10_clear ini_10 (by decide +kernel) (by decide) (hq.at0 rfl) rfl hl.1 (mX10_clear fu 0 hq h1) ⟨Nat.le_of_ble_eq_true rfl, Nat.le_of_ble_eq_true rfl, hce, hsl⟩ (Nat.le_of_ble_eq_true rfl) dLw_547 (fun H locs hR => ?_)
  refine lv_aload_n hx hb dLw_550 rfl (lv_at hl 2 rfl) ?_
  refine lv_aload_n hx hb dLw_551 rfl (lv_at hl 0 rfl) ?_
  refine lv_iload_n hx hb dLw_552 rfl (lv_at hl 3 rfl) ?_
  refine lv_iconst (v := 1) hx hb dLw_553 (by decide) ?_
  refine lv_iadd hx hb dLw_554 ?_
  refine va_sld hx hb hXs hbl hbA hR.2 (hin 1 (by decide) (by decide)) dLw_555 ?_
  refine r_callVG (As := [.int (xs (ix (x3 + 1)))]) (n := 1) (r := (some (.int r))) B hR (ci := 11) (C := RX11) (T := TX11) (N := 52) rfl wc_X11_clear ml_LW_59 wi_X11_clear we_X11_clear ini_11 (by decide +kernel) (by decide) (hmm.at0 rfl) rfl hl.1 (mX11_clear fu 0 hmm h2) ⟨Nat.le_of_ble_eq_true rfl, Nat.le_of_ble_eq_true rfl, hce, hsl⟩ (Nat.le_of_ble_eq_true rfl) dLw_556 (fun H locs hR => ?_)
  exact lv_icmp_eq (x := r) (y := r) (tgt := 1511) hx hb dLw_559 (by decide) (fun _ => kk H locs hR) (fun c0 => absurd rfl c0)
set_option maxRecDepth 100000 in
set_option maxHeartbeats 4000000 in
theorem lw_c10 (X : Lx p s m args c E L b n qx qm xs x3 cells slots ls) (h1 : fX10_lay fu L qx M = some (r, M1)) (h2 : fX11_lay fu qm M1 = some (r, M2)) (hR : Rx s E L M H locs) (kk : ∀ (H1 : Heap) (locs1 : List Loc), Rx s E L M2 H1 locs1 → W p l e room_1 s m args below meth c H1 locs1 cells slots Q (F0 m 1511 ls [])) : W p l e room_1 s m args below meth c H locs cells slots Q (F0 m 564 ls []) := by
  obtain ⟨B, hXs, hbl, hbA, hq, hmm, hin, hce, hsl, hl⟩ := X
  have hx := B.1
  have hb := B.2.1
  refine lv_aload_n hx hb dLw_564 rfl (lv_at hl 1 rfl) ?_
  refine r_callVG (As := []) (n := 0) (r := (some (.int r))) B hR (ci := 10) (C := RX10) (T := TX10) (N := 19) rfl wc_X10_lay ml_LW_60 wi_X10_lay we_X10_lay ini_10 (by decide +kernel) (by decide) (hq.at0 rfl) rfl hl.1 (mX10_lay fu 0 hq h1) ⟨Nat.le_of_ble_eq_true rfl, Nat.le_of_ble_eq_true rfl, hce, hsl⟩ (Nat.le_of_ble_eq_true rfl) dLw_565 (fun H locs hR => ?_)
  refine lv_aload_n hx hb dLw_568 rfl (lv_at hl 2 rfl) ?_
  refine r_callVG (As := []) (n := 0) (r := (some (.int r))) B hR (ci := 11) (C := RX11) (T := TX11) (N := 52) rfl wc_X11_lay ml_LW_63 wi_X11_lay we_X11_lay ini_11 (by decide +kernel) (by decide) (hmm.at0 rfl) rfl hl.1 (mX11_lay fu 0 hmm h2) ⟨Nat.le_of_ble_eq_true rfl, Nat.le_of_ble_eq_true rfl, hce, hsl⟩ (Nat.le_of_ble_eq_true rfl) dLw_569 (fun H locs hR => ?_)
  exact lv_icmp_eq (x := r) (y := r) (tgt := 1511) hx hb dLw_572 (by decide) (fun _ => kk H locs hR) (fun c0 => absurd rfl c0)
set_option maxRecDepth 100000 in
set_option maxHeartbeats 4000000 in
theorem lw_c11 (X : Lx p s m args c E L b n qx qm xs x3 cells slots ls) (h1 : fX10_page fu qx (xs (ix (x3 + 1))) (xs (ix (x3 + 2))) M = some (r, M1)) (h2 : fX11_page fu qm (xs (ix (x3 + 1))) (xs (ix (x3 + 2))) M1 = some (r, M2)) (hR : Rx s E L M H locs) (kk : ∀ (H1 : Heap) (locs1 : List Loc), Rx s E L M2 H1 locs1 → W p l e room_1 s m args below meth c H1 locs1 cells slots Q (F0 m 1511 ls [])) : W p l e room_1 s m args below meth c H locs cells slots Q (F0 m 577 ls []) := by
  obtain ⟨B, hXs, hbl, hbA, hq, hmm, hin, hce, hsl, hl⟩ := X
  have hx := B.1
  have hb := B.2.1
  refine lv_aload_n hx hb dLw_577 rfl (lv_at hl 1 rfl) ?_
  refine lv_aload_n hx hb dLw_578 rfl (lv_at hl 0 rfl) ?_
  refine lv_iload_n hx hb dLw_579 rfl (lv_at hl 3 rfl) ?_
  refine lv_iconst (v := 1) hx hb dLw_580 (by decide) ?_
  refine lv_iadd hx hb dLw_581 ?_
  refine va_sld hx hb hXs hbl hbA hR.2 (hin 1 (by decide) (by decide)) dLw_582 ?_
  refine lv_aload_n hx hb dLw_583 rfl (lv_at hl 0 rfl) ?_
  refine lv_iload_n hx hb dLw_584 rfl (lv_at hl 3 rfl) ?_
  refine lv_iconst (v := 2) hx hb dLw_585 (by decide) ?_
  refine lv_iadd hx hb dLw_586 ?_
  refine va_sld hx hb hXs hbl hbA hR.2 (hin 2 (by decide) (by decide)) dLw_587 ?_
  refine r_callVG (As := [.int (xs (ix (x3 + 1))), .int (xs (ix (x3 + 2)))]) (n := 2) (r := (some (.int r))) B hR (ci := 10) (C := RX10) (T := TX10) (N := 19) rfl wc_X10_page ml_LW_64 wi_X10_page we_X10_page ini_10 (by decide +kernel) (by decide) (hq.at0 rfl) rfl hl.1 (mX10_page fu 0 hq h1) ⟨Nat.le_of_ble_eq_true rfl, Nat.le_of_ble_eq_true rfl, hce, hsl⟩ (Nat.le_of_ble_eq_true rfl) dLw_588 (fun H locs hR => ?_)
  refine lv_aload_n hx hb dLw_591 rfl (lv_at hl 2 rfl) ?_
  refine lv_aload_n hx hb dLw_592 rfl (lv_at hl 0 rfl) ?_
  refine lv_iload_n hx hb dLw_593 rfl (lv_at hl 3 rfl) ?_
  refine lv_iconst (v := 1) hx hb dLw_594 (by decide) ?_
  refine lv_iadd hx hb dLw_595 ?_
  refine va_sld hx hb hXs hbl hbA hR.2 (hin 1 (by decide) (by decide)) dLw_596 ?_
  refine lv_aload_n hx hb dLw_597 rfl (lv_at hl 0 rfl) ?_
  refine lv_iload_n hx hb dLw_598 rfl (lv_at hl 3 rfl) ?_
  refine lv_iconst (v := 2) hx hb dLw_599 (by decide) ?_
  refine lv_iadd hx hb dLw_600 ?_
  refine va_sld hx hb hXs hbl hbA hR.2 (hin 2 (by decide) (by decide)) dLw_601 ?_
  refine r_callVG (As := [.int (xs (ix (x3 + 1))), .int (xs (ix (x3 + 2)))]) (n := 2) (r := (some (.int r))) B hR (ci := 11) (C := RX11) (T := TX11) (N := 52) rfl wc_X11_page ml_LW_67 wi_X11_page we_X11_page ini_11 (by decide +kernel) (by decide) (hmm.at0 rfl) rfl hl.1 (mX11_page fu 0 hmm h2) ⟨Nat.le_of_ble_eq_true rfl, Nat.le_of_ble_eq_true rfl, hce, hsl⟩ (Nat.le_of_ble_eq_true rfl) dLw_602 (fun H locs hR => ?_)
  exact lv_icmp_eq (x := r) (y := r) (tgt := 1511) hx hb dLw_605 (by decide) (fun _ => kk H locs hR) (fun c0 => absurd rfl c0)
set_option maxRecDepth 100000 in
set_option maxHeartbeats 4000000 in
theorem lw_c12 (X : Lx p s m args c E L b n qx qm xs x3 cells slots ls) (h1 : fX10_mend fu qx M = some (r, M1)) (h2 : fX11_mend fu qm M1 = some (r, M2)) (hR : Rx s E L M H locs) (kk : ∀ (H1 : Heap) (locs1 : List Loc), Rx s E L M2 H1 locs1 → W p l e room_1 s m args below meth c H1 locs1 cells slots Q (F0 m 1511 ls [])) : W p l e room_1 s m args below meth c H locs cells slots Q (F0 m 610 ls []) := by
  obtain ⟨B, hXs, hbl, hbA, hq, hmm, hin, hce, hsl, hl⟩ := X
  have hx := B.1
  have hb := B.2.1
  refine lv_aload_n hx hb dLw_610 rfl (lv_at hl 1 rfl) ?_
  refine r_callVG (As := []) (n := 0) (r := (some (.int r))) B hR (ci := 10) (C := RX10) (T := TX10) (N := 19) rfl wc_X10_mend ml_LW_68 wi_X10_mend we_X10_mend ini_10 (by decide +kernel) (by decide) (hq.at0 rfl) rfl hl.1 (mX10_mend fu 0 hq h1) ⟨Nat.le_of_ble_eq_true rfl, Nat.le_of_ble_eq_true rfl, hce, hsl⟩ (Nat.le_of_ble_eq_true rfl) dLw_611 (fun H locs hR => ?_)
  refine lv_aload_n hx hb dLw_614 rfl (lv_at hl 2 rfl) ?_
  refine r_callVG (As := []) (n := 0) (r := (some (.int r))) B hR (ci := 11) (C := RX11) (T := TX11) (N := 52) rfl wc_X11_mend ml_LW_71 wi_X11_mend we_X11_mend ini_11 (by decide +kernel) (by decide) (hmm.at0 rfl) rfl hl.1 (mX11_mend fu 0 hmm h2) ⟨Nat.le_of_ble_eq_true rfl, Nat.le_of_ble_eq_true rfl, hce, hsl⟩ (Nat.le_of_ble_eq_true rfl) dLw_615 (fun H locs hR => ?_)
  exact lv_icmp_eq (x := r) (y := r) (tgt := 1511) hx hb dLw_618 (by decide) (fun _ => kk H locs hR) (fun c0 => absurd rfl c0)
set_option maxRecDepth 100000 in
set_option maxHeartbeats 4000000 in
theorem lw_c13 (X : Lx p s m args c E L b n qx qm xs x3 cells slots ls) (h1 : fX10_layAll fu L qx M = some (r, M1)) (h2 : fX11_layAll fu qm M1 = some (r, M2)) (hR : Rx s E L M H locs) (kk : ∀ (H1 : Heap) (locs1 : List Loc), Rx s E L M2 H1 locs1 → W p l e room_1 s m args below meth c H1 locs1 cells slots Q (F0 m 1511 ls [])) : W p l e room_1 s m args below meth c H locs cells slots Q (F0 m 623 ls []) := by
  obtain ⟨B, hXs, hbl, hbA, hq, hmm, hin, hce, hsl, hl⟩ := X
  have hx := B.1
  have hb := B.2.1
  refine lv_aload_n hx hb dLw_623 rfl (lv_at hl 1 rfl) ?_
  refine r_callVG (As := []) (n := 0) (r := (some (.int r))) B hR (ci := 10) (C := RX10) (T := TX10) (N := 19) rfl wc_X10_layAll ml_LW_72 wi_X10_layAll we_X10_layAll ini_10 (by decide +kernel) (by decide) (hq.at0 rfl) rfl hl.1 (mX10_layAll fu 0 hq h1) ⟨Nat.le_of_ble_eq_true rfl, Nat.le_of_ble_eq_true rfl, hce, hsl⟩ (Nat.le_of_ble_eq_true rfl) dLw_624 (fun H locs hR => ?_)
  refine lv_aload_n hx hb dLw_627 rfl (lv_at hl 2 rfl) ?_
  refine r_callVG (As := []) (n := 0) (r := (some (.int r))) B hR (ci := 11) (C := RX11) (T := TX11) (N := 52) rfl wc_X11_layAll ml_LW_75 wi_X11_layAll we_X11_layAll ini_11 (by decide +kernel) (by decide) (hmm.at0 rfl) rfl hl.1 (mX11_layAll fu 0 hmm h2) ⟨Nat.le_of_ble_eq_true rfl, Nat.le_of_ble_eq_true rfl, hce, hsl⟩ (Nat.le_of_ble_eq_true rfl) dLw_628 (fun H locs hR => ?_)
  exact lv_icmp_eq (x := r) (y := r) (tgt := 1511) hx hb dLw_631 (by decide) (fun _ => kk H locs hR) (fun c0 => absurd rfl c0)
set_option maxRecDepth 100000 in
set_option maxHeartbeats 4000000 in
theorem lw_c14 (X : Lx p s m args c E L b n qx qm xs x3 cells slots ls) (h1 : fX10_tidy fu qx M = some (r, M1)) (h2 : fX11_tidy fu qm M1 = some (r, M2)) (hR : Rx s E L M H locs) (kk : ∀ (H1 : Heap) (locs1 : List Loc), Rx s E L M2 H1 locs1 → W p l e room_1 s m args below meth c H1 locs1 cells slots Q (F0 m 1511 ls [])) : W p l e room_1 s m args below meth c H locs cells slots Q (F0 m 636 ls []) := by
  obtain ⟨B, hXs, hbl, hbA, hq, hmm, hin, hce, hsl, hl⟩ := X
  have hx := B.1
  have hb := B.2.1
  refine lv_aload_n hx hb dLw_636 rfl (lv_at hl 1 rfl) ?_
  refine r_callVG (As := []) (n := 0) (r := (some (.int r))) B hR (ci := 10) (C := RX10) (T := TX10) (N := 19) rfl wc_X10_tidy ml_LW_76 wi_X10_tidy we_X10_tidy ini_10 (by decide +kernel) (by decide) (hq.at0 rfl) rfl hl.1 (mX10_tidy fu 0 hq h1) ⟨Nat.le_of_ble_eq_true rfl, Nat.le_of_ble_eq_true rfl, hce, hsl⟩ (Nat.le_of_ble_eq_true rfl) dLw_637 (fun H locs hR => ?_)
  refine lv_aload_n hx hb dLw_640 rfl (lv_at hl 2 rfl) ?_
  refine r_callVG (As := []) (n := 0) (r := (some (.int r))) B hR (ci := 11) (C := RX11) (T := TX11) (N := 52) rfl wc_X11_tidy ml_LW_79 wi_X11_tidy we_X11_tidy ini_11 (by decide +kernel) (by decide) (hmm.at0 rfl) rfl hl.1 (mX11_tidy fu 0 hmm h2) ⟨Nat.le_of_ble_eq_true rfl, Nat.le_of_ble_eq_true rfl, hce, hsl⟩ (Nat.le_of_ble_eq_true rfl) dLw_641 (fun H locs hR => ?_)
  exact lv_icmp_eq (x := r) (y := r) (tgt := 1511) hx hb dLw_644 (by decide) (fun _ => kk H locs hR) (fun c0 => absurd rfl c0)
set_option maxRecDepth 100000 in
set_option maxHeartbeats 4000000 in
theorem lw_c15 (X : Lx p s m args c E L b n qx qm xs x3 cells slots ls) (h1 : fX10_undo fu qx M = some (r, M1)) (h2 : fX11_undo fu qm M1 = some (r, M2)) (hR : Rx s E L M H locs) (kk : ∀ (H1 : Heap) (locs1 : List Loc), Rx s E L M2 H1 locs1 → W p l e room_1 s m args below meth c H1 locs1 cells slots Q (F0 m 1511 ls [])) : W p l e room_1 s m args below meth c H locs cells slots Q (F0 m 649 ls []) := by
  obtain ⟨B, hXs, hbl, hbA, hq, hmm, hin, hce, hsl, hl⟩ := X
  have hx := B.1
  have hb := B.2.1
  refine lv_aload_n hx hb dLw_649 rfl (lv_at hl 1 rfl) ?_
  refine r_callVG (As := []) (n := 0) (r := (some (.int r))) B hR (ci := 10) (C := RX10) (T := TX10) (N := 19) rfl wc_X10_undo ml_LW_80 wi_X10_undo we_X10_undo ini_10 (by decide +kernel) (by decide) (hq.at0 rfl) rfl hl.1 (mX10_undo fu 0 hq h1) ⟨Nat.le_of_ble_eq_true rfl, Nat.le_of_ble_eq_true rfl, hce, hsl⟩ (Nat.le_of_ble_eq_true rfl) dLw_650 (fun H locs hR => ?_)
  refine lv_aload_n hx hb dLw_653 rfl (lv_at hl 2 rfl) ?_
  refine r_callVG (As := []) (n := 0) (r := (some (.int r))) B hR (ci := 11) (C := RX11) (T := TX11) (N := 52) rfl wc_X11_undo ml_LW_84 wi_X11_undo we_X11_undo ini_11 (by decide +kernel) (by decide) (hmm.at0 rfl) rfl hl.1 (mX11_undo fu 0 hmm h2) ⟨Nat.le_of_ble_eq_true rfl, Nat.le_of_ble_eq_true rfl, hce, hsl⟩ (Nat.le_of_ble_eq_true rfl) dLw_654 (fun H locs hR => ?_)
  exact lv_icmp_eq (x := r) (y := r) (tgt := 1511) hx hb dLw_657 (by decide) (fun _ => kk H locs hR) (fun c0 => absurd rfl c0)
set_option maxRecDepth 100000 in
set_option maxHeartbeats 4000000 in
theorem lw_c16 (X : Lx p s m args c E L b n qx qm xs x3 cells slots ls) (h1 : fX10_redo fu qx M = some (r, M1)) (h2 : fX11_redo fu qm M1 = some (r, M2)) (hR : Rx s E L M H locs) (kk : ∀ (H1 : Heap) (locs1 : List Loc), Rx s E L M2 H1 locs1 → W p l e room_1 s m args below meth c H1 locs1 cells slots Q (F0 m 1511 ls [])) : W p l e room_1 s m args below meth c H locs cells slots Q (F0 m 662 ls []) := by
  obtain ⟨B, hXs, hbl, hbA, hq, hmm, hin, hce, hsl, hl⟩ := X
  have hx := B.1
  have hb := B.2.1
  refine lv_aload_n hx hb dLw_662 rfl (lv_at hl 1 rfl) ?_
  refine r_callVG (As := []) (n := 0) (r := (some (.int r))) B hR (ci := 10) (C := RX10) (T := TX10) (N := 19) rfl wc_X10_redo ml_LW_85 wi_X10_redo we_X10_redo ini_10 (by decide +kernel) (by decide) (hq.at0 rfl) rfl hl.1 (mX10_redo fu 0 hq h1) ⟨Nat.le_of_ble_eq_true rfl, Nat.le_of_ble_eq_true rfl, hce, hsl⟩ (Nat.le_of_ble_eq_true rfl) dLw_663 (fun H locs hR => ?_)
  refine lv_aload_n hx hb dLw_666 rfl (lv_at hl 2 rfl) ?_
  refine r_callVG (As := []) (n := 0) (r := (some (.int r))) B hR (ci := 11) (C := RX11) (T := TX11) (N := 52) rfl wc_X11_redo ml_LW_88 wi_X11_redo we_X11_redo ini_11 (by decide +kernel) (by decide) (hmm.at0 rfl) rfl hl.1 (mX11_redo fu 0 hmm h2) ⟨Nat.le_of_ble_eq_true rfl, Nat.le_of_ble_eq_true rfl, hce, hsl⟩ (Nat.le_of_ble_eq_true rfl) dLw_667 (fun H locs hR => ?_)
  exact lv_icmp_eq (x := r) (y := r) (tgt := 1511) hx hb dLw_670 (by decide) (fun _ => kk H locs hR) (fun c0 => absurd rfl c0)
set_option maxRecDepth 100000 in
set_option maxHeartbeats 4000000 in
theorem lw_c17 (X : Lx p s m args c E L b n qx qm xs x3 cells slots ls) (h1 : fX10_told fu qx (xs (ix (x3 + 1))) (xs (ix (x3 + 2))) M = some r) (h2 : fX11_told fu qm (xs (ix (x3 + 1))) (xs (ix (x3 + 2))) M = some r) (hR : Rx s E L M H locs) (kk : ∀ (H1 : Heap) (locs1 : List Loc), Rx s E L M H1 locs1 → W p l e room_1 s m args below meth c H1 locs1 cells slots Q (F0 m 1511 ls [])) : W p l e room_1 s m args below meth c H locs cells slots Q (F0 m 675 ls []) := by
  obtain ⟨B, hXs, hbl, hbA, hq, hmm, hin, hce, hsl, hl⟩ := X
  have hx := B.1
  have hb := B.2.1
  refine lv_aload_n hx hb dLw_675 rfl (lv_at hl 1 rfl) ?_
  refine lv_aload_n hx hb dLw_676 rfl (lv_at hl 0 rfl) ?_
  refine lv_iload_n hx hb dLw_677 rfl (lv_at hl 3 rfl) ?_
  refine lv_iconst (v := 1) hx hb dLw_678 (by decide) ?_
  refine lv_iadd hx hb dLw_679 ?_
  refine va_sld hx hb hXs hbl hbA hR.2 (hin 1 (by decide) (by decide)) dLw_680 ?_
  refine lv_aload_n hx hb dLw_681 rfl (lv_at hl 0 rfl) ?_
  refine lv_iload_n hx hb dLw_682 rfl (lv_at hl 3 rfl) ?_
  refine lv_iconst (v := 2) hx hb dLw_683 (by decide) ?_
  refine lv_iadd hx hb dLw_684 ?_
  refine va_sld hx hb hXs hbl hbA hR.2 (hin 2 (by decide) (by decide)) dLw_685 ?_
  refine r_callVG (As := [.int (xs (ix (x3 + 1))), .int (xs (ix (x3 + 2)))]) (n := 2) (r := (some (.int r))) B hR (ci := 10) (C := RX10) (T := TX10) (N := 19) rfl wc_X10_told ml_LW_89 wi_X10_told we_X10_told ini_10 (by decide +kernel) (by decide) (hq.at0 rfl) rfl hl.1 (mX10_told fu 0 hq h1) ⟨Nat.le_of_ble_eq_true rfl, Nat.le_of_ble_eq_true rfl, hce, hsl⟩ (Nat.le_of_ble_eq_true rfl) dLw_686 (fun H locs hR => ?_)
  refine lv_aload_n hx hb dLw_689 rfl (lv_at hl 2 rfl) ?_
  refine lv_aload_n hx hb dLw_690 rfl (lv_at hl 0 rfl) ?_
  refine lv_iload_n hx hb dLw_691 rfl (lv_at hl 3 rfl) ?_
  refine lv_iconst (v := 1) hx hb dLw_692 (by decide) ?_
  refine lv_iadd hx hb dLw_693 ?_
  refine va_sld hx hb hXs hbl hbA hR.2 (hin 1 (by decide) (by decide)) dLw_694 ?_
  refine lv_aload_n hx hb dLw_695 rfl (lv_at hl 0 rfl) ?_
  refine lv_iload_n hx hb dLw_696 rfl (lv_at hl 3 rfl) ?_
  refine lv_iconst (v := 2) hx hb dLw_697 (by decide) ?_
  refine lv_iadd hx hb dLw_698 ?_
  refine va_sld hx hb hXs hbl hbA hR.2 (hin 2 (by decide) (by decide)) dLw_699 ?_
  refine r_callVG (As := [.int (xs (ix (x3 + 1))), .int (xs (ix (x3 + 2)))]) (n := 2) (r := (some (.int r))) B hR (ci := 11) (C := RX11) (T := TX11) (N := 52) rfl wc_X11_told ml_LW_92 wi_X11_told we_X11_told ini_11 (by decide +kernel) (by decide) (hmm.at0 rfl) rfl hl.1 (mX11_told fu 0 hmm h2) ⟨Nat.le_of_ble_eq_true rfl, Nat.le_of_ble_eq_true rfl, hce, hsl⟩ (Nat.le_of_ble_eq_true rfl) dLw_700 (fun H locs hR => ?_)
  exact lv_icmp_eq (x := r) (y := r) (tgt := 1511) hx hb dLw_703 (by decide) (fun _ => kk H locs hR) (fun c0 => absurd rfl c0)
set_option maxRecDepth 100000 in
set_option maxHeartbeats 4000000 in
theorem lw_c18 (X : Lx p s m args c E L b n qx qm xs x3 cells slots ls) (h1 : fX10_register fu qx (xs (ix (x3 + 1))) (xs (ix (x3 + 2))) M = some r) (h2 : fX11_register fu qm (xs (ix (x3 + 1))) (xs (ix (x3 + 2))) M = some r) (hR : Rx s E L M H locs) (kk : ∀ (H1 : Heap) (locs1 : List Loc), Rx s E L M H1 locs1 → W p l e room_1 s m args below meth c H1 locs1 cells slots Q (F0 m 1511 ls [])) : W p l e room_1 s m args below meth c H locs cells slots Q (F0 m 708 ls []) := by
  obtain ⟨B, hXs, hbl, hbA, hq, hmm, hin, hce, hsl, hl⟩ := X
  have hx := B.1
  have hb := B.2.1
  refine lv_aload_n hx hb dLw_708 rfl (lv_at hl 1 rfl) ?_
  refine lv_aload_n hx hb dLw_709 rfl (lv_at hl 0 rfl) ?_
  refine lv_iload_n hx hb dLw_710 rfl (lv_at hl 3 rfl) ?_
  refine lv_iconst (v := 1) hx hb dLw_711 (by decide) ?_
  refine lv_iadd hx hb dLw_712 ?_
  refine va_sld hx hb hXs hbl hbA hR.2 (hin 1 (by decide) (by decide)) dLw_713 ?_
  refine lv_aload_n hx hb dLw_714 rfl (lv_at hl 0 rfl) ?_
  refine lv_iload_n hx hb dLw_715 rfl (lv_at hl 3 rfl) ?_
  refine lv_iconst (v := 2) hx hb dLw_716 (by decide) ?_
  refine lv_iadd hx hb dLw_717 ?_
  refine va_sld hx hb hXs hbl hbA hR.2 (hin 2 (by decide) (by decide)) dLw_718 ?_
  refine r_callVG (As := [.int (xs (ix (x3 + 1))), .int (xs (ix (x3 + 2)))]) (n := 2) (r := (some (.int r))) B hR (ci := 10) (C := RX10) (T := TX10) (N := 19) rfl wc_X10_register ml_LW_93 wi_X10_register we_X10_register ini_10 (by decide +kernel) (by decide) (hq.at0 rfl) rfl hl.1 (mX10_register fu 0 hq h1) ⟨Nat.le_of_ble_eq_true rfl, Nat.le_of_ble_eq_true rfl, hce, hsl⟩ (Nat.le_of_ble_eq_true rfl) dLw_719 (fun H locs hR => ?_)
  refine lv_aload_n hx hb dLw_722 rfl (lv_at hl 2 rfl) ?_
  refine lv_aload_n hx hb dLw_723 rfl (lv_at hl 0 rfl) ?_
  refine lv_iload_n hx hb dLw_724 rfl (lv_at hl 3 rfl) ?_
  refine lv_iconst (v := 1) hx hb dLw_725 (by decide) ?_
  refine lv_iadd hx hb dLw_726 ?_
  refine va_sld hx hb hXs hbl hbA hR.2 (hin 1 (by decide) (by decide)) dLw_727 ?_
  refine lv_aload_n hx hb dLw_728 rfl (lv_at hl 0 rfl) ?_
  refine lv_iload_n hx hb dLw_729 rfl (lv_at hl 3 rfl) ?_
  refine lv_iconst (v := 2) hx hb dLw_730 (by decide) ?_
  refine lv_iadd hx hb dLw_731 ?_
  refine va_sld hx hb hXs hbl hbA hR.2 (hin 2 (by decide) (by decide)) dLw_732 ?_
  refine r_callVG (As := [.int (xs (ix (x3 + 1))), .int (xs (ix (x3 + 2)))]) (n := 2) (r := (some (.int r))) B hR (ci := 11) (C := RX11) (T := TX11) (N := 52) rfl wc_X11_register ml_LW_96 wi_X11_register we_X11_register ini_11 (by decide +kernel) (by decide) (hmm.at0 rfl) rfl hl.1 (mX11_register fu 0 hmm h2) ⟨Nat.le_of_ble_eq_true rfl, Nat.le_of_ble_eq_true rfl, hce, hsl⟩ (Nat.le_of_ble_eq_true rfl) dLw_733 (fun H locs hR => ?_)
  exact lv_icmp_eq (x := r) (y := r) (tgt := 1511) hx hb dLw_736 (by decide) (fun _ => kk H locs hR) (fun c0 => absurd rfl c0)
set_option maxRecDepth 100000 in
set_option maxHeartbeats 4000000 in
theorem lw_c19 (X : Lx p s m args c E L b n qx qm xs x3 cells slots ls) (h1 : fX10_part fu qx (xs (ix (x3 + 1))) M = some r) (h2 : fX11_part fu qm (xs (ix (x3 + 1))) M = some r) (hR : Rx s E L M H locs) (kk : ∀ (H1 : Heap) (locs1 : List Loc), Rx s E L M H1 locs1 → W p l e room_1 s m args below meth c H1 locs1 cells slots Q (F0 m 1511 ls [])) : W p l e room_1 s m args below meth c H locs cells slots Q (F0 m 741 ls []) := by
  obtain ⟨B, hXs, hbl, hbA, hq, hmm, hin, hce, hsl, hl⟩ := X
  have hx := B.1
  have hb := B.2.1
  refine lv_aload_n hx hb dLw_741 rfl (lv_at hl 1 rfl) ?_
  refine lv_aload_n hx hb dLw_742 rfl (lv_at hl 0 rfl) ?_
  refine lv_iload_n hx hb dLw_743 rfl (lv_at hl 3 rfl) ?_
  refine lv_iconst (v := 1) hx hb dLw_744 (by decide) ?_
  refine lv_iadd hx hb dLw_745 ?_
  refine va_sld hx hb hXs hbl hbA hR.2 (hin 1 (by decide) (by decide)) dLw_746 ?_
  refine r_callVG (As := [.int (xs (ix (x3 + 1)))]) (n := 1) (r := (some (.int r))) B hR (ci := 10) (C := RX10) (T := TX10) (N := 19) rfl wc_X10_part ml_LW_97 wi_X10_part we_X10_part ini_10 (by decide +kernel) (by decide) (hq.at0 rfl) rfl hl.1 (mX10_part fu 0 hq h1) ⟨Nat.le_of_ble_eq_true rfl, Nat.le_of_ble_eq_true rfl, hce, hsl⟩ (Nat.le_of_ble_eq_true rfl) dLw_747 (fun H locs hR => ?_)
  refine lv_aload_n hx hb dLw_750 rfl (lv_at hl 2 rfl) ?_
  refine lv_aload_n hx hb dLw_751 rfl (lv_at hl 0 rfl) ?_
  refine lv_iload_n hx hb dLw_752 rfl (lv_at hl 3 rfl) ?_
  refine lv_iconst (v := 1) hx hb dLw_753 (by decide) ?_
  refine lv_iadd hx hb dLw_754 ?_
  refine va_sld hx hb hXs hbl hbA hR.2 (hin 1 (by decide) (by decide)) dLw_755 ?_
  refine r_callVG (As := [.int (xs (ix (x3 + 1)))]) (n := 1) (r := (some (.int r))) B hR (ci := 11) (C := RX11) (T := TX11) (N := 52) rfl wc_X11_part ml_LW_100 wi_X11_part we_X11_part ini_11 (by decide +kernel) (by decide) (hmm.at0 rfl) rfl hl.1 (mX11_part fu 0 hmm h2) ⟨Nat.le_of_ble_eq_true rfl, Nat.le_of_ble_eq_true rfl, hce, hsl⟩ (Nat.le_of_ble_eq_true rfl) dLw_756 (fun H locs hR => ?_)
  exact lv_icmp_eq (x := r) (y := r) (tgt := 1511) hx hb dLw_759 (by decide) (fun _ => kk H locs hR) (fun c0 => absurd rfl c0)
set_option maxRecDepth 100000 in
set_option maxHeartbeats 4000000 in
theorem lw_c20 (X : Lx p s m args c E L b n qx qm xs x3 cells slots ls) (h1 : fX10_wanted fu qx (xs (ix (x3 + 1))) M = some r) (h2 : fX11_wanted fu qm (xs (ix (x3 + 1))) M = some r) (hR : Rx s E L M H locs) (kk : ∀ (H1 : Heap) (locs1 : List Loc), Rx s E L M H1 locs1 → W p l e room_1 s m args below meth c H1 locs1 cells slots Q (F0 m 1511 ls [])) : W p l e room_1 s m args below meth c H locs cells slots Q (F0 m 764 ls []) := by
  obtain ⟨B, hXs, hbl, hbA, hq, hmm, hin, hce, hsl, hl⟩ := X
  have hx := B.1
  have hb := B.2.1
  refine lv_aload_n hx hb dLw_764 rfl (lv_at hl 1 rfl) ?_
  refine lv_aload_n hx hb dLw_765 rfl (lv_at hl 0 rfl) ?_
  refine lv_iload_n hx hb dLw_766 rfl (lv_at hl 3 rfl) ?_
  refine lv_iconst (v := 1) hx hb dLw_767 (by decide) ?_
  refine lv_iadd hx hb dLw_768 ?_
  refine va_sld hx hb hXs hbl hbA hR.2 (hin 1 (by decide) (by decide)) dLw_769 ?_
  refine r_callVG (As := [.int (xs (ix (x3 + 1)))]) (n := 1) (r := (some (.int r))) B hR (ci := 10) (C := RX10) (T := TX10) (N := 19) rfl wc_X10_wanted ml_LW_101 wi_X10_wanted we_X10_wanted ini_10 (by decide +kernel) (by decide) (hq.at0 rfl) rfl hl.1 (mX10_wanted fu 0 hq h1) ⟨Nat.le_of_ble_eq_true rfl, Nat.le_of_ble_eq_true rfl, hce, hsl⟩ (Nat.le_of_ble_eq_true rfl) dLw_770 (fun H locs hR => ?_)
  refine lv_aload_n hx hb dLw_773 rfl (lv_at hl 2 rfl) ?_
  refine lv_aload_n hx hb dLw_774 rfl (lv_at hl 0 rfl) ?_
  refine lv_iload_n hx hb dLw_775 rfl (lv_at hl 3 rfl) ?_
  refine lv_iconst (v := 1) hx hb dLw_776 (by decide) ?_
  refine lv_iadd hx hb dLw_777 ?_
  refine va_sld hx hb hXs hbl hbA hR.2 (hin 1 (by decide) (by decide)) dLw_778 ?_
  refine r_callVG (As := [.int (xs (ix (x3 + 1)))]) (n := 1) (r := (some (.int r))) B hR (ci := 11) (C := RX11) (T := TX11) (N := 52) rfl wc_X11_wanted ml_LW_104 wi_X11_wanted we_X11_wanted ini_11 (by decide +kernel) (by decide) (hmm.at0 rfl) rfl hl.1 (mX11_wanted fu 0 hmm h2) ⟨Nat.le_of_ble_eq_true rfl, Nat.le_of_ble_eq_true rfl, hce, hsl⟩ (Nat.le_of_ble_eq_true rfl) dLw_779 (fun H locs hR => ?_)
  exact lv_icmp_eq (x := r) (y := r) (tgt := 1511) hx hb dLw_782 (by decide) (fun _ => kk H locs hR) (fun c0 => absurd rfl c0)
set_option maxRecDepth 100000 in
set_option maxHeartbeats 4000000 in
theorem lw_c21 (X : Lx p s m args c E L b n qx qm xs x3 cells slots ls) (h1 : fX10_kind fu qx (xs (ix (x3 + 1))) M = some r) (h2 : fX11_kind fu qm (xs (ix (x3 + 1))) M = some r) (hR : Rx s E L M H locs) (kk : ∀ (H1 : Heap) (locs1 : List Loc), Rx s E L M H1 locs1 → W p l e room_1 s m args below meth c H1 locs1 cells slots Q (F0 m 1511 ls [])) : W p l e room_1 s m args below meth c H locs cells slots Q (F0 m 787 ls []) := by
  obtain ⟨B, hXs, hbl, hbA, hq, hmm, hin, hce, hsl, hl⟩ := X
  have hx := B.1
  have hb := B.2.1
  refine lv_aload_n hx hb dLw_787 rfl (lv_at hl 1 rfl) ?_
  refine lv_aload_n hx hb dLw_788 rfl (lv_at hl 0 rfl) ?_
  refine lv_iload_n hx hb dLw_789 rfl (lv_at hl 3 rfl) ?_
  refine lv_iconst (v := 1) hx hb dLw_790 (by decide) ?_
  refine lv_iadd hx hb dLw_791 ?_
  refine va_sld hx hb hXs hbl hbA hR.2 (hin 1 (by decide) (by decide)) dLw_792 ?_
  refine r_callVG (As := [.int (xs (ix (x3 + 1)))]) (n := 1) (r := (some (.int r))) B hR (ci := 10) (C := RX10) (T := TX10) (N := 19) rfl wc_X10_kind ml_LW_105 wi_X10_kind we_X10_kind ini_10 (by decide +kernel) (by decide) (hq.at0 rfl) rfl hl.1 (mX10_kind fu 0 hq h1) ⟨Nat.le_of_ble_eq_true rfl, Nat.le_of_ble_eq_true rfl, hce, hsl⟩ (Nat.le_of_ble_eq_true rfl) dLw_793 (fun H locs hR => ?_)
  refine lv_aload_n hx hb dLw_796 rfl (lv_at hl 2 rfl) ?_
  refine lv_aload_n hx hb dLw_797 rfl (lv_at hl 0 rfl) ?_
  refine lv_iload_n hx hb dLw_798 rfl (lv_at hl 3 rfl) ?_
  refine lv_iconst (v := 1) hx hb dLw_799 (by decide) ?_
  refine lv_iadd hx hb dLw_800 ?_
  refine va_sld hx hb hXs hbl hbA hR.2 (hin 1 (by decide) (by decide)) dLw_801 ?_
  refine r_callVG (As := [.int (xs (ix (x3 + 1)))]) (n := 1) (r := (some (.int r))) B hR (ci := 11) (C := RX11) (T := TX11) (N := 52) rfl wc_X11_kind ml_LW_108 wi_X11_kind we_X11_kind ini_11 (by decide +kernel) (by decide) (hmm.at0 rfl) rfl hl.1 (mX11_kind fu 0 hmm h2) ⟨Nat.le_of_ble_eq_true rfl, Nat.le_of_ble_eq_true rfl, hce, hsl⟩ (Nat.le_of_ble_eq_true rfl) dLw_802 (fun H locs hR => ?_)
  exact lv_icmp_eq (x := r) (y := r) (tgt := 1511) hx hb dLw_805 (by decide) (fun _ => kk H locs hR) (fun c0 => absurd rfl c0)
set_option maxRecDepth 100000 in
set_option maxHeartbeats 4000000 in
theorem lw_c22 (X : Lx p s m args c E L b n qx qm xs x3 cells slots ls) (h1 : fX10_run fu qx (xs (ix (x3 + 1))) (xs (ix (x3 + 2))) M = some (r, M1)) (h2 : fX11_run fu qm (xs (ix (x3 + 1))) (xs (ix (x3 + 2))) M1 = some r) (hR : Rx s E L M H locs) (kk : ∀ (H1 : Heap) (locs1 : List Loc), Rx s E L M1 H1 locs1 → W p l e room_1 s m args below meth c H1 locs1 cells slots Q (F0 m 1511 ls [])) : W p l e room_1 s m args below meth c H locs cells slots Q (F0 m 810 ls []) := by
  obtain ⟨B, hXs, hbl, hbA, hq, hmm, hin, hce, hsl, hl⟩ := X
  have hx := B.1
  have hb := B.2.1
  refine lv_aload_n hx hb dLw_810 rfl (lv_at hl 1 rfl) ?_
  refine lv_aload_n hx hb dLw_811 rfl (lv_at hl 0 rfl) ?_
  refine lv_iload_n hx hb dLw_812 rfl (lv_at hl 3 rfl) ?_
  refine lv_iconst (v := 1) hx hb dLw_813 (by decide) ?_
  refine lv_iadd hx hb dLw_814 ?_
  refine va_sld hx hb hXs hbl hbA hR.2 (hin 1 (by decide) (by decide)) dLw_815 ?_
  refine lv_aload_n hx hb dLw_816 rfl (lv_at hl 0 rfl) ?_
  refine lv_iload_n hx hb dLw_817 rfl (lv_at hl 3 rfl) ?_
  refine lv_iconst (v := 2) hx hb dLw_818 (by decide) ?_
  refine lv_iadd hx hb dLw_819 ?_
  refine va_sld hx hb hXs hbl hbA hR.2 (hin 2 (by decide) (by decide)) dLw_820 ?_
  refine r_callVG (As := [.int (xs (ix (x3 + 1))), .int (xs (ix (x3 + 2)))]) (n := 2) (r := (some (.int r))) B hR (ci := 10) (C := RX10) (T := TX10) (N := 19) rfl wc_X10_run ml_LW_109 wi_X10_run we_X10_run ini_10 (by decide +kernel) (by decide) (hq.at0 rfl) rfl hl.1 (mX10_run fu 0 hq h1) ⟨Nat.le_of_ble_eq_true rfl, Nat.le_of_ble_eq_true rfl, hce, hsl⟩ (Nat.le_of_ble_eq_true rfl) dLw_821 (fun H locs hR => ?_)
  refine lv_aload_n hx hb dLw_824 rfl (lv_at hl 2 rfl) ?_
  refine lv_aload_n hx hb dLw_825 rfl (lv_at hl 0 rfl) ?_
  refine lv_iload_n hx hb dLw_826 rfl (lv_at hl 3 rfl) ?_
  refine lv_iconst (v := 1) hx hb dLw_827 (by decide) ?_
  refine lv_iadd hx hb dLw_828 ?_
  refine va_sld hx hb hXs hbl hbA hR.2 (hin 1 (by decide) (by decide)) dLw_829 ?_
  refine lv_aload_n hx hb dLw_830 rfl (lv_at hl 0 rfl) ?_
  refine lv_iload_n hx hb dLw_831 rfl (lv_at hl 3 rfl) ?_
  refine lv_iconst (v := 2) hx hb dLw_832 (by decide) ?_
  refine lv_iadd hx hb dLw_833 ?_
  refine va_sld hx hb hXs hbl hbA hR.2 (hin 2 (by decide) (by decide)) dLw_834 ?_
  refine r_callVG (As := [.int (xs (ix (x3 + 1))), .int (xs (ix (x3 + 2)))]) (n := 2) (r := (some (.int r))) B hR (ci := 11) (C := RX11) (T := TX11) (N := 52) rfl wc_X11_run ml_LW_112 wi_X11_run we_X11_run ini_11 (by decide +kernel) (by decide) (hmm.at0 rfl) rfl hl.1 (mX11_run fu 0 hmm h2) ⟨Nat.le_of_ble_eq_true rfl, Nat.le_of_ble_eq_true rfl, hce, hsl⟩ (Nat.le_of_ble_eq_true rfl) dLw_835 (fun H locs hR => ?_)
  exact lv_icmp_eq (x := r) (y := r) (tgt := 1511) hx hb dLw_838 (by decide) (fun _ => kk H locs hR) (fun c0 => absurd rfl c0)
set_option maxRecDepth 100000 in
set_option maxHeartbeats 4000000 in
theorem lw_c23 (X : Lx p s m args c E L b n qx qm xs x3 cells slots ls) (h1 : fX10_paged fu qx (xs (ix (x3 + 1))) M = some r) (h2 : fX11_paged fu qm (xs (ix (x3 + 1))) M = some r) (hR : Rx s E L M H locs) (kk : ∀ (H1 : Heap) (locs1 : List Loc), Rx s E L M H1 locs1 → W p l e room_1 s m args below meth c H1 locs1 cells slots Q (F0 m 1511 ls [])) : W p l e room_1 s m args below meth c H locs cells slots Q (F0 m 843 ls []) := by
  obtain ⟨B, hXs, hbl, hbA, hq, hmm, hin, hce, hsl, hl⟩ := X
  have hx := B.1
  have hb := B.2.1
  refine lv_aload_n hx hb dLw_843 rfl (lv_at hl 1 rfl) ?_
  refine lv_aload_n hx hb dLw_844 rfl (lv_at hl 0 rfl) ?_
  refine lv_iload_n hx hb dLw_845 rfl (lv_at hl 3 rfl) ?_
  refine lv_iconst (v := 1) hx hb dLw_846 (by decide) ?_
  refine lv_iadd hx hb dLw_847 ?_
  refine va_sld hx hb hXs hbl hbA hR.2 (hin 1 (by decide) (by decide)) dLw_848 ?_
  refine r_callVG (As := [.int (xs (ix (x3 + 1)))]) (n := 1) (r := (some (.int r))) B hR (ci := 10) (C := RX10) (T := TX10) (N := 19) rfl wc_X10_paged ml_LW_113 wi_X10_paged we_X10_paged ini_10 (by decide +kernel) (by decide) (hq.at0 rfl) rfl hl.1 (mX10_paged fu 0 hq h1) ⟨Nat.le_of_ble_eq_true rfl, Nat.le_of_ble_eq_true rfl, hce, hsl⟩ (Nat.le_of_ble_eq_true rfl) dLw_849 (fun H locs hR => ?_)
  refine lv_aload_n hx hb dLw_852 rfl (lv_at hl 2 rfl) ?_
  refine lv_aload_n hx hb dLw_853 rfl (lv_at hl 0 rfl) ?_
  refine lv_iload_n hx hb dLw_854 rfl (lv_at hl 3 rfl) ?_
  refine lv_iconst (v := 1) hx hb dLw_855 (by decide) ?_
  refine lv_iadd hx hb dLw_856 ?_
  refine va_sld hx hb hXs hbl hbA hR.2 (hin 1 (by decide) (by decide)) dLw_857 ?_
  refine r_callVG (As := [.int (xs (ix (x3 + 1)))]) (n := 1) (r := (some (.int r))) B hR (ci := 11) (C := RX11) (T := TX11) (N := 52) rfl wc_X11_paged ml_LW_116 wi_X11_paged we_X11_paged ini_11 (by decide +kernel) (by decide) (hmm.at0 rfl) rfl hl.1 (mX11_paged fu 0 hmm h2) ⟨Nat.le_of_ble_eq_true rfl, Nat.le_of_ble_eq_true rfl, hce, hsl⟩ (Nat.le_of_ble_eq_true rfl) dLw_858 (fun H locs hR => ?_)
  exact lv_icmp_eq (x := r) (y := r) (tgt := 1511) hx hb dLw_861 (by decide) (fun _ => kk H locs hR) (fun c0 => absurd rfl c0)
set_option maxRecDepth 100000 in
set_option maxHeartbeats 4000000 in
theorem lw_c24 (X : Lx p s m args c E L b n qx qm xs x3 cells slots ls) (h1 : fX10_seen fu qx (xs (ix (x3 + 1))) M = some r) (h2 : fX11_seen fu qm (xs (ix (x3 + 1))) M = some r) (hR : Rx s E L M H locs) (kk : ∀ (H1 : Heap) (locs1 : List Loc), Rx s E L M H1 locs1 → W p l e room_1 s m args below meth c H1 locs1 cells slots Q (F0 m 1511 ls [])) : W p l e room_1 s m args below meth c H locs cells slots Q (F0 m 866 ls []) := by
  obtain ⟨B, hXs, hbl, hbA, hq, hmm, hin, hce, hsl, hl⟩ := X
  have hx := B.1
  have hb := B.2.1
  refine lv_aload_n hx hb dLw_866 rfl (lv_at hl 1 rfl) ?_
  refine lv_aload_n hx hb dLw_867 rfl (lv_at hl 0 rfl) ?_
  refine lv_iload_n hx hb dLw_868 rfl (lv_at hl 3 rfl) ?_
  refine lv_iconst (v := 1) hx hb dLw_869 (by decide) ?_
  refine lv_iadd hx hb dLw_870 ?_
  refine va_sld hx hb hXs hbl hbA hR.2 (hin 1 (by decide) (by decide)) dLw_871 ?_
  refine r_callVG (As := [.int (xs (ix (x3 + 1)))]) (n := 1) (r := (some (.int r))) B hR (ci := 10) (C := RX10) (T := TX10) (N := 19) rfl wc_X10_seen ml_LW_117 wi_X10_seen we_X10_seen ini_10 (by decide +kernel) (by decide) (hq.at0 rfl) rfl hl.1 (mX10_seen fu 0 hq h1) ⟨Nat.le_of_ble_eq_true rfl, Nat.le_of_ble_eq_true rfl, hce, hsl⟩ (Nat.le_of_ble_eq_true rfl) dLw_872 (fun H locs hR => ?_)
  refine lv_aload_n hx hb dLw_875 rfl (lv_at hl 2 rfl) ?_
  refine lv_aload_n hx hb dLw_876 rfl (lv_at hl 0 rfl) ?_
  refine lv_iload_n hx hb dLw_877 rfl (lv_at hl 3 rfl) ?_
  refine lv_iconst (v := 1) hx hb dLw_878 (by decide) ?_
  refine lv_iadd hx hb dLw_879 ?_
  refine va_sld hx hb hXs hbl hbA hR.2 (hin 1 (by decide) (by decide)) dLw_880 ?_
  refine r_callVG (As := [.int (xs (ix (x3 + 1)))]) (n := 1) (r := (some (.int r))) B hR (ci := 11) (C := RX11) (T := TX11) (N := 52) rfl wc_X11_seen ml_LW_120 wi_X11_seen we_X11_seen ini_11 (by decide +kernel) (by decide) (hmm.at0 rfl) rfl hl.1 (mX11_seen fu 0 hmm h2) ⟨Nat.le_of_ble_eq_true rfl, Nat.le_of_ble_eq_true rfl, hce, hsl⟩ (Nat.le_of_ble_eq_true rfl) dLw_881 (fun H locs hR => ?_)
  exact lv_icmp_eq (x := r) (y := r) (tgt := 1511) hx hb dLw_884 (by decide) (fun _ => kk H locs hR) (fun c0 => absurd rfl c0)
set_option maxRecDepth 100000 in
set_option maxHeartbeats 4000000 in
theorem lw_c25 (X : Lx p s m args c E L b n qx qm xs x3 cells slots ls) (h1 : fX10_strange fu qx (xs (ix (x3 + 1))) M = some (r, M1)) (h2 : fX11_strange fu qm (xs (ix (x3 + 1))) M1 = some r) (hR : Rx s E L M H locs) (kk : ∀ (H1 : Heap) (locs1 : List Loc), Rx s E L M1 H1 locs1 → W p l e room_1 s m args below meth c H1 locs1 cells slots Q (F0 m 1511 ls [])) : W p l e room_1 s m args below meth c H locs cells slots Q (F0 m 889 ls []) := by
  obtain ⟨B, hXs, hbl, hbA, hq, hmm, hin, hce, hsl, hl⟩ := X
  have hx := B.1
  have hb := B.2.1
  refine lv_aload_n hx hb dLw_889 rfl (lv_at hl 1 rfl) ?_
  refine lv_aload_n hx hb dLw_890 rfl (lv_at hl 0 rfl) ?_
  refine lv_iload_n hx hb dLw_891 rfl (lv_at hl 3 rfl) ?_
  refine lv_iconst (v := 1) hx hb dLw_892 (by decide) ?_
  refine lv_iadd hx hb dLw_893 ?_
  refine va_sld hx hb hXs hbl hbA hR.2 (hin 1 (by decide) (by decide)) dLw_894 ?_
  refine r_callVG (As := [.int (xs (ix (x3 + 1)))]) (n := 1) (r := (some (.int r))) B hR (ci := 10) (C := RX10) (T := TX10) (N := 19) rfl wc_X10_strange ml_LW_121 wi_X10_strange we_X10_strange ini_10 (by decide +kernel) (by decide) (hq.at0 rfl) rfl hl.1 (mX10_strange fu 0 hq h1) ⟨Nat.le_of_ble_eq_true rfl, Nat.le_of_ble_eq_true rfl, hce, hsl⟩ (Nat.le_of_ble_eq_true rfl) dLw_895 (fun H locs hR => ?_)
  refine lv_aload_n hx hb dLw_898 rfl (lv_at hl 2 rfl) ?_
  refine lv_aload_n hx hb dLw_899 rfl (lv_at hl 0 rfl) ?_
  refine lv_iload_n hx hb dLw_900 rfl (lv_at hl 3 rfl) ?_
  refine lv_iconst (v := 1) hx hb dLw_901 (by decide) ?_
  refine lv_iadd hx hb dLw_902 ?_
  refine va_sld hx hb hXs hbl hbA hR.2 (hin 1 (by decide) (by decide)) dLw_903 ?_
  refine r_callVG (As := [.int (xs (ix (x3 + 1)))]) (n := 1) (r := (some (.int r))) B hR (ci := 11) (C := RX11) (T := TX11) (N := 52) rfl wc_X11_strange ml_LW_124 wi_X11_strange we_X11_strange ini_11 (by decide +kernel) (by decide) (hmm.at0 rfl) rfl hl.1 (mX11_strange fu 0 hmm h2) ⟨Nat.le_of_ble_eq_true rfl, Nat.le_of_ble_eq_true rfl, hce, hsl⟩ (Nat.le_of_ble_eq_true rfl) dLw_904 (fun H locs hR => ?_)
  exact lv_icmp_eq (x := r) (y := r) (tgt := 1511) hx hb dLw_907 (by decide) (fun _ => kk H locs hR) (fun c0 => absurd rfl c0)
set_option maxRecDepth 100000 in
set_option maxHeartbeats 4000000 in
theorem lw_c26 (X : Lx p s m args c E L b n qx qm xs x3 cells slots ls) (h1 : fX10_mendable fu qx (xs (ix (x3 + 1))) M = some (r, M1)) (h2 : fX11_mendable fu qm (xs (ix (x3 + 1))) M1 = some r) (hR : Rx s E L M H locs) (kk : ∀ (H1 : Heap) (locs1 : List Loc), Rx s E L M1 H1 locs1 → W p l e room_1 s m args below meth c H1 locs1 cells slots Q (F0 m 1511 ls [])) : W p l e room_1 s m args below meth c H locs cells slots Q (F0 m 912 ls []) := by
  obtain ⟨B, hXs, hbl, hbA, hq, hmm, hin, hce, hsl, hl⟩ := X
  have hx := B.1
  have hb := B.2.1
  refine lv_aload_n hx hb dLw_912 rfl (lv_at hl 1 rfl) ?_
  refine lv_aload_n hx hb dLw_913 rfl (lv_at hl 0 rfl) ?_
  refine lv_iload_n hx hb dLw_914 rfl (lv_at hl 3 rfl) ?_
  refine lv_iconst (v := 1) hx hb dLw_915 (by decide) ?_
  refine lv_iadd hx hb dLw_916 ?_
  refine va_sld hx hb hXs hbl hbA hR.2 (hin 1 (by decide) (by decide)) dLw_917 ?_
  refine r_callVG (As := [.int (xs (ix (x3 + 1)))]) (n := 1) (r := (some (.int r))) B hR (ci := 10) (C := RX10) (T := TX10) (N := 19) rfl wc_X10_mendable ml_LW_125 wi_X10_mendable we_X10_mendable ini_10 (by decide +kernel) (by decide) (hq.at0 rfl) rfl hl.1 (mX10_mendable fu 0 hq h1) ⟨Nat.le_of_ble_eq_true rfl, Nat.le_of_ble_eq_true rfl, hce, hsl⟩ (Nat.le_of_ble_eq_true rfl) dLw_918 (fun H locs hR => ?_)
  refine lv_aload_n hx hb dLw_921 rfl (lv_at hl 2 rfl) ?_
  refine lv_aload_n hx hb dLw_922 rfl (lv_at hl 0 rfl) ?_
  refine lv_iload_n hx hb dLw_923 rfl (lv_at hl 3 rfl) ?_
  refine lv_iconst (v := 1) hx hb dLw_924 (by decide) ?_
  refine lv_iadd hx hb dLw_925 ?_
  refine va_sld hx hb hXs hbl hbA hR.2 (hin 1 (by decide) (by decide)) dLw_926 ?_
  refine r_callVG (As := [.int (xs (ix (x3 + 1)))]) (n := 1) (r := (some (.int r))) B hR (ci := 11) (C := RX11) (T := TX11) (N := 52) rfl wc_X11_mendable ml_LW_128 wi_X11_mendable we_X11_mendable ini_11 (by decide +kernel) (by decide) (hmm.at0 rfl) rfl hl.1 (mX11_mendable fu 0 hmm h2) ⟨Nat.le_of_ble_eq_true rfl, Nat.le_of_ble_eq_true rfl, hce, hsl⟩ (Nat.le_of_ble_eq_true rfl) dLw_927 (fun H locs hR => ?_)
  exact lv_icmp_eq (x := r) (y := r) (tgt := 1511) hx hb dLw_930 (by decide) (fun _ => kk H locs hR) (fun c0 => absurd rfl c0)
set_option maxRecDepth 100000 in
set_option maxHeartbeats 4000000 in
theorem lw_c27 (X : Lx p s m args c E L b n qx qm xs x3 cells slots ls) (h1 : fX10_withPages fu L qx (xs (ix (x3 + 1))) M = some (r, M1)) (h2 : fX11_withPages fu qm (xs (ix (x3 + 1))) M1 = some (r, M2)) (hR : Rx s E L M H locs) (kk : ∀ (H1 : Heap) (locs1 : List Loc), Rx s E L M2 H1 locs1 → W p l e room_1 s m args below meth c H1 locs1 cells slots Q (F0 m 1511 ls [])) : W p l e room_1 s m args below meth c H locs cells slots Q (F0 m 935 ls []) := by
  obtain ⟨B, hXs, hbl, hbA, hq, hmm, hin, hce, hsl, hl⟩ := X
  have hx := B.1
  have hb := B.2.1
  refine lv_aload_n hx hb dLw_935 rfl (lv_at hl 1 rfl) ?_
  refine lv_aload_n hx hb dLw_936 rfl (lv_at hl 0 rfl) ?_
  refine lv_iload_n hx hb dLw_937 rfl (lv_at hl 3 rfl) ?_
  refine lv_iconst (v := 1) hx hb dLw_938 (by decide) ?_
  refine lv_iadd hx hb dLw_939 ?_
  refine va_sld hx hb hXs hbl hbA hR.2 (hin 1 (by decide) (by decide)) dLw_940 ?_
  refine r_callVG (As := [.int (xs (ix (x3 + 1)))]) (n := 1) (r := (some (.int r))) B hR (ci := 10) (C := RX10) (T := TX10) (N := 19) rfl wc_X10_withPages ml_LW_129 wi_X10_withPages we_X10_withPages ini_10 (by decide +kernel) (by decide) (hq.at0 rfl) rfl hl.1 (mX10_withPages fu 0 hq h1) ⟨Nat.le_of_ble_eq_true rfl, Nat.le_of_ble_eq_true rfl, hce, hsl⟩ (Nat.le_of_ble_eq_true rfl) dLw_941 (fun H locs hR => ?_)
  refine lv_aload_n hx hb dLw_944 rfl (lv_at hl 2 rfl) ?_
  refine lv_aload_n hx hb dLw_945 rfl (lv_at hl 0 rfl) ?_
  refine lv_iload_n hx hb dLw_946 rfl (lv_at hl 3 rfl) ?_
  refine lv_iconst (v := 1) hx hb dLw_947 (by decide) ?_
  refine lv_iadd hx hb dLw_948 ?_
  refine va_sld hx hb hXs hbl hbA hR.2 (hin 1 (by decide) (by decide)) dLw_949 ?_
  refine r_callVG (As := [.int (xs (ix (x3 + 1)))]) (n := 1) (r := (some (.int r))) B hR (ci := 11) (C := RX11) (T := TX11) (N := 52) rfl wc_X11_withPages ml_LW_132 wi_X11_withPages we_X11_withPages ini_11 (by decide +kernel) (by decide) (hmm.at0 rfl) rfl hl.1 (mX11_withPages fu 0 hmm h2) ⟨Nat.le_of_ble_eq_true rfl, Nat.le_of_ble_eq_true rfl, hce, hsl⟩ (Nat.le_of_ble_eq_true rfl) dLw_950 (fun H locs hR => ?_)
  exact lv_icmp_eq (x := r) (y := r) (tgt := 1511) hx hb dLw_953 (by decide) (fun _ => kk H locs hR) (fun c0 => absurd rfl c0)
set_option maxRecDepth 100000 in
set_option maxHeartbeats 4000000 in
theorem lw_c28 (X : Lx p s m args c E L b n qx qm xs x3 cells slots ls) (h1 : fX10_pagedPlan fu L qx (xs (ix (x3 + 1))) (xs (ix (x3 + 2))) M = some (r, M1)) (h2 : fX11_pagedPlan fu qm (xs (ix (x3 + 1))) (xs (ix (x3 + 2))) M1 = some (r, M2)) (hR : Rx s E L M H locs) (kk : ∀ (H1 : Heap) (locs1 : List Loc), Rx s E L M2 H1 locs1 → W p l e room_1 s m args below meth c H1 locs1 cells slots Q (F0 m 1511 ls [])) : W p l e room_1 s m args below meth c H locs cells slots Q (F0 m 958 ls []) := by
  obtain ⟨B, hXs, hbl, hbA, hq, hmm, hin, hce, hsl, hl⟩ := X
  have hx := B.1
  have hb := B.2.1
  refine lv_aload_n hx hb dLw_958 rfl (lv_at hl 1 rfl) ?_
  refine lv_aload_n hx hb dLw_959 rfl (lv_at hl 0 rfl) ?_
  refine lv_iload_n hx hb dLw_960 rfl (lv_at hl 3 rfl) ?_
  refine lv_iconst (v := 1) hx hb dLw_961 (by decide) ?_
  refine lv_iadd hx hb dLw_962 ?_
  refine va_sld hx hb hXs hbl hbA hR.2 (hin 1 (by decide) (by decide)) dLw_963 ?_
  refine lv_aload_n hx hb dLw_964 rfl (lv_at hl 0 rfl) ?_
  refine lv_iload_n hx hb dLw_965 rfl (lv_at hl 3 rfl) ?_
  refine lv_iconst (v := 2) hx hb dLw_966 (by decide) ?_
  refine lv_iadd hx hb dLw_967 ?_
  refine va_sld hx hb hXs hbl hbA hR.2 (hin 2 (by decide) (by decide)) dLw_968 ?_
  refine r_callVG (As := [.int (xs (ix (x3 + 1))), .int (xs (ix (x3 + 2)))]) (n := 2) (r := (some (.int r))) B hR (ci := 10) (C := RX10) (T := TX10) (N := 19) rfl wc_X10_pagedPlan ml_LW_133 wi_X10_pagedPlan we_X10_pagedPlan ini_10 (by decide +kernel) (by decide) (hq.at0 rfl) rfl hl.1 (mX10_pagedPlan fu 0 hq h1) ⟨Nat.le_of_ble_eq_true rfl, Nat.le_of_ble_eq_true rfl, hce, hsl⟩ (Nat.le_of_ble_eq_true rfl) dLw_969 (fun H locs hR => ?_)
  refine lv_aload_n hx hb dLw_972 rfl (lv_at hl 2 rfl) ?_
  refine lv_aload_n hx hb dLw_973 rfl (lv_at hl 0 rfl) ?_
  refine lv_iload_n hx hb dLw_974 rfl (lv_at hl 3 rfl) ?_
  refine lv_iconst (v := 1) hx hb dLw_975 (by decide) ?_
  refine lv_iadd hx hb dLw_976 ?_
  refine va_sld hx hb hXs hbl hbA hR.2 (hin 1 (by decide) (by decide)) dLw_977 ?_
  refine lv_aload_n hx hb dLw_978 rfl (lv_at hl 0 rfl) ?_
  refine lv_iload_n hx hb dLw_979 rfl (lv_at hl 3 rfl) ?_
  refine lv_iconst (v := 2) hx hb dLw_980 (by decide) ?_
  refine lv_iadd hx hb dLw_981 ?_
  refine va_sld hx hb hXs hbl hbA hR.2 (hin 2 (by decide) (by decide)) dLw_982 ?_
  refine r_callVG (As := [.int (xs (ix (x3 + 1))), .int (xs (ix (x3 + 2)))]) (n := 2) (r := (some (.int r))) B hR (ci := 11) (C := RX11) (T := TX11) (N := 52) rfl wc_X11_pagedPlan ml_LW_136 wi_X11_pagedPlan we_X11_pagedPlan ini_11 (by decide +kernel) (by decide) (hmm.at0 rfl) rfl hl.1 (mX11_pagedPlan fu 0 hmm h2) ⟨Nat.le_of_ble_eq_true rfl, Nat.le_of_ble_eq_true rfl, hce, hsl⟩ (Nat.le_of_ble_eq_true rfl) dLw_983 (fun H locs hR => ?_)
  exact lv_icmp_eq (x := r) (y := r) (tgt := 1511) hx hb dLw_986 (by decide) (fun _ => kk H locs hR) (fun c0 => absurd rfl c0)
set_option maxRecDepth 100000 in
set_option maxHeartbeats 4000000 in
theorem lw_c29 (X : Lx p s m args c E L b n qx qm xs x3 cells slots ls) (h1 : fX10_pageFor fu L qx (xs (ix (x3 + 1))) M = some (r, M1)) (h2 : fX11_pageFor fu qm (xs (ix (x3 + 1))) M1 = some (r, M2)) (hR : Rx s E L M H locs) (kk : ∀ (H1 : Heap) (locs1 : List Loc), Rx s E L M2 H1 locs1 → W p l e room_1 s m args below meth c H1 locs1 cells slots Q (F0 m 1511 ls [])) : W p l e room_1 s m args below meth c H locs cells slots Q (F0 m 991 ls []) := by
  obtain ⟨B, hXs, hbl, hbA, hq, hmm, hin, hce, hsl, hl⟩ := X
  have hx := B.1
  have hb := B.2.1
  refine lv_aload_n hx hb dLw_991 rfl (lv_at hl 1 rfl) ?_
  refine lv_aload_n hx hb dLw_992 rfl (lv_at hl 0 rfl) ?_
  refine lv_iload_n hx hb dLw_993 rfl (lv_at hl 3 rfl) ?_
  refine lv_iconst (v := 1) hx hb dLw_994 (by decide) ?_
  refine lv_iadd hx hb dLw_995 ?_
  refine va_sld hx hb hXs hbl hbA hR.2 (hin 1 (by decide) (by decide)) dLw_996 ?_
  refine r_callVG (As := [.int (xs (ix (x3 + 1)))]) (n := 1) (r := (some (.int r))) B hR (ci := 10) (C := RX10) (T := TX10) (N := 19) rfl wc_X10_pageFor ml_LW_137 wi_X10_pageFor we_X10_pageFor ini_10 (by decide +kernel) (by decide) (hq.at0 rfl) rfl hl.1 (mX10_pageFor fu 0 hq h1) ⟨Nat.le_of_ble_eq_true rfl, Nat.le_of_ble_eq_true rfl, hce, hsl⟩ (Nat.le_of_ble_eq_true rfl) dLw_997 (fun H locs hR => ?_)
  refine lv_aload_n hx hb dLw_1000 rfl (lv_at hl 2 rfl) ?_
  refine lv_aload_n hx hb dLw_1001 rfl (lv_at hl 0 rfl) ?_
  refine lv_iload_n hx hb dLw_1002 rfl (lv_at hl 3 rfl) ?_
  refine lv_iconst (v := 1) hx hb dLw_1003 (by decide) ?_
  refine lv_iadd hx hb dLw_1004 ?_
  refine va_sld hx hb hXs hbl hbA hR.2 (hin 1 (by decide) (by decide)) dLw_1005 ?_
  refine r_callVG (As := [.int (xs (ix (x3 + 1)))]) (n := 1) (r := (some (.int r))) B hR (ci := 11) (C := RX11) (T := TX11) (N := 52) rfl wc_X11_pageFor ml_LW_140 wi_X11_pageFor we_X11_pageFor ini_11 (by decide +kernel) (by decide) (hmm.at0 rfl) rfl hl.1 (mX11_pageFor fu 0 hmm h2) ⟨Nat.le_of_ble_eq_true rfl, Nat.le_of_ble_eq_true rfl, hce, hsl⟩ (Nat.le_of_ble_eq_true rfl) dLw_1006 (fun H locs hR => ?_)
  exact lv_icmp_eq (x := r) (y := r) (tgt := 1511) hx hb dLw_1009 (by decide) (fun _ => kk H locs hR) (fun c0 => absurd rfl c0)
set_option maxRecDepth 100000 in
set_option maxHeartbeats 4000000 in
theorem lw_c30 (X : Lx p s m args c E L b n qx qm xs x3 cells slots ls) (h1 : fX10_wrong fu qx (xs (ix (x3 + 1))) M = some (r, M1)) (h2 : fX11_wrong fu qm (xs (ix (x3 + 1))) M1 = some r) (hR : Rx s E L M H locs) (kk : ∀ (H1 : Heap) (locs1 : List Loc), Rx s E L M1 H1 locs1 → W p l e room_1 s m args below meth c H1 locs1 cells slots Q (F0 m 1511 ls [])) : W p l e room_1 s m args below meth c H locs cells slots Q (F0 m 1014 ls []) := by
  obtain ⟨B, hXs, hbl, hbA, hq, hmm, hin, hce, hsl, hl⟩ := X
  have hx := B.1
  have hb := B.2.1
  refine lv_aload_n hx hb dLw_1014 rfl (lv_at hl 1 rfl) ?_
  refine lv_aload_n hx hb dLw_1015 rfl (lv_at hl 0 rfl) ?_
  refine lv_iload_n hx hb dLw_1016 rfl (lv_at hl 3 rfl) ?_
  refine lv_iconst (v := 1) hx hb dLw_1017 (by decide) ?_
  refine lv_iadd hx hb dLw_1018 ?_
  refine va_sld hx hb hXs hbl hbA hR.2 (hin 1 (by decide) (by decide)) dLw_1019 ?_
  refine r_callVG (As := [.int (xs (ix (x3 + 1)))]) (n := 1) (r := (some (.int r))) B hR (ci := 10) (C := RX10) (T := TX10) (N := 19) rfl wc_X10_wrong ml_LW_141 wi_X10_wrong we_X10_wrong ini_10 (by decide +kernel) (by decide) (hq.at0 rfl) rfl hl.1 (mX10_wrong fu 0 hq h1) ⟨Nat.le_of_ble_eq_true rfl, Nat.le_of_ble_eq_true rfl, hce, hsl⟩ (Nat.le_of_ble_eq_true rfl) dLw_1020 (fun H locs hR => ?_)
  refine lv_aload_n hx hb dLw_1023 rfl (lv_at hl 2 rfl) ?_
  refine lv_aload_n hx hb dLw_1024 rfl (lv_at hl 0 rfl) ?_
  refine lv_iload_n hx hb dLw_1025 rfl (lv_at hl 3 rfl) ?_
  refine lv_iconst (v := 1) hx hb dLw_1026 (by decide) ?_
  refine lv_iadd hx hb dLw_1027 ?_
  refine va_sld hx hb hXs hbl hbA hR.2 (hin 1 (by decide) (by decide)) dLw_1028 ?_
  refine r_callVG (As := [.int (xs (ix (x3 + 1)))]) (n := 1) (r := (some (.int r))) B hR (ci := 11) (C := RX11) (T := TX11) (N := 52) rfl wc_X11_wrong ml_LW_144 wi_X11_wrong we_X11_wrong ini_11 (by decide +kernel) (by decide) (hmm.at0 rfl) rfl hl.1 (mX11_wrong fu 0 hmm h2) ⟨Nat.le_of_ble_eq_true rfl, Nat.le_of_ble_eq_true rfl, hce, hsl⟩ (Nat.le_of_ble_eq_true rfl) dLw_1029 (fun H locs hR => ?_)
  exact lv_icmp_eq (x := r) (y := r) (tgt := 1511) hx hb dLw_1032 (by decide) (fun _ => kk H locs hR) (fun c0 => absurd rfl c0)
set_option maxRecDepth 100000 in
set_option maxHeartbeats 4000000 in
theorem lw_c31 (X : Lx p s m args c E L b n qx qm xs x3 cells slots ls) (h1 : fX10_cost fu L qx (xs (ix (x3 + 1))) M = some (r, M1)) (h2 : fX11_cost fu qm (xs (ix (x3 + 1))) M1 = some (r, M2)) (hR : Rx s E L M H locs) (kk : ∀ (H1 : Heap) (locs1 : List Loc), Rx s E L M2 H1 locs1 → W p l e room_1 s m args below meth c H1 locs1 cells slots Q (F0 m 1511 ls [])) : W p l e room_1 s m args below meth c H locs cells slots Q (F0 m 1037 ls []) := by
  obtain ⟨B, hXs, hbl, hbA, hq, hmm, hin, hce, hsl, hl⟩ := X
  have hx := B.1
  have hb := B.2.1
  refine lv_aload_n hx hb dLw_1037 rfl (lv_at hl 1 rfl) ?_
  refine lv_aload_n hx hb dLw_1038 rfl (lv_at hl 0 rfl) ?_
  refine lv_iload_n hx hb dLw_1039 rfl (lv_at hl 3 rfl) ?_
  refine lv_iconst (v := 1) hx hb dLw_1040 (by decide) ?_
  refine lv_iadd hx hb dLw_1041 ?_
  refine va_sld hx hb hXs hbl hbA hR.2 (hin 1 (by decide) (by decide)) dLw_1042 ?_
  refine r_callVG (As := [.int (xs (ix (x3 + 1)))]) (n := 1) (r := (some (.int r))) B hR (ci := 10) (C := RX10) (T := TX10) (N := 19) rfl wc_X10_cost ml_LW_145 wi_X10_cost we_X10_cost ini_10 (by decide +kernel) (by decide) (hq.at0 rfl) rfl hl.1 (mX10_cost fu 0 hq h1) ⟨Nat.le_of_ble_eq_true rfl, Nat.le_of_ble_eq_true rfl, hce, hsl⟩ (Nat.le_of_ble_eq_true rfl) dLw_1043 (fun H locs hR => ?_)
  refine lv_aload_n hx hb dLw_1046 rfl (lv_at hl 2 rfl) ?_
  refine lv_aload_n hx hb dLw_1047 rfl (lv_at hl 0 rfl) ?_
  refine lv_iload_n hx hb dLw_1048 rfl (lv_at hl 3 rfl) ?_
  refine lv_iconst (v := 1) hx hb dLw_1049 (by decide) ?_
  refine lv_iadd hx hb dLw_1050 ?_
  refine va_sld hx hb hXs hbl hbA hR.2 (hin 1 (by decide) (by decide)) dLw_1051 ?_
  refine r_callVG (As := [.int (xs (ix (x3 + 1)))]) (n := 1) (r := (some (.int r))) B hR (ci := 11) (C := RX11) (T := TX11) (N := 52) rfl wc_X11_cost ml_LW_148 wi_X11_cost we_X11_cost ini_11 (by decide +kernel) (by decide) (hmm.at0 rfl) rfl hl.1 (mX11_cost fu 0 hmm h2) ⟨Nat.le_of_ble_eq_true rfl, Nat.le_of_ble_eq_true rfl, hce, hsl⟩ (Nat.le_of_ble_eq_true rfl) dLw_1052 (fun H locs hR => ?_)
  exact lv_icmp_eq (x := r) (y := r) (tgt := 1511) hx hb dLw_1055 (by decide) (fun _ => kk H locs hR) (fun c0 => absurd rfl c0)
set_option maxRecDepth 100000 in
set_option maxHeartbeats 4000000 in
theorem lw_c32 (X : Lx p s m args c E L b n qx qm xs x3 cells slots ls) (h1 : fX10_plan fu L qx (xs (ix (x3 + 1))) (xs (ix (x3 + 2))) M = some (r, M1)) (h2 : fX11_plan fu qm (xs (ix (x3 + 1))) (xs (ix (x3 + 2))) M1 = some (r, M2)) (hR : Rx s E L M H locs) (kk : ∀ (H1 : Heap) (locs1 : List Loc), Rx s E L M2 H1 locs1 → W p l e room_1 s m args below meth c H1 locs1 cells slots Q (F0 m 1511 ls [])) : W p l e room_1 s m args below meth c H locs cells slots Q (F0 m 1060 ls []) := by
  obtain ⟨B, hXs, hbl, hbA, hq, hmm, hin, hce, hsl, hl⟩ := X
  have hx := B.1
  have hb := B.2.1
  refine lv_aload_n hx hb dLw_1060 rfl (lv_at hl 1 rfl) ?_
  refine lv_aload_n hx hb dLw_1061 rfl (lv_at hl 0 rfl) ?_
  refine lv_iload_n hx hb dLw_1062 rfl (lv_at hl 3 rfl) ?_
  refine lv_iconst (v := 1) hx hb dLw_1063 (by decide) ?_
  refine lv_iadd hx hb dLw_1064 ?_
  refine va_sld hx hb hXs hbl hbA hR.2 (hin 1 (by decide) (by decide)) dLw_1065 ?_
  refine lv_aload_n hx hb dLw_1066 rfl (lv_at hl 0 rfl) ?_
  refine lv_iload_n hx hb dLw_1067 rfl (lv_at hl 3 rfl) ?_
  refine lv_iconst (v := 2) hx hb dLw_1068 (by decide) ?_
  refine lv_iadd hx hb dLw_1069 ?_
  refine va_sld hx hb hXs hbl hbA hR.2 (hin 2 (by decide) (by decide)) dLw_1070 ?_
  refine r_callVG (As := [.int (xs (ix (x3 + 1))), .int (xs (ix (x3 + 2)))]) (n := 2) (r := (some (.int r))) B hR (ci := 10) (C := RX10) (T := TX10) (N := 19) rfl wc_X10_plan ml_LW_149 wi_X10_plan we_X10_plan ini_10 (by decide +kernel) (by decide) (hq.at0 rfl) rfl hl.1 (mX10_plan fu 0 hq h1) ⟨Nat.le_of_ble_eq_true rfl, Nat.le_of_ble_eq_true rfl, hce, hsl⟩ (Nat.le_of_ble_eq_true rfl) dLw_1071 (fun H locs hR => ?_)
  refine lv_aload_n hx hb dLw_1074 rfl (lv_at hl 2 rfl) ?_
  refine lv_aload_n hx hb dLw_1075 rfl (lv_at hl 0 rfl) ?_
  refine lv_iload_n hx hb dLw_1076 rfl (lv_at hl 3 rfl) ?_
  refine lv_iconst (v := 1) hx hb dLw_1077 (by decide) ?_
  refine lv_iadd hx hb dLw_1078 ?_
  refine va_sld hx hb hXs hbl hbA hR.2 (hin 1 (by decide) (by decide)) dLw_1079 ?_
  refine lv_aload_n hx hb dLw_1080 rfl (lv_at hl 0 rfl) ?_
  refine lv_iload_n hx hb dLw_1081 rfl (lv_at hl 3 rfl) ?_
  refine lv_iconst (v := 2) hx hb dLw_1082 (by decide) ?_
  refine lv_iadd hx hb dLw_1083 ?_
  refine va_sld hx hb hXs hbl hbA hR.2 (hin 2 (by decide) (by decide)) dLw_1084 ?_
  refine r_callVG (As := [.int (xs (ix (x3 + 1))), .int (xs (ix (x3 + 2)))]) (n := 2) (r := (some (.int r))) B hR (ci := 11) (C := RX11) (T := TX11) (N := 52) rfl wc_X11_plan ml_LW_152 wi_X11_plan we_X11_plan ini_11 (by decide +kernel) (by decide) (hmm.at0 rfl) rfl hl.1 (mX11_plan fu 0 hmm h2) ⟨Nat.le_of_ble_eq_true rfl, Nat.le_of_ble_eq_true rfl, hce, hsl⟩ (Nat.le_of_ble_eq_true rfl) dLw_1085 (fun H locs hR => ?_)
  exact lv_icmp_eq (x := r) (y := r) (tgt := 1511) hx hb dLw_1088 (by decide) (fun _ => kk H locs hR) (fun c0 => absurd rfl c0)
set_option maxRecDepth 100000 in
set_option maxHeartbeats 4000000 in
theorem lw_c33 (X : Lx p s m args c E L b n qx qm xs x3 cells slots ls) (h1 : fX10_byDefault fu qx (xs (ix (x3 + 1))) M = some (r, M1)) (h2 : fX11_byDefault fu qm (xs (ix (x3 + 1))) M1 = some (r, M2)) (hR : Rx s E L M H locs) (kk : ∀ (H1 : Heap) (locs1 : List Loc), Rx s E L M2 H1 locs1 → W p l e room_1 s m args below meth c H1 locs1 cells slots Q (F0 m 1511 ls [])) : W p l e room_1 s m args below meth c H locs cells slots Q (F0 m 1093 ls []) := by
  obtain ⟨B, hXs, hbl, hbA, hq, hmm, hin, hce, hsl, hl⟩ := X
  have hx := B.1
  have hb := B.2.1
  refine lv_aload_n hx hb dLw_1093 rfl (lv_at hl 1 rfl) ?_
  refine lv_aload_n hx hb dLw_1094 rfl (lv_at hl 0 rfl) ?_
  refine lv_iload_n hx hb dLw_1095 rfl (lv_at hl 3 rfl) ?_
  refine lv_iconst (v := 1) hx hb dLw_1096 (by decide) ?_
  refine lv_iadd hx hb dLw_1097 ?_
  refine va_sld hx hb hXs hbl hbA hR.2 (hin 1 (by decide) (by decide)) dLw_1098 ?_
  refine r_callVG (As := [.int (xs (ix (x3 + 1)))]) (n := 1) (r := (some (.int r))) B hR (ci := 10) (C := RX10) (T := TX10) (N := 19) rfl wc_X10_byDefault ml_LW_153 wi_X10_byDefault we_X10_byDefault ini_10 (by decide +kernel) (by decide) (hq.at0 rfl) rfl hl.1 (mX10_byDefault fu 0 hq h1) ⟨Nat.le_of_ble_eq_true rfl, Nat.le_of_ble_eq_true rfl, hce, hsl⟩ (Nat.le_of_ble_eq_true rfl) dLw_1099 (fun H locs hR => ?_)
  refine lv_aload_n hx hb dLw_1102 rfl (lv_at hl 2 rfl) ?_
  refine lv_aload_n hx hb dLw_1103 rfl (lv_at hl 0 rfl) ?_
  refine lv_iload_n hx hb dLw_1104 rfl (lv_at hl 3 rfl) ?_
  refine lv_iconst (v := 1) hx hb dLw_1105 (by decide) ?_
  refine lv_iadd hx hb dLw_1106 ?_
  refine va_sld hx hb hXs hbl hbA hR.2 (hin 1 (by decide) (by decide)) dLw_1107 ?_
  refine r_callVG (As := [.int (xs (ix (x3 + 1)))]) (n := 1) (r := (some (.int r))) B hR (ci := 11) (C := RX11) (T := TX11) (N := 52) rfl wc_X11_byDefault ml_LW_156 wi_X11_byDefault we_X11_byDefault ini_11 (by decide +kernel) (by decide) (hmm.at0 rfl) rfl hl.1 (mX11_byDefault fu 0 hmm h2) ⟨Nat.le_of_ble_eq_true rfl, Nat.le_of_ble_eq_true rfl, hce, hsl⟩ (Nat.le_of_ble_eq_true rfl) dLw_1108 (fun H locs hR => ?_)
  exact lv_icmp_eq (x := r) (y := r) (tgt := 1511) hx hb dLw_1111 (by decide) (fun _ => kk H locs hR) (fun c0 => absurd rfl c0)
set_option maxRecDepth 100000 in
set_option maxHeartbeats 4000000 in
theorem lw_c34 (X : Lx p s m args c E L b n qx qm xs x3 cells slots ls) (h1 : fX10_bestDefault fu qx M = some (r, M1)) (h2 : fX11_bestDefault fu qm M1 = some (r, M2)) (hR : Rx s E L M H locs) (kk : ∀ (H1 : Heap) (locs1 : List Loc), Rx s E L M2 H1 locs1 → W p l e room_1 s m args below meth c H1 locs1 cells slots Q (F0 m 1511 ls [])) : W p l e room_1 s m args below meth c H locs cells slots Q (F0 m 1116 ls []) := by
  obtain ⟨B, hXs, hbl, hbA, hq, hmm, hin, hce, hsl, hl⟩ := X
  have hx := B.1
  have hb := B.2.1
  refine lv_aload_n hx hb dLw_1116 rfl (lv_at hl 1 rfl) ?_
  refine r_callVG (As := []) (n := 0) (r := (some (.int r))) B hR (ci := 10) (C := RX10) (T := TX10) (N := 19) rfl wc_X10_bestDefault ml_LW_157 wi_X10_bestDefault we_X10_bestDefault ini_10 (by decide +kernel) (by decide) (hq.at0 rfl) rfl hl.1 (mX10_bestDefault fu 0 hq h1) ⟨Nat.le_of_ble_eq_true rfl, Nat.le_of_ble_eq_true rfl, hce, hsl⟩ (Nat.le_of_ble_eq_true rfl) dLw_1117 (fun H locs hR => ?_)
  refine lv_aload_n hx hb dLw_1120 rfl (lv_at hl 2 rfl) ?_
  refine r_callVG (As := []) (n := 0) (r := (some (.int r))) B hR (ci := 11) (C := RX11) (T := TX11) (N := 52) rfl wc_X11_bestDefault ml_LW_160 wi_X11_bestDefault we_X11_bestDefault ini_11 (by decide +kernel) (by decide) (hmm.at0 rfl) rfl hl.1 (mX11_bestDefault fu 0 hmm h2) ⟨Nat.le_of_ble_eq_true rfl, Nat.le_of_ble_eq_true rfl, hce, hsl⟩ (Nat.le_of_ble_eq_true rfl) dLw_1121 (fun H locs hR => ?_)
  exact lv_icmp_eq (x := r) (y := r) (tgt := 1511) hx hb dLw_1124 (by decide) (fun _ => kk H locs hR) (fun c0 => absurd rfl c0)
set_option maxRecDepth 100000 in
set_option maxHeartbeats 4000000 in
theorem lw_c37 (X : Lx p s m args c E L b n qx qm xs x3 cells slots ls) (h1 : fX10_idle fu qx (xs (ix (x3 + 1))) M = some (r, M1)) (h2 : fX11_idle fu qm (xs (ix (x3 + 1))) M1 = some r) (hR : Rx s E L M H locs) (kk : ∀ (H1 : Heap) (locs1 : List Loc), Rx s E L M1 H1 locs1 → W p l e room_1 s m args below meth c H1 locs1 cells slots Q (F0 m 1511 ls [])) : W p l e room_1 s m args below meth c H locs cells slots Q (F0 m 1195 ls []) := by
  obtain ⟨B, hXs, hbl, hbA, hq, hmm, hin, hce, hsl, hl⟩ := X
  have hx := B.1
  have hb := B.2.1
  refine lv_aload_n hx hb dLw_1195 rfl (lv_at hl 1 rfl) ?_
  refine lv_aload_n hx hb dLw_1196 rfl (lv_at hl 0 rfl) ?_
  refine lv_iload_n hx hb dLw_1197 rfl (lv_at hl 3 rfl) ?_
  refine lv_iconst (v := 1) hx hb dLw_1198 (by decide) ?_
  refine lv_iadd hx hb dLw_1199 ?_
  refine va_sld hx hb hXs hbl hbA hR.2 (hin 1 (by decide) (by decide)) dLw_1200 ?_
  refine r_callVG (As := [.int (xs (ix (x3 + 1)))]) (n := 1) (r := (some (.int r))) B hR (ci := 10) (C := RX10) (T := TX10) (N := 19) rfl wc_X10_idle ml_LW_169 wi_X10_idle we_X10_idle ini_10 (by decide +kernel) (by decide) (hq.at0 rfl) rfl hl.1 (mX10_idle fu 0 hq h1) ⟨Nat.le_of_ble_eq_true rfl, Nat.le_of_ble_eq_true rfl, hce, hsl⟩ (Nat.le_of_ble_eq_true rfl) dLw_1201 (fun H locs hR => ?_)
  refine lv_aload_n hx hb dLw_1204 rfl (lv_at hl 2 rfl) ?_
  refine lv_aload_n hx hb dLw_1205 rfl (lv_at hl 0 rfl) ?_
  refine lv_iload_n hx hb dLw_1206 rfl (lv_at hl 3 rfl) ?_
  refine lv_iconst (v := 1) hx hb dLw_1207 (by decide) ?_
  refine lv_iadd hx hb dLw_1208 ?_
  refine va_sld hx hb hXs hbl hbA hR.2 (hin 1 (by decide) (by decide)) dLw_1209 ?_
  refine r_callVG (As := [.int (xs (ix (x3 + 1)))]) (n := 1) (r := (some (.int r))) B hR (ci := 11) (C := RX11) (T := TX11) (N := 52) rfl wc_X11_idle ml_LW_172 wi_X11_idle we_X11_idle ini_11 (by decide +kernel) (by decide) (hmm.at0 rfl) rfl hl.1 (mX11_idle fu 0 hmm h2) ⟨Nat.le_of_ble_eq_true rfl, Nat.le_of_ble_eq_true rfl, hce, hsl⟩ (Nat.le_of_ble_eq_true rfl) dLw_1210 (fun H locs hR => ?_)
  exact lv_icmp_eq (x := r) (y := r) (tgt := 1511) hx hb dLw_1213 (by decide) (fun _ => kk H locs hR) (fun c0 => absurd rfl c0)
set_option maxRecDepth 100000 in
set_option maxHeartbeats 4000000 in
theorem lw_c38 (X : Lx p s m args c E L b n qx qm xs x3 cells slots ls) (h1 : fX10_without fu qx (xs (ix (x3 + 1))) M = some (r, M1)) (h2 : fX11_without fu qm (xs (ix (x3 + 1))) M1 = some r) (hR : Rx s E L M H locs) (kk : ∀ (H1 : Heap) (locs1 : List Loc), Rx s E L M1 H1 locs1 → W p l e room_1 s m args below meth c H1 locs1 cells slots Q (F0 m 1511 ls [])) : W p l e room_1 s m args below meth c H locs cells slots Q (F0 m 1218 ls []) := by
  obtain ⟨B, hXs, hbl, hbA, hq, hmm, hin, hce, hsl, hl⟩ := X
  have hx := B.1
  have hb := B.2.1
  refine lv_aload_n hx hb dLw_1218 rfl (lv_at hl 1 rfl) ?_
  refine lv_aload_n hx hb dLw_1219 rfl (lv_at hl 0 rfl) ?_
  refine lv_iload_n hx hb dLw_1220 rfl (lv_at hl 3 rfl) ?_
  refine lv_iconst (v := 1) hx hb dLw_1221 (by decide) ?_
  refine lv_iadd hx hb dLw_1222 ?_
  refine va_sld hx hb hXs hbl hbA hR.2 (hin 1 (by decide) (by decide)) dLw_1223 ?_
  refine r_callVG (As := [.int (xs (ix (x3 + 1)))]) (n := 1) (r := (some (.int r))) B hR (ci := 10) (C := RX10) (T := TX10) (N := 19) rfl wc_X10_without ml_LW_173 wi_X10_without we_X10_without ini_10 (by decide +kernel) (by decide) (hq.at0 rfl) rfl hl.1 (mX10_without fu 0 hq h1) ⟨Nat.le_of_ble_eq_true rfl, Nat.le_of_ble_eq_true rfl, hce, hsl⟩ (Nat.le_of_ble_eq_true rfl) dLw_1224 (fun H locs hR => ?_)
  refine lv_aload_n hx hb dLw_1227 rfl (lv_at hl 2 rfl) ?_
  refine lv_aload_n hx hb dLw_1228 rfl (lv_at hl 0 rfl) ?_
  refine lv_iload_n hx hb dLw_1229 rfl (lv_at hl 3 rfl) ?_
  refine lv_iconst (v := 1) hx hb dLw_1230 (by decide) ?_
  refine lv_iadd hx hb dLw_1231 ?_
  refine va_sld hx hb hXs hbl hbA hR.2 (hin 1 (by decide) (by decide)) dLw_1232 ?_
  refine r_callVG (As := [.int (xs (ix (x3 + 1)))]) (n := 1) (r := (some (.int r))) B hR (ci := 11) (C := RX11) (T := TX11) (N := 52) rfl wc_X11_without ml_LW_176 wi_X11_without we_X11_without ini_11 (by decide +kernel) (by decide) (hmm.at0 rfl) rfl hl.1 (mX11_without fu 0 hmm h2) ⟨Nat.le_of_ble_eq_true rfl, Nat.le_of_ble_eq_true rfl, hce, hsl⟩ (Nat.le_of_ble_eq_true rfl) dLw_1233 (fun H locs hR => ?_)
  exact lv_icmp_eq (x := r) (y := r) (tgt := 1511) hx hb dLw_1236 (by decide) (fun _ => kk H locs hR) (fun c0 => absurd rfl c0)
set_option maxRecDepth 100000 in
set_option maxHeartbeats 4000000 in
theorem lw_c39 (X : Lx p s m args c E L b n qx qm xs x3 cells slots ls) (h1 : fX10_besides fu qx (xs (ix (x3 + 1))) (xs (ix (x3 + 2))) (xs (ix (x3 + 3))) M = some (r, M1)) (h2 : fX11_besides fu qm (xs (ix (x3 + 1))) (xs (ix (x3 + 2))) (xs (ix (x3 + 3))) M1 = some r) (hR : Rx s E L M H locs) (kk : ∀ (H1 : Heap) (locs1 : List Loc), Rx s E L M1 H1 locs1 → W p l e room_1 s m args below meth c H1 locs1 cells slots Q (F0 m 1511 ls [])) : W p l e room_1 s m args below meth c H locs cells slots Q (F0 m 1241 ls []) := by
  obtain ⟨B, hXs, hbl, hbA, hq, hmm, hin, hce, hsl, hl⟩ := X
  have hx := B.1
  have hb := B.2.1
  refine lv_aload_n hx hb dLw_1241 rfl (lv_at hl 1 rfl) ?_
  refine lv_aload_n hx hb dLw_1242 rfl (lv_at hl 0 rfl) ?_
  refine lv_iload_n hx hb dLw_1243 rfl (lv_at hl 3 rfl) ?_
  refine lv_iconst (v := 1) hx hb dLw_1244 (by decide) ?_
  refine lv_iadd hx hb dLw_1245 ?_
  refine va_sld hx hb hXs hbl hbA hR.2 (hin 1 (by decide) (by decide)) dLw_1246 ?_
  refine lv_aload_n hx hb dLw_1247 rfl (lv_at hl 0 rfl) ?_
  refine lv_iload_n hx hb dLw_1248 rfl (lv_at hl 3 rfl) ?_
  refine lv_iconst (v := 2) hx hb dLw_1249 (by decide) ?_
  refine lv_iadd hx hb dLw_1250 ?_
  refine va_sld hx hb hXs hbl hbA hR.2 (hin 2 (by decide) (by decide)) dLw_1251 ?_
  refine lv_aload_n hx hb dLw_1252 rfl (lv_at hl 0 rfl) ?_
  refine lv_iload_n hx hb dLw_1253 rfl (lv_at hl 3 rfl) ?_
  refine lv_iconst (v := 3) hx hb dLw_1254 (by decide) ?_
  refine lv_iadd hx hb dLw_1255 ?_
  refine va_sld hx hb hXs hbl hbA hR.2 (hin 3 (by decide) (by decide)) dLw_1256 ?_
  refine r_callVG (As := [.int (xs (ix (x3 + 1))), .int (xs (ix (x3 + 2))), .int (xs (ix (x3 + 3)))]) (n := 3) (r := (some (.int r))) B hR (ci := 10) (C := RX10) (T := TX10) (N := 19) rfl wc_X10_besides ml_LW_177 wi_X10_besides we_X10_besides ini_10 (by decide +kernel) (by decide) (hq.at0 rfl) rfl hl.1 (mX10_besides fu 0 hq h1) ⟨Nat.le_of_ble_eq_true rfl, Nat.le_of_ble_eq_true rfl, hce, hsl⟩ (Nat.le_of_ble_eq_true rfl) dLw_1257 (fun H locs hR => ?_)
  refine lv_aload_n hx hb dLw_1260 rfl (lv_at hl 2 rfl) ?_
  refine lv_aload_n hx hb dLw_1261 rfl (lv_at hl 0 rfl) ?_
  refine lv_iload_n hx hb dLw_1262 rfl (lv_at hl 3 rfl) ?_
  refine lv_iconst (v := 1) hx hb dLw_1263 (by decide) ?_
  refine lv_iadd hx hb dLw_1264 ?_
  refine va_sld hx hb hXs hbl hbA hR.2 (hin 1 (by decide) (by decide)) dLw_1265 ?_
  refine lv_aload_n hx hb dLw_1266 rfl (lv_at hl 0 rfl) ?_
  refine lv_iload_n hx hb dLw_1267 rfl (lv_at hl 3 rfl) ?_
  refine lv_iconst (v := 2) hx hb dLw_1268 (by decide) ?_
  refine lv_iadd hx hb dLw_1269 ?_
  refine va_sld hx hb hXs hbl hbA hR.2 (hin 2 (by decide) (by decide)) dLw_1270 ?_
  refine lv_aload_n hx hb dLw_1271 rfl (lv_at hl 0 rfl) ?_
  refine lv_iload_n hx hb dLw_1272 rfl (lv_at hl 3 rfl) ?_
  refine lv_iconst (v := 3) hx hb dLw_1273 (by decide) ?_
  refine lv_iadd hx hb dLw_1274 ?_
  refine va_sld hx hb hXs hbl hbA hR.2 (hin 3 (by decide) (by decide)) dLw_1275 ?_
  refine r_callVG (As := [.int (xs (ix (x3 + 1))), .int (xs (ix (x3 + 2))), .int (xs (ix (x3 + 3)))]) (n := 3) (r := (some (.int r))) B hR (ci := 11) (C := RX11) (T := TX11) (N := 52) rfl wc_X11_besides ml_LW_180 wi_X11_besides we_X11_besides ini_11 (by decide +kernel) (by decide) (hmm.at0 rfl) rfl hl.1 (mX11_besides fu 0 hmm h2) ⟨Nat.le_of_ble_eq_true rfl, Nat.le_of_ble_eq_true rfl, hce, hsl⟩ (Nat.le_of_ble_eq_true rfl) dLw_1276 (fun H locs hR => ?_)
  exact lv_icmp_eq (x := r) (y := r) (tgt := 1511) hx hb dLw_1279 (by decide) (fun _ => kk H locs hR) (fun c0 => absurd rfl c0)
set_option maxRecDepth 100000 in
set_option maxHeartbeats 4000000 in
theorem lw_c40 (X : Lx p s m args c E L b n qx qm xs x3 cells slots ls) (h1 : fX10_change fu L qx (xs (ix (x3 + 1))) M = some (r, M1)) (h2 : fX11_change fu qm (xs (ix (x3 + 1))) M1 = some (r, M2)) (hR : Rx s E L M H locs) (kk : ∀ (H1 : Heap) (locs1 : List Loc), Rx s E L M2 H1 locs1 → W p l e room_1 s m args below meth c H1 locs1 cells slots Q (F0 m 1511 ls [])) : W p l e room_1 s m args below meth c H locs cells slots Q (F0 m 1284 ls []) := by
  obtain ⟨B, hXs, hbl, hbA, hq, hmm, hin, hce, hsl, hl⟩ := X
  have hx := B.1
  have hb := B.2.1
  refine lv_aload_n hx hb dLw_1284 rfl (lv_at hl 1 rfl) ?_
  refine lv_aload_n hx hb dLw_1285 rfl (lv_at hl 0 rfl) ?_
  refine lv_iload_n hx hb dLw_1286 rfl (lv_at hl 3 rfl) ?_
  refine lv_iconst (v := 1) hx hb dLw_1287 (by decide) ?_
  refine lv_iadd hx hb dLw_1288 ?_
  refine va_sld hx hb hXs hbl hbA hR.2 (hin 1 (by decide) (by decide)) dLw_1289 ?_
  refine r_callVG (As := [.int (xs (ix (x3 + 1)))]) (n := 1) (r := (some (.int r))) B hR (ci := 10) (C := RX10) (T := TX10) (N := 19) rfl wc_X10_change ml_LW_181 wi_X10_change we_X10_change ini_10 (by decide +kernel) (by decide) (hq.at0 rfl) rfl hl.1 (mX10_change fu 0 hq h1) ⟨Nat.le_of_ble_eq_true rfl, Nat.le_of_ble_eq_true rfl, hce, hsl⟩ (Nat.le_of_ble_eq_true rfl) dLw_1290 (fun H locs hR => ?_)
  refine lv_aload_n hx hb dLw_1293 rfl (lv_at hl 2 rfl) ?_
  refine lv_aload_n hx hb dLw_1294 rfl (lv_at hl 0 rfl) ?_
  refine lv_iload_n hx hb dLw_1295 rfl (lv_at hl 3 rfl) ?_
  refine lv_iconst (v := 1) hx hb dLw_1296 (by decide) ?_
  refine lv_iadd hx hb dLw_1297 ?_
  refine va_sld hx hb hXs hbl hbA hR.2 (hin 1 (by decide) (by decide)) dLw_1298 ?_
  refine r_callVG (As := [.int (xs (ix (x3 + 1)))]) (n := 1) (r := (some (.int r))) B hR (ci := 11) (C := RX11) (T := TX11) (N := 52) rfl wc_X11_change ml_LW_184 wi_X11_change we_X11_change ini_11 (by decide +kernel) (by decide) (hmm.at0 rfl) rfl hl.1 (mX11_change fu 0 hmm h2) ⟨Nat.le_of_ble_eq_true rfl, Nat.le_of_ble_eq_true rfl, hce, hsl⟩ (Nat.le_of_ble_eq_true rfl) dLw_1299 (fun H locs hR => ?_)
  exact lv_icmp_eq (x := r) (y := r) (tgt := 1511) hx hb dLw_1302 (by decide) (fun _ => kk H locs hR) (fun c0 => absurd rfl c0)
set_option maxRecDepth 100000 in
set_option maxHeartbeats 4000000 in
theorem lw_c41 (X : Lx p s m args c E L b n qx qm xs x3 cells slots ls) (h1 : fX10_order fu L qx (xs (ix (x3 + 1))) M = some (r, M1)) (h2 : fX11_order fu qm (xs (ix (x3 + 1))) M1 = some (r, M2)) (hR : Rx s E L M H locs) (kk : ∀ (H1 : Heap) (locs1 : List Loc), Rx s E L M2 H1 locs1 → W p l e room_1 s m args below meth c H1 locs1 cells slots Q (F0 m 1511 ls [])) : W p l e room_1 s m args below meth c H locs cells slots Q (F0 m 1307 ls []) := by
  obtain ⟨B, hXs, hbl, hbA, hq, hmm, hin, hce, hsl, hl⟩ := X
  have hx := B.1
  have hb := B.2.1
  refine lv_aload_n hx hb dLw_1307 rfl (lv_at hl 1 rfl) ?_
  refine lv_aload_n hx hb dLw_1308 rfl (lv_at hl 0 rfl) ?_
  refine lv_iload_n hx hb dLw_1309 rfl (lv_at hl 3 rfl) ?_
  refine lv_iconst (v := 1) hx hb dLw_1310 (by decide) ?_
  refine lv_iadd hx hb dLw_1311 ?_
  refine va_sld hx hb hXs hbl hbA hR.2 (hin 1 (by decide) (by decide)) dLw_1312 ?_
  refine r_callVG (As := [.int (xs (ix (x3 + 1)))]) (n := 1) (r := (some (.int r))) B hR (ci := 10) (C := RX10) (T := TX10) (N := 19) rfl wc_X10_order ml_LW_185 wi_X10_order we_X10_order ini_10 (by decide +kernel) (by decide) (hq.at0 rfl) rfl hl.1 (mX10_order fu 0 hq h1) ⟨Nat.le_of_ble_eq_true rfl, Nat.le_of_ble_eq_true rfl, hce, hsl⟩ (Nat.le_of_ble_eq_true rfl) dLw_1313 (fun H locs hR => ?_)
  refine lv_aload_n hx hb dLw_1316 rfl (lv_at hl 2 rfl) ?_
  refine lv_aload_n hx hb dLw_1317 rfl (lv_at hl 0 rfl) ?_
  refine lv_iload_n hx hb dLw_1318 rfl (lv_at hl 3 rfl) ?_
  refine lv_iconst (v := 1) hx hb dLw_1319 (by decide) ?_
  refine lv_iadd hx hb dLw_1320 ?_
  refine va_sld hx hb hXs hbl hbA hR.2 (hin 1 (by decide) (by decide)) dLw_1321 ?_
  refine r_callVG (As := [.int (xs (ix (x3 + 1)))]) (n := 1) (r := (some (.int r))) B hR (ci := 11) (C := RX11) (T := TX11) (N := 52) rfl wc_X11_order ml_LW_188 wi_X11_order we_X11_order ini_11 (by decide +kernel) (by decide) (hmm.at0 rfl) rfl hl.1 (mX11_order fu 0 hmm h2) ⟨Nat.le_of_ble_eq_true rfl, Nat.le_of_ble_eq_true rfl, hce, hsl⟩ (Nat.le_of_ble_eq_true rfl) dLw_1322 (fun H locs hR => ?_)
  exact lv_icmp_eq (x := r) (y := r) (tgt := 1511) hx hb dLw_1325 (by decide) (fun _ => kk H locs hR) (fun c0 => absurd rfl c0)
set_option maxRecDepth 100000 in
set_option maxHeartbeats 4000000 in
theorem lw_c42 (X : Lx p s m args c E L b n qx qm xs x3 cells slots ls) (h1 : fX10_stir fu L qx (xs (ix (x3 + 1))) M = some (r, M1)) (h2 : fX11_stir fu qm (xs (ix (x3 + 1))) M1 = some (r, M2)) (hR : Rx s E L M H locs) (kk : ∀ (H1 : Heap) (locs1 : List Loc), Rx s E L M2 H1 locs1 → W p l e room_1 s m args below meth c H1 locs1 cells slots Q (F0 m 1511 ls [])) : W p l e room_1 s m args below meth c H locs cells slots Q (F0 m 1330 ls []) := by
  obtain ⟨B, hXs, hbl, hbA, hq, hmm, hin, hce, hsl, hl⟩ := X
  have hx := B.1
  have hb := B.2.1
  refine lv_aload_n hx hb dLw_1330 rfl (lv_at hl 1 rfl) ?_
  refine lv_aload_n hx hb dLw_1331 rfl (lv_at hl 0 rfl) ?_
  refine lv_iload_n hx hb dLw_1332 rfl (lv_at hl 3 rfl) ?_
  refine lv_iconst (v := 1) hx hb dLw_1333 (by decide) ?_
  refine lv_iadd hx hb dLw_1334 ?_
  refine va_sld hx hb hXs hbl hbA hR.2 (hin 1 (by decide) (by decide)) dLw_1335 ?_
  refine r_callVG (As := [.int (xs (ix (x3 + 1)))]) (n := 1) (r := (some (.int r))) B hR (ci := 10) (C := RX10) (T := TX10) (N := 19) rfl wc_X10_stir ml_LW_189 wi_X10_stir we_X10_stir ini_10 (by decide +kernel) (by decide) (hq.at0 rfl) rfl hl.1 (mX10_stir fu 0 hq h1) ⟨Nat.le_of_ble_eq_true rfl, Nat.le_of_ble_eq_true rfl, hce, hsl⟩ (Nat.le_of_ble_eq_true rfl) dLw_1336 (fun H locs hR => ?_)
  refine lv_aload_n hx hb dLw_1339 rfl (lv_at hl 2 rfl) ?_
  refine lv_aload_n hx hb dLw_1340 rfl (lv_at hl 0 rfl) ?_
  refine lv_iload_n hx hb dLw_1341 rfl (lv_at hl 3 rfl) ?_
  refine lv_iconst (v := 1) hx hb dLw_1342 (by decide) ?_
  refine lv_iadd hx hb dLw_1343 ?_
  refine va_sld hx hb hXs hbl hbA hR.2 (hin 1 (by decide) (by decide)) dLw_1344 ?_
  refine r_callVG (As := [.int (xs (ix (x3 + 1)))]) (n := 1) (r := (some (.int r))) B hR (ci := 11) (C := RX11) (T := TX11) (N := 52) rfl wc_X11_stir ml_LW_192 wi_X11_stir we_X11_stir ini_11 (by decide +kernel) (by decide) (hmm.at0 rfl) rfl hl.1 (mX11_stir fu 0 hmm h2) ⟨Nat.le_of_ble_eq_true rfl, Nat.le_of_ble_eq_true rfl, hce, hsl⟩ (Nat.le_of_ble_eq_true rfl) dLw_1345 (fun H locs hR => ?_)
  exact lv_icmp_eq (x := r) (y := r) (tgt := 1511) hx hb dLw_1348 (by decide) (fun _ => kk H locs hR) (fun c0 => absurd rfl c0)
set_option maxRecDepth 100000 in
set_option maxHeartbeats 4000000 in
theorem lw_c43 (X : Lx p s m args c E L b n qx qm xs x3 cells slots ls) (h1 : fX10_block fu qx (xs (ix (x3 + 1))) (xs (ix (x3 + 2))) M = some (r, M1)) (h2 : fX11_block fu qm (xs (ix (x3 + 1))) (xs (ix (x3 + 2))) M1 = some r) (hR : Rx s E L M H locs) (kk : ∀ (H1 : Heap) (locs1 : List Loc), Rx s E L M1 H1 locs1 → W p l e room_1 s m args below meth c H1 locs1 cells slots Q (F0 m 1511 ls [])) : W p l e room_1 s m args below meth c H locs cells slots Q (F0 m 1353 ls []) := by
  obtain ⟨B, hXs, hbl, hbA, hq, hmm, hin, hce, hsl, hl⟩ := X
  have hx := B.1
  have hb := B.2.1
  refine lv_aload_n hx hb dLw_1353 rfl (lv_at hl 1 rfl) ?_
  refine lv_aload_n hx hb dLw_1354 rfl (lv_at hl 0 rfl) ?_
  refine lv_iload_n hx hb dLw_1355 rfl (lv_at hl 3 rfl) ?_
  refine lv_iconst (v := 1) hx hb dLw_1356 (by decide) ?_
  refine lv_iadd hx hb dLw_1357 ?_
  refine va_sld hx hb hXs hbl hbA hR.2 (hin 1 (by decide) (by decide)) dLw_1358 ?_
  refine lv_aload_n hx hb dLw_1359 rfl (lv_at hl 0 rfl) ?_
  refine lv_iload_n hx hb dLw_1360 rfl (lv_at hl 3 rfl) ?_
  refine lv_iconst (v := 2) hx hb dLw_1361 (by decide) ?_
  refine lv_iadd hx hb dLw_1362 ?_
  refine va_sld hx hb hXs hbl hbA hR.2 (hin 2 (by decide) (by decide)) dLw_1363 ?_
  refine r_callVG (As := [.int (xs (ix (x3 + 1))), .int (xs (ix (x3 + 2)))]) (n := 2) (r := (some (.int r))) B hR (ci := 10) (C := RX10) (T := TX10) (N := 19) rfl wc_X10_block ml_LW_193 wi_X10_block we_X10_block ini_10 (by decide +kernel) (by decide) (hq.at0 rfl) rfl hl.1 (mX10_block fu 0 hq h1) ⟨Nat.le_of_ble_eq_true rfl, Nat.le_of_ble_eq_true rfl, hce, hsl⟩ (Nat.le_of_ble_eq_true rfl) dLw_1364 (fun H locs hR => ?_)
  refine lv_aload_n hx hb dLw_1367 rfl (lv_at hl 2 rfl) ?_
  refine lv_aload_n hx hb dLw_1368 rfl (lv_at hl 0 rfl) ?_
  refine lv_iload_n hx hb dLw_1369 rfl (lv_at hl 3 rfl) ?_
  refine lv_iconst (v := 1) hx hb dLw_1370 (by decide) ?_
  refine lv_iadd hx hb dLw_1371 ?_
  refine va_sld hx hb hXs hbl hbA hR.2 (hin 1 (by decide) (by decide)) dLw_1372 ?_
  refine lv_aload_n hx hb dLw_1373 rfl (lv_at hl 0 rfl) ?_
  refine lv_iload_n hx hb dLw_1374 rfl (lv_at hl 3 rfl) ?_
  refine lv_iconst (v := 2) hx hb dLw_1375 (by decide) ?_
  refine lv_iadd hx hb dLw_1376 ?_
  refine va_sld hx hb hXs hbl hbA hR.2 (hin 2 (by decide) (by decide)) dLw_1377 ?_
  refine r_callVG (As := [.int (xs (ix (x3 + 1))), .int (xs (ix (x3 + 2)))]) (n := 2) (r := (some (.int r))) B hR (ci := 11) (C := RX11) (T := TX11) (N := 52) rfl wc_X11_block ml_LW_196 wi_X11_block we_X11_block ini_11 (by decide +kernel) (by decide) (hmm.at0 rfl) rfl hl.1 (mX11_block fu 0 hmm h2) ⟨Nat.le_of_ble_eq_true rfl, Nat.le_of_ble_eq_true rfl, hce, hsl⟩ (Nat.le_of_ble_eq_true rfl) dLw_1378 (fun H locs hR => ?_)
  exact lv_icmp_eq (x := r) (y := r) (tgt := 1511) hx hb dLw_1381 (by decide) (fun _ => kk H locs hR) (fun c0 => absurd rfl c0)
set_option maxRecDepth 100000 in
set_option maxHeartbeats 4000000 in
theorem lw_c44 (X : Lx p s m args c E L b n qx qm xs x3 cells slots ls) (h1 : fX10_bits fu qx (xs (ix (x3 + 1))) M = some (r, M1)) (h2 : fX11_bits fu qm (xs (ix (x3 + 1))) M1 = some r) (hR : Rx s E L M H locs) (kk : ∀ (H1 : Heap) (locs1 : List Loc), Rx s E L M1 H1 locs1 → W p l e room_1 s m args below meth c H1 locs1 cells slots Q (F0 m 1511 ls [])) : W p l e room_1 s m args below meth c H locs cells slots Q (F0 m 1386 ls []) := by
  obtain ⟨B, hXs, hbl, hbA, hq, hmm, hin, hce, hsl, hl⟩ := X
  have hx := B.1
  have hb := B.2.1
  refine lv_aload_n hx hb dLw_1386 rfl (lv_at hl 1 rfl) ?_
  refine lv_aload_n hx hb dLw_1387 rfl (lv_at hl 0 rfl) ?_
  refine lv_iload_n hx hb dLw_1388 rfl (lv_at hl 3 rfl) ?_
  refine lv_iconst (v := 1) hx hb dLw_1389 (by decide) ?_
  refine lv_iadd hx hb dLw_1390 ?_
  refine va_sld hx hb hXs hbl hbA hR.2 (hin 1 (by decide) (by decide)) dLw_1391 ?_
  refine r_callVG (As := [.int (xs (ix (x3 + 1)))]) (n := 1) (r := (some (.int r))) B hR (ci := 10) (C := RX10) (T := TX10) (N := 19) rfl wc_X10_bits ml_LW_197 wi_X10_bits we_X10_bits ini_10 (by decide +kernel) (by decide) (hq.at0 rfl) rfl hl.1 (mX10_bits fu 0 hq h1) ⟨Nat.le_of_ble_eq_true rfl, Nat.le_of_ble_eq_true rfl, hce, hsl⟩ (Nat.le_of_ble_eq_true rfl) dLw_1392 (fun H locs hR => ?_)
  refine lv_aload_n hx hb dLw_1395 rfl (lv_at hl 2 rfl) ?_
  refine lv_aload_n hx hb dLw_1396 rfl (lv_at hl 0 rfl) ?_
  refine lv_iload_n hx hb dLw_1397 rfl (lv_at hl 3 rfl) ?_
  refine lv_iconst (v := 1) hx hb dLw_1398 (by decide) ?_
  refine lv_iadd hx hb dLw_1399 ?_
  refine va_sld hx hb hXs hbl hbA hR.2 (hin 1 (by decide) (by decide)) dLw_1400 ?_
  refine r_callVG (As := [.int (xs (ix (x3 + 1)))]) (n := 1) (r := (some (.int r))) B hR (ci := 11) (C := RX11) (T := TX11) (N := 52) rfl wc_X11_bits ml_LW_200 wi_X11_bits we_X11_bits ini_11 (by decide +kernel) (by decide) (hmm.at0 rfl) rfl hl.1 (mX11_bits fu 0 hmm h2) ⟨Nat.le_of_ble_eq_true rfl, Nat.le_of_ble_eq_true rfl, hce, hsl⟩ (Nat.le_of_ble_eq_true rfl) dLw_1401 (fun H locs hR => ?_)
  exact lv_icmp_eq (x := r) (y := r) (tgt := 1511) hx hb dLw_1404 (by decide) (fun _ => kk H locs hR) (fun c0 => absurd rfl c0)
set_option maxRecDepth 100000 in
set_option maxHeartbeats 4000000 in
theorem lw_c45 (X : Lx p s m args c E L b n qx qm xs x3 cells slots ls) (h1 : fX10_image fu qx (xs (ix (x3 + 1))) M = some (r, M1)) (h2 : fX11_image fu qm (xs (ix (x3 + 1))) M1 = some (r, M2)) (hR : Rx s E L M H locs) (kk : ∀ (H1 : Heap) (locs1 : List Loc), Rx s E L M2 H1 locs1 → W p l e room_1 s m args below meth c H1 locs1 cells slots Q (F0 m 1511 ls [])) : W p l e room_1 s m args below meth c H locs cells slots Q (F0 m 1409 ls []) := by
  obtain ⟨B, hXs, hbl, hbA, hq, hmm, hin, hce, hsl, hl⟩ := X
  have hx := B.1
  have hb := B.2.1
  refine lv_aload_n hx hb dLw_1409 rfl (lv_at hl 1 rfl) ?_
  refine lv_aload_n hx hb dLw_1410 rfl (lv_at hl 0 rfl) ?_
  refine lv_iload_n hx hb dLw_1411 rfl (lv_at hl 3 rfl) ?_
  refine lv_iconst (v := 1) hx hb dLw_1412 (by decide) ?_
  refine lv_iadd hx hb dLw_1413 ?_
  refine va_sld hx hb hXs hbl hbA hR.2 (hin 1 (by decide) (by decide)) dLw_1414 ?_
  refine r_callVG (As := [.int (xs (ix (x3 + 1)))]) (n := 1) (r := (some (.int r))) B hR (ci := 10) (C := RX10) (T := TX10) (N := 19) rfl wc_X10_image ml_LW_201 wi_X10_image we_X10_image ini_10 (by decide +kernel) (by decide) (hq.at0 rfl) rfl hl.1 (mX10_image fu 0 hq h1) ⟨Nat.le_of_ble_eq_true rfl, Nat.le_of_ble_eq_true rfl, hce, hsl⟩ (Nat.le_of_ble_eq_true rfl) dLw_1415 (fun H locs hR => ?_)
  refine lv_aload_n hx hb dLw_1418 rfl (lv_at hl 2 rfl) ?_
  refine lv_aload_n hx hb dLw_1419 rfl (lv_at hl 0 rfl) ?_
  refine lv_iload_n hx hb dLw_1420 rfl (lv_at hl 3 rfl) ?_
  refine lv_iconst (v := 1) hx hb dLw_1421 (by decide) ?_
  refine lv_iadd hx hb dLw_1422 ?_
  refine va_sld hx hb hXs hbl hbA hR.2 (hin 1 (by decide) (by decide)) dLw_1423 ?_
  refine r_callVG (As := [.int (xs (ix (x3 + 1)))]) (n := 1) (r := (some (.int r))) B hR (ci := 11) (C := RX11) (T := TX11) (N := 52) rfl wc_X11_image ml_LW_204 wi_X11_image we_X11_image ini_11 (by decide +kernel) (by decide) (hmm.at0 rfl) rfl hl.1 (mX11_image fu 0 hmm h2) ⟨Nat.le_of_ble_eq_true rfl, Nat.le_of_ble_eq_true rfl, hce, hsl⟩ (Nat.le_of_ble_eq_true rfl) dLw_1424 (fun H locs hR => ?_)
  exact lv_icmp_eq (x := r) (y := r) (tgt := 1511) hx hb dLw_1427 (by decide) (fun _ => kk H locs hR) (fun c0 => absurd rfl c0)
set_option maxRecDepth 100000 in
set_option maxHeartbeats 4000000 in
theorem lw_c46 (X : Lx p s m args c E L b n qx qm xs x3 cells slots ls) (h1 : fX10_differs fu qx (xs (ix (x3 + 1))) (xs (ix (x3 + 2))) M = some (r, M1)) (h2 : fX11_differs fu qm (xs (ix (x3 + 1))) (xs (ix (x3 + 2))) M1 = some (r, M2)) (hR : Rx s E L M H locs) (kk : ∀ (H1 : Heap) (locs1 : List Loc), Rx s E L M2 H1 locs1 → W p l e room_1 s m args below meth c H1 locs1 cells slots Q (F0 m 1511 ls [])) : W p l e room_1 s m args below meth c H locs cells slots Q (F0 m 1432 ls []) := by
  obtain ⟨B, hXs, hbl, hbA, hq, hmm, hin, hce, hsl, hl⟩ := X
  have hx := B.1
  have hb := B.2.1
  refine lv_aload_n hx hb dLw_1432 rfl (lv_at hl 1 rfl) ?_
  refine lv_aload_n hx hb dLw_1433 rfl (lv_at hl 0 rfl) ?_
  refine lv_iload_n hx hb dLw_1434 rfl (lv_at hl 3 rfl) ?_
  refine lv_iconst (v := 1) hx hb dLw_1435 (by decide) ?_
  refine lv_iadd hx hb dLw_1436 ?_
  refine va_sld hx hb hXs hbl hbA hR.2 (hin 1 (by decide) (by decide)) dLw_1437 ?_
  refine lv_aload_n hx hb dLw_1438 rfl (lv_at hl 0 rfl) ?_
  refine lv_iload_n hx hb dLw_1439 rfl (lv_at hl 3 rfl) ?_
  refine lv_iconst (v := 2) hx hb dLw_1440 (by decide) ?_
  refine lv_iadd hx hb dLw_1441 ?_
  refine va_sld hx hb hXs hbl hbA hR.2 (hin 2 (by decide) (by decide)) dLw_1442 ?_
  refine r_callVG (As := [.int (xs (ix (x3 + 1))), .int (xs (ix (x3 + 2)))]) (n := 2) (r := (some (.int r))) B hR (ci := 10) (C := RX10) (T := TX10) (N := 19) rfl wc_X10_differs ml_LW_205 wi_X10_differs we_X10_differs ini_10 (by decide +kernel) (by decide) (hq.at0 rfl) rfl hl.1 (mX10_differs fu 0 hq h1) ⟨Nat.le_of_ble_eq_true rfl, Nat.le_of_ble_eq_true rfl, hce, hsl⟩ (Nat.le_of_ble_eq_true rfl) dLw_1443 (fun H locs hR => ?_)
  refine lv_aload_n hx hb dLw_1446 rfl (lv_at hl 2 rfl) ?_
  refine lv_aload_n hx hb dLw_1447 rfl (lv_at hl 0 rfl) ?_
  refine lv_iload_n hx hb dLw_1448 rfl (lv_at hl 3 rfl) ?_
  refine lv_iconst (v := 1) hx hb dLw_1449 (by decide) ?_
  refine lv_iadd hx hb dLw_1450 ?_
  refine va_sld hx hb hXs hbl hbA hR.2 (hin 1 (by decide) (by decide)) dLw_1451 ?_
  refine lv_aload_n hx hb dLw_1452 rfl (lv_at hl 0 rfl) ?_
  refine lv_iload_n hx hb dLw_1453 rfl (lv_at hl 3 rfl) ?_
  refine lv_iconst (v := 2) hx hb dLw_1454 (by decide) ?_
  refine lv_iadd hx hb dLw_1455 ?_
  refine va_sld hx hb hXs hbl hbA hR.2 (hin 2 (by decide) (by decide)) dLw_1456 ?_
  refine r_callVG (As := [.int (xs (ix (x3 + 1))), .int (xs (ix (x3 + 2)))]) (n := 2) (r := (some (.int r))) B hR (ci := 11) (C := RX11) (T := TX11) (N := 52) rfl wc_X11_differs ml_LW_208 wi_X11_differs we_X11_differs ini_11 (by decide +kernel) (by decide) (hmm.at0 rfl) rfl hl.1 (mX11_differs fu 0 hmm h2) ⟨Nat.le_of_ble_eq_true rfl, Nat.le_of_ble_eq_true rfl, hce, hsl⟩ (Nat.le_of_ble_eq_true rfl) dLw_1457 (fun H locs hR => ?_)
  exact lv_icmp_eq (x := r) (y := r) (tgt := 1511) hx hb dLw_1460 (by decide) (fun _ => kk H locs hR) (fun c0 => absurd rfl c0)
set_option maxRecDepth 100000 in
set_option maxHeartbeats 4000000 in
theorem lw_c47 (X : Lx p s m args c E L b n qx qm xs x3 cells slots ls) (h1 : fX10_back fu qx (xs (ix (x3 + 1))) M = some (r, M1)) (h2 : fX11_back fu qm (xs (ix (x3 + 1))) M1 = some (r, M2)) (hR : Rx s E L M H locs) (kk : ∀ (H1 : Heap) (locs1 : List Loc), Rx s E L M2 H1 locs1 → W p l e room_1 s m args below meth c H1 locs1 cells slots Q (F0 m 1511 ls [])) : W p l e room_1 s m args below meth c H locs cells slots Q (F0 m 1465 ls []) := by
  obtain ⟨B, hXs, hbl, hbA, hq, hmm, hin, hce, hsl, hl⟩ := X
  have hx := B.1
  have hb := B.2.1
  refine lv_aload_n hx hb dLw_1465 rfl (lv_at hl 1 rfl) ?_
  refine lv_aload_n hx hb dLw_1466 rfl (lv_at hl 0 rfl) ?_
  refine lv_iload_n hx hb dLw_1467 rfl (lv_at hl 3 rfl) ?_
  refine lv_iconst (v := 1) hx hb dLw_1468 (by decide) ?_
  refine lv_iadd hx hb dLw_1469 ?_
  refine va_sld hx hb hXs hbl hbA hR.2 (hin 1 (by decide) (by decide)) dLw_1470 ?_
  refine r_callVG (As := [.int (xs (ix (x3 + 1)))]) (n := 1) (r := (some (.int r))) B hR (ci := 10) (C := RX10) (T := TX10) (N := 19) rfl wc_X10_back ml_LW_209 wi_X10_back we_X10_back ini_10 (by decide +kernel) (by decide) (hq.at0 rfl) rfl hl.1 (mX10_back fu 0 hq h1) ⟨Nat.le_of_ble_eq_true rfl, Nat.le_of_ble_eq_true rfl, hce, hsl⟩ (Nat.le_of_ble_eq_true rfl) dLw_1471 (fun H locs hR => ?_)
  refine lv_aload_n hx hb dLw_1474 rfl (lv_at hl 2 rfl) ?_
  refine lv_aload_n hx hb dLw_1475 rfl (lv_at hl 0 rfl) ?_
  refine lv_iload_n hx hb dLw_1476 rfl (lv_at hl 3 rfl) ?_
  refine lv_iconst (v := 1) hx hb dLw_1477 (by decide) ?_
  refine lv_iadd hx hb dLw_1478 ?_
  refine va_sld hx hb hXs hbl hbA hR.2 (hin 1 (by decide) (by decide)) dLw_1479 ?_
  refine r_callVG (As := [.int (xs (ix (x3 + 1)))]) (n := 1) (r := (some (.int r))) B hR (ci := 11) (C := RX11) (T := TX11) (N := 52) rfl wc_X11_back ml_LW_212 wi_X11_back we_X11_back ini_11 (by decide +kernel) (by decide) (hmm.at0 rfl) rfl hl.1 (mX11_back fu 0 hmm h2) ⟨Nat.le_of_ble_eq_true rfl, Nat.le_of_ble_eq_true rfl, hce, hsl⟩ (Nat.le_of_ble_eq_true rfl) dLw_1480 (fun H locs hR => ?_)
  exact lv_icmp_eq (x := r) (y := r) (tgt := 1511) hx hb dLw_1483 (by decide) (fun _ => kk H locs hR) (fun c0 => absurd rfl c0)
set_option maxRecDepth 100000 in
set_option maxHeartbeats 4000000 in
theorem lw_c48 (X : Lx p s m args c E L b n qx qm xs x3 cells slots ls) (h1 : fX10_about fu qx (xs (ix (x3 + 1))) M = some (r, M1)) (h2 : fX11_about fu qm (xs (ix (x3 + 1))) M1 = some r) (hR : Rx s E L M H locs) (kk : ∀ (H1 : Heap) (locs1 : List Loc), Rx s E L M1 H1 locs1 → W p l e room_1 s m args below meth c H1 locs1 cells slots Q (F0 m 1511 ls [])) : W p l e room_1 s m args below meth c H locs cells slots Q (F0 m 1488 ls []) := by
  obtain ⟨B, hXs, hbl, hbA, hq, hmm, hin, hce, hsl, hl⟩ := X
  have hx := B.1
  have hb := B.2.1
  refine lv_aload_n hx hb dLw_1488 rfl (lv_at hl 1 rfl) ?_
  refine lv_aload_n hx hb dLw_1489 rfl (lv_at hl 0 rfl) ?_
  refine lv_iload_n hx hb dLw_1490 rfl (lv_at hl 3 rfl) ?_
  refine lv_iconst (v := 1) hx hb dLw_1491 (by decide) ?_
  refine lv_iadd hx hb dLw_1492 ?_
  refine va_sld hx hb hXs hbl hbA hR.2 (hin 1 (by decide) (by decide)) dLw_1493 ?_
  refine r_callVG (As := [.int (xs (ix (x3 + 1)))]) (n := 1) (r := (some (.int r))) B hR (ci := 10) (C := RX10) (T := TX10) (N := 19) rfl wc_X10_about ml_LW_213 wi_X10_about we_X10_about ini_10 (by decide +kernel) (by decide) (hq.at0 rfl) rfl hl.1 (mX10_about fu 0 hq h1) ⟨Nat.le_of_ble_eq_true rfl, Nat.le_of_ble_eq_true rfl, hce, hsl⟩ (Nat.le_of_ble_eq_true rfl) dLw_1494 (fun H locs hR => ?_)
  refine lv_aload_n hx hb dLw_1497 rfl (lv_at hl 2 rfl) ?_
  refine lv_aload_n hx hb dLw_1498 rfl (lv_at hl 0 rfl) ?_
  refine lv_iload_n hx hb dLw_1499 rfl (lv_at hl 3 rfl) ?_
  refine lv_iconst (v := 1) hx hb dLw_1500 (by decide) ?_
  refine lv_iadd hx hb dLw_1501 ?_
  refine va_sld hx hb hXs hbl hbA hR.2 (hin 1 (by decide) (by decide)) dLw_1502 ?_
  refine r_callVG (As := [.int (xs (ix (x3 + 1)))]) (n := 1) (r := (some (.int r))) B hR (ci := 11) (C := RX11) (T := TX11) (N := 52) rfl wc_X11_about ml_LW_216 wi_X11_about we_X11_about ini_11 (by decide +kernel) (by decide) (hmm.at0 rfl) rfl hl.1 (mX11_about fu 0 hmm h2) ⟨Nat.le_of_ble_eq_true rfl, Nat.le_of_ble_eq_true rfl, hce, hsl⟩ (Nat.le_of_ble_eq_true rfl) dLw_1503 (fun H locs hR => ?_)
  exact lv_icmp_eq (x := r) (y := r) (tgt := 1511) hx hb dLw_1506 (by decide) (fun _ => kk H locs hR) (fun c0 => absurd rfl c0)
end LC
