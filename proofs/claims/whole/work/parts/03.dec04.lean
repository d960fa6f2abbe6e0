theorem dX12_init_226 : decode cX12_init 226 = .ok (.bipush 111, 2) := by decide +kernel
theorem dX12_init_228 : decode cX12_init 228 = .ok (.bastore, 1) := by decide +kernel
theorem dX12_init_229 : decode cX12_init 229 = .ok (.dup, 1) := by decide +kernel
theorem dX12_init_230 : decode cX12_init 230 = .ok (.bipush 28, 2) := by decide +kernel
theorem dX12_init_232 : decode cX12_init 232 = .ok (.bipush 114, 2) := by decide +kernel
theorem dX12_init_234 : decode cX12_init 234 = .ok (.bastore, 1) := by decide +kernel
theorem dX12_init_235 : decode cX12_init 235 = .ok (.dup, 1) := by decide +kernel
theorem dX12_init_236 : decode cX12_init 236 = .ok (.bipush 29, 2) := by decide +kernel
theorem dX12_init_238 : decode cX12_init 238 = .ok (.bipush 116, 2) := by decide +kernel
theorem dX12_init_240 : decode cX12_init 240 = .ok (.bastore, 1) := by decide +kernel
theorem dX12_init_241 : decode cX12_init 241 = .ok (.dup, 1) := by decide +kernel
theorem dX12_init_242 : decode cX12_init 242 = .ok (.bipush 30, 2) := by decide +kernel
theorem dX12_init_244 : decode cX12_init 244 = .ok (.bipush 32, 2) := by decide +kernel
theorem dX12_init_246 : decode cX12_init 246 = .ok (.bastore, 1) := by decide +kernel
theorem dX12_init_247 : decode cX12_init 247 = .ok (.dup, 1) := by decide +kernel
theorem dX12_init_248 : decode cX12_init 248 = .ok (.bipush 31, 2) := by decide +kernel
theorem dX12_init_250 : decode cX12_init 250 = .ok (.bipush 116, 2) := by decide +kernel
theorem dX12_init_252 : decode cX12_init 252 = .ok (.bastore, 1) := by decide +kernel
theorem dX12_init_253 : decode cX12_init 253 = .ok (.dup, 1) := by decide +kernel
theorem dX12_init_254 : decode cX12_init 254 = .ok (.bipush 32, 2) := by decide +kernel
theorem dX12_init_256 : decode cX12_init 256 = .ok (.bipush 104, 2) := by decide +kernel
theorem dX12_init_258 : decode cX12_init 258 = .ok (.bastore, 1) := by decide +kernel
theorem dX12_init_259 : decode cX12_init 259 = .ok (.dup, 1) := by decide +kernel
theorem dX12_init_260 : decode cX12_init 260 = .ok (.bipush 33, 2) := by decide +kernel
theorem dX12_init_262 : decode cX12_init 262 = .ok (.bipush 105, 2) := by decide +kernel
theorem dX12_init_264 : decode cX12_init 264 = .ok (.bastore, 1) := by decide +kernel
theorem dX12_init_265 : decode cX12_init 265 = .ok (.dup, 1) := by decide +kernel
theorem dX12_init_266 : decode cX12_init 266 = .ok (.bipush 34, 2) := by decide +kernel
theorem dX12_init_268 : decode cX12_init 268 = .ok (.bipush 110, 2) := by decide +kernel
theorem dX12_init_270 : decode cX12_init 270 = .ok (.bastore, 1) := by decide +kernel
theorem dX12_init_271 : decode cX12_init 271 = .ok (.dup, 1) := by decide +kernel
theorem dX12_init_272 : decode cX12_init 272 = .ok (.bipush 35, 2) := by decide +kernel
theorem dX12_init_274 : decode cX12_init 274 = .ok (.bipush 103, 2) := by decide +kernel
theorem dX12_init_276 : decode cX12_init 276 = .ok (.bastore, 1) := by decide +kernel
theorem dX12_init_277 : decode cX12_init 277 = .ok (.dup, 1) := by decide +kernel
theorem dX12_init_278 : decode cX12_init 278 = .ok (.bipush 36, 2) := by decide +kernel
theorem dX12_init_280 : decode cX12_init 280 = .ok (.bipush 32, 2) := by decide +kernel
theorem dX12_init_282 : decode cX12_init 282 = .ok (.bastore, 1) := by decide +kernel
theorem dX12_init_283 : decode cX12_init 283 = .ok (.dup, 1) := by decide +kernel
theorem dX12_init_284 : decode cX12_init 284 = .ok (.bipush 37, 2) := by decide +kernel
theorem dX12_init_286 : decode cX12_init 286 = .ok (.bipush 112, 2) := by decide +kernel
theorem dX12_init_288 : decode cX12_init 288 = .ok (.bastore, 1) := by decide +kernel
theorem dX12_init_289 : decode cX12_init 289 = .ok (.dup, 1) := by decide +kernel
theorem dX12_init_290 : decode cX12_init 290 = .ok (.bipush 38, 2) := by decide +kernel
theorem dX12_init_292 : decode cX12_init 292 = .ok (.bipush 108, 2) := by decide +kernel
theorem dX12_init_294 : decode cX12_init 294 = .ok (.bastore, 1) := by decide +kernel
theorem dX12_init_295 : decode cX12_init 295 = .ok (.dup, 1) := by decide +kernel
theorem dX12_init_296 : decode cX12_init 296 = .ok (.bipush 39, 2) := by decide +kernel
theorem dX12_init_298 : decode cX12_init 298 = .ok (.bipush 97, 2) := by decide +kernel
theorem dX12_init_300 : decode cX12_init 300 = .ok (.bastore, 1) := by decide +kernel
theorem dX12_init_301 : decode cX12_init 301 = .ok (.dup, 1) := by decide +kernel
theorem dX12_init_302 : decode cX12_init 302 = .ok (.bipush 40, 2) := by decide +kernel
theorem dX12_init_304 : decode cX12_init 304 = .ok (.bipush 99, 2) := by decide +kernel
theorem dX12_init_306 : decode cX12_init 306 = .ok (.bastore, 1) := by decide +kernel
theorem dX12_init_307 : decode cX12_init 307 = .ok (.dup, 1) := by decide +kernel
theorem dX12_init_308 : decode cX12_init 308 = .ok (.bipush 41, 2) := by decide +kernel
theorem dX12_init_310 : decode cX12_init 310 = .ok (.bipush 101, 2) := by decide +kernel
theorem dX12_init_312 : decode cX12_init 312 = .ok (.bastore, 1) := by decide +kernel
theorem dX12_init_313 : decode cX12_init 313 = .ok (.dup, 1) := by decide +kernel
theorem dX12_init_314 : decode cX12_init 314 = .ok (.bipush 42, 2) := by decide +kernel
theorem dX12_init_316 : decode cX12_init 316 = .ok (.bipush 32, 2) := by decide +kernel
theorem dX12_init_318 : decode cX12_init 318 = .ok (.bastore, 1) := by decide +kernel
theorem dX12_init_319 : decode cX12_init 319 = .ok (.dup, 1) := by decide +kernel
theorem dX12_init_320 : decode cX12_init 320 = .ok (.bipush 43, 2) := by decide +kernel
theorem dX12_init_322 : decode cX12_init 322 = .ok (.bipush 108, 2) := by decide +kernel
theorem dX12_init_324 : decode cX12_init 324 = .ok (.bastore, 1) := by decide +kernel
theorem dX12_init_325 : decode cX12_init 325 = .ok (.dup, 1) := by decide +kernel
theorem dX12_init_326 : decode cX12_init 326 = .ok (.bipush 44, 2) := by decide +kernel
theorem dX12_init_328 : decode cX12_init 328 = .ok (.bipush 111, 2) := by decide +kernel
theorem dX12_init_330 : decode cX12_init 330 = .ok (.bastore, 1) := by decide +kernel
theorem dX12_init_331 : decode cX12_init 331 = .ok (.dup, 1) := by decide +kernel
theorem dX12_init_332 : decode cX12_init 332 = .ok (.bipush 45, 2) := by decide +kernel
theorem dX12_init_334 : decode cX12_init 334 = .ok (.bipush 110, 2) := by decide +kernel
theorem dX12_init_336 : decode cX12_init 336 = .ok (.bastore, 1) := by decide +kernel
theorem dX12_init_337 : decode cX12_init 337 = .ok (.dup, 1) := by decide +kernel
theorem dX12_init_338 : decode cX12_init 338 = .ok (.bipush 46, 2) := by decide +kernel
theorem dX12_init_340 : decode cX12_init 340 = .ok (.bipush 103, 2) := by decide +kernel
theorem dX12_init_342 : decode cX12_init 342 = .ok (.bastore, 1) := by decide +kernel
theorem dX12_init_343 : decode cX12_init 343 = .ok (.dup, 1) := by decide +kernel
theorem dX12_init_344 : decode cX12_init 344 = .ok (.bipush 47, 2) := by decide +kernel
theorem dX12_init_346 : decode cX12_init 346 = .ok (.bipush 32, 2) := by decide +kernel
theorem dX12_init_348 : decode cX12_init 348 = .ok (.bastore, 1) := by decide +kernel
theorem dX12_init_349 : decode cX12_init 349 = .ok (.dup, 1) := by decide +kernel
theorem dX12_init_350 : decode cX12_init 350 = .ok (.bipush 48, 2) := by decide +kernel
theorem dX12_init_352 : decode cX12_init 352 = .ok (.bipush 104, 2) := by decide +kernel
theorem dX12_init_354 : decode cX12_init 354 = .ok (.bastore, 1) := by decide +kernel
theorem dX12_init_355 : decode cX12_init 355 = .ok (.dup, 1) := by decide +kernel
theorem dX12_init_356 : decode cX12_init 356 = .ok (.bipush 49, 2) := by decide +kernel
theorem dX12_init_358 : decode cX12_init 358 = .ok (.bipush 97, 2) := by decide +kernel
theorem dX12_init_360 : decode cX12_init 360 = .ok (.bastore, 1) := by decide +kernel
theorem dX12_init_361 : decode cX12_init 361 = .ok (.dup, 1) := by decide +kernel
theorem dX12_init_362 : decode cX12_init 362 = .ok (.bipush 50, 2) := by decide +kernel
theorem dX12_init_364 : decode cX12_init 364 = .ok (.bipush 115, 2) := by decide +kernel
theorem dX12_init_366 : decode cX12_init 366 = .ok (.bastore, 1) := by decide +kernel
theorem dX12_init_367 : decode cX12_init 367 = .ok (.dup, 1) := by decide +kernel
theorem dX12_init_368 : decode cX12_init 368 = .ok (.bipush 51, 2) := by decide +kernel
theorem dX12_init_370 : decode cX12_init 370 = .ok (.bipush 32, 2) := by decide +kernel
theorem dX12_init_372 : decode cX12_init 372 = .ok (.bastore, 1) := by decide +kernel
theorem dX12_init_373 : decode cX12_init 373 = .ok (.dup, 1) := by decide +kernel
theorem dX12_init_374 : decode cX12_init 374 = .ok (.bipush 52, 2) := by decide +kernel
theorem dX12_init_376 : decode cX12_init 376 = .ok (.bipush 115, 2) := by decide +kernel
theorem dX12_init_378 : decode cX12_init 378 = .ok (.bastore, 1) := by decide +kernel
theorem dX12_init_379 : decode cX12_init 379 = .ok (.dup, 1) := by decide +kernel
theorem dX12_init_380 : decode cX12_init 380 = .ok (.bipush 53, 2) := by decide +kernel
theorem dX12_init_382 : decode cX12_init 382 = .ok (.bipush 119, 2) := by decide +kernel
theorem dX12_init_384 : decode cX12_init 384 = .ok (.bastore, 1) := by decide +kernel
theorem dX12_init_385 : decode cX12_init 385 = .ok (.dup, 1) := by decide +kernel
theorem dX12_init_386 : decode cX12_init 386 = .ok (.bipush 54, 2) := by decide +kernel
theorem dX12_init_388 : decode cX12_init 388 = .ok (.bipush 101, 2) := by decide +kernel
theorem dX12_init_390 : decode cX12_init 390 = .ok (.bastore, 1) := by decide +kernel
theorem dX12_init_391 : decode cX12_init 391 = .ok (.dup, 1) := by decide +kernel
theorem dX12_init_392 : decode cX12_init 392 = .ok (.bipush 55, 2) := by decide +kernel
theorem dX12_init_394 : decode cX12_init 394 = .ok (.bipush 101, 2) := by decide +kernel
theorem dX12_init_396 : decode cX12_init 396 = .ok (.bastore, 1) := by decide +kernel
theorem dX12_init_397 : decode cX12_init 397 = .ok (.dup, 1) := by decide +kernel
theorem dX12_init_398 : decode cX12_init 398 = .ok (.bipush 56, 2) := by decide +kernel
theorem dX12_init_400 : decode cX12_init 400 = .ok (.bipush 116, 2) := by decide +kernel
theorem dX12_init_402 : decode cX12_init 402 = .ok (.bastore, 1) := by decide +kernel
theorem dX12_init_403 : decode cX12_init 403 = .ok (.dup, 1) := by decide +kernel
theorem dX12_init_404 : decode cX12_init 404 = .ok (.bipush 57, 2) := by decide +kernel
theorem dX12_init_406 : decode cX12_init 406 = .ok (.bipush 32, 2) := by decide +kernel
theorem dX12_init_408 : decode cX12_init 408 = .ok (.bastore, 1) := by decide +kernel
theorem dX12_init_409 : decode cX12_init 409 = .ok (.dup, 1) := by decide +kernel
theorem dX12_init_410 : decode cX12_init 410 = .ok (.bipush 58, 2) := by decide +kernel
theorem dX12_init_412 : decode cX12_init 412 = .ok (.bipush 121, 2) := by decide +kernel
theorem dX12_init_414 : decode cX12_init 414 = .ok (.bastore, 1) := by decide +kernel
theorem dX12_init_415 : decode cX12_init 415 = .ok (.dup, 1) := by decide +kernel
theorem dX12_init_416 : decode cX12_init 416 = .ok (.bipush 59, 2) := by decide +kernel
theorem dX12_init_418 : decode cX12_init 418 = .ok (.bipush 101, 2) := by decide +kernel
theorem dX12_init_420 : decode cX12_init 420 = .ok (.bastore, 1) := by decide +kernel
theorem dX12_init_421 : decode cX12_init 421 = .ok (.dup, 1) := by decide +kernel
theorem dX12_init_422 : decode cX12_init 422 = .ok (.bipush 60, 2) := by decide +kernel
theorem dX12_init_424 : decode cX12_init 424 = .ok (.bipush 97, 2) := by decide +kernel
theorem dX12_init_426 : decode cX12_init 426 = .ok (.bastore, 1) := by decide +kernel
theorem dX12_init_427 : decode cX12_init 427 = .ok (.dup, 1) := by decide +kernel
theorem dX12_init_428 : decode cX12_init 428 = .ok (.bipush 61, 2) := by decide +kernel
theorem dX12_init_430 : decode cX12_init 430 = .ok (.bipush 114, 2) := by decide +kernel
theorem dX12_init_432 : decode cX12_init 432 = .ok (.bastore, 1) := by decide +kernel
theorem dX12_init_433 : decode cX12_init 433 = .ok (.dup, 1) := by decide +kernel
theorem dX12_init_434 : decode cX12_init 434 = .ok (.bipush 62, 2) := by decide +kernel
theorem dX12_init_436 : decode cX12_init 436 = .ok (.bipush 32, 2) := by decide +kernel
theorem dX12_init_438 : decode cX12_init 438 = .ok (.bastore, 1) := by decide +kernel
theorem dX12_init_439 : decode cX12_init 439 = .ok (.dup, 1) := by decide +kernel
theorem dX12_init_440 : decode cX12_init 440 = .ok (.bipush 63, 2) := by decide +kernel
theorem dX12_init_442 : decode cX12_init 442 = .ok (.bipush 109, 2) := by decide +kernel
theorem dX12_init_444 : decode cX12_init 444 = .ok (.bastore, 1) := by decide +kernel
theorem dX12_init_445 : decode cX12_init 445 = .ok (.dup, 1) := by decide +kernel
theorem dX12_init_446 : decode cX12_init 446 = .ok (.bipush 64, 2) := by decide +kernel
theorem dX12_init_448 : decode cX12_init 448 = .ok (.bipush 111, 2) := by decide +kernel
theorem dX12_init_450 : decode cX12_init 450 = .ok (.bastore, 1) := by decide +kernel
theorem dX12_init_451 : decode cX12_init 451 = .ok (.dup, 1) := by decide +kernel
theorem dX12_init_452 : decode cX12_init 452 = .ok (.bipush 65, 2) := by decide +kernel
theorem dX12_init_454 : decode cX12_init 454 = .ok (.bipush 111, 2) := by decide +kernel
theorem dX12_init_456 : decode cX12_init 456 = .ok (.bastore, 1) := by decide +kernel
theorem dX12_init_457 : decode cX12_init 457 = .ok (.dup, 1) := by decide +kernel
theorem dX12_init_458 : decode cX12_init 458 = .ok (.bipush 66, 2) := by decide +kernel
theorem dX12_init_460 : decode cX12_init 460 = .ok (.bipush 100, 2) := by decide +kernel
theorem dX12_init_462 : decode cX12_init 462 = .ok (.bastore, 1) := by decide +kernel
theorem dX12_init_463 : decode cX12_init 463 = .ok (.dup, 1) := by decide +kernel
theorem dX12_init_464 : decode cX12_init 464 = .ok (.bipush 67, 2) := by decide +kernel
theorem dX12_init_466 : decode cX12_init 466 = .ok (.bipush 32, 2) := by decide +kernel
theorem dX12_init_468 : decode cX12_init 468 = .ok (.bastore, 1) := by decide +kernel
theorem dX12_init_469 : decode cX12_init 469 = .ok (.dup, 1) := by decide +kernel
theorem dX12_init_470 : decode cX12_init 470 = .ok (.bipush 68, 2) := by decide +kernel
theorem dX12_init_472 : decode cX12_init 472 = .ok (.bipush 121, 2) := by decide +kernel
theorem dX12_init_474 : decode cX12_init 474 = .ok (.bastore, 1) := by decide +kernel
theorem dX12_init_475 : decode cX12_init 475 = .ok (.dup, 1) := by decide +kernel
theorem dX12_init_476 : decode cX12_init 476 = .ok (.bipush 69, 2) := by decide +kernel
theorem dX12_init_478 : decode cX12_init 478 = .ok (.bipush 101, 2) := by decide +kernel
theorem dX12_init_480 : decode cX12_init 480 = .ok (.bastore, 1) := by decide +kernel
theorem dX12_init_481 : decode cX12_init 481 = .ok (.dup, 1) := by decide +kernel
theorem dX12_init_482 : decode cX12_init 482 = .ok (.bipush 70, 2) := by decide +kernel
theorem dX12_init_484 : decode cX12_init 484 = .ok (.bipush 97, 2) := by decide +kernel
theorem dX12_init_486 : decode cX12_init 486 = .ok (.bastore, 1) := by decide +kernel
theorem dX12_init_487 : decode cX12_init 487 = .ok (.dup, 1) := by decide +kernel
theorem dX12_init_488 : decode cX12_init 488 = .ok (.bipush 71, 2) := by decide +kernel
theorem dX12_init_490 : decode cX12_init 490 = .ok (.bipush 114, 2) := by decide +kernel
theorem dX12_init_492 : decode cX12_init 492 = .ok (.bastore, 1) := by decide +kernel
theorem dX12_init_493 : decode cX12_init 493 = .ok (.dup, 1) := by decide +kernel
theorem dX12_init_494 : decode cX12_init 494 = .ok (.bipush 72, 2) := by decide +kernel
theorem dX12_init_496 : decode cX12_init 496 = .ok (.bipush 115, 2) := by decide +kernel
theorem dX12_init_498 : decode cX12_init 498 = .ok (.bastore, 1) := by decide +kernel
theorem dX12_init_499 : decode cX12_init 499 = .ok (.dup, 1) := by decide +kernel
theorem dX12_init_500 : decode cX12_init 500 = .ok (.bipush 73, 2) := by decide +kernel
theorem dX12_init_502 : decode cX12_init 502 = .ok (.bipush 32, 2) := by decide +kernel
theorem dX12_init_504 : decode cX12_init 504 = .ok (.bastore, 1) := by decide +kernel
theorem dX12_init_505 : decode cX12_init 505 = .ok (.dup, 1) := by decide +kernel
theorem dX12_init_506 : decode cX12_init 506 = .ok (.bipush 74, 2) := by decide +kernel
theorem dX12_init_508 : decode cX12_init 508 = .ok (.bipush 104, 2) := by decide +kernel
theorem dX12_init_510 : decode cX12_init 510 = .ok (.bastore, 1) := by decide +kernel
theorem dX12_init_511 : decode cX12_init 511 = .ok (.dup, 1) := by decide +kernel
theorem dX12_init_512 : decode cX12_init 512 = .ok (.bipush 75, 2) := by decide +kernel
theorem dX12_init_514 : decode cX12_init 514 = .ok (.bipush 111, 2) := by decide +kernel
theorem dX12_init_516 : decode cX12_init 516 = .ok (.bastore, 1) := by decide +kernel
theorem dX12_init_517 : decode cX12_init 517 = .ok (.dup, 1) := by decide +kernel
theorem dX12_init_518 : decode cX12_init 518 = .ok (.bipush 76, 2) := by decide +kernel
theorem dX12_init_520 : decode cX12_init 520 = .ok (.bipush 117, 2) := by decide +kernel
theorem dX12_init_522 : decode cX12_init 522 = .ok (.bastore, 1) := by decide +kernel
theorem dX12_init_523 : decode cX12_init 523 = .ok (.dup, 1) := by decide +kernel
theorem dX12_init_524 : decode cX12_init 524 = .ok (.bipush 77, 2) := by decide +kernel
theorem dX12_init_526 : decode cX12_init 526 = .ok (.bipush 115, 2) := by decide +kernel
theorem dX12_init_528 : decode cX12_init 528 = .ok (.bastore, 1) := by decide +kernel
theorem dX12_init_529 : decode cX12_init 529 = .ok (.dup, 1) := by decide +kernel
theorem dX12_init_530 : decode cX12_init 530 = .ok (.bipush 78, 2) := by decide +kernel
theorem dX12_init_532 : decode cX12_init 532 = .ok (.bipush 101, 2) := by decide +kernel
theorem dX12_init_534 : decode cX12_init 534 = .ok (.bastore, 1) := by decide +kernel
theorem dX12_init_535 : decode cX12_init 535 = .ok (.dup, 1) := by decide +kernel
theorem dX12_init_536 : decode cX12_init 536 = .ok (.bipush 79, 2) := by decide +kernel
theorem dX12_init_538 : decode cX12_init 538 = .ok (.bipush 115, 2) := by decide +kernel
theorem dX12_init_540 : decode cX12_init 540 = .ok (.bastore, 1) := by decide +kernel
theorem dX12_init_541 : decode cX12_init 541 = .ok (.dup, 1) := by decide +kernel
theorem dX12_init_542 : decode cX12_init 542 = .ok (.bipush 80, 2) := by decide +kernel
theorem dX12_init_544 : decode cX12_init 544 = .ok (.bipush 32, 2) := by decide +kernel
theorem dX12_init_546 : decode cX12_init 546 = .ok (.bastore, 1) := by decide +kernel
theorem dX12_init_547 : decode cX12_init 547 = .ok (.dup, 1) := by decide +kernel
theorem dX12_init_548 : decode cX12_init 548 = .ok (.bipush 81, 2) := by decide +kernel
theorem dX12_init_550 : decode cX12_init 550 = .ok (.bipush 100, 2) := by decide +kernel
theorem dX12_init_552 : decode cX12_init 552 = .ok (.bastore, 1) := by decide +kernel
theorem dX12_init_553 : decode cX12_init 553 = .ok (.dup, 1) := by decide +kernel
theorem dX12_init_554 : decode cX12_init 554 = .ok (.bipush 82, 2) := by decide +kernel
theorem dX12_init_556 : decode cX12_init 556 = .ok (.bipush 111, 2) := by decide +kernel
theorem dX12_init_558 : decode cX12_init 558 = .ok (.bastore, 1) := by decide +kernel
theorem dX12_init_559 : decode cX12_init 559 = .ok (.dup, 1) := by decide +kernel
theorem dX12_init_560 : decode cX12_init 560 = .ok (.bipush 83, 2) := by decide +kernel
theorem dX12_init_562 : decode cX12_init 562 = .ok (.bipush 110, 2) := by decide +kernel
theorem dX12_init_564 : decode cX12_init 564 = .ok (.bastore, 1) := by decide +kernel
theorem dX12_init_565 : decode cX12_init 565 = .ok (.dup, 1) := by decide +kernel
theorem dX12_init_566 : decode cX12_init 566 = .ok (.bipush 84, 2) := by decide +kernel
theorem dX12_init_568 : decode cX12_init 568 = .ok (.bipush 101, 2) := by decide +kernel
theorem dX12_init_570 : decode cX12_init 570 = .ok (.bastore, 1) := by decide +kernel
theorem dX12_init_571 : decode cX12_init 571 = .ok (.dup, 1) := by decide +kernel
theorem dX12_init_572 : decode cX12_init 572 = .ok (.bipush 85, 2) := by decide +kernel
theorem dX12_init_574 : decode cX12_init 574 = .ok (.bipush 32, 2) := by decide +kernel
theorem dX12_init_576 : decode cX12_init 576 = .ok (.bastore, 1) := by decide +kernel
theorem dX12_init_577 : decode cX12_init 577 = .ok (.dup, 1) := by decide +kernel
theorem dX12_init_578 : decode cX12_init 578 = .ok (.bipush 86, 2) := by decide +kernel
theorem dX12_init_580 : decode cX12_init 580 = .ok (.bipush 108, 2) := by decide +kernel
theorem dX12_init_582 : decode cX12_init 582 = .ok (.bastore, 1) := by decide +kernel
theorem dX12_init_583 : decode cX12_init 583 = .ok (.dup, 1) := by decide +kernel
theorem dX12_init_584 : decode cX12_init 584 = .ok (.bipush 87, 2) := by decide +kernel
theorem dX12_init_586 : decode cX12_init 586 = .ok (.bipush 97, 2) := by decide +kernel
theorem dX12_init_588 : decode cX12_init 588 = .ok (.bastore, 1) := by decide +kernel
theorem dX12_init_589 : decode cX12_init 589 = .ok (.dup, 1) := by decide +kernel
theorem dX12_init_590 : decode cX12_init 590 = .ok (.bipush 88, 2) := by decide +kernel
theorem dX12_init_592 : decode cX12_init 592 = .ok (.bipush 115, 2) := by decide +kernel
theorem dX12_init_594 : decode cX12_init 594 = .ok (.bastore, 1) := by decide +kernel
theorem dX12_init_595 : decode cX12_init 595 = .ok (.dup, 1) := by decide +kernel
theorem dX12_init_596 : decode cX12_init 596 = .ok (.bipush 89, 2) := by decide +kernel
theorem dX12_init_598 : decode cX12_init 598 = .ok (.bipush 116, 2) := by decide +kernel
theorem dX12_init_600 : decode cX12_init 600 = .ok (.bastore, 1) := by decide +kernel
theorem dX12_init_601 : decode cX12_init 601 = .ok (.dup, 1) := by decide +kernel
theorem dX12_init_602 : decode cX12_init 602 = .ok (.bipush 90, 2) := by decide +kernel
theorem dX12_init_604 : decode cX12_init 604 = .ok (.bipush 32, 2) := by decide +kernel
theorem dX12_init_606 : decode cX12_init 606 = .ok (.bastore, 1) := by decide +kernel
theorem dX12_init_607 : decode cX12_init 607 = .ok (.dup, 1) := by decide +kernel
theorem dX12_init_608 : decode cX12_init 608 = .ok (.bipush 91, 2) := by decide +kernel
theorem dX12_init_610 : decode cX12_init 610 = .ok (.bipush 98, 2) := by decide +kernel
theorem dX12_init_612 : decode cX12_init 612 = .ok (.bastore, 1) := by decide +kernel
theorem dX12_init_613 : decode cX12_init 613 = .ok (.dup, 1) := by decide +kernel
theorem dX12_init_614 : decode cX12_init 614 = .ok (.bipush 92, 2) := by decide +kernel
theorem dX12_init_616 : decode cX12_init 616 = .ok (.bipush 111, 2) := by decide +kernel
theorem dX12_init_618 : decode cX12_init 618 = .ok (.bastore, 1) := by decide +kernel
theorem dX12_init_619 : decode cX12_init 619 = .ok (.dup, 1) := by decide +kernel
theorem dX12_init_620 : decode cX12_init 620 = .ok (.bipush 93, 2) := by decide +kernel
theorem dX12_init_622 : decode cX12_init 622 = .ok (.bipush 114, 2) := by decide +kernel
theorem dX12_init_624 : decode cX12_init 624 = .ok (.bastore, 1) := by decide +kernel
theorem dX12_init_625 : decode cX12_init 625 = .ok (.dup, 1) := by decide +kernel
theorem dX12_init_626 : decode cX12_init 626 = .ok (.bipush 94, 2) := by decide +kernel
theorem dX12_init_628 : decode cX12_init 628 = .ok (.bipush 110, 2) := by decide +kernel
theorem dX12_init_630 : decode cX12_init 630 = .ok (.bastore, 1) := by decide +kernel
theorem dX12_init_631 : decode cX12_init 631 = .ok (.dup, 1) := by decide +kernel
theorem dX12_init_632 : decode cX12_init 632 = .ok (.bipush 95, 2) := by decide +kernel
theorem dX12_init_634 : decode cX12_init 634 = .ok (.bipush 32, 2) := by decide +kernel
theorem dX12_init_636 : decode cX12_init 636 = .ok (.bastore, 1) := by decide +kernel
theorem dX12_init_637 : decode cX12_init 637 = .ok (.dup, 1) := by decide +kernel
theorem dX12_init_638 : decode cX12_init 638 = .ok (.bipush 96, 2) := by decide +kernel
theorem dX12_init_640 : decode cX12_init 640 = .ok (.bipush 111, 2) := by decide +kernel
theorem dX12_init_642 : decode cX12_init 642 = .ok (.bastore, 1) := by decide +kernel
theorem dX12_init_643 : decode cX12_init 643 = .ok (.dup, 1) := by decide +kernel
theorem dX12_init_644 : decode cX12_init 644 = .ok (.bipush 97, 2) := by decide +kernel
theorem dX12_init_646 : decode cX12_init 646 = .ok (.bipush 117, 2) := by decide +kernel
theorem dX12_init_648 : decode cX12_init 648 = .ok (.bastore, 1) := by decide +kernel
theorem dX12_init_649 : decode cX12_init 649 = .ok (.dup, 1) := by decide +kernel
theorem dX12_init_650 : decode cX12_init 650 = .ok (.bipush 98, 2) := by decide +kernel
theorem dX12_init_652 : decode cX12_init 652 = .ok (.bipush 116, 2) := by decide +kernel
theorem dX12_init_654 : decode cX12_init 654 = .ok (.bastore, 1) := by decide +kernel
theorem dX12_init_655 : decode cX12_init 655 = .ok (.dup, 1) := by decide +kernel
theorem dX12_init_656 : decode cX12_init 656 = .ok (.bipush 99, 2) := by decide +kernel
theorem dX12_init_658 : decode cX12_init 658 = .ok (.bipush 32, 2) := by decide +kernel
theorem dX12_init_660 : decode cX12_init 660 = .ok (.bastore, 1) := by decide +kernel
theorem dX12_init_661 : decode cX12_init 661 = .ok (.dup, 1) := by decide +kernel
theorem dX12_init_662 : decode cX12_init 662 = .ok (.bipush 100, 2) := by decide +kernel
theorem dX12_init_664 : decode cX12_init 664 = .ok (.bipush 115, 2) := by decide +kernel
theorem dX12_init_666 : decode cX12_init 666 = .ok (.bastore, 1) := by decide +kernel
theorem dX12_init_667 : decode cX12_init 667 = .ok (.dup, 1) := by decide +kernel
theorem dX12_init_668 : decode cX12_init 668 = .ok (.bipush 101, 2) := by decide +kernel
theorem dX12_init_670 : decode cX12_init 670 = .ok (.bipush 119, 2) := by decide +kernel
theorem dX12_init_672 : decode cX12_init 672 = .ok (.bastore, 1) := by decide +kernel
theorem dX12_init_673 : decode cX12_init 673 = .ok (.dup, 1) := by decide +kernel
theorem dX12_init_674 : decode cX12_init 674 = .ok (.bipush 102, 2) := by decide +kernel
theorem dX12_init_676 : decode cX12_init 676 = .ok (.bipush 97, 2) := by decide +kernel
theorem dX12_init_678 : decode cX12_init 678 = .ok (.bastore, 1) := by decide +kernel
theorem dX12_init_679 : decode cX12_init 679 = .ok (.dup, 1) := by decide +kernel
theorem dX12_init_680 : decode cX12_init 680 = .ok (.bipush 103, 2) := by decide +kernel
theorem dX12_init_682 : decode cX12_init 682 = .ok (.bipush 112, 2) := by decide +kernel
theorem dX12_init_684 : decode cX12_init 684 = .ok (.bastore, 1) := by decide +kernel
theorem dX12_init_685 : decode cX12_init 685 = .ok (.dup, 1) := by decide +kernel
theorem dX12_init_686 : decode cX12_init 686 = .ok (.bipush 104, 2) := by decide +kernel
theorem dX12_init_688 : decode cX12_init 688 = .ok (.bipush 32, 2) := by decide +kernel
theorem dX12_init_690 : decode cX12_init 690 = .ok (.bastore, 1) := by decide +kernel
theorem dX12_init_691 : decode cX12_init 691 = .ok (.dup, 1) := by decide +kernel
theorem dX12_init_692 : decode cX12_init 692 = .ok (.bipush 105, 2) := by decide +kernel
theorem dX12_init_694 : decode cX12_init 694 = .ok (.bipush 100, 2) := by decide +kernel
theorem dX12_init_696 : decode cX12_init 696 = .ok (.bastore, 1) := by decide +kernel
theorem dX12_init_697 : decode cX12_init 697 = .ok (.dup, 1) := by decide +kernel
theorem dX12_init_698 : decode cX12_init 698 = .ok (.bipush 106, 2) := by decide +kernel
theorem dX12_init_700 : decode cX12_init 700 = .ok (.bipush 111, 2) := by decide +kernel
theorem dX12_init_702 : decode cX12_init 702 = .ok (.bastore, 1) := by decide +kernel
theorem dX12_init_703 : decode cX12_init 703 = .ok (.dup, 1) := by decide +kernel
theorem dX12_init_704 : decode cX12_init 704 = .ok (.bipush 107, 2) := by decide +kernel
theorem dX12_init_706 : decode cX12_init 706 = .ok (.bipush 117, 2) := by decide +kernel
theorem dX12_init_708 : decode cX12_init 708 = .ok (.bastore, 1) := by decide +kernel
theorem dX12_init_709 : decode cX12_init 709 = .ok (.dup, 1) := by decide +kernel
theorem dX12_init_710 : decode cX12_init 710 = .ok (.bipush 108, 2) := by decide +kernel
theorem dX12_init_712 : decode cX12_init 712 = .ok (.bipush 98, 2) := by decide +kernel
theorem dX12_init_714 : decode cX12_init 714 = .ok (.bastore, 1) := by decide +kernel
theorem dX12_init_715 : decode cX12_init 715 = .ok (.dup, 1) := by decide +kernel
theorem dX12_init_716 : decode cX12_init 716 = .ok (.bipush 109, 2) := by decide +kernel
theorem dX12_init_718 : decode cX12_init 718 = .ok (.bipush 108, 2) := by decide +kernel
theorem dX12_init_720 : decode cX12_init 720 = .ok (.bastore, 1) := by decide +kernel
theorem dX12_init_721 : decode cX12_init 721 = .ok (.dup, 1) := by decide +kernel
theorem dX12_init_722 : decode cX12_init 722 = .ok (.bipush 110, 2) := by decide +kernel
theorem dX12_init_724 : decode cX12_init 724 = .ok (.bipush 101, 2) := by decide +kernel
theorem dX12_init_726 : decode cX12_init 726 = .ok (.bastore, 1) := by decide +kernel
theorem dX12_init_727 : decode cX12_init 727 = .ok (.dup, 1) := by decide +kernel
theorem dX12_init_728 : decode cX12_init 728 = .ok (.bipush 111, 2) := by decide +kernel
theorem dX12_init_730 : decode cX12_init 730 = .ok (.bipush 32, 2) := by decide +kernel
theorem dX12_init_732 : decode cX12_init 732 = .ok (.bastore, 1) := by decide +kernel
theorem dX12_init_733 : decode cX12_init 733 = .ok (.dup, 1) := by decide +kernel
theorem dX12_init_734 : decode cX12_init 734 = .ok (.bipush 112, 2) := by decide +kernel
theorem dX12_init_736 : decode cX12_init 736 = .ok (.bipush 115, 2) := by decide +kernel
theorem dX12_init_738 : decode cX12_init 738 = .ok (.bastore, 1) := by decide +kernel
theorem dX12_init_739 : decode cX12_init 739 = .ok (.dup, 1) := by decide +kernel
theorem dX12_init_740 : decode cX12_init 740 = .ok (.bipush 113, 2) := by decide +kernel
theorem dX12_init_742 : decode cX12_init 742 = .ok (.bipush 116, 2) := by decide +kernel
theorem dX12_init_744 : decode cX12_init 744 = .ok (.bastore, 1) := by decide +kernel
theorem dX12_init_745 : decode cX12_init 745 = .ok (.dup, 1) := by decide +kernel
theorem dX12_init_746 : decode cX12_init 746 = .ok (.bipush 114, 2) := by decide +kernel
theorem dX12_init_748 : decode cX12_init 748 = .ok (.bipush 97, 2) := by decide +kernel
theorem dX12_init_750 : decode cX12_init 750 = .ok (.bastore, 1) := by decide +kernel
theorem dX12_init_751 : decode cX12_init 751 = .ok (.dup, 1) := by decide +kernel
theorem dX12_init_752 : decode cX12_init 752 = .ok (.bipush 115, 2) := by decide +kernel
theorem dX12_init_754 : decode cX12_init 754 = .ok (.bipush 110, 2) := by decide +kernel
theorem dX12_init_756 : decode cX12_init 756 = .ok (.bastore, 1) := by decide +kernel
theorem dX12_init_757 : decode cX12_init 757 = .ok (.dup, 1) := by decide +kernel
theorem dX12_init_758 : decode cX12_init 758 = .ok (.bipush 116, 2) := by decide +kernel
theorem dX12_init_760 : decode cX12_init 760 = .ok (.bipush 100, 2) := by decide +kernel
theorem dX12_init_762 : decode cX12_init 762 = .ok (.bastore, 1) := by decide +kernel
theorem dX12_init_763 : decode cX12_init 763 = .ok (.dup, 1) := by decide +kernel
theorem dX12_init_764 : decode cX12_init 764 = .ok (.bipush 117, 2) := by decide +kernel
theorem dX12_init_766 : decode cX12_init 766 = .ok (.bipush 32, 2) := by decide +kernel
theorem dX12_init_768 : decode cX12_init 768 = .ok (.bastore, 1) := by decide +kernel
theorem dX12_init_769 : decode cX12_init 769 = .ok (.dup, 1) := by decide +kernel
theorem dX12_init_770 : decode cX12_init 770 = .ok (.bipush 118, 2) := by decide +kernel
theorem dX12_init_772 : decode cX12_init 772 = .ok (.bipush 105, 2) := by decide +kernel
theorem dX12_init_774 : decode cX12_init 774 = .ok (.bastore, 1) := by decide +kernel
theorem dX12_init_775 : decode cX12_init 775 = .ok (.dup, 1) := by decide +kernel
theorem dX12_init_776 : decode cX12_init 776 = .ok (.bipush 119, 2) := by decide +kernel
theorem dX12_init_778 : decode cX12_init 778 = .ok (.bipush 110, 2) := by decide +kernel
theorem dX12_init_780 : decode cX12_init 780 = .ok (.bastore, 1) := by decide +kernel
theorem dX12_init_781 : decode cX12_init 781 = .ok (.dup, 1) := by decide +kernel
theorem dX12_init_782 : decode cX12_init 782 = .ok (.bipush 120, 2) := by decide +kernel
theorem dX12_init_784 : decode cX12_init 784 = .ok (.bipush 32, 2) := by decide +kernel
theorem dX12_init_786 : decode cX12_init 786 = .ok (.bastore, 1) := by decide +kernel
theorem dX12_init_787 : decode cX12_init 787 = .ok (.dup, 1) := by decide +kernel
theorem dX12_init_788 : decode cX12_init 788 = .ok (.bipush 121, 2) := by decide +kernel
theorem dX12_init_790 : decode cX12_init 790 = .ok (.bipush 97, 2) := by decide +kernel
theorem dX12_init_792 : decode cX12_init 792 = .ok (.bastore, 1) := by decide +kernel
theorem dX12_init_793 : decode cX12_init 793 = .ok (.dup, 1) := by decide +kernel
theorem dX12_init_794 : decode cX12_init 794 = .ok (.bipush 122, 2) := by decide +kernel
theorem dX12_init_796 : decode cX12_init 796 = .ok (.bipush 116, 2) := by decide +kernel
theorem dX12_init_798 : decode cX12_init 798 = .ok (.bastore, 1) := by decide +kernel
theorem dX12_init_799 : decode cX12_init 799 = .ok (.dup, 1) := by decide +kernel
theorem dX12_init_800 : decode cX12_init 800 = .ok (.bipush 123, 2) := by decide +kernel
theorem dX12_init_802 : decode cX12_init 802 = .ok (.bipush 32, 2) := by decide +kernel
theorem dX12_init_804 : decode cX12_init 804 = .ok (.bastore, 1) := by decide +kernel
theorem dX12_init_805 : decode cX12_init 805 = .ok (.dup, 1) := by decide +kernel
theorem dX12_init_806 : decode cX12_init 806 = .ok (.bipush 124, 2) := by decide +kernel
theorem dX12_init_808 : decode cX12_init 808 = .ok (.bipush 116, 2) := by decide +kernel
theorem dX12_init_810 : decode cX12_init 810 = .ok (.bastore, 1) := by decide +kernel
theorem dX12_init_811 : decode cX12_init 811 = .ok (.dup, 1) := by decide +kernel
theorem dX12_init_812 : decode cX12_init 812 = .ok (.bipush 125, 2) := by decide +kernel
theorem dX12_init_814 : decode cX12_init 814 = .ok (.bipush 105, 2) := by decide +kernel
theorem dX12_init_816 : decode cX12_init 816 = .ok (.bastore, 1) := by decide +kernel
theorem dX12_init_817 : decode cX12_init 817 = .ok (.dup, 1) := by decide +kernel
theorem dX12_init_818 : decode cX12_init 818 = .ok (.bipush 126, 2) := by decide +kernel
theorem dX12_init_820 : decode cX12_init 820 = .ok (.bipush 109, 2) := by decide +kernel
theorem dX12_init_822 : decode cX12_init 822 = .ok (.bastore, 1) := by decide +kernel
theorem dX12_init_823 : decode cX12_init 823 = .ok (.dup, 1) := by decide +kernel
theorem dX12_init_824 : decode cX12_init 824 = .ok (.bipush 127, 2) := by decide +kernel
theorem dX12_init_826 : decode cX12_init 826 = .ok (.bipush 101, 2) := by decide +kernel
theorem dX12_init_828 : decode cX12_init 828 = .ok (.bastore, 1) := by decide +kernel
theorem dX12_init_829 : decode cX12_init 829 = .ok (.dup, 1) := by decide +kernel
theorem dX12_init_830 : decode cX12_init 830 = .ok (.sipush 128, 3) := by decide +kernel
theorem dX12_init_833 : decode cX12_init 833 = .ok (.bipush 115, 2) := by decide +kernel
theorem dX12_init_835 : decode cX12_init 835 = .ok (.bastore, 1) := by decide +kernel
theorem dX12_init_836 : decode cX12_init 836 = .ok (.dup, 1) := by decide +kernel
theorem dX12_init_837 : decode cX12_init 837 = .ok (.sipush 129, 3) := by decide +kernel
theorem dX12_init_840 : decode cX12_init 840 = .ok (.bipush 32, 2) := by decide +kernel
theorem dX12_init_842 : decode cX12_init 842 = .ok (.bastore, 1) := by decide +kernel
theorem dX12_init_843 : decode cX12_init 843 = .ok (.putfield 39, 3) := by decide +kernel
theorem dX12_init_846 : decode cX12_init 846 = .ok (.aload_n 0, 1) := by decide +kernel
theorem dX12_init_847 : decode cX12_init 847 = .ok (.sipush 400, 3) := by decide +kernel
theorem dX12_init_850 : decode cX12_init 850 = .ok (.newarray .byte, 2) := by decide +kernel
theorem dX12_init_852 : decode cX12_init 852 = .ok (.putfield 43, 3) := by decide +kernel
theorem dX12_init_855 : decode cX12_init 855 = .ok (.aload_n 0, 1) := by decide +kernel
theorem dX12_init_856 : decode cX12_init 856 = .ok (.iconst 5, 1) := by decide +kernel
theorem dX12_init_857 : decode cX12_init 857 = .ok (.newarray .int, 2) := by decide +kernel
theorem dX12_init_859 : decode cX12_init 859 = .ok (.putfield 46, 3) := by decide +kernel
theorem dX12_init_862 : decode cX12_init 862 = .ok (.aload_n 0, 1) := by decide +kernel
theorem dX12_init_863 : decode cX12_init 863 = .ok (.iconst (-1), 1) := by decide +kernel
theorem dX12_init_864 : decode cX12_init 864 = .ok (.putfield 49, 3) := by decide +kernel
theorem dX12_init_867 : decode cX12_init 867 = .ok (.aload_n 0, 1) := by decide +kernel
theorem dX12_init_868 : decode cX12_init 868 = .ok (.sipush 401, 3) := by decide +kernel
theorem dX12_init_871 : decode cX12_init 871 = .ok (.newarray .int, 2) := by decide +kernel
theorem dX12_init_873 : decode cX12_init 873 = .ok (.putfield 52, 3) := by decide +kernel
theorem dX12_init_876 : decode cX12_init 876 = .ok (.aload_n 0, 1) := by decide +kernel
theorem dX12_init_877 : decode cX12_init 877 = .ok (.sipush 401, 3) := by decide +kernel
theorem dX12_init_880 : decode cX12_init 880 = .ok (.newarray .int, 2) := by decide +kernel
theorem dX12_init_882 : decode cX12_init 882 = .ok (.putfield 55, 3) := by decide +kernel
theorem dX12_init_885 : decode cX12_init 885 = .ok (.aload_n 0, 1) := by decide +kernel
theorem dX12_init_886 : decode cX12_init 886 = .ok (.sipush 401, 3) := by decide +kernel
theorem dX12_init_889 : decode cX12_init 889 = .ok (.newarray .int, 2) := by decide +kernel
theorem dX12_init_891 : decode cX12_init 891 = .ok (.putfield 58, 3) := by decide +kernel
theorem dX12_init_894 : decode cX12_init 894 = .ok (.aload_n 0, 1) := by decide +kernel
theorem dX12_init_895 : decode cX12_init 895 = .ok (.bipush 8, 2) := by decide +kernel
theorem dX12_init_897 : decode cX12_init 897 = .ok (.newarray .int, 2) := by decide +kernel
theorem dX12_init_899 : decode cX12_init 899 = .ok (.putfield 61, 3) := by decide +kernel
theorem dX12_init_902 : decode cX12_init 902 = .ok (.aload_n 0, 1) := by decide +kernel
theorem dX12_init_903 : decode cX12_init 903 = .ok (.iconst 4, 1) := by decide +kernel
theorem dX12_init_904 : decode cX12_init 904 = .ok (.newarray .int, 2) := by decide +kernel
theorem dX12_init_906 : decode cX12_init 906 = .ok (.putfield 64, 3) := by decide +kernel
theorem dX12_init_909 : decode cX12_init 909 = .ok (.aload_n 0, 1) := by decide +kernel
theorem dX12_init_910 : decode cX12_init 910 = .ok (.ldc 67, 2) := by decide +kernel
theorem dX12_init_912 : decode cX12_init 912 = .ok (.newarray .int, 2) := by decide +kernel
theorem dX12_init_914 : decode cX12_init 914 = .ok (.putfield 68, 3) := by decide +kernel
theorem dX12_init_917 : decode cX12_init 917 = .ok (.aload_n 0, 1) := by decide +kernel
theorem dX12_init_918 : decode cX12_init 918 = .ok (.sipush 9331, 3) := by decide +kernel
theorem dX12_init_921 : decode cX12_init 921 = .ok (.newarray .int, 2) := by decide +kernel
theorem dX12_init_923 : decode cX12_init 923 = .ok (.putfield 71, 3) := by decide +kernel
theorem dX12_init_926 : decode cX12_init 926 = .ok (.aload_n 0, 1) := by decide +kernel
theorem dX12_init_927 : decode cX12_init 927 = .ok (.iconst (-1), 1) := by decide +kernel
theorem dX12_init_928 : decode cX12_init 928 = .ok (.putfield 74, 3) := by decide +kernel
theorem dX12_init_931 : decode cX12_init 931 = .ok (.aload_n 0, 1) := by decide +kernel
theorem dX12_init_932 : decode cX12_init 932 = .ok (.sipush 9331, 3) := by decide +kernel
theorem dX12_init_935 : decode cX12_init 935 = .ok (.newarray .int, 2) := by decide +kernel
theorem dX12_init_937 : decode cX12_init 937 = .ok (.putfield 77, 3) := by decide +kernel
theorem dX12_init_940 : decode cX12_init 940 = .ok (.aload_n 0, 1) := by decide +kernel
theorem dX12_init_941 : decode cX12_init 941 = .ok (.sipush 9331, 3) := by decide +kernel
theorem dX12_init_944 : decode cX12_init 944 = .ok (.newarray .int, 2) := by decide +kernel
theorem dX12_init_946 : decode cX12_init 946 = .ok (.putfield 80, 3) := by decide +kernel
theorem dX12_init_949 : decode cX12_init 949 = .ok (.aload_n 0, 1) := by decide +kernel
theorem dX12_init_950 : decode cX12_init 950 = .ok (.sipush 9331, 3) := by decide +kernel
theorem dX12_init_953 : decode cX12_init 953 = .ok (.newarray .boolean, 2) := by decide +kernel
theorem dX12_init_955 : decode cX12_init 955 = .ok (.putfield 83, 3) := by decide +kernel
theorem dX12_init_958 : decode cX12_init 958 = .ok (.aload_n 0, 1) := by decide +kernel
theorem dX12_init_959 : decode cX12_init 959 = .ok (.bipush 46, 2) := by decide +kernel
theorem dX12_init_961 : decode cX12_init 961 = .ok (.newarray .int, 2) := by decide +kernel
theorem dX12_init_963 : decode cX12_init 963 = .ok (.putfield 86, 3) := by decide +kernel
theorem dX12_init_966 : decode cX12_init 966 = .ok (.aload_n 0, 1) := by decide +kernel
theorem dX12_init_967 : decode cX12_init 967 = .ok (.sipush 9331, 3) := by decide +kernel
theorem dX12_init_970 : decode cX12_init 970 = .ok (.newarray .int, 2) := by decide +kernel
theorem dX12_init_972 : decode cX12_init 972 = .ok (.putfield 89, 3) := by decide +kernel
theorem dX12_init_975 : decode cX12_init 975 = .ok (.aload_n 0, 1) := by decide +kernel
theorem dX12_init_976 : decode cX12_init 976 = .ok (.bipush 6, 2) := by decide +kernel
theorem dX12_init_978 : decode cX12_init 978 = .ok (.newarray .int, 2) := by decide +kernel
theorem dX12_init_980 : decode cX12_init 980 = .ok (.putfield 92, 3) := by decide +kernel
theorem dX12_init_983 : decode cX12_init 983 = .ok (.aload_n 0, 1) := by decide +kernel
theorem dX12_init_984 : decode cX12_init 984 = .ok (.bipush 36, 2) := by decide +kernel
theorem dX12_init_986 : decode cX12_init 986 = .ok (.newarray .int, 2) := by decide +kernel
theorem dX12_init_988 : decode cX12_init 988 = .ok (.putfield 95, 3) := by decide +kernel
theorem dX12_init_991 : decode cX12_init 991 = .ok (.aload_n 0, 1) := by decide +kernel
theorem dX12_init_992 : decode cX12_init 992 = .ok (.bipush 6, 2) := by decide +kernel
theorem dX12_init_994 : decode cX12_init 994 = .ok (.newarray .int, 2) := by decide +kernel
theorem dX12_init_996 : decode cX12_init 996 = .ok (.putfield 98, 3) := by decide +kernel
theorem dX12_init_999 : decode cX12_init 999 = .ok (.aload_n 0, 1) := by decide +kernel
theorem dX12_init_1000 : decode cX12_init 1000 = .ok (.bipush 6, 2) := by decide +kernel
theorem dX12_init_1002 : decode cX12_init 1002 = .ok (.newarray .int, 2) := by decide +kernel
theorem dX12_init_1004 : decode cX12_init 1004 = .ok (.putfield 101, 3) := by decide +kernel
theorem dX12_init_1007 : decode cX12_init 1007 = .ok (.aload_n 0, 1) := by decide +kernel
theorem dX12_init_1008 : decode cX12_init 1008 = .ok (.sipush 9331, 3) := by decide +kernel
theorem dX12_init_1011 : decode cX12_init 1011 = .ok (.newarray .long, 2) := by decide +kernel
theorem dX12_init_1013 : decode cX12_init 1013 = .ok (.putfield 104, 3) := by decide +kernel
theorem dX12_init_1016 : decode cX12_init 1016 = .ok (.aload_n 0, 1) := by decide +kernel
theorem dX12_init_1017 : decode cX12_init 1017 = .ok (.sipush 9331, 3) := by decide +kernel
theorem dX12_init_1020 : decode cX12_init 1020 = .ok (.newarray .long, 2) := by decide +kernel
theorem dX12_init_1022 : decode cX12_init 1022 = .ok (.putfield 108, 3) := by decide +kernel
theorem dX12_init_1025 : decode cX12_init 1025 = .ok (.aload_n 0, 1) := by decide +kernel
theorem dX12_init_1026 : decode cX12_init 1026 = .ok (.iconst (-1), 1) := by decide +kernel
theorem dX12_init_1027 : decode cX12_init 1027 = .ok (.putfield 111, 3) := by decide +kernel
theorem dX12_init_1030 : decode cX12_init 1030 = .ok (.aload_n 0, 1) := by decide +kernel
theorem dX12_init_1031 : decode cX12_init 1031 = .ok (.iconst 3, 1) := by decide +kernel
theorem dX12_init_1032 : decode cX12_init 1032 = .ok (.newarray .long, 2) := by decide +kernel
theorem dX12_init_1034 : decode cX12_init 1034 = .ok (.putfield 114, 3) := by decide +kernel
theorem dX12_init_1037 : decode cX12_init 1037 = .ok (.aload_n 0, 1) := by decide +kernel
theorem dX12_init_1038 : decode cX12_init 1038 = .ok (.bipush 61, 2) := by decide +kernel
theorem dX12_init_1040 : decode cX12_init 1040 = .ok (.newarray .int, 2) := by decide +kernel
theorem dX12_init_1042 : decode cX12_init 1042 = .ok (.putfield 117, 3) := by decide +kernel
theorem dX12_init_1045 : decode cX12_init 1045 = .ok (.aload_n 0, 1) := by decide +kernel
theorem dX12_init_1046 : decode cX12_init 1046 = .ok (.iconst (-1), 1) := by decide +kernel
theorem dX12_init_1047 : decode cX12_init 1047 = .ok (.putfield 120, 3) := by decide +kernel
theorem dX12_init_1050 : decode cX12_init 1050 = .ok (.iconst 0, 1) := by decide +kernel
theorem dX12_init_1051 : decode cX12_init 1051 = .ok (.istore_n 1, 1) := by decide +kernel
theorem dX12_init_1052 : decode cX12_init 1052 = .ok (.iload_n 1, 1) := by decide +kernel
theorem dX12_init_1053 : decode cX12_init 1053 = .ok (.bipush 6, 2) := by decide +kernel
theorem dX12_init_1055 : decode cX12_init 1055 = .ok (.if_icmp .ge 29, 3) := by decide +kernel
theorem dX12_init_1058 : decode cX12_init 1058 = .ok (.aload_n 0, 1) := by decide +kernel
theorem dX12_init_1059 : decode cX12_init 1059 = .ok (.getfield 20, 3) := by decide +kernel
theorem dX12_init_1062 : decode cX12_init 1062 = .ok (.bipush 6, 2) := by decide +kernel
theorem dX12_init_1064 : decode cX12_init 1064 = .ok (.iload_n 1, 1) := by decide +kernel
theorem dX12_init_1065 : decode cX12_init 1065 = .ok (.iadd, 1) := by decide +kernel
theorem dX12_init_1066 : decode cX12_init 1066 = .ok (.iconst 1, 1) := by decide +kernel
theorem dX12_init_1067 : decode cX12_init 1067 = .ok (.iastore, 1) := by decide +kernel
theorem dX12_init_1068 : decode cX12_init 1068 = .ok (.aload_n 0, 1) := by decide +kernel
theorem dX12_init_1069 : decode cX12_init 1069 = .ok (.getfield 20, 3) := by decide +kernel
theorem dX12_init_1072 : decode cX12_init 1072 = .ok (.bipush 12, 2) := by decide +kernel
theorem dX12_init_1074 : decode cX12_init 1074 = .ok (.iload_n 1, 1) := by decide +kernel
theorem dX12_init_1075 : decode cX12_init 1075 = .ok (.iadd, 1) := by decide +kernel
theorem dX12_init_1076 : decode cX12_init 1076 = .ok (.iconst (-1), 1) := by decide +kernel
theorem dX12_init_1077 : decode cX12_init 1077 = .ok (.iastore, 1) := by decide +kernel
theorem dX12_init_1078 : decode cX12_init 1078 = .ok (.iinc 1 1, 3) := by decide +kernel
theorem dX12_init_1081 : decode cX12_init 1081 = .ok (.goto (-29), 3) := by decide +kernel
theorem dX12_init_1084 : decode cX12_init 1084 = .ok (.aload_n 0, 1) := by decide +kernel
theorem dX12_init_1085 : decode cX12_init 1085 = .ok (.getfield 20, 3) := by decide +kernel
theorem dX12_init_1088 : decode cX12_init 1088 = .ok (.bipush 58, 2) := by decide +kernel
theorem dX12_init_1090 : decode cX12_init 1090 = .ok (.iconst (-1), 1) := by decide +kernel
theorem dX12_init_1091 : decode cX12_init 1091 = .ok (.iastore, 1) := by decide +kernel
theorem dX12_init_1092 : decode cX12_init 1092 = .ok (.return_, 1) := by decide +kernel
theorem dX12_image_0 : decode cX12_image 0 = .ok (.iload_n 1, 1) := by decide +kernel
theorem dX12_image_1 : decode cX12_image 1 = .ok (.iconst 0, 1) := by decide +kernel
theorem dX12_image_2 : decode cX12_image 2 = .ok (.iconst 1, 1) := by decide +kernel
theorem dX12_image_3 : decode cX12_image 3 = .ok (.invokestatic 123, 3) := by decide +kernel
theorem dX12_image_6 : decode cX12_image 6 = .ok (.ifCond .ne 9, 3) := by decide +kernel
theorem dX12_image_9 : decode cX12_image 9 = .ok (.aload_n 0, 1) := by decide +kernel
theorem dX12_image_10 : decode cX12_image 10 = .ok (.iconst (-1), 1) := by decide +kernel
theorem dX12_image_11 : decode cX12_image 11 = .ok (.invokevirtual 127, 3) := by decide +kernel
theorem dX12_image_14 : decode cX12_image 14 = .ok (.ireturn, 1) := by decide +kernel
theorem dX12_image_15 : decode cX12_image 15 = .ok (.iconst 0, 1) := by decide +kernel
theorem dX12_image_16 : decode cX12_image 16 = .ok (.istore_n 2, 1) := by decide +kernel
theorem dX12_image_17 : decode cX12_image 17 = .ok (.iload_n 2, 1) := by decide +kernel
theorem dX12_image_18 : decode cX12_image 18 = .ok (.sipush 5666, 3) := by decide +kernel
theorem dX12_image_21 : decode cX12_image 21 = .ok (.if_icmp .ge 27, 3) := by decide +kernel
theorem dX12_image_24 : decode cX12_image 24 = .ok (.aload_n 0, 1) := by decide +kernel
theorem dX12_image_25 : decode cX12_image 25 = .ok (.getfield 23, 3) := by decide +kernel
theorem dX12_image_28 : decode cX12_image 28 = .ok (.sipush 5666, 3) := by decide +kernel
theorem dX12_image_31 : decode cX12_image 31 = .ok (.iload_n 1, 1) := by decide +kernel
theorem dX12_image_32 : decode cX12_image 32 = .ok (.imul, 1) := by decide +kernel
theorem dX12_image_33 : decode cX12_image 33 = .ok (.iload_n 2, 1) := by decide +kernel
theorem dX12_image_34 : decode cX12_image 34 = .ok (.iadd, 1) := by decide +kernel
theorem dX12_image_35 : decode cX12_image 35 = .ok (.aload_n 0, 1) := by decide +kernel
theorem dX12_image_36 : decode cX12_image 36 = .ok (.getfield 20, 3) := by decide +kernel
theorem dX12_image_39 : decode cX12_image 39 = .ok (.iload_n 2, 1) := by decide +kernel
theorem dX12_image_40 : decode cX12_image 40 = .ok (.iaload, 1) := by decide +kernel
theorem dX12_image_41 : decode cX12_image 41 = .ok (.iastore, 1) := by decide +kernel
theorem dX12_image_42 : decode cX12_image 42 = .ok (.iinc 2 1, 3) := by decide +kernel
theorem dX12_image_45 : decode cX12_image 45 = .ok (.goto (-28), 3) := by decide +kernel
theorem dX12_image_48 : decode cX12_image 48 = .ok (.aload_n 0, 1) := by decide +kernel
theorem dX12_image_49 : decode cX12_image 49 = .ok (.getfield 26, 3) := by decide +kernel
theorem dX12_image_52 : decode cX12_image 52 = .ok (.iload_n 1, 1) := by decide +kernel
theorem dX12_image_53 : decode cX12_image 53 = .ok (.iconst 1, 1) := by decide +kernel
theorem dX12_image_54 : decode cX12_image 54 = .ok (.bastore, 1) := by decide +kernel
theorem dX12_image_55 : decode cX12_image 55 = .ok (.aload_n 0, 1) := by decide +kernel
theorem dX12_image_56 : decode cX12_image 56 = .ok (.iconst 0, 1) := by decide +kernel
theorem dX12_image_57 : decode cX12_image 57 = .ok (.invokevirtual 131, 3) := by decide +kernel
theorem dX12_image_60 : decode cX12_image 60 = .ok (.ireturn, 1) := by decide +kernel
theorem dX12_back_0 : decode cX12_back 0 = .ok (.iload_n 1, 1) := by decide +kernel
theorem dX12_back_1 : decode cX12_back 1 = .ok (.iconst 0, 1) := by decide +kernel
theorem dX12_back_2 : decode cX12_back 2 = .ok (.iconst 1, 1) := by decide +kernel
theorem dX12_back_3 : decode cX12_back 3 = .ok (.invokestatic 123, 3) := by decide +kernel
theorem dX12_back_6 : decode cX12_back 6 = .ok (.ifCond .ne 9, 3) := by decide +kernel
theorem dX12_back_9 : decode cX12_back 9 = .ok (.aload_n 0, 1) := by decide +kernel
theorem dX12_back_10 : decode cX12_back 10 = .ok (.iconst (-1), 1) := by decide +kernel
theorem dX12_back_11 : decode cX12_back 11 = .ok (.invokevirtual 127, 3) := by decide +kernel
theorem dX12_back_14 : decode cX12_back 14 = .ok (.ireturn, 1) := by decide +kernel
theorem dX12_back_15 : decode cX12_back 15 = .ok (.aload_n 0, 1) := by decide +kernel
theorem dX12_back_16 : decode cX12_back 16 = .ok (.getfield 26, 3) := by decide +kernel
theorem dX12_back_19 : decode cX12_back 19 = .ok (.iload_n 1, 1) := by decide +kernel
theorem dX12_back_20 : decode cX12_back 20 = .ok (.baload, 1) := by decide +kernel
theorem dX12_back_21 : decode cX12_back 21 = .ok (.ifCond .ne 10, 3) := by decide +kernel
theorem dX12_back_24 : decode cX12_back 24 = .ok (.aload_n 0, 1) := by decide +kernel
theorem dX12_back_25 : decode cX12_back 25 = .ok (.bipush (-2), 2) := by decide +kernel
theorem dX12_back_27 : decode cX12_back 27 = .ok (.invokevirtual 127, 3) := by decide +kernel
theorem dX12_back_30 : decode cX12_back 30 = .ok (.ireturn, 1) := by decide +kernel
theorem dX12_back_31 : decode cX12_back 31 = .ok (.iconst 0, 1) := by decide +kernel
theorem dX12_back_32 : decode cX12_back 32 = .ok (.istore_n 2, 1) := by decide +kernel
theorem dX12_back_33 : decode cX12_back 33 = .ok (.iload_n 2, 1) := by decide +kernel
theorem dX12_back_34 : decode cX12_back 34 = .ok (.sipush 5666, 3) := by decide +kernel
theorem dX12_back_37 : decode cX12_back 37 = .ok (.if_icmp .ge 27, 3) := by decide +kernel
theorem dX12_back_40 : decode cX12_back 40 = .ok (.aload_n 0, 1) := by decide +kernel
theorem dX12_back_41 : decode cX12_back 41 = .ok (.getfield 20, 3) := by decide +kernel
theorem dX12_back_44 : decode cX12_back 44 = .ok (.iload_n 2, 1) := by decide +kernel
theorem dX12_back_45 : decode cX12_back 45 = .ok (.aload_n 0, 1) := by decide +kernel
theorem dX12_back_46 : decode cX12_back 46 = .ok (.getfield 23, 3) := by decide +kernel
theorem dX12_back_49 : decode cX12_back 49 = .ok (.sipush 5666, 3) := by decide +kernel
theorem dX12_back_52 : decode cX12_back 52 = .ok (.iload_n 1, 1) := by decide +kernel
theorem dX12_back_53 : decode cX12_back 53 = .ok (.imul, 1) := by decide +kernel
theorem dX12_back_54 : decode cX12_back 54 = .ok (.iload_n 2, 1) := by decide +kernel
theorem dX12_back_55 : decode cX12_back 55 = .ok (.iadd, 1) := by decide +kernel
theorem dX12_back_56 : decode cX12_back 56 = .ok (.iaload, 1) := by decide +kernel
theorem dX12_back_57 : decode cX12_back 57 = .ok (.iastore, 1) := by decide +kernel
theorem dX12_back_58 : decode cX12_back 58 = .ok (.iinc 2 1, 3) := by decide +kernel
theorem dX12_back_61 : decode cX12_back 61 = .ok (.goto (-28), 3) := by decide +kernel
theorem dX12_back_64 : decode cX12_back 64 = .ok (.aload_n 0, 1) := by decide +kernel
theorem dX12_back_65 : decode cX12_back 65 = .ok (.iconst 0, 1) := by decide +kernel
theorem dX12_back_66 : decode cX12_back 66 = .ok (.invokevirtual 131, 3) := by decide +kernel
theorem dX12_back_69 : decode cX12_back 69 = .ok (.ireturn, 1) := by decide +kernel
theorem dX12_isThing_0 : decode cX12_isThing 0 = .ok (.iload_n 0, 1) := by decide +kernel
theorem dX12_isThing_1 : decode cX12_isThing 1 = .ok (.iconst 0, 1) := by decide +kernel
theorem dX12_isThing_2 : decode cX12_isThing 2 = .ok (.iconst 5, 1) := by decide +kernel
theorem dX12_isThing_3 : decode cX12_isThing 3 = .ok (.invokestatic 123, 3) := by decide +kernel
theorem dX12_isThing_6 : decode cX12_isThing 6 = .ok (.ireturn, 1) := by decide +kernel
theorem dX12_isHouse_0 : decode cX12_isHouse 0 = .ok (.iload_n 1, 1) := by decide +kernel
theorem dX12_isHouse_1 : decode cX12_isHouse 1 = .ok (.iconst 0, 1) := by decide +kernel
theorem dX12_isHouse_2 : decode cX12_isHouse 2 = .ok (.aload_n 0, 1) := by decide +kernel
theorem dX12_isHouse_3 : decode cX12_isHouse 3 = .ok (.getfield 20, 3) := by decide +kernel
theorem dX12_isHouse_6 : decode cX12_isHouse 6 = .ok (.bipush 56, 2) := by decide +kernel
theorem dX12_isHouse_8 : decode cX12_isHouse 8 = .ok (.iaload, 1) := by decide +kernel
theorem dX12_isHouse_9 : decode cX12_isHouse 9 = .ok (.iconst 1, 1) := by decide +kernel
theorem dX12_isHouse_10 : decode cX12_isHouse 10 = .ok (.isub, 1) := by decide +kernel
theorem dX12_isHouse_11 : decode cX12_isHouse 11 = .ok (.invokestatic 123, 3) := by decide +kernel
theorem dX12_isHouse_14 : decode cX12_isHouse 14 = .ok (.ireturn, 1) := by decide +kernel
theorem dX12_fact_0 : decode cX12_fact 0 = .ok (.aload_n 0, 1) := by decide +kernel
theorem dX12_fact_1 : decode cX12_fact 1 = .ok (.getfield 20, 3) := by decide +kernel
theorem dX12_fact_4 : decode cX12_fact 4 = .ok (.bipush 18, 2) := by decide +kernel
theorem dX12_fact_6 : decode cX12_fact 6 = .ok (.iconst 3, 1) := by decide +kernel
theorem dX12_fact_7 : decode cX12_fact 7 = .ok (.iload_n 1, 1) := by decide +kernel
theorem dX12_fact_8 : decode cX12_fact 8 = .ok (.imul, 1) := by decide +kernel
theorem dX12_fact_9 : decode cX12_fact 9 = .ok (.iadd, 1) := by decide +kernel
theorem dX12_fact_10 : decode cX12_fact 10 = .ok (.iload_n 2, 1) := by decide +kernel
theorem dX12_fact_11 : decode cX12_fact 11 = .ok (.iadd, 1) := by decide +kernel
theorem dX12_fact_12 : decode cX12_fact 12 = .ok (.iaload, 1) := by decide +kernel
theorem dX12_fact_13 : decode cX12_fact 13 = .ok (.ireturn, 1) := by decide +kernel
theorem dX12_isPut_0 : decode cX12_isPut 0 = .ok (.iload_n 1, 1) := by decide +kernel
theorem dX12_isPut_1 : decode cX12_isPut 1 = .ok (.ifCond .ne 13, 3) := by decide +kernel
theorem dX12_isPut_4 : decode cX12_isPut 4 = .ok (.iload_n 2, 1) := by decide +kernel
theorem dX12_isPut_5 : decode cX12_isPut 5 = .ok (.iconst 0, 1) := by decide +kernel
theorem dX12_isPut_6 : decode cX12_isPut 6 = .ok (.bipush 9, 2) := by decide +kernel
theorem dX12_isPut_8 : decode cX12_isPut 8 = .ok (.invokestatic 123, 3) := by decide +kernel
theorem dX12_isPut_11 : decode cX12_isPut 11 = .ok (.goto 41, 3) := by decide +kernel
theorem dX12_isPut_14 : decode cX12_isPut 14 = .ok (.iload_n 1, 1) := by decide +kernel
theorem dX12_isPut_15 : decode cX12_isPut 15 = .ok (.iconst 1, 1) := by decide +kernel
theorem dX12_isPut_16 : decode cX12_isPut 16 = .ok (.if_icmp .ne 12, 3) := by decide +kernel
theorem dX12_isPut_19 : decode cX12_isPut 19 = .ok (.iload_n 2, 1) := by decide +kernel
theorem dX12_isPut_20 : decode cX12_isPut 20 = .ok (.iconst 0, 1) := by decide +kernel
theorem dX12_isPut_21 : decode cX12_isPut 21 = .ok (.iconst 1, 1) := by decide +kernel
theorem dX12_isPut_22 : decode cX12_isPut 22 = .ok (.invokestatic 123, 3) := by decide +kernel
theorem dX12_isPut_25 : decode cX12_isPut 25 = .ok (.goto 27, 3) := by decide +kernel
theorem dX12_isPut_28 : decode cX12_isPut 28 = .ok (.iload_n 1, 1) := by decide +kernel
theorem dX12_isPut_29 : decode cX12_isPut 29 = .ok (.iconst 2, 1) := by decide +kernel
theorem dX12_isPut_30 : decode cX12_isPut 30 = .ok (.if_icmp .ne 21, 3) := by decide +kernel
theorem dX12_isPut_33 : decode cX12_isPut 33 = .ok (.iload_n 2, 1) := by decide +kernel
theorem dX12_isPut_34 : decode cX12_isPut 34 = .ok (.iload_n 0, 1) := by decide +kernel
theorem dX12_isPut_35 : decode cX12_isPut 35 = .ok (.if_icmp .eq 16, 3) := by decide +kernel
theorem dX12_isPut_38 : decode cX12_isPut 38 = .ok (.iload_n 2, 1) := by decide +kernel
theorem dX12_isPut_39 : decode cX12_isPut 39 = .ok (.iconst (-1), 1) := by decide +kernel
theorem dX12_isPut_40 : decode cX12_isPut 40 = .ok (.iconst 5, 1) := by decide +kernel
theorem dX12_isPut_41 : decode cX12_isPut 41 = .ok (.invokestatic 123, 3) := by decide +kernel
theorem dX12_isPut_44 : decode cX12_isPut 44 = .ok (.ifCond .eq 7, 3) := by decide +kernel
theorem dX12_isPut_47 : decode cX12_isPut 47 = .ok (.iconst 1, 1) := by decide +kernel
theorem dX12_isPut_48 : decode cX12_isPut 48 = .ok (.goto 4, 3) := by decide +kernel
theorem dX12_isPut_51 : decode cX12_isPut 51 = .ok (.iconst 0, 1) := by decide +kernel
theorem dX12_isPut_52 : decode cX12_isPut 52 = .ok (.ireturn, 1) := by decide +kernel
theorem dX12_put_0 : decode cX12_put 0 = .ok (.iload_n 1, 1) := by decide +kernel
theorem dX12_put_1 : decode cX12_put 1 = .ok (.invokestatic 134, 3) := by decide +kernel
theorem dX12_put_4 : decode cX12_put 4 = .ok (.ifCond .eq 12, 3) := by decide +kernel
theorem dX12_put_7 : decode cX12_put 7 = .ok (.iload_n 1, 1) := by decide +kernel
theorem dX12_put_8 : decode cX12_put 8 = .ok (.iload_n 2, 1) := by decide +kernel
theorem dX12_put_9 : decode cX12_put 9 = .ok (.iload_n 3, 1) := by decide +kernel
theorem dX12_put_10 : decode cX12_put 10 = .ok (.invokestatic 138, 3) := by decide +kernel
theorem dX12_put_13 : decode cX12_put 13 = .ok (.ifCond .ne 9, 3) := by decide +kernel
theorem dX12_put_16 : decode cX12_put 16 = .ok (.aload_n 0, 1) := by decide +kernel
theorem dX12_put_17 : decode cX12_put 17 = .ok (.iconst (-1), 1) := by decide +kernel
theorem dX12_put_18 : decode cX12_put 18 = .ok (.invokevirtual 127, 3) := by decide +kernel
theorem dX12_put_21 : decode cX12_put 21 = .ok (.ireturn, 1) := by decide +kernel
theorem dX12_put_22 : decode cX12_put 22 = .ok (.aload_n 0, 1) := by decide +kernel
theorem dX12_put_23 : decode cX12_put 23 = .ok (.getfield 20, 3) := by decide +kernel
theorem dX12_put_26 : decode cX12_put 26 = .ok (.iconst 0, 1) := by decide +kernel
theorem dX12_put_27 : decode cX12_put 27 = .ok (.bipush 6, 2) := by decide +kernel
theorem dX12_put_29 : decode cX12_put 29 = .ok (.iload_n 2, 1) := by decide +kernel
theorem dX12_put_30 : decode cX12_put 30 = .ok (.imul, 1) := by decide +kernel
theorem dX12_put_31 : decode cX12_put 31 = .ok (.iadd, 1) := by decide +kernel
theorem dX12_put_32 : decode cX12_put 32 = .ok (.iload_n 1, 1) := by decide +kernel
theorem dX12_put_33 : decode cX12_put 33 = .ok (.iadd, 1) := by decide +kernel
theorem dX12_put_34 : decode cX12_put 34 = .ok (.iaload, 1) := by decide +kernel
theorem dX12_put_35 : decode cX12_put 35 = .ok (.istore 4, 2) := by decide +kernel
theorem dX12_put_37 : decode cX12_put 37 = .ok (.aload_n 0, 1) := by decide +kernel
theorem dX12_put_38 : decode cX12_put 38 = .ok (.getfield 20, 3) := by decide +kernel
theorem dX12_put_41 : decode cX12_put 41 = .ok (.iconst 0, 1) := by decide +kernel
theorem dX12_put_42 : decode cX12_put 42 = .ok (.bipush 6, 2) := by decide +kernel
theorem dX12_put_44 : decode cX12_put 44 = .ok (.iload_n 2, 1) := by decide +kernel
theorem dX12_put_45 : decode cX12_put 45 = .ok (.imul, 1) := by decide +kernel
theorem dX12_put_46 : decode cX12_put 46 = .ok (.iadd, 1) := by decide +kernel
theorem dX12_put_47 : decode cX12_put 47 = .ok (.iload_n 1, 1) := by decide +kernel
theorem dX12_put_48 : decode cX12_put 48 = .ok (.iadd, 1) := by decide +kernel
theorem dX12_put_49 : decode cX12_put 49 = .ok (.iload_n 3, 1) := by decide +kernel
theorem dX12_put_50 : decode cX12_put 50 = .ok (.iastore, 1) := by decide +kernel
theorem dX12_put_51 : decode cX12_put 51 = .ok (.aload_n 0, 1) := by decide +kernel
theorem dX12_put_52 : decode cX12_put 52 = .ok (.iload 4, 2) := by decide +kernel
theorem dX12_put_54 : decode cX12_put 54 = .ok (.invokevirtual 131, 3) := by decide +kernel
theorem dX12_put_57 : decode cX12_put 57 = .ok (.ireturn, 1) := by decide +kernel
theorem dX12_of_0 : decode cX12_of 0 = .ok (.iload_n 1, 1) := by decide +kernel
theorem dX12_of_1 : decode cX12_of 1 = .ok (.invokestatic 134, 3) := by decide +kernel
theorem dX12_of_4 : decode cX12_of 4 = .ok (.ifCond .eq 28, 3) := by decide +kernel
theorem dX12_of_7 : decode cX12_of 7 = .ok (.iload_n 2, 1) := by decide +kernel
theorem dX12_of_8 : decode cX12_of 8 = .ok (.iconst 0, 1) := by decide +kernel
theorem dX12_of_9 : decode cX12_of 9 = .ok (.iconst 2, 1) := by decide +kernel
theorem dX12_of_10 : decode cX12_of 10 = .ok (.invokestatic 123, 3) := by decide +kernel
theorem dX12_of_13 : decode cX12_of 13 = .ok (.ifCond .eq 19, 3) := by decide +kernel
theorem dX12_of_16 : decode cX12_of 16 = .ok (.aload_n 0, 1) := by decide +kernel
theorem dX12_of_17 : decode cX12_of 17 = .ok (.getfield 20, 3) := by decide +kernel
theorem dX12_of_20 : decode cX12_of 20 = .ok (.iconst 0, 1) := by decide +kernel
theorem dX12_of_21 : decode cX12_of 21 = .ok (.bipush 6, 2) := by decide +kernel
theorem dX12_of_23 : decode cX12_of 23 = .ok (.iload_n 2, 1) := by decide +kernel
theorem dX12_of_24 : decode cX12_of 24 = .ok (.imul, 1) := by decide +kernel
theorem dX12_of_25 : decode cX12_of 25 = .ok (.iadd, 1) := by decide +kernel
theorem dX12_of_26 : decode cX12_of 26 = .ok (.iload_n 1, 1) := by decide +kernel
theorem dX12_of_27 : decode cX12_of 27 = .ok (.iadd, 1) := by decide +kernel
theorem dX12_of_28 : decode cX12_of 28 = .ok (.iaload, 1) := by decide +kernel
theorem dX12_of_29 : decode cX12_of 29 = .ok (.goto 4, 3) := by decide +kernel
theorem dX12_of_32 : decode cX12_of 32 = .ok (.iconst (-1), 1) := by decide +kernel
theorem dX12_of_33 : decode cX12_of 33 = .ok (.ireturn, 1) := by decide +kernel
theorem dX12_isDish_0 : decode cX12_isDish 0 = .ok (.iload_n 0, 1) := by decide +kernel
theorem dX12_isDish_1 : decode cX12_isDish 1 = .ok (.iconst 0, 1) := by decide +kernel
theorem dX12_isDish_2 : decode cX12_isDish 2 = .ok (.ldc 141, 2) := by decide +kernel
theorem dX12_isDish_4 : decode cX12_isDish 4 = .ok (.invokestatic 123, 3) := by decide +kernel
theorem dX12_isDish_7 : decode cX12_isDish 7 = .ok (.ifCond .ne 5, 3) := by decide +kernel
theorem dX12_isDish_10 : decode cX12_isDish 10 = .ok (.iconst 0, 1) := by decide +kernel
theorem dX12_isDish_11 : decode cX12_isDish 11 = .ok (.ireturn, 1) := by decide +kernel
theorem dX12_isDish_12 : decode cX12_isDish 12 = .ok (.iload_n 0, 1) := by decide +kernel
theorem dX12_isDish_13 : decode cX12_isDish 13 = .ok (.istore_n 1, 1) := by decide +kernel
theorem dX12_isDish_14 : decode cX12_isDish 14 = .ok (.iload_n 1, 1) := by decide +kernel
theorem dX12_isDish_15 : decode cX12_isDish 15 = .ok (.ifCond .le 26, 3) := by decide +kernel
theorem dX12_isDish_18 : decode cX12_isDish 18 = .ok (.iload_n 1, 1) := by decide +kernel
theorem dX12_isDish_19 : decode cX12_isDish 19 = .ok (.bipush 10, 2) := by decide +kernel
theorem dX12_isDish_21 : decode cX12_isDish 21 = .ok (.irem, 1) := by decide +kernel
theorem dX12_isDish_22 : decode cX12_isDish 22 = .ok (.iconst 1, 1) := by decide +kernel
theorem dX12_isDish_23 : decode cX12_isDish 23 = .ok (.bipush 6, 2) := by decide +kernel
theorem dX12_isDish_25 : decode cX12_isDish 25 = .ok (.invokestatic 123, 3) := by decide +kernel
theorem dX12_isDish_28 : decode cX12_isDish 28 = .ok (.ifCond .ne 5, 3) := by decide +kernel
theorem dX12_isDish_31 : decode cX12_isDish 31 = .ok (.iconst 0, 1) := by decide +kernel
theorem dX12_isDish_32 : decode cX12_isDish 32 = .ok (.ireturn, 1) := by decide +kernel
theorem dX12_isDish_33 : decode cX12_isDish 33 = .ok (.iload_n 1, 1) := by decide +kernel
theorem dX12_isDish_34 : decode cX12_isDish 34 = .ok (.bipush 10, 2) := by decide +kernel
theorem dX12_isDish_36 : decode cX12_isDish 36 = .ok (.idiv, 1) := by decide +kernel
theorem dX12_isDish_37 : decode cX12_isDish 37 = .ok (.istore_n 1, 1) := by decide +kernel
theorem dX12_isDish_38 : decode cX12_isDish 38 = .ok (.goto (-24), 3) := by decide +kernel
theorem dX12_isDish_41 : decode cX12_isDish 41 = .ok (.iconst 1, 1) := by decide +kernel
theorem dX12_isDish_42 : decode cX12_isDish 42 = .ok (.ireturn, 1) := by decide +kernel
theorem dX12_opens_0 : decode cX12_opens 0 = .ok (.aload_n 0, 1) := by decide +kernel
theorem dX12_opens_1 : decode cX12_opens 1 = .ok (.iconst 0, 1) := by decide +kernel
theorem dX12_opens_2 : decode cX12_opens 2 = .ok (.putfield 142, 3) := by decide +kernel
theorem dX12_opens_5 : decode cX12_opens 5 = .ok (.iload_n 1, 1) := by decide +kernel
theorem dX12_opens_6 : decode cX12_opens 6 = .ok (.istore_n 2, 1) := by decide +kernel
theorem dX12_opens_7 : decode cX12_opens 7 = .ok (.iload_n 2, 1) := by decide +kernel
theorem dX12_opens_8 : decode cX12_opens 8 = .ok (.ifCond .le 21, 3) := by decide +kernel
theorem dX12_opens_11 : decode cX12_opens 11 = .ok (.aload_n 0, 1) := by decide +kernel
theorem dX12_opens_12 : decode cX12_opens 12 = .ok (.dup, 1) := by decide +kernel
theorem dX12_opens_13 : decode cX12_opens 13 = .ok (.getfield 142, 3) := by decide +kernel
theorem dX12_opens_16 : decode cX12_opens 16 = .ok (.iconst 1, 1) := by decide +kernel
theorem dX12_opens_17 : decode cX12_opens 17 = .ok (.iadd, 1) := by decide +kernel
theorem dX12_opens_18 : decode cX12_opens 18 = .ok (.putfield 142, 3) := by decide +kernel
theorem dX12_opens_21 : decode cX12_opens 21 = .ok (.iload_n 2, 1) := by decide +kernel
theorem dX12_opens_22 : decode cX12_opens 22 = .ok (.bipush 10, 2) := by decide +kernel
theorem dX12_opens_24 : decode cX12_opens 24 = .ok (.idiv, 1) := by decide +kernel
theorem dX12_opens_25 : decode cX12_opens 25 = .ok (.istore_n 2, 1) := by decide +kernel
theorem dX12_opens_26 : decode cX12_opens 26 = .ok (.goto (-19), 3) := by decide +kernel
theorem dX12_opens_29 : decode cX12_opens 29 = .ok (.aload_n 0, 1) := by decide +kernel
theorem dX12_opens_30 : decode cX12_opens 30 = .ok (.getfield 142, 3) := by decide +kernel
theorem dX12_opens_33 : decode cX12_opens 33 = .ok (.iconst 1, 1) := by decide +kernel
theorem dX12_opens_34 : decode cX12_opens 34 = .ok (.isub, 1) := by decide +kernel
theorem dX12_opens_35 : decode cX12_opens 35 = .ok (.istore_n 2, 1) := by decide +kernel
theorem dX12_opens_36 : decode cX12_opens 36 = .ok (.iload_n 1, 1) := by decide +kernel
theorem dX12_opens_37 : decode cX12_opens 37 = .ok (.istore_n 3, 1) := by decide +kernel
theorem dX12_opens_38 : decode cX12_opens 38 = .ok (.iload_n 3, 1) := by decide +kernel
theorem dX12_opens_39 : decode cX12_opens 39 = .ok (.ifCond .le 26, 3) := by decide +kernel
theorem dX12_opens_42 : decode cX12_opens 42 = .ok (.aload_n 0, 1) := by decide +kernel
theorem dX12_opens_43 : decode cX12_opens 43 = .ok (.getfield 30, 3) := by decide +kernel
theorem dX12_opens_46 : decode cX12_opens 46 = .ok (.iload_n 2, 1) := by decide +kernel
theorem dX12_opens_47 : decode cX12_opens 47 = .ok (.iload_n 3, 1) := by decide +kernel
theorem dX12_opens_48 : decode cX12_opens 48 = .ok (.bipush 10, 2) := by decide +kernel
theorem dX12_opens_50 : decode cX12_opens 50 = .ok (.irem, 1) := by decide +kernel
theorem dX12_opens_51 : decode cX12_opens 51 = .ok (.iconst 1, 1) := by decide +kernel
theorem dX12_opens_52 : decode cX12_opens 52 = .ok (.isub, 1) := by decide +kernel
theorem dX12_opens_53 : decode cX12_opens 53 = .ok (.iastore, 1) := by decide +kernel
theorem dX12_opens_54 : decode cX12_opens 54 = .ok (.iinc 2 (-1), 3) := by decide +kernel
theorem dX12_opens_57 : decode cX12_opens 57 = .ok (.iload_n 3, 1) := by decide +kernel
theorem dX12_opens_58 : decode cX12_opens 58 = .ok (.bipush 10, 2) := by decide +kernel
theorem dX12_opens_60 : decode cX12_opens 60 = .ok (.idiv, 1) := by decide +kernel
theorem dX12_opens_61 : decode cX12_opens 61 = .ok (.istore_n 3, 1) := by decide +kernel
theorem dX12_opens_62 : decode cX12_opens 62 = .ok (.goto (-24), 3) := by decide +kernel
theorem dX12_opens_65 : decode cX12_opens 65 = .ok (.return_, 1) := by decide +kernel
theorem dX12_closes_0 : decode cX12_closes 0 = .ok (.iconst 0, 1) := by decide +kernel
theorem dX12_closes_1 : decode cX12_closes 1 = .ok (.istore_n 1, 1) := by decide +kernel
theorem dX12_closes_2 : decode cX12_closes 2 = .ok (.iconst 0, 1) := by decide +kernel
theorem dX12_closes_3 : decode cX12_closes 3 = .ok (.istore_n 2, 1) := by decide +kernel
theorem dX12_closes_4 : decode cX12_closes 4 = .ok (.iload_n 2, 1) := by decide +kernel
theorem dX12_closes_5 : decode cX12_closes 5 = .ok (.aload_n 0, 1) := by decide +kernel
theorem dX12_closes_6 : decode cX12_closes 6 = .ok (.getfield 142, 3) := by decide +kernel
theorem dX12_closes_9 : decode cX12_closes 9 = .ok (.if_icmp .ge 23, 3) := by decide +kernel
theorem dX12_closes_12 : decode cX12_closes 12 = .ok (.bipush 10, 2) := by decide +kernel
theorem dX12_closes_14 : decode cX12_closes 14 = .ok (.iload_n 1, 1) := by decide +kernel
theorem dX12_closes_15 : decode cX12_closes 15 = .ok (.imul, 1) := by decide +kernel
theorem dX12_closes_16 : decode cX12_closes 16 = .ok (.aload_n 0, 1) := by decide +kernel
theorem dX12_closes_17 : decode cX12_closes 17 = .ok (.getfield 30, 3) := by decide +kernel
theorem dX12_closes_20 : decode cX12_closes 20 = .ok (.iload_n 2, 1) := by decide +kernel
theorem dX12_closes_21 : decode cX12_closes 21 = .ok (.iaload, 1) := by decide +kernel
theorem dX12_closes_22 : decode cX12_closes 22 = .ok (.iadd, 1) := by decide +kernel
theorem dX12_closes_23 : decode cX12_closes 23 = .ok (.iconst 1, 1) := by decide +kernel
theorem dX12_closes_24 : decode cX12_closes 24 = .ok (.iadd, 1) := by decide +kernel
theorem dX12_closes_25 : decode cX12_closes 25 = .ok (.istore_n 1, 1) := by decide +kernel
theorem dX12_closes_26 : decode cX12_closes 26 = .ok (.iinc 2 1, 3) := by decide +kernel
theorem dX12_closes_29 : decode cX12_closes 29 = .ok (.goto (-25), 3) := by decide +kernel
theorem dX12_closes_32 : decode cX12_closes 32 = .ok (.iload_n 1, 1) := by decide +kernel
theorem dX12_closes_33 : decode cX12_closes 33 = .ok (.ireturn, 1) := by decide +kernel
theorem dX12_placeOf_0 : decode cX12_placeOf 0 = .ok (.iconst 0, 1) := by decide +kernel
theorem dX12_placeOf_1 : decode cX12_placeOf 1 = .ok (.istore_n 1, 1) := by decide +kernel
theorem dX12_placeOf_2 : decode cX12_placeOf 2 = .ok (.iconst 0, 1) := by decide +kernel
theorem dX12_placeOf_3 : decode cX12_placeOf 3 = .ok (.istore_n 2, 1) := by decide +kernel
theorem dX12_placeOf_4 : decode cX12_placeOf 4 = .ok (.iconst 0, 1) := by decide +kernel
theorem dX12_placeOf_5 : decode cX12_placeOf 5 = .ok (.istore_n 3, 1) := by decide +kernel
theorem dX12_placeOf_6 : decode cX12_placeOf 6 = .ok (.iconst 1, 1) := by decide +kernel
theorem dX12_placeOf_7 : decode cX12_placeOf 7 = .ok (.istore 4, 2) := by decide +kernel
theorem dX12_placeOf_9 : decode cX12_placeOf 9 = .ok (.sipush 10000, 3) := by decide +kernel
theorem dX12_placeOf_12 : decode cX12_placeOf 12 = .ok (.istore 5, 2) := by decide +kernel
theorem dX12_placeOf_14 : decode cX12_placeOf 14 = .ok (.iconst 0, 1) := by decide +kernel
theorem dX12_placeOf_15 : decode cX12_placeOf 15 = .ok (.istore 6, 2) := by decide +kernel
theorem dX12_placeOf_17 : decode cX12_placeOf 17 = .ok (.iconst 0, 1) := by decide +kernel
theorem dX12_placeOf_18 : decode cX12_placeOf 18 = .ok (.istore 7, 2) := by decide +kernel
theorem dX12_placeOf_20 : decode cX12_placeOf 20 = .ok (.iload 7, 2) := by decide +kernel
theorem dX12_placeOf_22 : decode cX12_placeOf 22 = .ok (.iconst 5, 1) := by decide +kernel
theorem dX12_placeOf_23 : decode cX12_placeOf 23 = .ok (.if_icmp .ge 74, 3) := by decide +kernel
theorem dX12_placeOf_26 : decode cX12_placeOf 26 = .ok (.iload_n 0, 1) := by decide +kernel
theorem dX12_placeOf_27 : decode cX12_placeOf 27 = .ok (.iload 5, 2) := by decide +kernel
theorem dX12_placeOf_29 : decode cX12_placeOf 29 = .ok (.idiv, 1) := by decide +kernel
theorem dX12_placeOf_30 : decode cX12_placeOf 30 = .ok (.bipush 10, 2) := by decide +kernel
theorem dX12_placeOf_32 : decode cX12_placeOf 32 = .ok (.irem, 1) := by decide +kernel
theorem dX12_placeOf_33 : decode cX12_placeOf 33 = .ok (.istore 8, 2) := by decide +kernel
theorem dX12_placeOf_35 : decode cX12_placeOf 35 = .ok (.iload 5, 2) := by decide +kernel
theorem dX12_placeOf_37 : decode cX12_placeOf 37 = .ok (.bipush 10, 2) := by decide +kernel
theorem dX12_placeOf_39 : decode cX12_placeOf 39 = .ok (.idiv, 1) := by decide +kernel
theorem dX12_placeOf_40 : decode cX12_placeOf 40 = .ok (.istore 5, 2) := by decide +kernel
theorem dX12_placeOf_42 : decode cX12_placeOf 42 = .ok (.iload 6, 2) := by decide +kernel
theorem dX12_placeOf_44 : decode cX12_placeOf 44 = .ok (.ifCond .ne 8, 3) := by decide +kernel
theorem dX12_placeOf_47 : decode cX12_placeOf 47 = .ok (.iload 8, 2) := by decide +kernel
theorem dX12_placeOf_49 : decode cX12_placeOf 49 = .ok (.ifCond .le 7, 3) := by decide +kernel
theorem dX12_placeOf_52 : decode cX12_placeOf 52 = .ok (.iconst 1, 1) := by decide +kernel
theorem dX12_placeOf_53 : decode cX12_placeOf 53 = .ok (.goto 4, 3) := by decide +kernel
theorem dX12_placeOf_56 : decode cX12_placeOf 56 = .ok (.iconst 0, 1) := by decide +kernel
theorem dX12_placeOf_57 : decode cX12_placeOf 57 = .ok (.istore 6, 2) := by decide +kernel
theorem dX12_placeOf_59 : decode cX12_placeOf 59 = .ok (.iload 6, 2) := by decide +kernel
theorem dX12_placeOf_61 : decode cX12_placeOf 61 = .ok (.ifCond .ne 6, 3) := by decide +kernel
theorem dX12_placeOf_64 : decode cX12_placeOf 64 = .ok (.goto 27, 3) := by decide +kernel
theorem dX12_placeOf_67 : decode cX12_placeOf 67 = .ok (.iload_n 2, 1) := by decide +kernel
theorem dX12_placeOf_68 : decode cX12_placeOf 68 = .ok (.iload 4, 2) := by decide +kernel
theorem dX12_placeOf_70 : decode cX12_placeOf 70 = .ok (.iadd, 1) := by decide +kernel
theorem dX12_placeOf_71 : decode cX12_placeOf 71 = .ok (.istore_n 2, 1) := by decide +kernel
theorem dX12_placeOf_72 : decode cX12_placeOf 72 = .ok (.iload 4, 2) := by decide +kernel
theorem dX12_placeOf_74 : decode cX12_placeOf 74 = .ok (.bipush 6, 2) := by decide +kernel
theorem dX12_placeOf_76 : decode cX12_placeOf 76 = .ok (.imul, 1) := by decide +kernel
theorem dX12_placeOf_77 : decode cX12_placeOf 77 = .ok (.istore 4, 2) := by decide +kernel
theorem dX12_placeOf_79 : decode cX12_placeOf 79 = .ok (.bipush 6, 2) := by decide +kernel
theorem dX12_placeOf_81 : decode cX12_placeOf 81 = .ok (.iload_n 3, 1) := by decide +kernel
theorem dX12_placeOf_82 : decode cX12_placeOf 82 = .ok (.imul, 1) := by decide +kernel
theorem dX12_placeOf_83 : decode cX12_placeOf 83 = .ok (.iload 8, 2) := by decide +kernel
theorem dX12_placeOf_85 : decode cX12_placeOf 85 = .ok (.iadd, 1) := by decide +kernel
theorem dX12_placeOf_86 : decode cX12_placeOf 86 = .ok (.iconst 1, 1) := by decide +kernel
theorem dX12_placeOf_87 : decode cX12_placeOf 87 = .ok (.isub, 1) := by decide +kernel
theorem dX12_placeOf_88 : decode cX12_placeOf 88 = .ok (.istore_n 3, 1) := by decide +kernel
theorem dX12_placeOf_89 : decode cX12_placeOf 89 = .ok (.iload_n 2, 1) := by decide +kernel
theorem dX12_placeOf_90 : decode cX12_placeOf 90 = .ok (.istore_n 1, 1) := by decide +kernel
theorem dX12_placeOf_91 : decode cX12_placeOf 91 = .ok (.iinc 7 1, 3) := by decide +kernel
theorem dX12_placeOf_94 : decode cX12_placeOf 94 = .ok (.goto (-74), 3) := by decide +kernel
theorem dX12_placeOf_97 : decode cX12_placeOf 97 = .ok (.iload_n 1, 1) := by decide +kernel
theorem dX12_placeOf_98 : decode cX12_placeOf 98 = .ok (.iload_n 3, 1) := by decide +kernel
theorem dX12_placeOf_99 : decode cX12_placeOf 99 = .ok (.iadd, 1) := by decide +kernel
theorem dX12_placeOf_100 : decode cX12_placeOf 100 = .ok (.ireturn, 1) := by decide +kernel
theorem dX12_dishAt_0 : decode cX12_dishAt 0 = .ok (.iload_n 0, 1) := by decide +kernel
theorem dX12_dishAt_1 : decode cX12_dishAt 1 = .ok (.istore_n 1, 1) := by decide +kernel
theorem dX12_dishAt_2 : decode cX12_dishAt 2 = .ok (.iconst 1, 1) := by decide +kernel
theorem dX12_dishAt_3 : decode cX12_dishAt 3 = .ok (.istore_n 2, 1) := by decide +kernel
theorem dX12_dishAt_4 : decode cX12_dishAt 4 = .ok (.iconst 0, 1) := by decide +kernel
theorem dX12_dishAt_5 : decode cX12_dishAt 5 = .ok (.istore_n 3, 1) := by decide +kernel
theorem dX12_dishAt_6 : decode cX12_dishAt 6 = .ok (.iload_n 1, 1) := by decide +kernel
theorem dX12_dishAt_7 : decode cX12_dishAt 7 = .ok (.iload_n 2, 1) := by decide +kernel
theorem dX12_dishAt_8 : decode cX12_dishAt 8 = .ok (.if_icmp .lt 18, 3) := by decide +kernel
theorem dX12_dishAt_11 : decode cX12_dishAt 11 = .ok (.iload_n 1, 1) := by decide +kernel
theorem dX12_dishAt_12 : decode cX12_dishAt 12 = .ok (.iload_n 2, 1) := by decide +kernel
theorem dX12_dishAt_13 : decode cX12_dishAt 13 = .ok (.isub, 1) := by decide +kernel
theorem dX12_dishAt_14 : decode cX12_dishAt 14 = .ok (.istore_n 1, 1) := by decide +kernel
theorem dX12_dishAt_15 : decode cX12_dishAt 15 = .ok (.iload_n 2, 1) := by decide +kernel
theorem dX12_dishAt_16 : decode cX12_dishAt 16 = .ok (.bipush 6, 2) := by decide +kernel
theorem dX12_dishAt_18 : decode cX12_dishAt 18 = .ok (.imul, 1) := by decide +kernel
theorem dX12_dishAt_19 : decode cX12_dishAt 19 = .ok (.istore_n 2, 1) := by decide +kernel
theorem dX12_dishAt_20 : decode cX12_dishAt 20 = .ok (.iinc 3 1, 3) := by decide +kernel
theorem dX12_dishAt_23 : decode cX12_dishAt 23 = .ok (.goto (-17), 3) := by decide +kernel
theorem dX12_dishAt_26 : decode cX12_dishAt 26 = .ok (.iconst 0, 1) := by decide +kernel
theorem dX12_dishAt_27 : decode cX12_dishAt 27 = .ok (.istore 4, 2) := by decide +kernel
theorem dX12_dishAt_29 : decode cX12_dishAt 29 = .ok (.iconst 1, 1) := by decide +kernel
theorem dX12_dishAt_30 : decode cX12_dishAt 30 = .ok (.istore 5, 2) := by decide +kernel
theorem dX12_dishAt_32 : decode cX12_dishAt 32 = .ok (.iconst 0, 1) := by decide +kernel
theorem dX12_dishAt_33 : decode cX12_dishAt 33 = .ok (.istore 6, 2) := by decide +kernel
theorem dX12_dishAt_35 : decode cX12_dishAt 35 = .ok (.iload 6, 2) := by decide +kernel
theorem dX12_dishAt_37 : decode cX12_dishAt 37 = .ok (.iload_n 3, 1) := by decide +kernel
theorem dX12_dishAt_38 : decode cX12_dishAt 38 = .ok (.if_icmp .ge 35, 3) := by decide +kernel
theorem dX12_dishAt_41 : decode cX12_dishAt 41 = .ok (.iload 4, 2) := by decide +kernel
theorem dX12_dishAt_43 : decode cX12_dishAt 43 = .ok (.iload 5, 2) := by decide +kernel
theorem dX12_dishAt_45 : decode cX12_dishAt 45 = .ok (.iload_n 1, 1) := by decide +kernel
theorem dX12_dishAt_46 : decode cX12_dishAt 46 = .ok (.bipush 6, 2) := by decide +kernel
theorem dX12_dishAt_48 : decode cX12_dishAt 48 = .ok (.irem, 1) := by decide +kernel
theorem dX12_dishAt_49 : decode cX12_dishAt 49 = .ok (.iconst 1, 1) := by decide +kernel
theorem dX12_dishAt_50 : decode cX12_dishAt 50 = .ok (.iadd, 1) := by decide +kernel
theorem dX12_dishAt_51 : decode cX12_dishAt 51 = .ok (.imul, 1) := by decide +kernel
theorem dX12_dishAt_52 : decode cX12_dishAt 52 = .ok (.iadd, 1) := by decide +kernel
theorem dX12_dishAt_53 : decode cX12_dishAt 53 = .ok (.istore 4, 2) := by decide +kernel
theorem dX12_dishAt_55 : decode cX12_dishAt 55 = .ok (.iload_n 1, 1) := by decide +kernel
theorem dX12_dishAt_56 : decode cX12_dishAt 56 = .ok (.bipush 6, 2) := by decide +kernel
theorem dX12_dishAt_58 : decode cX12_dishAt 58 = .ok (.idiv, 1) := by decide +kernel
theorem dX12_dishAt_59 : decode cX12_dishAt 59 = .ok (.istore_n 1, 1) := by decide +kernel
theorem dX12_dishAt_60 : decode cX12_dishAt 60 = .ok (.iload 5, 2) := by decide +kernel
theorem dX12_dishAt_62 : decode cX12_dishAt 62 = .ok (.bipush 10, 2) := by decide +kernel
theorem dX12_dishAt_64 : decode cX12_dishAt 64 = .ok (.imul, 1) := by decide +kernel
theorem dX12_dishAt_65 : decode cX12_dishAt 65 = .ok (.istore 5, 2) := by decide +kernel
theorem dX12_dishAt_67 : decode cX12_dishAt 67 = .ok (.iinc 6 1, 3) := by decide +kernel
theorem dX12_dishAt_70 : decode cX12_dishAt 70 = .ok (.goto (-35), 3) := by decide +kernel
theorem dX12_dishAt_73 : decode cX12_dishAt 73 = .ok (.iload 4, 2) := by decide +kernel
theorem dX12_dishAt_75 : decode cX12_dishAt 75 = .ok (.ireturn, 1) := by decide +kernel
theorem dX12_has_0 : decode cX12_has 0 = .ok (.iconst 0, 1) := by decide +kernel
theorem dX12_has_1 : decode cX12_has 1 = .ok (.istore_n 3, 1) := by decide +kernel
theorem dX12_has_2 : decode cX12_has 2 = .ok (.iload_n 1, 1) := by decide +kernel
theorem dX12_has_3 : decode cX12_has 3 = .ok (.istore 4, 2) := by decide +kernel
theorem dX12_has_5 : decode cX12_has 5 = .ok (.iload 4, 2) := by decide +kernel
theorem dX12_has_7 : decode cX12_has 7 = .ok (.ifCond .le 32, 3) := by decide +kernel
theorem dX12_has_10 : decode cX12_has 10 = .ok (.iload_n 3, 1) := by decide +kernel
theorem dX12_has_11 : decode cX12_has 11 = .ok (.iload 4, 2) := by decide +kernel
theorem dX12_has_13 : decode cX12_has 13 = .ok (.bipush 10, 2) := by decide +kernel
theorem dX12_has_15 : decode cX12_has 15 = .ok (.irem, 1) := by decide +kernel
theorem dX12_has_16 : decode cX12_has 16 = .ok (.iload_n 2, 1) := by decide +kernel
theorem dX12_has_17 : decode cX12_has 17 = .ok (.iconst 1, 1) := by decide +kernel
theorem dX12_has_18 : decode cX12_has 18 = .ok (.iadd, 1) := by decide +kernel
theorem dX12_has_19 : decode cX12_has 19 = .ok (.if_icmp .ne 7, 3) := by decide +kernel
theorem dX12_has_22 : decode cX12_has 22 = .ok (.iconst 1, 1) := by decide +kernel
theorem dX12_has_23 : decode cX12_has 23 = .ok (.goto 4, 3) := by decide +kernel
theorem dX12_has_26 : decode cX12_has 26 = .ok (.iconst 0, 1) := by decide +kernel
theorem dX12_has_27 : decode cX12_has 27 = .ok (.iadd, 1) := by decide +kernel
theorem dX12_has_28 : decode cX12_has 28 = .ok (.istore_n 3, 1) := by decide +kernel
theorem dX12_has_29 : decode cX12_has 29 = .ok (.iload 4, 2) := by decide +kernel
theorem dX12_has_31 : decode cX12_has 31 = .ok (.bipush 10, 2) := by decide +kernel
theorem dX12_has_33 : decode cX12_has 33 = .ok (.idiv, 1) := by decide +kernel
theorem dX12_has_34 : decode cX12_has 34 = .ok (.istore 4, 2) := by decide +kernel
theorem dX12_has_36 : decode cX12_has 36 = .ok (.goto (-31), 3) := by decide +kernel
theorem dX12_has_39 : decode cX12_has 39 = .ok (.iload_n 3, 1) := by decide +kernel
theorem dX12_has_40 : decode cX12_has 40 = .ok (.ireturn, 1) := by decide +kernel
theorem dX12_longOf_0 : decode cX12_longOf 0 = .ok (.iconst 0, 1) := by decide +kernel
theorem dX12_longOf_1 : decode cX12_longOf 1 = .ok (.istore_n 1, 1) := by decide +kernel
theorem dX12_longOf_2 : decode cX12_longOf 2 = .ok (.iload_n 0, 1) := by decide +kernel
theorem dX12_longOf_3 : decode cX12_longOf 3 = .ok (.istore_n 2, 1) := by decide +kernel
theorem dX12_longOf_4 : decode cX12_longOf 4 = .ok (.iload_n 2, 1) := by decide +kernel
theorem dX12_longOf_5 : decode cX12_longOf 5 = .ok (.ifCond .le 14, 3) := by decide +kernel
theorem dX12_longOf_8 : decode cX12_longOf 8 = .ok (.iinc 1 1, 3) := by decide +kernel
theorem dX12_longOf_11 : decode cX12_longOf 11 = .ok (.iload_n 2, 1) := by decide +kernel
theorem dX12_longOf_12 : decode cX12_longOf 12 = .ok (.bipush 10, 2) := by decide +kernel
theorem dX12_longOf_14 : decode cX12_longOf 14 = .ok (.idiv, 1) := by decide +kernel
theorem dX12_longOf_15 : decode cX12_longOf 15 = .ok (.istore_n 2, 1) := by decide +kernel
theorem dX12_longOf_16 : decode cX12_longOf 16 = .ok (.goto (-12), 3) := by decide +kernel
theorem dX12_longOf_19 : decode cX12_longOf 19 = .ok (.iload_n 1, 1) := by decide +kernel
theorem dX12_longOf_20 : decode cX12_longOf 20 = .ok (.ireturn, 1) := by decide +kernel
theorem dX12_makes_0 : decode cX12_makes 0 = .ok (.aload_n 0, 1) := by decide +kernel
theorem dX12_makes_1 : decode cX12_makes 1 = .ok (.iload_n 1, 1) := by decide +kernel
theorem dX12_makes_2 : decode cX12_makes 2 = .ok (.invokevirtual 145, 3) := by decide +kernel
theorem dX12_makes_5 : decode cX12_makes 5 = .ok (.iload_n 3, 1) := by decide +kernel
theorem dX12_makes_6 : decode cX12_makes 6 = .ok (.iconst 0, 1) := by decide +kernel
theorem dX12_makes_7 : decode cX12_makes 7 = .ok (.iload_n 2, 1) := by decide +kernel
theorem dX12_makes_8 : decode cX12_makes 8 = .ok (.iconst 1, 1) := by decide +kernel
theorem dX12_makes_9 : decode cX12_makes 9 = .ok (.if_icmp .ne 10, 3) := by decide +kernel
theorem dX12_makes_12 : decode cX12_makes 12 = .ok (.aload_n 0, 1) := by decide +kernel
theorem dX12_makes_13 : decode cX12_makes 13 = .ok (.getfield 142, 3) := by decide +kernel
theorem dX12_makes_16 : decode cX12_makes 16 = .ok (.goto 23, 3) := by decide +kernel
theorem dX12_makes_19 : decode cX12_makes 19 = .ok (.iload_n 2, 1) := by decide +kernel
theorem dX12_makes_20 : decode cX12_makes 20 = .ok (.iconst 2, 1) := by decide +kernel
theorem dX12_makes_21 : decode cX12_makes 21 = .ok (.if_icmp .ne 12, 3) := by decide +kernel
theorem dX12_makes_24 : decode cX12_makes 24 = .ok (.aload_n 0, 1) := by decide +kernel
theorem dX12_makes_25 : decode cX12_makes 25 = .ok (.getfield 142, 3) := by decide +kernel
theorem dX12_makes_28 : decode cX12_makes 28 = .ok (.iconst 2, 1) := by decide +kernel
theorem dX12_makes_29 : decode cX12_makes 29 = .ok (.isub, 1) := by decide +kernel
theorem dX12_makes_30 : decode cX12_makes 30 = .ok (.goto 9, 3) := by decide +kernel
theorem dX12_makes_33 : decode cX12_makes 33 = .ok (.aload_n 0, 1) := by decide +kernel
theorem dX12_makes_34 : decode cX12_makes 34 = .ok (.getfield 142, 3) := by decide +kernel
theorem dX12_makes_37 : decode cX12_makes 37 = .ok (.iconst 1, 1) := by decide +kernel
theorem dX12_makes_38 : decode cX12_makes 38 = .ok (.isub, 1) := by decide +kernel
theorem dX12_makes_39 : decode cX12_makes 39 = .ok (.invokestatic 123, 3) := by decide +kernel
theorem dX12_makes_42 : decode cX12_makes 42 = .ok (.ifCond .ne 5, 3) := by decide +kernel
theorem dX12_makes_45 : decode cX12_makes 45 = .ok (.iconst (-1), 1) := by decide +kernel
theorem dX12_makes_46 : decode cX12_makes 46 = .ok (.ireturn, 1) := by decide +kernel
theorem dX12_makes_47 : decode cX12_makes 47 = .ok (.aload_n 0, 1) := by decide +kernel
theorem dX12_makes_48 : decode cX12_makes 48 = .ok (.iload_n 2, 1) := by decide +kernel
theorem dX12_makes_49 : decode cX12_makes 49 = .ok (.iconst 1, 1) := by decide +kernel
theorem dX12_makes_50 : decode cX12_makes 50 = .ok (.if_icmp .ne 8, 3) := by decide +kernel
theorem dX12_makes_53 : decode cX12_makes 53 = .ok (.iload 4, 2) := by decide +kernel
theorem dX12_makes_55 : decode cX12_makes 55 = .ok (.goto 9, 3) := by decide +kernel
theorem dX12_makes_58 : decode cX12_makes 58 = .ok (.aload_n 0, 1) := by decide +kernel
theorem dX12_makes_59 : decode cX12_makes 59 = .ok (.getfield 30, 3) := by decide +kernel
theorem dX12_makes_62 : decode cX12_makes 62 = .ok (.iload_n 3, 1) := by decide +kernel
theorem dX12_makes_63 : decode cX12_makes 63 = .ok (.iaload, 1) := by decide +kernel
theorem dX12_makes_64 : decode cX12_makes 64 = .ok (.putfield 149, 3) := by decide +kernel
theorem dX12_makes_67 : decode cX12_makes 67 = .ok (.iload_n 2, 1) := by decide +kernel
theorem dX12_makes_68 : decode cX12_makes 68 = .ok (.iconst 4, 1) := by decide +kernel
theorem dX12_makes_69 : decode cX12_makes 69 = .ok (.if_icmp .ne 18, 3) := by decide +kernel
theorem dX12_makes_72 : decode cX12_makes 72 = .ok (.aload_n 0, 1) := by decide +kernel
theorem dX12_makes_73 : decode cX12_makes 73 = .ok (.getfield 20, 3) := by decide +kernel
theorem dX12_makes_76 : decode cX12_makes 76 = .ok (.bipush 12, 2) := by decide +kernel
theorem dX12_makes_78 : decode cX12_makes 78 = .ok (.aload_n 0, 1) := by decide +kernel
theorem dX12_makes_79 : decode cX12_makes 79 = .ok (.getfield 149, 3) := by decide +kernel
theorem dX12_makes_82 : decode cX12_makes 82 = .ok (.iadd, 1) := by decide +kernel
theorem dX12_makes_83 : decode cX12_makes 83 = .ok (.iaload, 1) := by decide +kernel
theorem dX12_makes_84 : decode cX12_makes 84 = .ok (.goto 7, 3) := by decide +kernel
theorem dX12_makes_87 : decode cX12_makes 87 = .ok (.aload_n 0, 1) := by decide +kernel
theorem dX12_makes_88 : decode cX12_makes 88 = .ok (.getfield 149, 3) := by decide +kernel
theorem dX12_makes_91 : decode cX12_makes 91 = .ok (.istore 5, 2) := by decide +kernel
theorem dX12_makes_93 : decode cX12_makes 93 = .ok (.iload_n 2, 1) := by decide +kernel
theorem dX12_makes_94 : decode cX12_makes 94 = .ok (.iconst 1, 1) := by decide +kernel
theorem dX12_makes_95 : decode cX12_makes 95 = .ok (.if_icmp .eq 8, 3) := by decide +kernel
theorem dX12_makes_98 : decode cX12_makes 98 = .ok (.iload_n 2, 1) := by decide +kernel
theorem dX12_makes_99 : decode cX12_makes 99 = .ok (.iconst 3, 1) := by decide +kernel
theorem dX12_makes_100 : decode cX12_makes 100 = .ok (.if_icmp .ne 24, 3) := by decide +kernel
theorem dX12_makes_103 : decode cX12_makes 103 = .ok (.aload_n 0, 1) := by decide +kernel
theorem dX12_makes_104 : decode cX12_makes 104 = .ok (.getfield 142, 3) := by decide +kernel
theorem dX12_makes_107 : decode cX12_makes 107 = .ok (.iconst 5, 1) := by decide +kernel
theorem dX12_makes_108 : decode cX12_makes 108 = .ok (.if_icmp .eq 22, 3) := by decide +kernel
theorem dX12_makes_111 : decode cX12_makes 111 = .ok (.aload_n 0, 1) := by decide +kernel
theorem dX12_makes_112 : decode cX12_makes 112 = .ok (.getfield 20, 3) := by decide +kernel
theorem dX12_makes_115 : decode cX12_makes 115 = .ok (.bipush 6, 2) := by decide +kernel
theorem dX12_makes_117 : decode cX12_makes 117 = .ok (.iload 5, 2) := by decide +kernel
theorem dX12_makes_119 : decode cX12_makes 119 = .ok (.iadd, 1) := by decide +kernel
theorem dX12_makes_120 : decode cX12_makes 120 = .ok (.iaload, 1) := by decide +kernel
theorem dX12_makes_121 : decode cX12_makes 121 = .ok (.ifCond .eq 9, 3) := by decide +kernel
theorem dX12_makes_124 : decode cX12_makes 124 = .ok (.iload 5, 2) := by decide +kernel
theorem dX12_makes_126 : decode cX12_makes 126 = .ok (.iconst (-1), 1) := by decide +kernel
theorem dX12_makes_127 : decode cX12_makes 127 = .ok (.if_icmp .ne 5, 3) := by decide +kernel
theorem dX12_makes_130 : decode cX12_makes 130 = .ok (.iconst (-1), 1) := by decide +kernel
theorem dX12_makes_131 : decode cX12_makes 131 = .ok (.ireturn, 1) := by decide +kernel
theorem dX12_makes_132 : decode cX12_makes 132 = .ok (.iload_n 2, 1) := by decide +kernel
theorem dX12_makes_133 : decode cX12_makes 133 = .ok (.iconst 2, 1) := by decide +kernel
theorem dX12_makes_134 : decode cX12_makes 134 = .ok (.if_icmp .ne 49, 3) := by decide +kernel
theorem dX12_makes_137 : decode cX12_makes 137 = .ok (.aload_n 0, 1) := by decide +kernel
theorem dX12_makes_138 : decode cX12_makes 138 = .ok (.getfield 30, 3) := by decide +kernel
theorem dX12_makes_141 : decode cX12_makes 141 = .ok (.iload_n 3, 1) := by decide +kernel
theorem dX12_makes_142 : decode cX12_makes 142 = .ok (.iaload, 1) := by decide +kernel
theorem dX12_makes_143 : decode cX12_makes 143 = .ok (.aload_n 0, 1) := by decide +kernel
theorem dX12_makes_144 : decode cX12_makes 144 = .ok (.getfield 30, 3) := by decide +kernel
theorem dX12_makes_147 : decode cX12_makes 147 = .ok (.iload_n 3, 1) := by decide +kernel
theorem dX12_makes_148 : decode cX12_makes 148 = .ok (.iconst 1, 1) := by decide +kernel
theorem dX12_makes_149 : decode cX12_makes 149 = .ok (.iadd, 1) := by decide +kernel
theorem dX12_makes_150 : decode cX12_makes 150 = .ok (.iaload, 1) := by decide +kernel
theorem dX12_makes_151 : decode cX12_makes 151 = .ok (.if_icmp .ne 5, 3) := by decide +kernel
theorem dX12_makes_154 : decode cX12_makes 154 = .ok (.iconst (-1), 1) := by decide +kernel
theorem dX12_makes_155 : decode cX12_makes 155 = .ok (.ireturn, 1) := by decide +kernel
theorem dX12_makes_156 : decode cX12_makes 156 = .ok (.aload_n 0, 1) := by decide +kernel
theorem dX12_makes_157 : decode cX12_makes 157 = .ok (.getfield 30, 3) := by decide +kernel
theorem dX12_makes_160 : decode cX12_makes 160 = .ok (.iload_n 3, 1) := by decide +kernel
theorem dX12_makes_161 : decode cX12_makes 161 = .ok (.aload_n 0, 1) := by decide +kernel
theorem dX12_makes_162 : decode cX12_makes 162 = .ok (.getfield 30, 3) := by decide +kernel
theorem dX12_makes_165 : decode cX12_makes 165 = .ok (.iload_n 3, 1) := by decide +kernel
theorem dX12_makes_166 : decode cX12_makes 166 = .ok (.iconst 1, 1) := by decide +kernel
theorem dX12_makes_167 : decode cX12_makes 167 = .ok (.iadd, 1) := by decide +kernel
theorem dX12_makes_168 : decode cX12_makes 168 = .ok (.iaload, 1) := by decide +kernel
theorem dX12_makes_169 : decode cX12_makes 169 = .ok (.iastore, 1) := by decide +kernel
theorem dX12_makes_170 : decode cX12_makes 170 = .ok (.aload_n 0, 1) := by decide +kernel
theorem dX12_makes_171 : decode cX12_makes 171 = .ok (.getfield 30, 3) := by decide +kernel
theorem dX12_makes_174 : decode cX12_makes 174 = .ok (.iload_n 3, 1) := by decide +kernel
theorem dX12_makes_175 : decode cX12_makes 175 = .ok (.iconst 1, 1) := by decide +kernel
theorem dX12_makes_176 : decode cX12_makes 176 = .ok (.iadd, 1) := by decide +kernel
theorem dX12_makes_177 : decode cX12_makes 177 = .ok (.iload 5, 2) := by decide +kernel
theorem dX12_makes_179 : decode cX12_makes 179 = .ok (.iastore, 1) := by decide +kernel
theorem dX12_makes_180 : decode cX12_makes 180 = .ok (.goto 122, 3) := by decide +kernel
theorem dX12_makes_183 : decode cX12_makes 183 = .ok (.iload_n 2, 1) := by decide +kernel
theorem dX12_makes_184 : decode cX12_makes 184 = .ok (.iconst 4, 1) := by decide +kernel
theorem dX12_makes_185 : decode cX12_makes 185 = .ok (.if_icmp .ne 14, 3) := by decide +kernel
theorem dX12_makes_188 : decode cX12_makes 188 = .ok (.aload_n 0, 1) := by decide +kernel
theorem dX12_makes_189 : decode cX12_makes 189 = .ok (.getfield 30, 3) := by decide +kernel
theorem dX12_makes_192 : decode cX12_makes 192 = .ok (.iload_n 3, 1) := by decide +kernel
theorem dX12_makes_193 : decode cX12_makes 193 = .ok (.iload 5, 2) := by decide +kernel
theorem dX12_makes_195 : decode cX12_makes 195 = .ok (.iastore, 1) := by decide +kernel
theorem dX12_makes_196 : decode cX12_makes 196 = .ok (.goto 106, 3) := by decide +kernel
theorem dX12_makes_199 : decode cX12_makes 199 = .ok (.iload_n 2, 1) := by decide +kernel
theorem dX12_makes_200 : decode cX12_makes 200 = .ok (.ifCond .ne 50, 3) := by decide +kernel
theorem dX12_makes_203 : decode cX12_makes 203 = .ok (.aload_n 0, 1) := by decide +kernel
theorem dX12_makes_204 : decode cX12_makes 204 = .ok (.dup, 1) := by decide +kernel
theorem dX12_makes_205 : decode cX12_makes 205 = .ok (.getfield 142, 3) := by decide +kernel
theorem dX12_makes_208 : decode cX12_makes 208 = .ok (.iconst 1, 1) := by decide +kernel
theorem dX12_makes_209 : decode cX12_makes 209 = .ok (.isub, 1) := by decide +kernel
theorem dX12_makes_210 : decode cX12_makes 210 = .ok (.putfield 142, 3) := by decide +kernel
theorem dX12_makes_213 : decode cX12_makes 213 = .ok (.iload_n 3, 1) := by decide +kernel
theorem dX12_makes_214 : decode cX12_makes 214 = .ok (.istore 6, 2) := by decide +kernel
theorem dX12_makes_216 : decode cX12_makes 216 = .ok (.iload 6, 2) := by decide +kernel
theorem dX12_makes_218 : decode cX12_makes 218 = .ok (.aload_n 0, 1) := by decide +kernel
theorem dX12_makes_219 : decode cX12_makes 219 = .ok (.getfield 142, 3) := by decide +kernel
theorem dX12_makes_222 : decode cX12_makes 222 = .ok (.if_icmp .ge 25, 3) := by decide +kernel
theorem dX12_makes_225 : decode cX12_makes 225 = .ok (.aload_n 0, 1) := by decide +kernel
theorem dX12_makes_226 : decode cX12_makes 226 = .ok (.getfield 30, 3) := by decide +kernel
theorem dX12_makes_229 : decode cX12_makes 229 = .ok (.iload 6, 2) := by decide +kernel
theorem dX12_makes_231 : decode cX12_makes 231 = .ok (.aload_n 0, 1) := by decide +kernel
theorem dX12_makes_232 : decode cX12_makes 232 = .ok (.getfield 30, 3) := by decide +kernel
theorem dX12_makes_235 : decode cX12_makes 235 = .ok (.iload 6, 2) := by decide +kernel
theorem dX12_makes_237 : decode cX12_makes 237 = .ok (.iconst 1, 1) := by decide +kernel
theorem dX12_makes_238 : decode cX12_makes 238 = .ok (.iadd, 1) := by decide +kernel
theorem dX12_makes_239 : decode cX12_makes 239 = .ok (.iaload, 1) := by decide +kernel
theorem dX12_makes_240 : decode cX12_makes 240 = .ok (.iastore, 1) := by decide +kernel
theorem dX12_makes_241 : decode cX12_makes 241 = .ok (.iinc 6 1, 3) := by decide +kernel
theorem dX12_makes_244 : decode cX12_makes 244 = .ok (.goto (-28), 3) := by decide +kernel
theorem dX12_makes_247 : decode cX12_makes 247 = .ok (.goto 55, 3) := by decide +kernel
theorem dX12_makes_250 : decode cX12_makes 250 = .ok (.aload_n 0, 1) := by decide +kernel
theorem dX12_makes_251 : decode cX12_makes 251 = .ok (.getfield 142, 3) := by decide +kernel
theorem dX12_makes_254 : decode cX12_makes 254 = .ok (.istore 6, 2) := by decide +kernel
theorem dX12_makes_256 : decode cX12_makes 256 = .ok (.iload 6, 2) := by decide +kernel
theorem dX12_makes_258 : decode cX12_makes 258 = .ok (.iload_n 3, 1) := by decide +kernel
theorem dX12_makes_259 : decode cX12_makes 259 = .ok (.if_icmp .le 25, 3) := by decide +kernel
theorem dX12_makes_262 : decode cX12_makes 262 = .ok (.aload_n 0, 1) := by decide +kernel
theorem dX12_makes_263 : decode cX12_makes 263 = .ok (.getfield 30, 3) := by decide +kernel
theorem dX12_makes_266 : decode cX12_makes 266 = .ok (.iload 6, 2) := by decide +kernel
theorem dX12_makes_268 : decode cX12_makes 268 = .ok (.aload_n 0, 1) := by decide +kernel
theorem dX12_makes_269 : decode cX12_makes 269 = .ok (.getfield 30, 3) := by decide +kernel
theorem dX12_makes_272 : decode cX12_makes 272 = .ok (.iload 6, 2) := by decide +kernel
theorem dX12_makes_274 : decode cX12_makes 274 = .ok (.iconst 1, 1) := by decide +kernel
theorem dX12_makes_275 : decode cX12_makes 275 = .ok (.isub, 1) := by decide +kernel
theorem dX12_makes_276 : decode cX12_makes 276 = .ok (.iaload, 1) := by decide +kernel
theorem dX12_makes_277 : decode cX12_makes 277 = .ok (.iastore, 1) := by decide +kernel
theorem dX12_makes_278 : decode cX12_makes 278 = .ok (.iinc 6 (-1), 3) := by decide +kernel
theorem dX12_makes_281 : decode cX12_makes 281 = .ok (.goto (-25), 3) := by decide +kernel
theorem dX12_makes_284 : decode cX12_makes 284 = .ok (.aload_n 0, 1) := by decide +kernel
theorem dX12_makes_285 : decode cX12_makes 285 = .ok (.getfield 30, 3) := by decide +kernel
theorem dX12_makes_288 : decode cX12_makes 288 = .ok (.iload_n 3, 1) := by decide +kernel
theorem dX12_makes_289 : decode cX12_makes 289 = .ok (.iload 5, 2) := by decide +kernel
theorem dX12_makes_291 : decode cX12_makes 291 = .ok (.iastore, 1) := by decide +kernel
theorem dX12_makes_292 : decode cX12_makes 292 = .ok (.aload_n 0, 1) := by decide +kernel
theorem dX12_makes_293 : decode cX12_makes 293 = .ok (.dup, 1) := by decide +kernel
theorem dX12_makes_294 : decode cX12_makes 294 = .ok (.getfield 142, 3) := by decide +kernel
theorem dX12_makes_297 : decode cX12_makes 297 = .ok (.iconst 1, 1) := by decide +kernel
theorem dX12_makes_298 : decode cX12_makes 298 = .ok (.iadd, 1) := by decide +kernel
theorem dX12_makes_299 : decode cX12_makes 299 = .ok (.putfield 142, 3) := by decide +kernel
theorem dX12_makes_302 : decode cX12_makes 302 = .ok (.aload_n 0, 1) := by decide +kernel
theorem dX12_makes_303 : decode cX12_makes 303 = .ok (.invokevirtual 152, 3) := by decide +kernel
theorem dX12_makes_306 : decode cX12_makes 306 = .ok (.ireturn, 1) := by decide +kernel
theorem dX12_sets_0 : decode cX12_sets 0 = .ok (.aload_n 0, 1) := by decide +kernel
theorem dX12_sets_1 : decode cX12_sets 1 = .ok (.getfield 61, 3) := by decide +kernel
theorem dX12_sets_4 : decode cX12_sets 4 = .ok (.iconst 0, 1) := by decide +kernel
theorem dX12_sets_5 : decode cX12_sets 5 = .ok (.iload_n 2, 1) := by decide +kernel
theorem dX12_sets_6 : decode cX12_sets 6 = .ok (.iastore, 1) := by decide +kernel
theorem dX12_sets_7 : decode cX12_sets 7 = .ok (.aload_n 0, 1) := by decide +kernel
theorem dX12_sets_8 : decode cX12_sets 8 = .ok (.getfield 61, 3) := by decide +kernel
theorem dX12_sets_11 : decode cX12_sets 11 = .ok (.iconst 1, 1) := by decide +kernel
theorem dX12_sets_12 : decode cX12_sets 12 = .ok (.aload_n 0, 1) := by decide +kernel
theorem dX12_sets_13 : decode cX12_sets 13 = .ok (.getfield 149, 3) := by decide +kernel
theorem dX12_sets_16 : decode cX12_sets 16 = .ok (.iastore, 1) := by decide +kernel
theorem dX12_sets_17 : decode cX12_sets 17 = .ok (.aload_n 0, 1) := by decide +kernel
theorem dX12_sets_18 : decode cX12_sets 18 = .ok (.getfield 61, 3) := by decide +kernel
theorem dX12_sets_21 : decode cX12_sets 21 = .ok (.iconst 2, 1) := by decide +kernel
theorem dX12_sets_22 : decode cX12_sets 22 = .ok (.iload_n 3, 1) := by decide +kernel
theorem dX12_sets_23 : decode cX12_sets 23 = .ok (.iastore, 1) := by decide +kernel
theorem dX12_sets_24 : decode cX12_sets 24 = .ok (.aload_n 0, 1) := by decide +kernel
theorem dX12_sets_25 : decode cX12_sets 25 = .ok (.getfield 61, 3) := by decide +kernel
theorem dX12_sets_28 : decode cX12_sets 28 = .ok (.iconst 3, 1) := by decide +kernel
theorem dX12_sets_29 : decode cX12_sets 29 = .ok (.iload_n 1, 1) := by decide +kernel
theorem dX12_sets_30 : decode cX12_sets 30 = .ok (.invokestatic 156, 3) := by decide +kernel
theorem dX12_sets_33 : decode cX12_sets 33 = .ok (.iastore, 1) := by decide +kernel
theorem dX12_sets_34 : decode cX12_sets 34 = .ok (.aload_n 0, 1) := by decide +kernel
theorem dX12_sets_35 : decode cX12_sets 35 = .ok (.getfield 61, 3) := by decide +kernel
theorem dX12_sets_38 : decode cX12_sets 38 = .ok (.iconst 4, 1) := by decide +kernel
theorem dX12_sets_39 : decode cX12_sets 39 = .ok (.aload_n 0, 1) := by decide +kernel
theorem dX12_sets_40 : decode cX12_sets 40 = .ok (.iload_n 1, 1) := by decide +kernel
theorem dX12_sets_41 : decode cX12_sets 41 = .ok (.aload_n 0, 1) := by decide +kernel
theorem dX12_sets_42 : decode cX12_sets 42 = .ok (.getfield 149, 3) := by decide +kernel
theorem dX12_sets_45 : decode cX12_sets 45 = .ok (.invokevirtual 159, 3) := by decide +kernel
theorem dX12_sets_48 : decode cX12_sets 48 = .ok (.iastore, 1) := by decide +kernel
theorem dX12_sets_49 : decode cX12_sets 49 = .ok (.aload_n 0, 1) := by decide +kernel
theorem dX12_sets_50 : decode cX12_sets 50 = .ok (.getfield 61, 3) := by decide +kernel
theorem dX12_sets_53 : decode cX12_sets 53 = .ok (.iconst 5, 1) := by decide +kernel
theorem dX12_sets_54 : decode cX12_sets 54 = .ok (.aload_n 0, 1) := by decide +kernel
theorem dX12_sets_55 : decode cX12_sets 55 = .ok (.getfield 20, 3) := by decide +kernel
theorem dX12_sets_58 : decode cX12_sets 58 = .ok (.iconst 0, 1) := by decide +kernel
theorem dX12_sets_59 : decode cX12_sets 59 = .ok (.aload_n 0, 1) := by decide +kernel
theorem dX12_sets_60 : decode cX12_sets 60 = .ok (.getfield 149, 3) := by decide +kernel
theorem dX12_sets_63 : decode cX12_sets 63 = .ok (.iadd, 1) := by decide +kernel
theorem dX12_sets_64 : decode cX12_sets 64 = .ok (.iaload, 1) := by decide +kernel
theorem dX12_sets_65 : decode cX12_sets 65 = .ok (.iastore, 1) := by decide +kernel
theorem dX12_sets_66 : decode cX12_sets 66 = .ok (.aload_n 0, 1) := by decide +kernel
theorem dX12_sets_67 : decode cX12_sets 67 = .ok (.getfield 61, 3) := by decide +kernel
theorem dX12_sets_70 : decode cX12_sets 70 = .ok (.bipush 6, 2) := by decide +kernel
theorem dX12_sets_72 : decode cX12_sets 72 = .ok (.iload 4, 2) := by decide +kernel
theorem dX12_sets_74 : decode cX12_sets 74 = .ok (.iastore, 1) := by decide +kernel
theorem dX12_sets_75 : decode cX12_sets 75 = .ok (.aload_n 0, 1) := by decide +kernel
theorem dX12_sets_76 : decode cX12_sets 76 = .ok (.getfield 61, 3) := by decide +kernel
theorem dX12_sets_79 : decode cX12_sets 79 = .ok (.bipush 7, 2) := by decide +kernel
theorem dX12_sets_81 : decode cX12_sets 81 = .ok (.aload_n 0, 1) := by decide +kernel
theorem dX12_sets_82 : decode cX12_sets 82 = .ok (.getfield 20, 3) := by decide +kernel
theorem dX12_sets_85 : decode cX12_sets 85 = .ok (.bipush 55, 2) := by decide +kernel
theorem dX12_sets_87 : decode cX12_sets 87 = .ok (.iaload, 1) := by decide +kernel
theorem dX12_sets_88 : decode cX12_sets 88 = .ok (.iastore, 1) := by decide +kernel
theorem dX12_sets_89 : decode cX12_sets 89 = .ok (.return_, 1) := by decide +kernel
theorem dX12_changed_0 : decode cX12_changed 0 = .ok (.aload_n 0, 1) := by decide +kernel
theorem dX12_changed_1 : decode cX12_changed 1 = .ok (.iload_n 1, 1) := by decide +kernel
theorem dX12_changed_2 : decode cX12_changed 2 = .ok (.iload_n 2, 1) := by decide +kernel
theorem dX12_changed_3 : decode cX12_changed 3 = .ok (.iload_n 3, 1) := by decide +kernel
theorem dX12_changed_4 : decode cX12_changed 4 = .ok (.iload 4, 2) := by decide +kernel
theorem dX12_changed_6 : decode cX12_changed 6 = .ok (.invokevirtual 163, 3) := by decide +kernel
theorem dX12_changed_9 : decode cX12_changed 9 = .ok (.istore 6, 2) := by decide +kernel
theorem dX12_changed_11 : decode cX12_changed 11 = .ok (.iload 6, 2) := by decide +kernel
theorem dX12_changed_13 : decode cX12_changed 13 = .ok (.iconst (-1), 1) := by decide +kernel
theorem dX12_changed_14 : decode cX12_changed 14 = .ok (.if_icmp .ne 5, 3) := by decide +kernel
theorem dX12_changed_17 : decode cX12_changed 17 = .ok (.iconst (-1), 1) := by decide +kernel
theorem dX12_changed_18 : decode cX12_changed 18 = .ok (.ireturn, 1) := by decide +kernel
theorem dX12_changed_19 : decode cX12_changed 19 = .ok (.aload_n 0, 1) := by decide +kernel
theorem dX12_changed_20 : decode cX12_changed 20 = .ok (.iload_n 1, 1) := by decide +kernel
theorem dX12_changed_21 : decode cX12_changed 21 = .ok (.iload_n 2, 1) := by decide +kernel
theorem dX12_changed_22 : decode cX12_changed 22 = .ok (.iload_n 3, 1) := by decide +kernel
theorem dX12_changed_23 : decode cX12_changed 23 = .ok (.iload 5, 2) := by decide +kernel
theorem dX12_changed_25 : decode cX12_changed 25 = .ok (.invokevirtual 167, 3) := by decide +kernel
theorem dX12_changed_28 : decode cX12_changed 28 = .ok (.aload_n 0, 1) := by decide +kernel
theorem dX12_changed_29 : decode cX12_changed 29 = .ok (.iconst 2, 1) := by decide +kernel
theorem dX12_changed_30 : decode cX12_changed 30 = .ok (.iconst 0, 1) := by decide +kernel
theorem dX12_changed_31 : decode cX12_changed 31 = .ok (.invokevirtual 171, 3) := by decide +kernel
theorem dX12_changed_34 : decode cX12_changed 34 = .ok (.iconst 1, 1) := by decide +kernel
theorem dX12_changed_35 : decode cX12_changed 35 = .ok (.if_icmp .ne 7, 3) := by decide +kernel
theorem dX12_changed_38 : decode cX12_changed 38 = .ok (.iconst (-1), 1) := by decide +kernel
theorem dX12_changed_39 : decode cX12_changed 39 = .ok (.goto 5, 3) := by decide +kernel
theorem dX12_changed_42 : decode cX12_changed 42 = .ok (.iload 6, 2) := by decide +kernel
theorem dX12_changed_44 : decode cX12_changed 44 = .ok (.ireturn, 1) := by decide +kernel
theorem dX12_weighs_0 : decode cX12_weighs 0 = .ok (.aload_n 0, 1) := by decide +kernel
theorem dX12_weighs_1 : decode cX12_weighs 1 = .ok (.iload_n 1, 1) := by decide +kernel
theorem dX12_weighs_2 : decode cX12_weighs 2 = .ok (.iload_n 2, 1) := by decide +kernel
theorem dX12_weighs_3 : decode cX12_weighs 3 = .ok (.iload_n 3, 1) := by decide +kernel
theorem dX12_weighs_4 : decode cX12_weighs 4 = .ok (.iload 4, 2) := by decide +kernel
theorem dX12_weighs_6 : decode cX12_weighs 6 = .ok (.invokevirtual 167, 3) := by decide +kernel
theorem dX12_weighs_9 : decode cX12_weighs 9 = .ok (.aload_n 0, 1) := by decide +kernel
theorem dX12_weighs_10 : decode cX12_weighs 10 = .ok (.iconst 1, 1) := by decide +kernel
theorem dX12_weighs_11 : decode cX12_weighs 11 = .ok (.iconst 1, 1) := by decide +kernel
theorem dX12_weighs_12 : decode cX12_weighs 12 = .ok (.invokevirtual 171, 3) := by decide +kernel
theorem dX12_weighs_15 : decode cX12_weighs 15 = .ok (.ireturn, 1) := by decide +kernel
theorem dX12_lists_0 : decode cX12_lists 0 = .ok (.aload_n 0, 1) := by decide +kernel
theorem dX12_lists_1 : decode cX12_lists 1 = .ok (.iconst 0, 1) := by decide +kernel
theorem dX12_lists_2 : decode cX12_lists 2 = .ok (.putfield 174, 3) := by decide +kernel
theorem dX12_lists_5 : decode cX12_lists 5 = .ok (.iload_n 1, 1) := by decide +kernel
theorem dX12_lists_6 : decode cX12_lists 6 = .ok (.invokestatic 156, 3) := by decide +kernel
theorem dX12_lists_9 : decode cX12_lists 9 = .ok (.istore 4, 2) := by decide +kernel
theorem dX12_lists_11 : decode cX12_lists 11 = .ok (.iconst 0, 1) := by decide +kernel
theorem dX12_lists_12 : decode cX12_lists 12 = .ok (.istore 5, 2) := by decide +kernel
theorem dX12_lists_14 : decode cX12_lists 14 = .ok (.iload 5, 2) := by decide +kernel
theorem dX12_lists_16 : decode cX12_lists 16 = .ok (.iconst 5, 1) := by decide +kernel
theorem dX12_lists_17 : decode cX12_lists 17 = .ok (.if_icmp .ge 122, 3) := by decide +kernel
theorem dX12_lists_20 : decode cX12_lists 20 = .ok (.iconst 0, 1) := by decide +kernel
theorem dX12_lists_21 : decode cX12_lists 21 = .ok (.istore 6, 2) := by decide +kernel
theorem dX12_lists_23 : decode cX12_lists 23 = .ok (.iload 6, 2) := by decide +kernel
theorem dX12_lists_25 : decode cX12_lists 25 = .ok (.iload 4, 2) := by decide +kernel
theorem dX12_lists_27 : decode cX12_lists 27 = .ok (.if_icmp .gt 106, 3) := by decide +kernel
theorem dX12_lists_30 : decode cX12_lists 30 = .ok (.iconst 0, 1) := by decide +kernel
theorem dX12_lists_31 : decode cX12_lists 31 = .ok (.istore 7, 2) := by decide +kernel
theorem dX12_lists_33 : decode cX12_lists 33 = .ok (.iload 7, 2) := by decide +kernel
theorem dX12_lists_35 : decode cX12_lists 35 = .ok (.iload 5, 2) := by decide +kernel
theorem dX12_lists_37 : decode cX12_lists 37 = .ok (.iconst 1, 1) := by decide +kernel
theorem dX12_lists_38 : decode cX12_lists 38 = .ok (.if_icmp .ne 8, 3) := by decide +kernel
theorem dX12_lists_41 : decode cX12_lists 41 = .ok (.bipush 6, 2) := by decide +kernel
theorem dX12_lists_43 : decode cX12_lists 43 = .ok (.goto 4, 3) := by decide +kernel
theorem dX12_lists_46 : decode cX12_lists 46 = .ok (.iconst 1, 1) := by decide +kernel
theorem dX12_lists_47 : decode cX12_lists 47 = .ok (.if_icmp .ge 80, 3) := by decide +kernel
theorem dX12_lists_50 : decode cX12_lists 50 = .ok (.aload_n 0, 1) := by decide +kernel
theorem dX12_lists_51 : decode cX12_lists 51 = .ok (.iload_n 1, 1) := by decide +kernel
theorem dX12_lists_52 : decode cX12_lists 52 = .ok (.iload 5, 2) := by decide +kernel
theorem dX12_lists_54 : decode cX12_lists 54 = .ok (.iload 6, 2) := by decide +kernel
theorem dX12_lists_56 : decode cX12_lists 56 = .ok (.iload 7, 2) := by decide +kernel
theorem dX12_lists_58 : decode cX12_lists 58 = .ok (.iload_n 2, 1) := by decide +kernel
theorem dX12_lists_59 : decode cX12_lists 59 = .ok (.invokevirtual 177, 3) := by decide +kernel
theorem dX12_lists_62 : decode cX12_lists 62 = .ok (.istore 8, 2) := by decide +kernel
theorem dX12_lists_64 : decode cX12_lists 64 = .ok (.iload 8, 2) := by decide +kernel
theorem dX12_lists_66 : decode cX12_lists 66 = .ok (.iconst (-1), 1) := by decide +kernel
theorem dX12_lists_67 : decode cX12_lists 67 = .ok (.if_icmp .ne 6, 3) := by decide +kernel
theorem dX12_lists_70 : decode cX12_lists 70 = .ok (.goto 51, 3) := by decide +kernel
theorem dX12_lists_73 : decode cX12_lists 73 = .ok (.aload_n 0, 1) := by decide +kernel
theorem dX12_lists_74 : decode cX12_lists 74 = .ok (.getfield 33, 3) := by decide +kernel
theorem dX12_lists_77 : decode cX12_lists 77 = .ok (.aload_n 0, 1) := by decide +kernel
theorem dX12_lists_78 : decode cX12_lists 78 = .ok (.getfield 174, 3) := by decide +kernel
theorem dX12_lists_81 : decode cX12_lists 81 = .ok (.iload 8, 2) := by decide +kernel
theorem dX12_lists_83 : decode cX12_lists 83 = .ok (.iastore, 1) := by decide +kernel
theorem dX12_lists_84 : decode cX12_lists 84 = .ok (.aload_n 0, 1) := by decide +kernel
theorem dX12_lists_85 : decode cX12_lists 85 = .ok (.getfield 36, 3) := by decide +kernel
theorem dX12_lists_88 : decode cX12_lists 88 = .ok (.aload_n 0, 1) := by decide +kernel
theorem dX12_lists_89 : decode cX12_lists 89 = .ok (.getfield 174, 3) := by decide +kernel
theorem dX12_lists_92 : decode cX12_lists 92 = .ok (.iload_n 3, 1) := by decide +kernel
theorem dX12_lists_93 : decode cX12_lists 93 = .ok (.ifCond .eq 16, 3) := by decide +kernel
theorem dX12_lists_96 : decode cX12_lists 96 = .ok (.aload_n 0, 1) := by decide +kernel
theorem dX12_lists_97 : decode cX12_lists 97 = .ok (.iload_n 1, 1) := by decide +kernel
theorem dX12_lists_98 : decode cX12_lists 98 = .ok (.iload 5, 2) := by decide +kernel
theorem dX12_lists_100 : decode cX12_lists 100 = .ok (.iload 6, 2) := by decide +kernel
theorem dX12_lists_102 : decode cX12_lists 102 = .ok (.iload_n 2, 1) := by decide +kernel
theorem dX12_lists_103 : decode cX12_lists 103 = .ok (.invokevirtual 181, 3) := by decide +kernel
theorem dX12_lists_106 : decode cX12_lists 106 = .ok (.goto 4, 3) := by decide +kernel
theorem dX12_lists_109 : decode cX12_lists 109 = .ok (.iconst 0, 1) := by decide +kernel
theorem dX12_lists_110 : decode cX12_lists 110 = .ok (.iastore, 1) := by decide +kernel
theorem dX12_lists_111 : decode cX12_lists 111 = .ok (.aload_n 0, 1) := by decide +kernel
theorem dX12_lists_112 : decode cX12_lists 112 = .ok (.dup, 1) := by decide +kernel
theorem dX12_lists_113 : decode cX12_lists 113 = .ok (.getfield 174, 3) := by decide +kernel
theorem dX12_lists_116 : decode cX12_lists 116 = .ok (.iconst 1, 1) := by decide +kernel
theorem dX12_lists_117 : decode cX12_lists 117 = .ok (.iadd, 1) := by decide +kernel
theorem dX12_lists_118 : decode cX12_lists 118 = .ok (.putfield 174, 3) := by decide +kernel
theorem dX12_lists_121 : decode cX12_lists 121 = .ok (.iinc 7 1, 3) := by decide +kernel
theorem dX12_lists_124 : decode cX12_lists 124 = .ok (.goto (-91), 3) := by decide +kernel
theorem dX12_lists_127 : decode cX12_lists 127 = .ok (.iinc 6 1, 3) := by decide +kernel
theorem dX12_lists_130 : decode cX12_lists 130 = .ok (.goto (-107), 3) := by decide +kernel
theorem dX12_lists_133 : decode cX12_lists 133 = .ok (.iinc 5 1, 3) := by decide +kernel
theorem dX12_lists_136 : decode cX12_lists 136 = .ok (.goto (-122), 3) := by decide +kernel
theorem dX12_lists_139 : decode cX12_lists 139 = .ok (.return_, 1) := by decide +kernel
theorem dX12_isPlace_0 : decode cX12_isPlace 0 = .ok (.iload_n 0, 1) := by decide +kernel
theorem dX12_isPlace_1 : decode cX12_isPlace 1 = .ok (.iconst 0, 1) := by decide +kernel
theorem dX12_isPlace_2 : decode cX12_isPlace 2 = .ok (.iconst 5, 1) := by decide +kernel
theorem dX12_isPlace_3 : decode cX12_isPlace 3 = .ok (.invokestatic 123, 3) := by decide +kernel
theorem dX12_isPlace_6 : decode cX12_isPlace 6 = .ok (.ireturn, 1) := by decide +kernel
theorem dX12_change_0 : decode cX12_change 0 = .ok (.iload_n 1, 1) := by decide +kernel
theorem dX12_change_1 : decode cX12_change 1 = .ok (.invokestatic 184, 3) := by decide +kernel
theorem dX12_change_4 : decode cX12_change 4 = .ok (.ifCond .eq 35, 3) := by decide +kernel
theorem dX12_change_7 : decode cX12_change 7 = .ok (.iload_n 2, 1) := by decide +kernel
theorem dX12_change_8 : decode cX12_change 8 = .ok (.iconst 0, 1) := by decide +kernel
theorem dX12_change_9 : decode cX12_change 9 = .ok (.iconst 4, 1) := by decide +kernel
theorem dX12_change_10 : decode cX12_change 10 = .ok (.invokestatic 123, 3) := by decide +kernel
theorem dX12_change_13 : decode cX12_change 13 = .ok (.ifCond .eq 26, 3) := by decide +kernel
theorem dX12_change_16 : decode cX12_change 16 = .ok (.iload_n 2, 1) := by decide +kernel
theorem dX12_change_17 : decode cX12_change 17 = .ok (.iconst 1, 1) := by decide +kernel
theorem dX12_change_18 : decode cX12_change 18 = .ok (.if_icmp .ne 11, 3) := by decide +kernel
theorem dX12_change_21 : decode cX12_change 21 = .ok (.iload 4, 2) := by decide +kernel
theorem dX12_change_23 : decode cX12_change 23 = .ok (.invokestatic 134, 3) := by decide +kernel
theorem dX12_change_26 : decode cX12_change 26 = .ok (.ifCond .eq 13, 3) := by decide +kernel
theorem dX12_change_29 : decode cX12_change 29 = .ok (.iload 5, 2) := by decide +kernel
theorem dX12_change_31 : decode cX12_change 31 = .ok (.iconst 0, 1) := by decide +kernel
theorem dX12_change_32 : decode cX12_change 32 = .ok (.iconst 1, 1) := by decide +kernel
theorem dX12_change_33 : decode cX12_change 33 = .ok (.invokestatic 123, 3) := by decide +kernel
theorem dX12_change_36 : decode cX12_change 36 = .ok (.ifCond .ne 5, 3) := by decide +kernel
theorem dX12_change_39 : decode cX12_change 39 = .ok (.iconst (-1), 1) := by decide +kernel
theorem dX12_change_40 : decode cX12_change 40 = .ok (.ireturn, 1) := by decide +kernel
theorem dX12_change_41 : decode cX12_change 41 = .ok (.aload_n 0, 1) := by decide +kernel
theorem dX12_change_42 : decode cX12_change 42 = .ok (.iload_n 1, 1) := by decide +kernel
theorem dX12_change_43 : decode cX12_change 43 = .ok (.iload_n 2, 1) := by decide +kernel
theorem dX12_change_44 : decode cX12_change 44 = .ok (.iload_n 3, 1) := by decide +kernel
theorem dX12_change_45 : decode cX12_change 45 = .ok (.iload 4, 2) := by decide +kernel
theorem dX12_change_47 : decode cX12_change 47 = .ok (.aload_n 0, 1) := by decide +kernel
theorem dX12_change_48 : decode cX12_change 48 = .ok (.getfield 20, 3) := by decide +kernel
theorem dX12_change_51 : decode cX12_change 51 = .ok (.bipush 54, 2) := by decide +kernel
theorem dX12_change_53 : decode cX12_change 53 = .ok (.iaload, 1) := by decide +kernel
theorem dX12_change_54 : decode cX12_change 54 = .ok (.invokevirtual 177, 3) := by decide +kernel
theorem dX12_change_57 : decode cX12_change 57 = .ok (.istore 6, 2) := by decide +kernel
theorem dX12_change_59 : decode cX12_change 59 = .ok (.iload 6, 2) := by decide +kernel
theorem dX12_change_61 : decode cX12_change 61 = .ok (.iconst (-1), 1) := by decide +kernel
theorem dX12_change_62 : decode cX12_change 62 = .ok (.if_icmp .ne 7, 3) := by decide +kernel
theorem dX12_change_65 : decode cX12_change 65 = .ok (.iconst (-1), 1) := by decide +kernel
theorem dX12_change_66 : decode cX12_change 66 = .ok (.goto 27, 3) := by decide +kernel
theorem dX12_change_69 : decode cX12_change 69 = .ok (.iload 5, 2) := by decide +kernel
theorem dX12_change_71 : decode cX12_change 71 = .ok (.ifCond .ne 8, 3) := by decide +kernel
theorem dX12_change_74 : decode cX12_change 74 = .ok (.iload 6, 2) := by decide +kernel
theorem dX12_change_76 : decode cX12_change 76 = .ok (.goto 17, 3) := by decide +kernel
theorem dX12_change_79 : decode cX12_change 79 = .ok (.aload_n 0, 1) := by decide +kernel
theorem dX12_change_80 : decode cX12_change 80 = .ok (.iload_n 1, 1) := by decide +kernel
theorem dX12_change_81 : decode cX12_change 81 = .ok (.iload_n 2, 1) := by decide +kernel
theorem dX12_change_82 : decode cX12_change 82 = .ok (.iload_n 3, 1) := by decide +kernel
theorem dX12_change_83 : decode cX12_change 83 = .ok (.aload_n 0, 1) := by decide +kernel
theorem dX12_change_84 : decode cX12_change 84 = .ok (.getfield 20, 3) := by decide +kernel
theorem dX12_change_87 : decode cX12_change 87 = .ok (.bipush 54, 2) := by decide +kernel
theorem dX12_change_89 : decode cX12_change 89 = .ok (.iaload, 1) := by decide +kernel
theorem dX12_change_90 : decode cX12_change 90 = .ok (.invokevirtual 181, 3) := by decide +kernel
theorem dX12_change_93 : decode cX12_change 93 = .ok (.ireturn, 1) := by decide +kernel
theorem dX12_changes_0 : decode cX12_changes 0 = .ok (.iload_n 1, 1) := by decide +kernel
theorem dX12_changes_1 : decode cX12_changes 1 = .ok (.invokestatic 184, 3) := by decide +kernel
theorem dX12_changes_4 : decode cX12_changes 4 = .ok (.ifCond .ne 5, 3) := by decide +kernel
theorem dX12_changes_7 : decode cX12_changes 7 = .ok (.iconst (-1), 1) := by decide +kernel
theorem dX12_changes_8 : decode cX12_changes 8 = .ok (.ireturn, 1) := by decide +kernel
theorem dX12_changes_9 : decode cX12_changes 9 = .ok (.aload_n 0, 1) := by decide +kernel
theorem dX12_changes_10 : decode cX12_changes 10 = .ok (.iload_n 1, 1) := by decide +kernel
theorem dX12_changes_11 : decode cX12_changes 11 = .ok (.aload_n 0, 1) := by decide +kernel
theorem dX12_changes_12 : decode cX12_changes 12 = .ok (.getfield 20, 3) := by decide +kernel
theorem dX12_changes_15 : decode cX12_changes 15 = .ok (.bipush 54, 2) := by decide +kernel
theorem dX12_changes_17 : decode cX12_changes 17 = .ok (.iaload, 1) := by decide +kernel
theorem dX12_changes_18 : decode cX12_changes 18 = .ok (.iconst 0, 1) := by decide +kernel
theorem dX12_changes_19 : decode cX12_changes 19 = .ok (.invokevirtual 187, 3) := by decide +kernel
theorem dX12_changes_22 : decode cX12_changes 22 = .ok (.iload_n 2, 1) := by decide +kernel
theorem dX12_changes_23 : decode cX12_changes 23 = .ok (.iconst (-1), 1) := by decide +kernel
theorem dX12_changes_24 : decode cX12_changes 24 = .ok (.if_icmp .ne 10, 3) := by decide +kernel
theorem dX12_changes_27 : decode cX12_changes 27 = .ok (.aload_n 0, 1) := by decide +kernel
theorem dX12_changes_28 : decode cX12_changes 28 = .ok (.getfield 174, 3) := by decide +kernel
theorem dX12_changes_31 : decode cX12_changes 31 = .ok (.goto 27, 3) := by decide +kernel
theorem dX12_changes_34 : decode cX12_changes 34 = .ok (.iload_n 2, 1) := by decide +kernel
theorem dX12_changes_35 : decode cX12_changes 35 = .ok (.iconst 0, 1) := by decide +kernel
theorem dX12_changes_36 : decode cX12_changes 36 = .ok (.aload_n 0, 1) := by decide +kernel
theorem dX12_changes_37 : decode cX12_changes 37 = .ok (.getfield 174, 3) := by decide +kernel
theorem dX12_changes_40 : decode cX12_changes 40 = .ok (.iconst 1, 1) := by decide +kernel
theorem dX12_changes_41 : decode cX12_changes 41 = .ok (.isub, 1) := by decide +kernel
theorem dX12_changes_42 : decode cX12_changes 42 = .ok (.invokestatic 123, 3) := by decide +kernel
theorem dX12_changes_45 : decode cX12_changes 45 = .ok (.ifCond .eq 12, 3) := by decide +kernel
theorem dX12_changes_48 : decode cX12_changes 48 = .ok (.aload_n 0, 1) := by decide +kernel
theorem dX12_changes_49 : decode cX12_changes 49 = .ok (.getfield 33, 3) := by decide +kernel
theorem dX12_changes_52 : decode cX12_changes 52 = .ok (.iload_n 2, 1) := by decide +kernel
theorem dX12_changes_53 : decode cX12_changes 53 = .ok (.iaload, 1) := by decide +kernel
theorem dX12_changes_54 : decode cX12_changes 54 = .ok (.goto 4, 3) := by decide +kernel
theorem dX12_changes_57 : decode cX12_changes 57 = .ok (.iconst (-1), 1) := by decide +kernel
theorem dX12_changes_58 : decode cX12_changes 58 = .ok (.ireturn, 1) := by decide +kernel
theorem dX12_whyNot_0 : decode cX12_whyNot 0 = .ok (.iload_n 2, 1) := by decide +kernel
theorem dX12_whyNot_1 : decode cX12_whyNot 1 = .ok (.iconst 0, 1) := by decide +kernel
theorem dX12_whyNot_2 : decode cX12_whyNot 2 = .ok (.sipush 999, 3) := by decide +kernel
theorem dX12_whyNot_5 : decode cX12_whyNot 5 = .ok (.invokestatic 123, 3) := by decide +kernel
theorem dX12_whyNot_8 : decode cX12_whyNot 8 = .ok (.ifCond .eq 10, 3) := by decide +kernel
theorem dX12_whyNot_11 : decode cX12_whyNot 11 = .ok (.iload_n 3, 1) := by decide +kernel
theorem dX12_whyNot_12 : decode cX12_whyNot 12 = .ok (.invokestatic 184, 3) := by decide +kernel
theorem dX12_whyNot_15 : decode cX12_whyNot 15 = .ok (.ifCond .ne 5, 3) := by decide +kernel
theorem dX12_whyNot_18 : decode cX12_whyNot 18 = .ok (.iconst (-1), 1) := by decide +kernel
theorem dX12_whyNot_19 : decode cX12_whyNot 19 = .ok (.ireturn, 1) := by decide +kernel
theorem dX12_whyNot_20 : decode cX12_whyNot 20 = .ok (.iload_n 1, 1) := by decide +kernel
theorem dX12_whyNot_21 : decode cX12_whyNot 21 = .ok (.iconst (-1), 1) := by decide +kernel
theorem dX12_whyNot_22 : decode cX12_whyNot 22 = .ok (.if_icmp .eq 14, 3) := by decide +kernel
theorem dX12_whyNot_25 : decode cX12_whyNot 25 = .ok (.aload_n 0, 1) := by decide +kernel
theorem dX12_whyNot_26 : decode cX12_whyNot 26 = .ok (.iload_n 1, 1) := by decide +kernel
theorem dX12_whyNot_27 : decode cX12_whyNot 27 = .ok (.invokevirtual 191, 3) := by decide +kernel
theorem dX12_whyNot_30 : decode cX12_whyNot 30 = .ok (.ifCond .ne 6, 3) := by decide +kernel
theorem dX12_whyNot_33 : decode cX12_whyNot 33 = .ok (.bipush (-2), 2) := by decide +kernel
theorem dX12_whyNot_35 : decode cX12_whyNot 35 = .ok (.ireturn, 1) := by decide +kernel
theorem dX12_whyNot_36 : decode cX12_whyNot 36 = .ok (.iload_n 1, 1) := by decide +kernel
theorem dX12_whyNot_37 : decode cX12_whyNot 37 = .ok (.iconst (-1), 1) := by decide +kernel
theorem dX12_whyNot_38 : decode cX12_whyNot 38 = .ok (.if_icmp .eq 16, 3) := by decide +kernel
theorem dX12_whyNot_41 : decode cX12_whyNot 41 = .ok (.iload_n 2, 1) := by decide +kernel
theorem dX12_whyNot_42 : decode cX12_whyNot 42 = .ok (.aload_n 0, 1) := by decide +kernel
theorem dX12_whyNot_43 : decode cX12_whyNot 43 = .ok (.iload_n 1, 1) := by decide +kernel
theorem dX12_whyNot_44 : decode cX12_whyNot 44 = .ok (.iconst 1, 1) := by decide +kernel
theorem dX12_whyNot_45 : decode cX12_whyNot 45 = .ok (.invokevirtual 194, 3) := by decide +kernel
theorem dX12_whyNot_48 : decode cX12_whyNot 48 = .ok (.if_icmp .ge 6, 3) := by decide +kernel
theorem dX12_whyNot_51 : decode cX12_whyNot 51 = .ok (.bipush (-3), 2) := by decide +kernel
theorem dX12_whyNot_53 : decode cX12_whyNot 53 = .ok (.ireturn, 1) := by decide +kernel
theorem dX12_whyNot_54 : decode cX12_whyNot 54 = .ok (.aload_n 0, 1) := by decide +kernel
theorem dX12_whyNot_55 : decode cX12_whyNot 55 = .ok (.getfield 20, 3) := by decide +kernel
theorem dX12_whyNot_58 : decode cX12_whyNot 58 = .ok (.bipush 56, 2) := by decide +kernel
theorem dX12_whyNot_60 : decode cX12_whyNot 60 = .ok (.iaload, 1) := by decide +kernel
theorem dX12_whyNot_61 : decode cX12_whyNot 61 = .ok (.bipush 12, 2) := by decide +kernel
theorem dX12_whyNot_63 : decode cX12_whyNot 63 = .ok (.if_icmp .ne 8, 3) := by decide +kernel
theorem dX12_whyNot_66 : decode cX12_whyNot 66 = .ok (.bipush (-5), 2) := by decide +kernel
theorem dX12_whyNot_68 : decode cX12_whyNot 68 = .ok (.goto 4, 3) := by decide +kernel
theorem dX12_whyNot_71 : decode cX12_whyNot 71 = .ok (.iconst 0, 1) := by decide +kernel
theorem dX12_whyNot_72 : decode cX12_whyNot 72 = .ok (.ireturn, 1) := by decide +kernel
theorem dX12_adds_0 : decode cX12_adds 0 = .ok (.bipush 18, 2) := by decide +kernel
theorem dX12_adds_2 : decode cX12_adds 2 = .ok (.iconst 3, 1) := by decide +kernel
theorem dX12_adds_3 : decode cX12_adds 3 = .ok (.aload_n 0, 1) := by decide +kernel
theorem dX12_adds_4 : decode cX12_adds 4 = .ok (.getfield 20, 3) := by decide +kernel
theorem dX12_adds_7 : decode cX12_adds 7 = .ok (.bipush 56, 2) := by decide +kernel
theorem dX12_adds_9 : decode cX12_adds 9 = .ok (.iaload, 1) := by decide +kernel
theorem dX12_adds_10 : decode cX12_adds 10 = .ok (.imul, 1) := by decide +kernel
theorem dX12_adds_11 : decode cX12_adds 11 = .ok (.iadd, 1) := by decide +kernel
theorem dX12_adds_12 : decode cX12_adds 12 = .ok (.istore 4, 2) := by decide +kernel
theorem dX12_adds_14 : decode cX12_adds 14 = .ok (.aload_n 0, 1) := by decide +kernel
theorem dX12_adds_15 : decode cX12_adds 15 = .ok (.getfield 20, 3) := by decide +kernel
theorem dX12_adds_18 : decode cX12_adds 18 = .ok (.iload 4, 2) := by decide +kernel
theorem dX12_adds_20 : decode cX12_adds 20 = .ok (.iconst 0, 1) := by decide +kernel
theorem dX12_adds_21 : decode cX12_adds 21 = .ok (.iadd, 1) := by decide +kernel
theorem dX12_adds_22 : decode cX12_adds 22 = .ok (.iload_n 1, 1) := by decide +kernel
theorem dX12_adds_23 : decode cX12_adds 23 = .ok (.iastore, 1) := by decide +kernel
theorem dX12_adds_24 : decode cX12_adds 24 = .ok (.aload_n 0, 1) := by decide +kernel
theorem dX12_adds_25 : decode cX12_adds 25 = .ok (.getfield 20, 3) := by decide +kernel
theorem dX12_adds_28 : decode cX12_adds 28 = .ok (.iload 4, 2) := by decide +kernel
theorem dX12_adds_30 : decode cX12_adds 30 = .ok (.iconst 1, 1) := by decide +kernel
theorem dX12_adds_31 : decode cX12_adds 31 = .ok (.iadd, 1) := by decide +kernel
theorem dX12_adds_32 : decode cX12_adds 32 = .ok (.iload_n 2, 1) := by decide +kernel
theorem dX12_adds_33 : decode cX12_adds 33 = .ok (.iastore, 1) := by decide +kernel
theorem dX12_adds_34 : decode cX12_adds 34 = .ok (.aload_n 0, 1) := by decide +kernel
theorem dX12_adds_35 : decode cX12_adds 35 = .ok (.getfield 20, 3) := by decide +kernel
theorem dX12_adds_38 : decode cX12_adds 38 = .ok (.iload 4, 2) := by decide +kernel
theorem dX12_adds_40 : decode cX12_adds 40 = .ok (.iconst 2, 1) := by decide +kernel
theorem dX12_adds_41 : decode cX12_adds 41 = .ok (.iadd, 1) := by decide +kernel
theorem dX12_adds_42 : decode cX12_adds 42 = .ok (.iload_n 3, 1) := by decide +kernel
theorem dX12_adds_43 : decode cX12_adds 43 = .ok (.iastore, 1) := by decide +kernel
theorem dX12_adds_44 : decode cX12_adds 44 = .ok (.aload_n 0, 1) := by decide +kernel
theorem dX12_adds_45 : decode cX12_adds 45 = .ok (.getfield 20, 3) := by decide +kernel
theorem dX12_adds_48 : decode cX12_adds 48 = .ok (.bipush 56, 2) := by decide +kernel
theorem dX12_adds_50 : decode cX12_adds 50 = .ok (.dup2, 1) := by decide +kernel
theorem dX12_adds_51 : decode cX12_adds 51 = .ok (.iaload, 1) := by decide +kernel
theorem dX12_adds_52 : decode cX12_adds 52 = .ok (.iconst 1, 1) := by decide +kernel
theorem dX12_adds_53 : decode cX12_adds 53 = .ok (.iadd, 1) := by decide +kernel
theorem dX12_adds_54 : decode cX12_adds 54 = .ok (.iastore, 1) := by decide +kernel
theorem dX12_adds_55 : decode cX12_adds 55 = .ok (.return_, 1) := by decide +kernel
theorem dX12_house_0 : decode cX12_house 0 = .ok (.aload_n 0, 1) := by decide +kernel
theorem dX12_house_1 : decode cX12_house 1 = .ok (.iload_n 1, 1) := by decide +kernel
theorem dX12_house_2 : decode cX12_house 2 = .ok (.iload_n 2, 1) := by decide +kernel
theorem dX12_house_3 : decode cX12_house 3 = .ok (.iload_n 3, 1) := by decide +kernel
theorem dX12_house_4 : decode cX12_house 4 = .ok (.invokevirtual 197, 3) := by decide +kernel
theorem dX12_house_7 : decode cX12_house 7 = .ok (.istore 4, 2) := by decide +kernel
theorem dX12_house_9 : decode cX12_house 9 = .ok (.iload 4, 2) := by decide +kernel
theorem dX12_house_11 : decode cX12_house 11 = .ok (.ifCond .ge 10, 3) := by decide +kernel
theorem dX12_house_14 : decode cX12_house 14 = .ok (.aload_n 0, 1) := by decide +kernel
theorem dX12_house_15 : decode cX12_house 15 = .ok (.iload 4, 2) := by decide +kernel
theorem dX12_house_17 : decode cX12_house 17 = .ok (.invokevirtual 127, 3) := by decide +kernel
theorem dX12_house_20 : decode cX12_house 20 = .ok (.ireturn, 1) := by decide +kernel
theorem dX12_house_21 : decode cX12_house 21 = .ok (.aload_n 0, 1) := by decide +kernel
theorem dX12_house_22 : decode cX12_house 22 = .ok (.iload_n 1, 1) := by decide +kernel
theorem dX12_house_23 : decode cX12_house 23 = .ok (.iload_n 2, 1) := by decide +kernel
theorem dX12_house_24 : decode cX12_house 24 = .ok (.iload_n 3, 1) := by decide +kernel
theorem dX12_house_25 : decode cX12_house 25 = .ok (.invokevirtual 201, 3) := by decide +kernel
theorem dX12_house_28 : decode cX12_house 28 = .ok (.aload_n 0, 1) := by decide +kernel
theorem dX12_house_29 : decode cX12_house 29 = .ok (.aload_n 0, 1) := by decide +kernel
theorem dX12_house_30 : decode cX12_house 30 = .ok (.getfield 20, 3) := by decide +kernel
theorem dX12_house_33 : decode cX12_house 33 = .ok (.bipush 56, 2) := by decide +kernel
theorem dX12_house_35 : decode cX12_house 35 = .ok (.iaload, 1) := by decide +kernel
theorem dX12_house_36 : decode cX12_house 36 = .ok (.iconst 1, 1) := by decide +kernel
theorem dX12_house_37 : decode cX12_house 37 = .ok (.isub, 1) := by decide +kernel
theorem dX12_house_38 : decode cX12_house 38 = .ok (.invokevirtual 131, 3) := by decide +kernel
theorem dX12_house_41 : decode cX12_house 41 = .ok (.ireturn, 1) := by decide +kernel
theorem dX12_bears_0 : decode cX12_bears 0 = .ok (.iload_n 2, 1) := by decide +kernel
theorem dX12_bears_1 : decode cX12_bears 1 = .ok (.iconst 0, 1) := by decide +kernel
theorem dX12_bears_2 : decode cX12_bears 2 = .ok (.iconst 4, 1) := by decide +kernel
theorem dX12_bears_3 : decode cX12_bears 3 = .ok (.invokestatic 123, 3) := by decide +kernel
theorem dX12_bears_6 : decode cX12_bears 6 = .ok (.ifCond .eq 23, 3) := by decide +kernel
theorem dX12_bears_9 : decode cX12_bears 9 = .ok (.iload_n 3, 1) := by decide +kernel
theorem dX12_bears_10 : decode cX12_bears 10 = .ok (.invokestatic 205, 3) := by decide +kernel
theorem dX12_bears_13 : decode cX12_bears 13 = .ok (.ifCond .eq 16, 3) := by decide +kernel
theorem dX12_bears_16 : decode cX12_bears 16 = .ok (.iload_n 2, 1) := by decide +kernel
theorem dX12_bears_17 : decode cX12_bears 17 = .ok (.iconst 1, 1) := by decide +kernel
theorem dX12_bears_18 : decode cX12_bears 18 = .ok (.if_icmp .ne 13, 3) := by decide +kernel
theorem dX12_bears_21 : decode cX12_bears 21 = .ok (.iload 4, 2) := by decide +kernel
theorem dX12_bears_23 : decode cX12_bears 23 = .ok (.invokestatic 134, 3) := by decide +kernel
theorem dX12_bears_26 : decode cX12_bears 26 = .ok (.ifCond .ne 5, 3) := by decide +kernel
theorem dX12_bears_29 : decode cX12_bears 29 = .ok (.iconst (-1), 1) := by decide +kernel
theorem dX12_bears_30 : decode cX12_bears 30 = .ok (.ireturn, 1) := by decide +kernel
theorem dX12_bears_31 : decode cX12_bears 31 = .ok (.aload_n 0, 1) := by decide +kernel
theorem dX12_bears_32 : decode cX12_bears 32 = .ok (.iload_n 1, 1) := by decide +kernel
theorem dX12_bears_33 : decode cX12_bears 33 = .ok (.invokevirtual 191, 3) := by decide +kernel
theorem dX12_bears_36 : decode cX12_bears 36 = .ok (.ifCond .ne 6, 3) := by decide +kernel
theorem dX12_bears_39 : decode cX12_bears 39 = .ok (.bipush (-2), 2) := by decide +kernel
theorem dX12_bears_41 : decode cX12_bears 41 = .ok (.ireturn, 1) := by decide +kernel
theorem dX12_bears_42 : decode cX12_bears 42 = .ok (.aload_n 0, 1) := by decide +kernel
theorem dX12_bears_43 : decode cX12_bears 43 = .ok (.getfield 20, 3) := by decide +kernel
theorem dX12_bears_46 : decode cX12_bears 46 = .ok (.bipush 54, 2) := by decide +kernel
theorem dX12_bears_48 : decode cX12_bears 48 = .ok (.iaload, 1) := by decide +kernel
theorem dX12_bears_49 : decode cX12_bears 49 = .ok (.istore 5, 2) := by decide +kernel
theorem dX12_bears_51 : decode cX12_bears 51 = .ok (.aload_n 0, 1) := by decide +kernel
theorem dX12_bears_52 : decode cX12_bears 52 = .ok (.aload_n 0, 1) := by decide +kernel
theorem dX12_bears_53 : decode cX12_bears 53 = .ok (.iload_n 1, 1) := by decide +kernel
theorem dX12_bears_54 : decode cX12_bears 54 = .ok (.iconst 2, 1) := by decide +kernel
theorem dX12_bears_55 : decode cX12_bears 55 = .ok (.invokevirtual 194, 3) := by decide +kernel
theorem dX12_bears_58 : decode cX12_bears 58 = .ok (.iload_n 2, 1) := by decide +kernel
theorem dX12_bears_59 : decode cX12_bears 59 = .ok (.iload_n 3, 1) := by decide +kernel
theorem dX12_bears_60 : decode cX12_bears 60 = .ok (.iload 4, 2) := by decide +kernel
theorem dX12_bears_62 : decode cX12_bears 62 = .ok (.iload 5, 2) := by decide +kernel
theorem dX12_bears_64 : decode cX12_bears 64 = .ok (.invokevirtual 177, 3) := by decide +kernel
theorem dX12_bears_67 : decode cX12_bears 67 = .ok (.istore 6, 2) := by decide +kernel
theorem dX12_bears_69 : decode cX12_bears 69 = .ok (.iload 6, 2) := by decide +kernel
theorem dX12_bears_71 : decode cX12_bears 71 = .ok (.iconst (-1), 1) := by decide +kernel
theorem dX12_bears_72 : decode cX12_bears 72 = .ok (.if_icmp .eq 14, 3) := by decide +kernel
theorem dX12_bears_75 : decode cX12_bears 75 = .ok (.iload 5, 2) := by decide +kernel
theorem dX12_bears_77 : decode cX12_bears 77 = .ok (.aload_n 0, 1) := by decide +kernel
theorem dX12_bears_78 : decode cX12_bears 78 = .ok (.iload_n 1, 1) := by decide +kernel
theorem dX12_bears_79 : decode cX12_bears 79 = .ok (.iconst 1, 1) := by decide +kernel
theorem dX12_bears_80 : decode cX12_bears 80 = .ok (.invokevirtual 194, 3) := by decide +kernel
theorem dX12_bears_83 : decode cX12_bears 83 = .ok (.if_icmp .ge 6, 3) := by decide +kernel
theorem dX12_bears_86 : decode cX12_bears 86 = .ok (.bipush (-3), 2) := by decide +kernel
theorem dX12_bears_88 : decode cX12_bears 88 = .ok (.ireturn, 1) := by decide +kernel
theorem dX12_bears_89 : decode cX12_bears 89 = .ok (.aload_n 0, 1) := by decide +kernel
theorem dX12_bears_90 : decode cX12_bears 90 = .ok (.getfield 20, 3) := by decide +kernel
theorem dX12_bears_93 : decode cX12_bears 93 = .ok (.bipush 56, 2) := by decide +kernel
theorem dX12_bears_95 : decode cX12_bears 95 = .ok (.iaload, 1) := by decide +kernel
theorem dX12_bears_96 : decode cX12_bears 96 = .ok (.bipush 12, 2) := by decide +kernel
theorem dX12_bears_98 : decode cX12_bears 98 = .ok (.if_icmp .ne 6, 3) := by decide +kernel
theorem dX12_bears_101 : decode cX12_bears 101 = .ok (.bipush (-5), 2) := by decide +kernel
theorem dX12_bears_103 : decode cX12_bears 103 = .ok (.ireturn, 1) := by decide +kernel
theorem dX12_bears_104 : decode cX12_bears 104 = .ok (.aload_n 0, 1) := by decide +kernel
theorem dX12_bears_105 : decode cX12_bears 105 = .ok (.iload_n 1, 1) := by decide +kernel
theorem dX12_bears_106 : decode cX12_bears 106 = .ok (.iload 5, 2) := by decide +kernel
theorem dX12_bears_108 : decode cX12_bears 108 = .ok (.iload 6, 2) := by decide +kernel
theorem dX12_bears_110 : decode cX12_bears 110 = .ok (.invokevirtual 201, 3) := by decide +kernel
theorem dX12_bears_113 : decode cX12_bears 113 = .ok (.aload_n 0, 1) := by decide +kernel
theorem dX12_bears_114 : decode cX12_bears 114 = .ok (.getfield 20, 3) := by decide +kernel
theorem dX12_bears_117 : decode cX12_bears 117 = .ok (.bipush 56, 2) := by decide +kernel
theorem dX12_bears_119 : decode cX12_bears 119 = .ok (.iaload, 1) := by decide +kernel
theorem dX12_bears_120 : decode cX12_bears 120 = .ok (.iconst 1, 1) := by decide +kernel
theorem dX12_bears_121 : decode cX12_bears 121 = .ok (.isub, 1) := by decide +kernel
theorem dX12_bears_122 : decode cX12_bears 122 = .ok (.ireturn, 1) := by decide +kernel
theorem dX12_born_0 : decode cX12_born 0 = .ok (.aload_n 0, 1) := by decide +kernel
theorem dX12_born_1 : decode cX12_born 1 = .ok (.iload_n 1, 1) := by decide +kernel
theorem dX12_born_2 : decode cX12_born 2 = .ok (.iload_n 2, 1) := by decide +kernel
theorem dX12_born_3 : decode cX12_born 3 = .ok (.iload_n 3, 1) := by decide +kernel
theorem dX12_born_4 : decode cX12_born 4 = .ok (.iload 4, 2) := by decide +kernel
theorem dX12_born_6 : decode cX12_born 6 = .ok (.invokevirtual 208, 3) := by decide +kernel
theorem dX12_born_9 : decode cX12_born 9 = .ok (.istore 5, 2) := by decide +kernel
theorem dX12_born_11 : decode cX12_born 11 = .ok (.iload 5, 2) := by decide +kernel
theorem dX12_born_13 : decode cX12_born 13 = .ok (.ifCond .ge 12, 3) := by decide +kernel
theorem dX12_born_16 : decode cX12_born 16 = .ok (.aload_n 0, 1) := by decide +kernel
theorem dX12_born_17 : decode cX12_born 17 = .ok (.iload 5, 2) := by decide +kernel
theorem dX12_born_19 : decode cX12_born 19 = .ok (.invokevirtual 127, 3) := by decide +kernel
theorem dX12_born_22 : decode cX12_born 22 = .ok (.goto 9, 3) := by decide +kernel
theorem dX12_born_25 : decode cX12_born 25 = .ok (.aload_n 0, 1) := by decide +kernel
theorem dX12_born_26 : decode cX12_born 26 = .ok (.iload 5, 2) := by decide +kernel
theorem dX12_born_28 : decode cX12_born 28 = .ok (.invokevirtual 131, 3) := by decide +kernel
theorem dX12_born_31 : decode cX12_born 31 = .ok (.ireturn, 1) := by decide +kernel
theorem dX12_undo_0 : decode cX12_undo 0 = .ok (.aload_n 0, 1) := by decide +kernel
theorem dX12_undo_1 : decode cX12_undo 1 = .ok (.getfield 20, 3) := by decide +kernel
theorem dX12_undo_4 : decode cX12_undo 4 = .ok (.bipush 56, 2) := by decide +kernel
theorem dX12_undo_6 : decode cX12_undo 6 = .ok (.iaload, 1) := by decide +kernel
theorem dX12_undo_7 : decode cX12_undo 7 = .ok (.ifCond .ne 10, 3) := by decide +kernel
theorem dX12_undo_10 : decode cX12_undo 10 = .ok (.aload_n 0, 1) := by decide +kernel
theorem dX12_undo_11 : decode cX12_undo 11 = .ok (.bipush (-3), 2) := by decide +kernel
theorem dX12_undo_13 : decode cX12_undo 13 = .ok (.invokevirtual 127, 3) := by decide +kernel
theorem dX12_undo_16 : decode cX12_undo 16 = .ok (.ireturn, 1) := by decide +kernel
theorem dX12_undo_17 : decode cX12_undo 17 = .ok (.aload_n 0, 1) := by decide +kernel
theorem dX12_undo_18 : decode cX12_undo 18 = .ok (.getfield 20, 3) := by decide +kernel
theorem dX12_undo_21 : decode cX12_undo 21 = .ok (.bipush 56, 2) := by decide +kernel
theorem dX12_undo_23 : decode cX12_undo 23 = .ok (.dup2, 1) := by decide +kernel
theorem dX12_undo_24 : decode cX12_undo 24 = .ok (.iaload, 1) := by decide +kernel
theorem dX12_undo_25 : decode cX12_undo 25 = .ok (.iconst 1, 1) := by decide +kernel
theorem dX12_undo_26 : decode cX12_undo 26 = .ok (.isub, 1) := by decide +kernel
theorem dX12_undo_27 : decode cX12_undo 27 = .ok (.iastore, 1) := by decide +kernel
theorem dX12_undo_28 : decode cX12_undo 28 = .ok (.aload_n 0, 1) := by decide +kernel
theorem dX12_undo_29 : decode cX12_undo 29 = .ok (.aload_n 0, 1) := by decide +kernel
theorem dX12_undo_30 : decode cX12_undo 30 = .ok (.aload_n 0, 1) := by decide +kernel
theorem dX12_undo_31 : decode cX12_undo 31 = .ok (.getfield 20, 3) := by decide +kernel
theorem dX12_undo_34 : decode cX12_undo 34 = .ok (.bipush 56, 2) := by decide +kernel
theorem dX12_undo_36 : decode cX12_undo 36 = .ok (.iaload, 1) := by decide +kernel
theorem dX12_undo_37 : decode cX12_undo 37 = .ok (.iconst 2, 1) := by decide +kernel
theorem dX12_undo_38 : decode cX12_undo 38 = .ok (.invokevirtual 194, 3) := by decide +kernel
theorem dX12_undo_41 : decode cX12_undo 41 = .ok (.invokevirtual 131, 3) := by decide +kernel
theorem dX12_undo_44 : decode cX12_undo 44 = .ok (.ireturn, 1) := by decide +kernel
theorem dX12_terms_0 : decode cX12_terms 0 = .ok (.iload_n 1, 1) := by decide +kernel
theorem dX12_terms_1 : decode cX12_terms 1 = .ok (.iconst 0, 1) := by decide +kernel
theorem dX12_terms_2 : decode cX12_terms 2 = .ok (.iconst 1, 1) := by decide +kernel
theorem dX12_terms_3 : decode cX12_terms 3 = .ok (.invokestatic 123, 3) := by decide +kernel
theorem dX12_terms_6 : decode cX12_terms 6 = .ok (.ifCond .eq 23, 3) := by decide +kernel
theorem dX12_terms_9 : decode cX12_terms 9 = .ok (.iload_n 2, 1) := by decide +kernel
theorem dX12_terms_10 : decode cX12_terms 10 = .ok (.iconst 0, 1) := by decide +kernel
theorem dX12_terms_11 : decode cX12_terms 11 = .ok (.iload_n 1, 1) := by decide +kernel
theorem dX12_terms_12 : decode cX12_terms 12 = .ok (.ifCond .ne 9, 3) := by decide +kernel
theorem dX12_terms_15 : decode cX12_terms 15 = .ok (.sipush 999, 3) := by decide +kernel
theorem dX12_terms_18 : decode cX12_terms 18 = .ok (.goto 5, 3) := by decide +kernel
theorem dX12_terms_21 : decode cX12_terms 21 = .ok (.bipush 9, 2) := by decide +kernel
theorem dX12_terms_23 : decode cX12_terms 23 = .ok (.invokestatic 123, 3) := by decide +kernel
theorem dX12_terms_26 : decode cX12_terms 26 = .ok (.ifCond .ne 9, 3) := by decide +kernel
theorem dX12_terms_29 : decode cX12_terms 29 = .ok (.aload_n 0, 1) := by decide +kernel
theorem dX12_terms_30 : decode cX12_terms 30 = .ok (.iconst (-1), 1) := by decide +kernel
theorem dX12_terms_31 : decode cX12_terms 31 = .ok (.invokevirtual 127, 3) := by decide +kernel
theorem dX12_terms_34 : decode cX12_terms 34 = .ok (.ireturn, 1) := by decide +kernel
theorem dX12_terms_35 : decode cX12_terms 35 = .ok (.aload_n 0, 1) := by decide +kernel
theorem dX12_terms_36 : decode cX12_terms 36 = .ok (.getfield 20, 3) := by decide +kernel
theorem dX12_terms_39 : decode cX12_terms 39 = .ok (.bipush 54, 2) := by decide +kernel
theorem dX12_terms_41 : decode cX12_terms 41 = .ok (.iload_n 1, 1) := by decide +kernel
theorem dX12_terms_42 : decode cX12_terms 42 = .ok (.iadd, 1) := by decide +kernel
theorem dX12_terms_43 : decode cX12_terms 43 = .ok (.iaload, 1) := by decide +kernel
theorem dX12_terms_44 : decode cX12_terms 44 = .ok (.istore_n 3, 1) := by decide +kernel
theorem dX12_terms_45 : decode cX12_terms 45 = .ok (.aload_n 0, 1) := by decide +kernel
theorem dX12_terms_46 : decode cX12_terms 46 = .ok (.getfield 20, 3) := by decide +kernel
theorem dX12_terms_49 : decode cX12_terms 49 = .ok (.bipush 54, 2) := by decide +kernel
theorem dX12_terms_51 : decode cX12_terms 51 = .ok (.iload_n 1, 1) := by decide +kernel
theorem dX12_terms_52 : decode cX12_terms 52 = .ok (.iadd, 1) := by decide +kernel
theorem dX12_terms_53 : decode cX12_terms 53 = .ok (.iload_n 2, 1) := by decide +kernel
theorem dX12_terms_54 : decode cX12_terms 54 = .ok (.iastore, 1) := by decide +kernel
theorem dX12_terms_55 : decode cX12_terms 55 = .ok (.aload_n 0, 1) := by decide +kernel
theorem dX12_terms_56 : decode cX12_terms 56 = .ok (.iload_n 3, 1) := by decide +kernel
theorem dX12_terms_57 : decode cX12_terms 57 = .ok (.invokevirtual 131, 3) := by decide +kernel
theorem dX12_terms_60 : decode cX12_terms 60 = .ok (.ireturn, 1) := by decide +kernel
theorem dX12_row_0 : decode cX12_row 0 = .ok (.aload_n 0, 1) := by decide +kernel
theorem dX12_row_1 : decode cX12_row 1 = .ok (.getfield 211, 3) := by decide +kernel
theorem dX12_row_4 : decode cX12_row 4 = .ok (.istore_n 1, 1) := by decide +kernel
theorem dX12_row_5 : decode cX12_row 5 = .ok (.aload_n 0, 1) := by decide +kernel
theorem dX12_row_6 : decode cX12_row 6 = .ok (.iconst 0, 1) := by decide +kernel
theorem dX12_row_7 : decode cX12_row 7 = .ok (.putfield 211, 3) := by decide +kernel
theorem dX12_row_10 : decode cX12_row 10 = .ok (.iload_n 1, 1) := by decide +kernel
theorem dX12_row_11 : decode cX12_row 11 = .ok (.ifCond .ne 10, 3) := by decide +kernel
theorem dX12_row_14 : decode cX12_row 14 = .ok (.aload_n 0, 1) := by decide +kernel
theorem dX12_row_15 : decode cX12_row 15 = .ok (.bipush (-6), 2) := by decide +kernel
theorem dX12_row_17 : decode cX12_row 17 = .ok (.invokevirtual 127, 3) := by decide +kernel
theorem dX12_row_20 : decode cX12_row 20 = .ok (.ireturn, 1) := by decide +kernel
theorem dX12_row_21 : decode cX12_row 21 = .ok (.iconst 0, 1) := by decide +kernel
theorem dX12_row_22 : decode cX12_row 22 = .ok (.istore_n 2, 1) := by decide +kernel
theorem dX12_row_23 : decode cX12_row 23 = .ok (.aload_n 0, 1) := by decide +kernel
theorem dX12_row_24 : decode cX12_row 24 = .ok (.iconst 0, 1) := by decide +kernel
theorem dX12_row_25 : decode cX12_row 25 = .ok (.putfield 214, 3) := by decide +kernel
theorem dX12_row_28 : decode cX12_row 28 = .ok (.iconst 0, 1) := by decide +kernel
theorem dX12_row_29 : decode cX12_row 29 = .ok (.istore_n 3, 1) := by decide +kernel
theorem dX12_row_30 : decode cX12_row 30 = .ok (.iload_n 3, 1) := by decide +kernel
theorem dX12_row_31 : decode cX12_row 31 = .ok (.iload_n 1, 1) := by decide +kernel
theorem dX12_row_32 : decode cX12_row 32 = .ok (.if_icmp .ge 183, 3) := by decide +kernel
theorem dX12_row_35 : decode cX12_row 35 = .ok (.iload_n 3, 1) := by decide +kernel
theorem dX12_row_36 : decode cX12_row 36 = .ok (.istore 4, 2) := by decide +kernel
theorem dX12_row_38 : decode cX12_row 38 = .ok (.iconst 1, 1) := by decide +kernel
theorem dX12_row_39 : decode cX12_row 39 = .ok (.istore 5, 2) := by decide +kernel
theorem dX12_row_41 : decode cX12_row 41 = .ok (.iconst 0, 1) := by decide +kernel
theorem dX12_row_42 : decode cX12_row 42 = .ok (.istore 6, 2) := by decide +kernel
theorem dX12_row_44 : decode cX12_row 44 = .ok (.iload 4, 2) := by decide +kernel
theorem dX12_row_46 : decode cX12_row 46 = .ok (.iload_n 1, 1) := by decide +kernel
theorem dX12_row_47 : decode cX12_row 47 = .ok (.if_icmp .ge 79, 3) := by decide +kernel
theorem dX12_row_50 : decode cX12_row 50 = .ok (.aload_n 0, 1) := by decide +kernel
theorem dX12_row_51 : decode cX12_row 51 = .ok (.getfield 43, 3) := by decide +kernel
theorem dX12_row_54 : decode cX12_row 54 = .ok (.iload 4, 2) := by decide +kernel
theorem dX12_row_56 : decode cX12_row 56 = .ok (.baload, 1) := by decide +kernel
theorem dX12_row_57 : decode cX12_row 57 = .ok (.ifCond .eq 69, 3) := by decide +kernel
theorem dX12_row_60 : decode cX12_row 60 = .ok (.iload 5, 2) := by decide +kernel
