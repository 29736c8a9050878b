/-! printed by wip/whole/tools/dec.py: the law -/
theorem d_La_law_378 : decode code 378 = .ok (.iload 4, 2) := by decide +kernel
theorem d_La_law_380 : decode code 380 = .ok (.iconst 3, 1) := by decide +kernel
theorem d_La_law_381 : decode code 381 = .ok (.iadd, 1) := by decide +kernel
theorem d_La_law_382 : decode code 382 = .ok (.iaload, 1) := by decide +kernel
theorem d_La_law_383 : decode code 383 = .ok (.invokevirtual 68, 3) := by decide +kernel
theorem d_La_law_386 : decode code 386 = .ok (.istore 6, 2) := by decide +kernel
theorem d_La_law_388 : decode code 388 = .ok (.aload_n 2, 1) := by decide +kernel
theorem d_La_law_389 : decode code 389 = .ok (.invokevirtual 62, 3) := by decide +kernel
theorem d_La_law_392 : decode code 392 = .ok (.iload 5, 2) := by decide +kernel
theorem d_La_law_394 : decode code 394 = .ok (.if_icmp .eq 5, 3) := by decide +kernel
theorem d_La_law_397 : decode code 397 = .ok (.iconst 0, 1) := by decide +kernel
theorem d_La_law_398 : decode code 398 = .ok (.ireturn, 1) := by decide +kernel
theorem d_La_law_399 : decode code 399 = .ok (.iload 5, 2) := by decide +kernel
theorem d_La_law_401 : decode code 401 = .ok (.ifCond .ne 15, 3) := by decide +kernel
theorem d_La_law_404 : decode code 404 = .ok (.aload_n 3, 1) := by decide +kernel
theorem d_La_law_405 : decode code 405 = .ok (.iconst 0, 1) := by decide +kernel
theorem d_La_law_406 : decode code 406 = .ok (.laload, 1) := by decide +kernel
theorem d_La_law_407 : decode code 407 = .ok (.iload 6, 2) := by decide +kernel
theorem d_La_law_409 : decode code 409 = .ok (.i2l, 1) := by decide +kernel
theorem d_La_law_410 : decode code 410 = .ok (.lcmp, 1) := by decide +kernel
theorem d_La_law_411 : decode code 411 = .ok (.ifCond .eq 5, 3) := by decide +kernel
theorem d_La_law_414 : decode code 414 = .ok (.iconst 0, 1) := by decide +kernel
theorem d_La_law_415 : decode code 415 = .ok (.ireturn, 1) := by decide +kernel
theorem d_La_law_416 : decode code 416 = .ok (.goto 317, 3) := by decide +kernel
theorem d_La_law_419 : decode code 419 = .ok (.aload_n 1, 1) := by decide +kernel
theorem d_La_law_420 : decode code 420 = .ok (.aload_n 0, 1) := by decide +kernel
theorem d_La_law_421 : decode code 421 = .ok (.iload 4, 2) := by decide +kernel
theorem d_La_law_423 : decode code 423 = .ok (.iconst 1, 1) := by decide +kernel
theorem d_La_law_424 : decode code 424 = .ok (.iadd, 1) := by decide +kernel
theorem d_La_law_425 : decode code 425 = .ok (.iaload, 1) := by decide +kernel
theorem d_La_law_426 : decode code 426 = .ok (.aload_n 0, 1) := by decide +kernel
theorem d_La_law_427 : decode code 427 = .ok (.iload 4, 2) := by decide +kernel
theorem d_La_law_429 : decode code 429 = .ok (.iconst 2, 1) := by decide +kernel
theorem d_La_law_430 : decode code 430 = .ok (.iadd, 1) := by decide +kernel
theorem d_La_law_431 : decode code 431 = .ok (.iaload, 1) := by decide +kernel
theorem d_La_law_432 : decode code 432 = .ok (.invokevirtual 69, 3) := by decide +kernel
theorem d_La_law_435 : decode code 435 = .ok (.aload_n 2, 1) := by decide +kernel
theorem d_La_law_436 : decode code 436 = .ok (.aload_n 0, 1) := by decide +kernel
theorem d_La_law_437 : decode code 437 = .ok (.iload 4, 2) := by decide +kernel
theorem d_La_law_439 : decode code 439 = .ok (.iconst 1, 1) := by decide +kernel
theorem d_La_law_440 : decode code 440 = .ok (.iadd, 1) := by decide +kernel
theorem d_La_law_441 : decode code 441 = .ok (.iaload, 1) := by decide +kernel
theorem d_La_law_442 : decode code 442 = .ok (.aload_n 0, 1) := by decide +kernel
theorem d_La_law_443 : decode code 443 = .ok (.iload 4, 2) := by decide +kernel
theorem d_La_law_445 : decode code 445 = .ok (.iconst 2, 1) := by decide +kernel
theorem d_La_law_446 : decode code 446 = .ok (.iadd, 1) := by decide +kernel
theorem d_La_law_447 : decode code 447 = .ok (.iaload, 1) := by decide +kernel
theorem d_La_law_448 : decode code 448 = .ok (.invokevirtual 72, 3) := by decide +kernel
theorem d_La_law_451 : decode code 451 = .ok (.if_icmp .eq 282, 3) := by decide +kernel
theorem d_La_law_454 : decode code 454 = .ok (.iconst 0, 1) := by decide +kernel
theorem d_La_law_455 : decode code 455 = .ok (.ireturn, 1) := by decide +kernel
theorem d_La_law_456 : decode code 456 = .ok (.aload_n 1, 1) := by decide +kernel
theorem d_La_law_457 : decode code 457 = .ok (.aload_n 0, 1) := by decide +kernel
theorem d_La_law_458 : decode code 458 = .ok (.iload 4, 2) := by decide +kernel
theorem d_La_law_460 : decode code 460 = .ok (.iconst 1, 1) := by decide +kernel
theorem d_La_law_461 : decode code 461 = .ok (.iadd, 1) := by decide +kernel
theorem d_La_law_462 : decode code 462 = .ok (.iaload, 1) := by decide +kernel
theorem d_La_law_463 : decode code 463 = .ok (.invokevirtual 73, 3) := by decide +kernel
theorem d_La_law_466 : decode code 466 = .ok (.aload_n 2, 1) := by decide +kernel
theorem d_La_law_467 : decode code 467 = .ok (.aload_n 0, 1) := by decide +kernel
theorem d_La_law_468 : decode code 468 = .ok (.iload 4, 2) := by decide +kernel
theorem d_La_law_470 : decode code 470 = .ok (.iconst 1, 1) := by decide +kernel
theorem d_La_law_471 : decode code 471 = .ok (.iadd, 1) := by decide +kernel
theorem d_La_law_472 : decode code 472 = .ok (.iaload, 1) := by decide +kernel
theorem d_La_law_473 : decode code 473 = .ok (.invokevirtual 77, 3) := by decide +kernel
theorem d_La_law_476 : decode code 476 = .ok (.if_icmp .eq 257, 3) := by decide +kernel
theorem d_La_law_479 : decode code 479 = .ok (.iconst 0, 1) := by decide +kernel
theorem d_La_law_480 : decode code 480 = .ok (.ireturn, 1) := by decide +kernel
theorem d_La_law_481 : decode code 481 = .ok (.aload_n 1, 1) := by decide +kernel
theorem d_La_law_482 : decode code 482 = .ok (.aload_n 0, 1) := by decide +kernel
theorem d_La_law_483 : decode code 483 = .ok (.iload 4, 2) := by decide +kernel
theorem d_La_law_485 : decode code 485 = .ok (.iconst 1, 1) := by decide +kernel
theorem d_La_law_486 : decode code 486 = .ok (.iadd, 1) := by decide +kernel
theorem d_La_law_487 : decode code 487 = .ok (.iaload, 1) := by decide +kernel
theorem d_La_law_488 : decode code 488 = .ok (.aload_n 0, 1) := by decide +kernel
theorem d_La_law_489 : decode code 489 = .ok (.iload 4, 2) := by decide +kernel
theorem d_La_law_491 : decode code 491 = .ok (.iconst 2, 1) := by decide +kernel
theorem d_La_law_492 : decode code 492 = .ok (.iadd, 1) := by decide +kernel
theorem d_La_law_493 : decode code 493 = .ok (.iaload, 1) := by decide +kernel
theorem d_La_law_494 : decode code 494 = .ok (.aload_n 0, 1) := by decide +kernel
theorem d_La_law_495 : decode code 495 = .ok (.iload 4, 2) := by decide +kernel
theorem d_La_law_497 : decode code 497 = .ok (.iconst 3, 1) := by decide +kernel
theorem d_La_law_498 : decode code 498 = .ok (.iadd, 1) := by decide +kernel
theorem d_La_law_499 : decode code 499 = .ok (.iaload, 1) := by decide +kernel
theorem d_La_law_500 : decode code 500 = .ok (.aload_n 0, 1) := by decide +kernel
theorem d_La_law_501 : decode code 501 = .ok (.iload 4, 2) := by decide +kernel
theorem d_La_law_503 : decode code 503 = .ok (.iconst 4, 1) := by decide +kernel
theorem d_La_law_504 : decode code 504 = .ok (.iadd, 1) := by decide +kernel
theorem d_La_law_505 : decode code 505 = .ok (.iaload, 1) := by decide +kernel
theorem d_La_law_506 : decode code 506 = .ok (.invokevirtual 78, 3) := by decide +kernel
theorem d_La_law_509 : decode code 509 = .ok (.aload_n 2, 1) := by decide +kernel
theorem d_La_law_510 : decode code 510 = .ok (.aload_n 0, 1) := by decide +kernel
theorem d_La_law_511 : decode code 511 = .ok (.iload 4, 2) := by decide +kernel
theorem d_La_law_513 : decode code 513 = .ok (.iconst 1, 1) := by decide +kernel
theorem d_La_law_514 : decode code 514 = .ok (.iadd, 1) := by decide +kernel
theorem d_La_law_515 : decode code 515 = .ok (.iaload, 1) := by decide +kernel
theorem d_La_law_516 : decode code 516 = .ok (.aload_n 0, 1) := by decide +kernel
theorem d_La_law_517 : decode code 517 = .ok (.iload 4, 2) := by decide +kernel
theorem d_La_law_519 : decode code 519 = .ok (.iconst 2, 1) := by decide +kernel
theorem d_La_law_520 : decode code 520 = .ok (.iadd, 1) := by decide +kernel
