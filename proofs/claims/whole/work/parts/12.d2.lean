theorem d_Law_law_366 : decode code 366 = .ok (.iload_n 3, 1) := by decide +kernel
theorem d_Law_law_367 : decode code 367 = .ok (.iconst 1, 1) := by decide +kernel
theorem d_Law_law_368 : decode code 368 = .ok (.iadd, 1) := by decide +kernel
theorem d_Law_law_369 : decode code 369 = .ok (.iaload, 1) := by decide +kernel
theorem d_Law_law_370 : decode code 370 = .ok (.invokevirtual 49, 3) := by decide +kernel
theorem d_Law_law_373 : decode code 373 = .ok (.aload_n 2, 1) := by decide +kernel
theorem d_Law_law_374 : decode code 374 = .ok (.aload_n 0, 1) := by decide +kernel
theorem d_Law_law_375 : decode code 375 = .ok (.iload_n 3, 1) := by decide +kernel
theorem d_Law_law_376 : decode code 376 = .ok (.iconst 1, 1) := by decide +kernel
theorem d_Law_law_377 : decode code 377 = .ok (.iadd, 1) := by decide +kernel
theorem d_Law_law_378 : decode code 378 = .ok (.iaload, 1) := by decide +kernel
theorem d_Law_law_379 : decode code 379 = .ok (.invokevirtual 52, 3) := by decide +kernel
theorem d_Law_law_382 : decode code 382 = .ok (.if_icmp .eq (236), 3) := by decide +kernel
theorem d_Law_law_385 : decode code 385 = .ok (.iconst 0, 1) := by decide +kernel
theorem d_Law_law_386 : decode code 386 = .ok (.ireturn, 1) := by decide +kernel
theorem d_Law_law_387 : decode code 387 = .ok (.aload_n 1, 1) := by decide +kernel
theorem d_Law_law_388 : decode code 388 = .ok (.aload_n 0, 1) := by decide +kernel
theorem d_Law_law_389 : decode code 389 = .ok (.iload_n 3, 1) := by decide +kernel
theorem d_Law_law_390 : decode code 390 = .ok (.iconst 1, 1) := by decide +kernel
theorem d_Law_law_391 : decode code 391 = .ok (.iadd, 1) := by decide +kernel
theorem d_Law_law_392 : decode code 392 = .ok (.iaload, 1) := by decide +kernel
theorem d_Law_law_393 : decode code 393 = .ok (.aload_n 0, 1) := by decide +kernel
theorem d_Law_law_394 : decode code 394 = .ok (.iload_n 3, 1) := by decide +kernel
theorem d_Law_law_395 : decode code 395 = .ok (.iconst 2, 1) := by decide +kernel
theorem d_Law_law_396 : decode code 396 = .ok (.iadd, 1) := by decide +kernel
theorem d_Law_law_397 : decode code 397 = .ok (.iaload, 1) := by decide +kernel
theorem d_Law_law_398 : decode code 398 = .ok (.invokevirtual 53, 3) := by decide +kernel
theorem d_Law_law_401 : decode code 401 = .ok (.aload_n 2, 1) := by decide +kernel
theorem d_Law_law_402 : decode code 402 = .ok (.aload_n 0, 1) := by decide +kernel
theorem d_Law_law_403 : decode code 403 = .ok (.iload_n 3, 1) := by decide +kernel
theorem d_Law_law_404 : decode code 404 = .ok (.iconst 1, 1) := by decide +kernel
theorem d_Law_law_405 : decode code 405 = .ok (.iadd, 1) := by decide +kernel
theorem d_Law_law_406 : decode code 406 = .ok (.iaload, 1) := by decide +kernel
theorem d_Law_law_407 : decode code 407 = .ok (.aload_n 0, 1) := by decide +kernel
theorem d_Law_law_408 : decode code 408 = .ok (.iload_n 3, 1) := by decide +kernel
theorem d_Law_law_409 : decode code 409 = .ok (.iconst 2, 1) := by decide +kernel
theorem d_Law_law_410 : decode code 410 = .ok (.iadd, 1) := by decide +kernel
theorem d_Law_law_411 : decode code 411 = .ok (.iaload, 1) := by decide +kernel
theorem d_Law_law_412 : decode code 412 = .ok (.invokevirtual 56, 3) := by decide +kernel
theorem d_Law_law_415 : decode code 415 = .ok (.if_icmp .eq (203), 3) := by decide +kernel
theorem d_Law_law_418 : decode code 418 = .ok (.iconst 0, 1) := by decide +kernel
theorem d_Law_law_419 : decode code 419 = .ok (.ireturn, 1) := by decide +kernel
theorem d_Law_law_420 : decode code 420 = .ok (.aload_n 1, 1) := by decide +kernel
theorem d_Law_law_421 : decode code 421 = .ok (.aload_n 0, 1) := by decide +kernel
theorem d_Law_law_422 : decode code 422 = .ok (.iload_n 3, 1) := by decide +kernel
theorem d_Law_law_423 : decode code 423 = .ok (.iconst 1, 1) := by decide +kernel
theorem d_Law_law_424 : decode code 424 = .ok (.iadd, 1) := by decide +kernel
theorem d_Law_law_425 : decode code 425 = .ok (.iaload, 1) := by decide +kernel
theorem d_Law_law_426 : decode code 426 = .ok (.aload_n 0, 1) := by decide +kernel
theorem d_Law_law_427 : decode code 427 = .ok (.iload_n 3, 1) := by decide +kernel
theorem d_Law_law_428 : decode code 428 = .ok (.iconst 2, 1) := by decide +kernel
theorem d_Law_law_429 : decode code 429 = .ok (.iadd, 1) := by decide +kernel
theorem d_Law_law_430 : decode code 430 = .ok (.iaload, 1) := by decide +kernel
theorem d_Law_law_431 : decode code 431 = .ok (.aload_n 0, 1) := by decide +kernel
theorem d_Law_law_432 : decode code 432 = .ok (.iload_n 3, 1) := by decide +kernel
theorem d_Law_law_433 : decode code 433 = .ok (.iconst 3, 1) := by decide +kernel
theorem d_Law_law_434 : decode code 434 = .ok (.iadd, 1) := by decide +kernel
theorem d_Law_law_435 : decode code 435 = .ok (.iaload, 1) := by decide +kernel
theorem d_Law_law_436 : decode code 436 = .ok (.invokevirtual 57, 3) := by decide +kernel
theorem d_Law_law_439 : decode code 439 = .ok (.aload_n 2, 1) := by decide +kernel
theorem d_Law_law_440 : decode code 440 = .ok (.aload_n 0, 1) := by decide +kernel
theorem d_Law_law_441 : decode code 441 = .ok (.iload_n 3, 1) := by decide +kernel
theorem d_Law_law_442 : decode code 442 = .ok (.iconst 1, 1) := by decide +kernel
theorem d_Law_law_443 : decode code 443 = .ok (.iadd, 1) := by decide +kernel
theorem d_Law_law_444 : decode code 444 = .ok (.iaload, 1) := by decide +kernel
theorem d_Law_law_445 : decode code 445 = .ok (.aload_n 0, 1) := by decide +kernel
theorem d_Law_law_446 : decode code 446 = .ok (.iload_n 3, 1) := by decide +kernel
theorem d_Law_law_447 : decode code 447 = .ok (.iconst 2, 1) := by decide +kernel
theorem d_Law_law_448 : decode code 448 = .ok (.iadd, 1) := by decide +kernel
theorem d_Law_law_449 : decode code 449 = .ok (.iaload, 1) := by decide +kernel
theorem d_Law_law_450 : decode code 450 = .ok (.aload_n 0, 1) := by decide +kernel
theorem d_Law_law_451 : decode code 451 = .ok (.iload_n 3, 1) := by decide +kernel
theorem d_Law_law_452 : decode code 452 = .ok (.iconst 3, 1) := by decide +kernel
theorem d_Law_law_453 : decode code 453 = .ok (.iadd, 1) := by decide +kernel
theorem d_Law_law_454 : decode code 454 = .ok (.iaload, 1) := by decide +kernel
theorem d_Law_law_455 : decode code 455 = .ok (.invokevirtual 61, 3) := by decide +kernel
theorem d_Law_law_458 : decode code 458 = .ok (.if_icmp .eq (160), 3) := by decide +kernel
theorem d_Law_law_461 : decode code 461 = .ok (.iconst 0, 1) := by decide +kernel
theorem d_Law_law_462 : decode code 462 = .ok (.ireturn, 1) := by decide +kernel
theorem d_Law_law_463 : decode code 463 = .ok (.aload_n 1, 1) := by decide +kernel
theorem d_Law_law_464 : decode code 464 = .ok (.aload_n 0, 1) := by decide +kernel
theorem d_Law_law_465 : decode code 465 = .ok (.iload_n 3, 1) := by decide +kernel
theorem d_Law_law_466 : decode code 466 = .ok (.iconst 1, 1) := by decide +kernel
theorem d_Law_law_467 : decode code 467 = .ok (.iadd, 1) := by decide +kernel
theorem d_Law_law_468 : decode code 468 = .ok (.iaload, 1) := by decide +kernel
theorem d_Law_law_469 : decode code 469 = .ok (.aload_n 0, 1) := by decide +kernel
theorem d_Law_law_470 : decode code 470 = .ok (.iload_n 3, 1) := by decide +kernel
theorem d_Law_law_471 : decode code 471 = .ok (.iconst 2, 1) := by decide +kernel
theorem d_Law_law_472 : decode code 472 = .ok (.iadd, 1) := by decide +kernel
theorem d_Law_law_473 : decode code 473 = .ok (.iaload, 1) := by decide +kernel
theorem d_Law_law_474 : decode code 474 = .ok (.aload_n 0, 1) := by decide +kernel
theorem d_Law_law_475 : decode code 475 = .ok (.iload_n 3, 1) := by decide +kernel
theorem d_Law_law_476 : decode code 476 = .ok (.iconst 3, 1) := by decide +kernel
theorem d_Law_law_477 : decode code 477 = .ok (.iadd, 1) := by decide +kernel
theorem d_Law_law_478 : decode code 478 = .ok (.iaload, 1) := by decide +kernel
theorem d_Law_law_479 : decode code 479 = .ok (.invokevirtual 62, 3) := by decide +kernel
theorem d_Law_law_482 : decode code 482 = .ok (.aload_n 2, 1) := by decide +kernel
theorem d_Law_law_483 : decode code 483 = .ok (.aload_n 0, 1) := by decide +kernel
theorem d_Law_law_484 : decode code 484 = .ok (.iload_n 3, 1) := by decide +kernel
theorem d_Law_law_485 : decode code 485 = .ok (.iconst 1, 1) := by decide +kernel
theorem d_Law_law_486 : decode code 486 = .ok (.iadd, 1) := by decide +kernel
theorem d_Law_law_487 : decode code 487 = .ok (.iaload, 1) := by decide +kernel
theorem d_Law_law_488 : decode code 488 = .ok (.aload_n 0, 1) := by decide +kernel
theorem d_Law_law_489 : decode code 489 = .ok (.iload_n 3, 1) := by decide +kernel
theorem d_Law_law_490 : decode code 490 = .ok (.iconst 2, 1) := by decide +kernel
theorem d_Law_law_491 : decode code 491 = .ok (.iadd, 1) := by decide +kernel
theorem d_Law_law_492 : decode code 492 = .ok (.iaload, 1) := by decide +kernel
theorem d_Law_law_493 : decode code 493 = .ok (.aload_n 0, 1) := by decide +kernel
theorem d_Law_law_494 : decode code 494 = .ok (.iload_n 3, 1) := by decide +kernel
theorem d_Law_law_495 : decode code 495 = .ok (.iconst 3, 1) := by decide +kernel
