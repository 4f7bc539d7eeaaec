/-! the law, decoded, 3 of 8 -/
theorem dl_452 : decode code 452 = .ok (.iadd, 1) := by decide +kernel
theorem dl_453 : decode code 453 = .ok (.iaload, 1) := by decide +kernel
theorem dl_454 : decode code 454 = .ok (.aload_n 0, 1) := by decide +kernel
theorem dl_455 : decode code 455 = .ok (.iload_n 3, 1) := by decide +kernel
theorem dl_456 : decode code 456 = .ok (.iconst 3, 1) := by decide +kernel
theorem dl_457 : decode code 457 = .ok (.iadd, 1) := by decide +kernel
theorem dl_458 : decode code 458 = .ok (.iaload, 1) := by decide +kernel
theorem dl_459 : decode code 459 = .ok (.aload_n 0, 1) := by decide +kernel
theorem dl_460 : decode code 460 = .ok (.iload_n 3, 1) := by decide +kernel
theorem dl_461 : decode code 461 = .ok (.iconst 4, 1) := by decide +kernel
theorem dl_462 : decode code 462 = .ok (.iadd, 1) := by decide +kernel
theorem dl_463 : decode code 463 = .ok (.iaload, 1) := by decide +kernel
theorem dl_464 : decode code 464 = .ok (.invokevirtual 49, 3) := by decide +kernel
theorem dl_467 : decode code 467 = .ok (.if_icmp .eq 923, 3) := by decide +kernel
theorem dl_470 : decode code 470 = .ok (.iconst 0, 1) := by decide +kernel
theorem dl_471 : decode code 471 = .ok (.ireturn, 1) := by decide +kernel
theorem dl_472 : decode code 472 = .ok (.aload_n 1, 1) := by decide +kernel
theorem dl_473 : decode code 473 = .ok (.aload_n 0, 1) := by decide +kernel
theorem dl_474 : decode code 474 = .ok (.iload_n 3, 1) := by decide +kernel
theorem dl_475 : decode code 475 = .ok (.iconst 1, 1) := by decide +kernel
theorem dl_476 : decode code 476 = .ok (.iadd, 1) := by decide +kernel
theorem dl_477 : decode code 477 = .ok (.iaload, 1) := by decide +kernel
theorem dl_478 : decode code 478 = .ok (.invokevirtual 50, 3) := by decide +kernel
theorem dl_481 : decode code 481 = .ok (.aload_n 2, 1) := by decide +kernel
theorem dl_482 : decode code 482 = .ok (.aload_n 0, 1) := by decide +kernel
theorem dl_483 : decode code 483 = .ok (.iload_n 3, 1) := by decide +kernel
theorem dl_484 : decode code 484 = .ok (.iconst 1, 1) := by decide +kernel
theorem dl_485 : decode code 485 = .ok (.iadd, 1) := by decide +kernel
theorem dl_486 : decode code 486 = .ok (.iaload, 1) := by decide +kernel
theorem dl_487 : decode code 487 = .ok (.invokevirtual 54, 3) := by decide +kernel
theorem dl_490 : decode code 490 = .ok (.lcmp, 1) := by decide +kernel
theorem dl_491 : decode code 491 = .ok (.ifCond .eq 899, 3) := by decide +kernel
theorem dl_494 : decode code 494 = .ok (.iconst 0, 1) := by decide +kernel
theorem dl_495 : decode code 495 = .ok (.ireturn, 1) := by decide +kernel
theorem dl_496 : decode code 496 = .ok (.aload_n 1, 1) := by decide +kernel
theorem dl_497 : decode code 497 = .ok (.aload_n 0, 1) := by decide +kernel
theorem dl_498 : decode code 498 = .ok (.iload_n 3, 1) := by decide +kernel
theorem dl_499 : decode code 499 = .ok (.iconst 1, 1) := by decide +kernel
theorem dl_500 : decode code 500 = .ok (.iadd, 1) := by decide +kernel
theorem dl_501 : decode code 501 = .ok (.iaload, 1) := by decide +kernel
theorem dl_502 : decode code 502 = .ok (.aload_n 0, 1) := by decide +kernel
theorem dl_503 : decode code 503 = .ok (.iload_n 3, 1) := by decide +kernel
theorem dl_504 : decode code 504 = .ok (.iconst 2, 1) := by decide +kernel
theorem dl_505 : decode code 505 = .ok (.iadd, 1) := by decide +kernel
theorem dl_506 : decode code 506 = .ok (.iaload, 1) := by decide +kernel
theorem dl_507 : decode code 507 = .ok (.aload_n 0, 1) := by decide +kernel
theorem dl_508 : decode code 508 = .ok (.iload_n 3, 1) := by decide +kernel
theorem dl_509 : decode code 509 = .ok (.iconst 3, 1) := by decide +kernel
theorem dl_510 : decode code 510 = .ok (.iadd, 1) := by decide +kernel
theorem dl_511 : decode code 511 = .ok (.iaload, 1) := by decide +kernel
theorem dl_512 : decode code 512 = .ok (.invokevirtual 55, 3) := by decide +kernel
theorem dl_515 : decode code 515 = .ok (.aload_n 2, 1) := by decide +kernel
theorem dl_516 : decode code 516 = .ok (.aload_n 0, 1) := by decide +kernel
theorem dl_517 : decode code 517 = .ok (.iload_n 3, 1) := by decide +kernel
theorem dl_518 : decode code 518 = .ok (.iconst 1, 1) := by decide +kernel
theorem dl_519 : decode code 519 = .ok (.iadd, 1) := by decide +kernel
theorem dl_520 : decode code 520 = .ok (.iaload, 1) := by decide +kernel
theorem dl_521 : decode code 521 = .ok (.aload_n 0, 1) := by decide +kernel
theorem dl_522 : decode code 522 = .ok (.iload_n 3, 1) := by decide +kernel
theorem dl_523 : decode code 523 = .ok (.iconst 2, 1) := by decide +kernel
theorem dl_524 : decode code 524 = .ok (.iadd, 1) := by decide +kernel
theorem dl_525 : decode code 525 = .ok (.iaload, 1) := by decide +kernel
theorem dl_526 : decode code 526 = .ok (.aload_n 0, 1) := by decide +kernel
theorem dl_527 : decode code 527 = .ok (.iload_n 3, 1) := by decide +kernel
theorem dl_528 : decode code 528 = .ok (.iconst 3, 1) := by decide +kernel
theorem dl_529 : decode code 529 = .ok (.iadd, 1) := by decide +kernel
theorem dl_530 : decode code 530 = .ok (.iaload, 1) := by decide +kernel
theorem dl_531 : decode code 531 = .ok (.invokevirtual 58, 3) := by decide +kernel
theorem dl_534 : decode code 534 = .ok (.if_icmp .eq 856, 3) := by decide +kernel
theorem dl_537 : decode code 537 = .ok (.iconst 0, 1) := by decide +kernel
theorem dl_538 : decode code 538 = .ok (.ireturn, 1) := by decide +kernel
theorem dl_539 : decode code 539 = .ok (.aload_n 1, 1) := by decide +kernel
theorem dl_540 : decode code 540 = .ok (.aload_n 0, 1) := by decide +kernel
theorem dl_541 : decode code 541 = .ok (.iload_n 3, 1) := by decide +kernel
theorem dl_542 : decode code 542 = .ok (.iconst 1, 1) := by decide +kernel
theorem dl_543 : decode code 543 = .ok (.iadd, 1) := by decide +kernel
theorem dl_544 : decode code 544 = .ok (.iaload, 1) := by decide +kernel
theorem dl_545 : decode code 545 = .ok (.aload_n 0, 1) := by decide +kernel
theorem dl_546 : decode code 546 = .ok (.iload_n 3, 1) := by decide +kernel
theorem dl_547 : decode code 547 = .ok (.iconst 2, 1) := by decide +kernel
theorem dl_548 : decode code 548 = .ok (.iadd, 1) := by decide +kernel
theorem dl_549 : decode code 549 = .ok (.iaload, 1) := by decide +kernel
theorem dl_550 : decode code 550 = .ok (.invokevirtual 59, 3) := by decide +kernel
theorem dl_553 : decode code 553 = .ok (.aload_n 2, 1) := by decide +kernel
theorem dl_554 : decode code 554 = .ok (.aload_n 0, 1) := by decide +kernel
theorem dl_555 : decode code 555 = .ok (.iload_n 3, 1) := by decide +kernel
theorem dl_556 : decode code 556 = .ok (.iconst 1, 1) := by decide +kernel
theorem dl_557 : decode code 557 = .ok (.iadd, 1) := by decide +kernel
theorem dl_558 : decode code 558 = .ok (.iaload, 1) := by decide +kernel
theorem dl_559 : decode code 559 = .ok (.aload_n 0, 1) := by decide +kernel
theorem dl_560 : decode code 560 = .ok (.iload_n 3, 1) := by decide +kernel
theorem dl_561 : decode code 561 = .ok (.iconst 2, 1) := by decide +kernel
theorem dl_562 : decode code 562 = .ok (.iadd, 1) := by decide +kernel
theorem dl_563 : decode code 563 = .ok (.iaload, 1) := by decide +kernel
theorem dl_564 : decode code 564 = .ok (.invokevirtual 62, 3) := by decide +kernel
theorem dl_567 : decode code 567 = .ok (.if_icmp .eq 823, 3) := by decide +kernel
theorem dl_570 : decode code 570 = .ok (.iconst 0, 1) := by decide +kernel
theorem dl_571 : decode code 571 = .ok (.ireturn, 1) := by decide +kernel
theorem dl_572 : decode code 572 = .ok (.aload_n 1, 1) := by decide +kernel
theorem dl_573 : decode code 573 = .ok (.aload_n 0, 1) := by decide +kernel
theorem dl_574 : decode code 574 = .ok (.iload_n 3, 1) := by decide +kernel
theorem dl_575 : decode code 575 = .ok (.iconst 1, 1) := by decide +kernel
theorem dl_576 : decode code 576 = .ok (.iadd, 1) := by decide +kernel
theorem dl_577 : decode code 577 = .ok (.iaload, 1) := by decide +kernel
theorem dl_578 : decode code 578 = .ok (.aload_n 0, 1) := by decide +kernel
theorem dl_579 : decode code 579 = .ok (.iload_n 3, 1) := by decide +kernel
theorem dl_580 : decode code 580 = .ok (.iconst 2, 1) := by decide +kernel
theorem dl_581 : decode code 581 = .ok (.iadd, 1) := by decide +kernel
theorem dl_582 : decode code 582 = .ok (.iaload, 1) := by decide +kernel
theorem dl_583 : decode code 583 = .ok (.aload_n 0, 1) := by decide +kernel
theorem dl_584 : decode code 584 = .ok (.iload_n 3, 1) := by decide +kernel
theorem dl_585 : decode code 585 = .ok (.iconst 3, 1) := by decide +kernel
theorem dl_586 : decode code 586 = .ok (.iadd, 1) := by decide +kernel
theorem dl_587 : decode code 587 = .ok (.iaload, 1) := by decide +kernel
theorem dl_588 : decode code 588 = .ok (.aload_n 0, 1) := by decide +kernel
theorem dl_589 : decode code 589 = .ok (.iload_n 3, 1) := by decide +kernel
theorem dl_590 : decode code 590 = .ok (.iconst 4, 1) := by decide +kernel
theorem dl_591 : decode code 591 = .ok (.iadd, 1) := by decide +kernel
theorem dl_592 : decode code 592 = .ok (.iaload, 1) := by decide +kernel
theorem dl_593 : decode code 593 = .ok (.ifCond .eq 7, 3) := by decide +kernel
theorem dl_596 : decode code 596 = .ok (.iconst 1, 1) := by decide +kernel
theorem dl_597 : decode code 597 = .ok (.goto 4, 3) := by decide +kernel
theorem dl_600 : decode code 600 = .ok (.iconst 0, 1) := by decide +kernel
theorem dl_601 : decode code 601 = .ok (.invokevirtual 63, 3) := by decide +kernel
theorem dl_604 : decode code 604 = .ok (.aload_n 2, 1) := by decide +kernel
theorem dl_605 : decode code 605 = .ok (.aload_n 0, 1) := by decide +kernel
theorem dl_606 : decode code 606 = .ok (.iload_n 3, 1) := by decide +kernel
theorem dl_607 : decode code 607 = .ok (.iconst 1, 1) := by decide +kernel
theorem dl_608 : decode code 608 = .ok (.iadd, 1) := by decide +kernel
theorem dl_609 : decode code 609 = .ok (.iaload, 1) := by decide +kernel
theorem dl_610 : decode code 610 = .ok (.aload_n 0, 1) := by decide +kernel
