theorem dL_law_0 : decode code 0 = .ok (.new 7, 3) := by decide +kernel
theorem dL_law_3 : decode code 3 = .ok (.dup, 1) := by decide +kernel
theorem dL_law_4 : decode code 4 = .ok (.invokespecial 9, 3) := by decide +kernel
theorem dL_law_7 : decode code 7 = .ok (.astore_n 1, 1) := by decide +kernel
theorem dL_law_8 : decode code 8 = .ok (.new 10, 3) := by decide +kernel
theorem dL_law_11 : decode code 11 = .ok (.dup, 1) := by decide +kernel
theorem dL_law_12 : decode code 12 = .ok (.invokespecial 12, 3) := by decide +kernel
theorem dL_law_15 : decode code 15 = .ok (.astore_n 2, 1) := by decide +kernel
theorem dL_law_16 : decode code 16 = .ok (.iconst 0, 1) := by decide +kernel
theorem dL_law_17 : decode code 17 = .ok (.istore_n 3, 1) := by decide +kernel
theorem dL_law_18 : decode code 18 = .ok (.iload_n 3, 1) := by decide +kernel
theorem dL_law_19 : decode code 19 = .ok (.aload_n 0, 1) := by decide +kernel
theorem dL_law_20 : decode code 20 = .ok (.arraylength, 1) := by decide +kernel
theorem dL_law_21 : decode code 21 = .ok (.bipush 6, 2) := by decide +kernel
theorem dL_law_23 : decode code 23 = .ok (.isub, 1) := by decide +kernel
theorem dL_law_24 : decode code 24 = .ok (.if_icmp .gt 2636, 3) := by decide +kernel
theorem dL_law_27 : decode code 27 = .ok (.aload_n 0, 1) := by decide +kernel
theorem dL_law_28 : decode code 28 = .ok (.iload_n 3, 1) := by decide +kernel
theorem dL_law_29 : decode code 29 = .ok (.iaload, 1) := by decide +kernel
theorem dL_law_30 : decode code 30 = .ok (.bipush 127, 2) := by decide +kernel
theorem dL_law_32 : decode code 32 = .ok (.iand, 1) := by decide +kernel
theorem dL_law_33 : decode code 33 = .ok (.tableswitch 2621 0 84 #[355, 418, 441, 454, 477, 500, 533, 566, 599, 632, 655, 678, 711, 744, 777, 800, 823, 846, 869, 892, 915, 938, 951, 964, 987, 1010, 1033, 1046, 1059, 1082, 1105, 1138, 1161, 1184, 1197, 1220, 1253, 1276, 1299, 1322, 1355, 1378, 1401, 1424, 1447, 1470, 1493, 1516, 1539, 1552, 1575, 1598, 1621, 1644, 1657, 1670, 1703, 1726, 1739, 1752, 1785, 1818, 1851, 1884, 1907, 1930, 1943, 1966, 1999, 2032, 2095, 2138, 2172, 2215, 2238, 2251, 2264, 2297, 2340, 2373, 2396, 2419, 2442, 2485, 2558], 355) := by decide +kernel
theorem dL_law_388 : decode code 388 = .ok (.aload_n 1, 1) := by decide +kernel
theorem dL_law_389 : decode code 389 = .ok (.aload_n 0, 1) := by decide +kernel
theorem dL_law_390 : decode code 390 = .ok (.iload_n 3, 1) := by decide +kernel
theorem dL_law_391 : decode code 391 = .ok (.iconst 1, 1) := by decide +kernel
theorem dL_law_392 : decode code 392 = .ok (.iadd, 1) := by decide +kernel
theorem dL_law_393 : decode code 393 = .ok (.iaload, 1) := by decide +kernel
theorem dL_law_394 : decode code 394 = .ok (.aload_n 0, 1) := by decide +kernel
theorem dL_law_395 : decode code 395 = .ok (.iload_n 3, 1) := by decide +kernel
theorem dL_law_396 : decode code 396 = .ok (.iconst 2, 1) := by decide +kernel
theorem dL_law_397 : decode code 397 = .ok (.iadd, 1) := by decide +kernel
theorem dL_law_398 : decode code 398 = .ok (.iaload, 1) := by decide +kernel
theorem dL_law_399 : decode code 399 = .ok (.aload_n 0, 1) := by decide +kernel
theorem dL_law_400 : decode code 400 = .ok (.iload_n 3, 1) := by decide +kernel
theorem dL_law_401 : decode code 401 = .ok (.iconst 3, 1) := by decide +kernel
theorem dL_law_402 : decode code 402 = .ok (.iadd, 1) := by decide +kernel
theorem dL_law_403 : decode code 403 = .ok (.iaload, 1) := by decide +kernel
theorem dL_law_404 : decode code 404 = .ok (.aload_n 0, 1) := by decide +kernel
theorem dL_law_405 : decode code 405 = .ok (.iload_n 3, 1) := by decide +kernel
theorem dL_law_406 : decode code 406 = .ok (.iconst 4, 1) := by decide +kernel
theorem dL_law_407 : decode code 407 = .ok (.iadd, 1) := by decide +kernel
theorem dL_law_408 : decode code 408 = .ok (.iaload, 1) := by decide +kernel
theorem dL_law_409 : decode code 409 = .ok (.aload_n 0, 1) := by decide +kernel
theorem dL_law_410 : decode code 410 = .ok (.iload_n 3, 1) := by decide +kernel
theorem dL_law_411 : decode code 411 = .ok (.iconst 5, 1) := by decide +kernel
theorem dL_law_412 : decode code 412 = .ok (.iadd, 1) := by decide +kernel
theorem dL_law_413 : decode code 413 = .ok (.iaload, 1) := by decide +kernel
theorem dL_law_414 : decode code 414 = .ok (.invokevirtual 13, 3) := by decide +kernel
theorem dL_law_417 : decode code 417 = .ok (.aload_n 2, 1) := by decide +kernel
theorem dL_law_418 : decode code 418 = .ok (.aload_n 0, 1) := by decide +kernel
theorem dL_law_419 : decode code 419 = .ok (.iload_n 3, 1) := by decide +kernel
theorem dL_law_420 : decode code 420 = .ok (.iconst 1, 1) := by decide +kernel
theorem dL_law_421 : decode code 421 = .ok (.iadd, 1) := by decide +kernel
theorem dL_law_422 : decode code 422 = .ok (.iaload, 1) := by decide +kernel
theorem dL_law_423 : decode code 423 = .ok (.aload_n 0, 1) := by decide +kernel
theorem dL_law_424 : decode code 424 = .ok (.iload_n 3, 1) := by decide +kernel
theorem dL_law_425 : decode code 425 = .ok (.iconst 2, 1) := by decide +kernel
theorem dL_law_426 : decode code 426 = .ok (.iadd, 1) := by decide +kernel
theorem dL_law_427 : decode code 427 = .ok (.iaload, 1) := by decide +kernel
theorem dL_law_428 : decode code 428 = .ok (.aload_n 0, 1) := by decide +kernel
theorem dL_law_429 : decode code 429 = .ok (.iload_n 3, 1) := by decide +kernel
theorem dL_law_430 : decode code 430 = .ok (.iconst 3, 1) := by decide +kernel
theorem dL_law_431 : decode code 431 = .ok (.iadd, 1) := by decide +kernel
theorem dL_law_432 : decode code 432 = .ok (.iaload, 1) := by decide +kernel
theorem dL_law_433 : decode code 433 = .ok (.aload_n 0, 1) := by decide +kernel
theorem dL_law_434 : decode code 434 = .ok (.iload_n 3, 1) := by decide +kernel
theorem dL_law_435 : decode code 435 = .ok (.iconst 4, 1) := by decide +kernel
theorem dL_law_436 : decode code 436 = .ok (.iadd, 1) := by decide +kernel
theorem dL_law_437 : decode code 437 = .ok (.iaload, 1) := by decide +kernel
theorem dL_law_438 : decode code 438 = .ok (.aload_n 0, 1) := by decide +kernel
theorem dL_law_439 : decode code 439 = .ok (.iload_n 3, 1) := by decide +kernel
theorem dL_law_440 : decode code 440 = .ok (.iconst 5, 1) := by decide +kernel
theorem dL_law_441 : decode code 441 = .ok (.iadd, 1) := by decide +kernel
theorem dL_law_442 : decode code 442 = .ok (.iaload, 1) := by decide +kernel
theorem dL_law_443 : decode code 443 = .ok (.invokevirtual 17, 3) := by decide +kernel
theorem dL_law_446 : decode code 446 = .ok (.if_icmp .eq 2208, 3) := by decide +kernel
theorem dL_law_449 : decode code 449 = .ok (.iconst 0, 1) := by decide +kernel
theorem dL_law_450 : decode code 450 = .ok (.ireturn, 1) := by decide +kernel
theorem dL_law_451 : decode code 451 = .ok (.aload_n 1, 1) := by decide +kernel
theorem dL_law_452 : decode code 452 = .ok (.aload_n 0, 1) := by decide +kernel
theorem dL_law_453 : decode code 453 = .ok (.iload_n 3, 1) := by decide +kernel
theorem dL_law_454 : decode code 454 = .ok (.iconst 1, 1) := by decide +kernel
theorem dL_law_455 : decode code 455 = .ok (.iadd, 1) := by decide +kernel
theorem dL_law_456 : decode code 456 = .ok (.iaload, 1) := by decide +kernel
theorem dL_law_457 : decode code 457 = .ok (.invokevirtual 18, 3) := by decide +kernel
theorem dL_law_460 : decode code 460 = .ok (.aload_n 2, 1) := by decide +kernel
theorem dL_law_461 : decode code 461 = .ok (.aload_n 0, 1) := by decide +kernel
theorem dL_law_462 : decode code 462 = .ok (.iload_n 3, 1) := by decide +kernel
theorem dL_law_463 : decode code 463 = .ok (.iconst 1, 1) := by decide +kernel
theorem dL_law_464 : decode code 464 = .ok (.iadd, 1) := by decide +kernel
theorem dL_law_465 : decode code 465 = .ok (.iaload, 1) := by decide +kernel
theorem dL_law_466 : decode code 466 = .ok (.invokevirtual 22, 3) := by decide +kernel
theorem dL_law_469 : decode code 469 = .ok (.if_icmp .eq 2185, 3) := by decide +kernel
theorem dL_law_472 : decode code 472 = .ok (.iconst 0, 1) := by decide +kernel
theorem dL_law_473 : decode code 473 = .ok (.ireturn, 1) := by decide +kernel
theorem dL_law_474 : decode code 474 = .ok (.aload_n 1, 1) := by decide +kernel
theorem dL_law_475 : decode code 475 = .ok (.invokevirtual 23, 3) := by decide +kernel
theorem dL_law_478 : decode code 478 = .ok (.aload_n 2, 1) := by decide +kernel
theorem dL_law_479 : decode code 479 = .ok (.invokevirtual 27, 3) := by decide +kernel
theorem dL_law_482 : decode code 482 = .ok (.if_icmp .eq 2172, 3) := by decide +kernel
theorem dL_law_485 : decode code 485 = .ok (.iconst 0, 1) := by decide +kernel
theorem dL_law_486 : decode code 486 = .ok (.ireturn, 1) := by decide +kernel
theorem dL_law_487 : decode code 487 = .ok (.aload_n 1, 1) := by decide +kernel
theorem dL_law_488 : decode code 488 = .ok (.aload_n 0, 1) := by decide +kernel
theorem dL_law_489 : decode code 489 = .ok (.iload_n 3, 1) := by decide +kernel
theorem dL_law_490 : decode code 490 = .ok (.iconst 1, 1) := by decide +kernel
theorem dL_law_491 : decode code 491 = .ok (.iadd, 1) := by decide +kernel
theorem dL_law_492 : decode code 492 = .ok (.iaload, 1) := by decide +kernel
theorem dL_law_493 : decode code 493 = .ok (.invokevirtual 28, 3) := by decide +kernel
theorem dL_law_496 : decode code 496 = .ok (.aload_n 2, 1) := by decide +kernel
theorem dL_law_497 : decode code 497 = .ok (.aload_n 0, 1) := by decide +kernel
theorem dL_law_498 : decode code 498 = .ok (.iload_n 3, 1) := by decide +kernel
theorem dL_law_499 : decode code 499 = .ok (.iconst 1, 1) := by decide +kernel
theorem dL_law_500 : decode code 500 = .ok (.iadd, 1) := by decide +kernel
theorem dL_law_501 : decode code 501 = .ok (.iaload, 1) := by decide +kernel
theorem dL_law_502 : decode code 502 = .ok (.invokevirtual 31, 3) := by decide +kernel
theorem dL_law_505 : decode code 505 = .ok (.if_icmp .eq 2149, 3) := by decide +kernel
theorem dL_law_508 : decode code 508 = .ok (.iconst 0, 1) := by decide +kernel
theorem dL_law_509 : decode code 509 = .ok (.ireturn, 1) := by decide +kernel
theorem dL_law_510 : decode code 510 = .ok (.aload_n 1, 1) := by decide +kernel
theorem dL_law_511 : decode code 511 = .ok (.aload_n 0, 1) := by decide +kernel
theorem dL_law_512 : decode code 512 = .ok (.iload_n 3, 1) := by decide +kernel
theorem dL_law_513 : decode code 513 = .ok (.iconst 1, 1) := by decide +kernel
theorem dL_law_514 : decode code 514 = .ok (.iadd, 1) := by decide +kernel
theorem dL_law_515 : decode code 515 = .ok (.iaload, 1) := by decide +kernel
theorem dL_law_516 : decode code 516 = .ok (.invokevirtual 32, 3) := by decide +kernel
theorem dL_law_519 : decode code 519 = .ok (.aload_n 2, 1) := by decide +kernel
theorem dL_law_520 : decode code 520 = .ok (.aload_n 0, 1) := by decide +kernel
theorem dL_law_521 : decode code 521 = .ok (.iload_n 3, 1) := by decide +kernel
theorem dL_law_522 : decode code 522 = .ok (.iconst 1, 1) := by decide +kernel
theorem dL_law_523 : decode code 523 = .ok (.iadd, 1) := by decide +kernel
theorem dL_law_524 : decode code 524 = .ok (.iaload, 1) := by decide +kernel
theorem dL_law_525 : decode code 525 = .ok (.invokevirtual 35, 3) := by decide +kernel
theorem dL_law_528 : decode code 528 = .ok (.if_icmp .eq 2126, 3) := by decide +kernel
theorem dL_law_531 : decode code 531 = .ok (.iconst 0, 1) := by decide +kernel
theorem dL_law_532 : decode code 532 = .ok (.ireturn, 1) := by decide +kernel
theorem dL_law_533 : decode code 533 = .ok (.aload_n 1, 1) := by decide +kernel
theorem dL_law_534 : decode code 534 = .ok (.aload_n 0, 1) := by decide +kernel
theorem dL_law_535 : decode code 535 = .ok (.iload_n 3, 1) := by decide +kernel
theorem dL_law_536 : decode code 536 = .ok (.iconst 1, 1) := by decide +kernel
theorem dL_law_537 : decode code 537 = .ok (.iadd, 1) := by decide +kernel
theorem dL_law_538 : decode code 538 = .ok (.iaload, 1) := by decide +kernel
theorem dL_law_539 : decode code 539 = .ok (.aload_n 0, 1) := by decide +kernel
theorem dL_law_540 : decode code 540 = .ok (.iload_n 3, 1) := by decide +kernel
theorem dL_law_541 : decode code 541 = .ok (.iconst 2, 1) := by decide +kernel
theorem dL_law_542 : decode code 542 = .ok (.iadd, 1) := by decide +kernel
theorem dL_law_543 : decode code 543 = .ok (.iaload, 1) := by decide +kernel
theorem dL_law_544 : decode code 544 = .ok (.invokevirtual 36, 3) := by decide +kernel
theorem dL_law_547 : decode code 547 = .ok (.aload_n 2, 1) := by decide +kernel
theorem dL_law_548 : decode code 548 = .ok (.aload_n 0, 1) := by decide +kernel
theorem dL_law_549 : decode code 549 = .ok (.iload_n 3, 1) := by decide +kernel
theorem dL_law_550 : decode code 550 = .ok (.iconst 1, 1) := by decide +kernel
theorem dL_law_551 : decode code 551 = .ok (.iadd, 1) := by decide +kernel
theorem dL_law_552 : decode code 552 = .ok (.iaload, 1) := by decide +kernel
theorem dL_law_553 : decode code 553 = .ok (.aload_n 0, 1) := by decide +kernel
theorem dL_law_554 : decode code 554 = .ok (.iload_n 3, 1) := by decide +kernel
theorem dL_law_555 : decode code 555 = .ok (.iconst 2, 1) := by decide +kernel
theorem dL_law_556 : decode code 556 = .ok (.iadd, 1) := by decide +kernel
theorem dL_law_557 : decode code 557 = .ok (.iaload, 1) := by decide +kernel
theorem dL_law_558 : decode code 558 = .ok (.invokevirtual 40, 3) := by decide +kernel
theorem dL_law_561 : decode code 561 = .ok (.if_icmp .eq 2093, 3) := by decide +kernel
theorem dL_law_564 : decode code 564 = .ok (.iconst 0, 1) := by decide +kernel
theorem dL_law_565 : decode code 565 = .ok (.ireturn, 1) := by decide +kernel
theorem dL_law_566 : decode code 566 = .ok (.aload_n 1, 1) := by decide +kernel
theorem dL_law_567 : decode code 567 = .ok (.aload_n 0, 1) := by decide +kernel
theorem dL_law_568 : decode code 568 = .ok (.iload_n 3, 1) := by decide +kernel
theorem dL_law_569 : decode code 569 = .ok (.iconst 1, 1) := by decide +kernel
theorem dL_law_570 : decode code 570 = .ok (.iadd, 1) := by decide +kernel
theorem dL_law_571 : decode code 571 = .ok (.iaload, 1) := by decide +kernel
theorem dL_law_572 : decode code 572 = .ok (.aload_n 0, 1) := by decide +kernel
theorem dL_law_573 : decode code 573 = .ok (.iload_n 3, 1) := by decide +kernel
theorem dL_law_574 : decode code 574 = .ok (.iconst 2, 1) := by decide +kernel
theorem dL_law_575 : decode code 575 = .ok (.iadd, 1) := by decide +kernel
theorem dL_law_576 : decode code 576 = .ok (.iaload, 1) := by decide +kernel
theorem dL_law_577 : decode code 577 = .ok (.invokevirtual 41, 3) := by decide +kernel
theorem dL_law_580 : decode code 580 = .ok (.aload_n 2, 1) := by decide +kernel
theorem dL_law_581 : decode code 581 = .ok (.aload_n 0, 1) := by decide +kernel
theorem dL_law_582 : decode code 582 = .ok (.iload_n 3, 1) := by decide +kernel
theorem dL_law_583 : decode code 583 = .ok (.iconst 1, 1) := by decide +kernel
theorem dL_law_584 : decode code 584 = .ok (.iadd, 1) := by decide +kernel
theorem dL_law_585 : decode code 585 = .ok (.iaload, 1) := by decide +kernel
theorem dL_law_586 : decode code 586 = .ok (.aload_n 0, 1) := by decide +kernel
theorem dL_law_587 : decode code 587 = .ok (.iload_n 3, 1) := by decide +kernel
theorem dL_law_588 : decode code 588 = .ok (.iconst 2, 1) := by decide +kernel
theorem dL_law_589 : decode code 589 = .ok (.iadd, 1) := by decide +kernel
theorem dL_law_590 : decode code 590 = .ok (.iaload, 1) := by decide +kernel
theorem dL_law_591 : decode code 591 = .ok (.invokevirtual 44, 3) := by decide +kernel
theorem dL_law_594 : decode code 594 = .ok (.if_icmp .eq 2060, 3) := by decide +kernel
theorem dL_law_597 : decode code 597 = .ok (.iconst 0, 1) := by decide +kernel
theorem dL_law_598 : decode code 598 = .ok (.ireturn, 1) := by decide +kernel
theorem dL_law_599 : decode code 599 = .ok (.aload_n 1, 1) := by decide +kernel
theorem dL_law_600 : decode code 600 = .ok (.aload_n 0, 1) := by decide +kernel
theorem dL_law_601 : decode code 601 = .ok (.iload_n 3, 1) := by decide +kernel
theorem dL_law_602 : decode code 602 = .ok (.iconst 1, 1) := by decide +kernel
theorem dL_law_603 : decode code 603 = .ok (.iadd, 1) := by decide +kernel
theorem dL_law_604 : decode code 604 = .ok (.iaload, 1) := by decide +kernel
theorem dL_law_605 : decode code 605 = .ok (.aload_n 0, 1) := by decide +kernel
theorem dL_law_606 : decode code 606 = .ok (.iload_n 3, 1) := by decide +kernel
theorem dL_law_607 : decode code 607 = .ok (.iconst 2, 1) := by decide +kernel
theorem dL_law_608 : decode code 608 = .ok (.iadd, 1) := by decide +kernel
theorem dL_law_609 : decode code 609 = .ok (.iaload, 1) := by decide +kernel
theorem dL_law_610 : decode code 610 = .ok (.invokevirtual 45, 3) := by decide +kernel
theorem dL_law_613 : decode code 613 = .ok (.aload_n 2, 1) := by decide +kernel
theorem dL_law_614 : decode code 614 = .ok (.aload_n 0, 1) := by decide +kernel
theorem dL_law_615 : decode code 615 = .ok (.iload_n 3, 1) := by decide +kernel
theorem dL_law_616 : decode code 616 = .ok (.iconst 1, 1) := by decide +kernel
theorem dL_law_617 : decode code 617 = .ok (.iadd, 1) := by decide +kernel
theorem dL_law_618 : decode code 618 = .ok (.iaload, 1) := by decide +kernel
theorem dL_law_619 : decode code 619 = .ok (.aload_n 0, 1) := by decide +kernel
theorem dL_law_620 : decode code 620 = .ok (.iload_n 3, 1) := by decide +kernel
theorem dL_law_621 : decode code 621 = .ok (.iconst 2, 1) := by decide +kernel
theorem dL_law_622 : decode code 622 = .ok (.iadd, 1) := by decide +kernel
theorem dL_law_623 : decode code 623 = .ok (.iaload, 1) := by decide +kernel
theorem dL_law_624 : decode code 624 = .ok (.invokevirtual 48, 3) := by decide +kernel
theorem dL_law_627 : decode code 627 = .ok (.if_icmp .eq 2027, 3) := by decide +kernel
theorem dL_law_630 : decode code 630 = .ok (.iconst 0, 1) := by decide +kernel
theorem dL_law_631 : decode code 631 = .ok (.ireturn, 1) := by decide +kernel
theorem dL_law_632 : decode code 632 = .ok (.aload_n 1, 1) := by decide +kernel
theorem dL_law_633 : decode code 633 = .ok (.aload_n 0, 1) := by decide +kernel
theorem dL_law_634 : decode code 634 = .ok (.iload_n 3, 1) := by decide +kernel
theorem dL_law_635 : decode code 635 = .ok (.iconst 1, 1) := by decide +kernel
theorem dL_law_636 : decode code 636 = .ok (.iadd, 1) := by decide +kernel
theorem dL_law_637 : decode code 637 = .ok (.iaload, 1) := by decide +kernel
theorem dL_law_638 : decode code 638 = .ok (.aload_n 0, 1) := by decide +kernel
theorem dL_law_639 : decode code 639 = .ok (.iload_n 3, 1) := by decide +kernel
theorem dL_law_640 : decode code 640 = .ok (.iconst 2, 1) := by decide +kernel
theorem dL_law_641 : decode code 641 = .ok (.iadd, 1) := by decide +kernel
theorem dL_law_642 : decode code 642 = .ok (.iaload, 1) := by decide +kernel
theorem dL_law_643 : decode code 643 = .ok (.invokevirtual 49, 3) := by decide +kernel
theorem dL_law_646 : decode code 646 = .ok (.aload_n 2, 1) := by decide +kernel
theorem dL_law_647 : decode code 647 = .ok (.aload_n 0, 1) := by decide +kernel
theorem dL_law_648 : decode code 648 = .ok (.iload_n 3, 1) := by decide +kernel
theorem dL_law_649 : decode code 649 = .ok (.iconst 1, 1) := by decide +kernel
theorem dL_law_650 : decode code 650 = .ok (.iadd, 1) := by decide +kernel
theorem dL_law_651 : decode code 651 = .ok (.iaload, 1) := by decide +kernel
theorem dL_law_652 : decode code 652 = .ok (.aload_n 0, 1) := by decide +kernel
theorem dL_law_653 : decode code 653 = .ok (.iload_n 3, 1) := by decide +kernel
theorem dL_law_654 : decode code 654 = .ok (.iconst 2, 1) := by decide +kernel
theorem dL_law_655 : decode code 655 = .ok (.iadd, 1) := by decide +kernel
theorem dL_law_656 : decode code 656 = .ok (.iaload, 1) := by decide +kernel
theorem dL_law_657 : decode code 657 = .ok (.invokevirtual 52, 3) := by decide +kernel
theorem dL_law_660 : decode code 660 = .ok (.if_icmp .eq 1994, 3) := by decide +kernel
theorem dL_law_663 : decode code 663 = .ok (.iconst 0, 1) := by decide +kernel
theorem dL_law_664 : decode code 664 = .ok (.ireturn, 1) := by decide +kernel
theorem dL_law_665 : decode code 665 = .ok (.aload_n 1, 1) := by decide +kernel
theorem dL_law_666 : decode code 666 = .ok (.aload_n 0, 1) := by decide +kernel
theorem dL_law_667 : decode code 667 = .ok (.iload_n 3, 1) := by decide +kernel
theorem dL_law_668 : decode code 668 = .ok (.iconst 1, 1) := by decide +kernel
theorem dL_law_669 : decode code 669 = .ok (.iadd, 1) := by decide +kernel
theorem dL_law_670 : decode code 670 = .ok (.iaload, 1) := by decide +kernel
theorem dL_law_671 : decode code 671 = .ok (.invokevirtual 53, 3) := by decide +kernel
theorem dL_law_674 : decode code 674 = .ok (.aload_n 2, 1) := by decide +kernel
theorem dL_law_675 : decode code 675 = .ok (.aload_n 0, 1) := by decide +kernel
theorem dL_law_676 : decode code 676 = .ok (.iload_n 3, 1) := by decide +kernel
theorem dL_law_677 : decode code 677 = .ok (.iconst 1, 1) := by decide +kernel
theorem dL_law_678 : decode code 678 = .ok (.iadd, 1) := by decide +kernel
theorem dL_law_679 : decode code 679 = .ok (.iaload, 1) := by decide +kernel
theorem dL_law_680 : decode code 680 = .ok (.invokevirtual 56, 3) := by decide +kernel
theorem dL_law_683 : decode code 683 = .ok (.if_icmp .eq 1971, 3) := by decide +kernel
theorem dL_law_686 : decode code 686 = .ok (.iconst 0, 1) := by decide +kernel
theorem dL_law_687 : decode code 687 = .ok (.ireturn, 1) := by decide +kernel
theorem dL_law_688 : decode code 688 = .ok (.aload_n 1, 1) := by decide +kernel
theorem dL_law_689 : decode code 689 = .ok (.aload_n 0, 1) := by decide +kernel
theorem dL_law_690 : decode code 690 = .ok (.iload_n 3, 1) := by decide +kernel
theorem dL_law_691 : decode code 691 = .ok (.iconst 1, 1) := by decide +kernel
theorem dL_law_692 : decode code 692 = .ok (.iadd, 1) := by decide +kernel
theorem dL_law_693 : decode code 693 = .ok (.iaload, 1) := by decide +kernel
theorem dL_law_694 : decode code 694 = .ok (.invokevirtual 57, 3) := by decide +kernel
theorem dL_law_697 : decode code 697 = .ok (.aload_n 2, 1) := by decide +kernel
theorem dL_law_698 : decode code 698 = .ok (.aload_n 0, 1) := by decide +kernel
theorem dL_law_699 : decode code 699 = .ok (.iload_n 3, 1) := by decide +kernel
theorem dL_law_700 : decode code 700 = .ok (.iconst 1, 1) := by decide +kernel
theorem dL_law_701 : decode code 701 = .ok (.iadd, 1) := by decide +kernel
theorem dL_law_702 : decode code 702 = .ok (.iaload, 1) := by decide +kernel
theorem dL_law_703 : decode code 703 = .ok (.invokevirtual 60, 3) := by decide +kernel
theorem dL_law_706 : decode code 706 = .ok (.if_icmp .eq 1948, 3) := by decide +kernel
theorem dL_law_709 : decode code 709 = .ok (.iconst 0, 1) := by decide +kernel
theorem dL_law_710 : decode code 710 = .ok (.ireturn, 1) := by decide +kernel
theorem dL_law_711 : decode code 711 = .ok (.aload_n 1, 1) := by decide +kernel
theorem dL_law_712 : decode code 712 = .ok (.aload_n 0, 1) := by decide +kernel
theorem dL_law_713 : decode code 713 = .ok (.iload_n 3, 1) := by decide +kernel
theorem dL_law_714 : decode code 714 = .ok (.iconst 1, 1) := by decide +kernel
theorem dL_law_715 : decode code 715 = .ok (.iadd, 1) := by decide +kernel
theorem dL_law_716 : decode code 716 = .ok (.iaload, 1) := by decide +kernel
theorem dL_law_717 : decode code 717 = .ok (.aload_n 0, 1) := by decide +kernel
theorem dL_law_718 : decode code 718 = .ok (.iload_n 3, 1) := by decide +kernel
theorem dL_law_719 : decode code 719 = .ok (.iconst 2, 1) := by decide +kernel
theorem dL_law_720 : decode code 720 = .ok (.iadd, 1) := by decide +kernel
theorem dL_law_721 : decode code 721 = .ok (.iaload, 1) := by decide +kernel
theorem dL_law_722 : decode code 722 = .ok (.invokevirtual 61, 3) := by decide +kernel
theorem dL_law_725 : decode code 725 = .ok (.aload_n 2, 1) := by decide +kernel
theorem dL_law_726 : decode code 726 = .ok (.aload_n 0, 1) := by decide +kernel
theorem dL_law_727 : decode code 727 = .ok (.iload_n 3, 1) := by decide +kernel
theorem dL_law_728 : decode code 728 = .ok (.iconst 1, 1) := by decide +kernel
theorem dL_law_729 : decode code 729 = .ok (.iadd, 1) := by decide +kernel
theorem dL_law_730 : decode code 730 = .ok (.iaload, 1) := by decide +kernel
theorem dL_law_731 : decode code 731 = .ok (.aload_n 0, 1) := by decide +kernel
theorem dL_law_732 : decode code 732 = .ok (.iload_n 3, 1) := by decide +kernel
theorem dL_law_733 : decode code 733 = .ok (.iconst 2, 1) := by decide +kernel
theorem dL_law_734 : decode code 734 = .ok (.iadd, 1) := by decide +kernel
theorem dL_law_735 : decode code 735 = .ok (.iaload, 1) := by decide +kernel
theorem dL_law_736 : decode code 736 = .ok (.invokevirtual 64, 3) := by decide +kernel
theorem dL_law_739 : decode code 739 = .ok (.if_icmp .eq 1915, 3) := by decide +kernel
theorem dL_law_742 : decode code 742 = .ok (.iconst 0, 1) := by decide +kernel
theorem dL_law_743 : decode code 743 = .ok (.ireturn, 1) := by decide +kernel
theorem dL_law_744 : decode code 744 = .ok (.aload_n 1, 1) := by decide +kernel
theorem dL_law_745 : decode code 745 = .ok (.aload_n 0, 1) := by decide +kernel
theorem dL_law_746 : decode code 746 = .ok (.iload_n 3, 1) := by decide +kernel
theorem dL_law_747 : decode code 747 = .ok (.iconst 1, 1) := by decide +kernel
theorem dL_law_748 : decode code 748 = .ok (.iadd, 1) := by decide +kernel
theorem dL_law_749 : decode code 749 = .ok (.iaload, 1) := by decide +kernel
theorem dL_law_750 : decode code 750 = .ok (.aload_n 0, 1) := by decide +kernel
theorem dL_law_751 : decode code 751 = .ok (.iload_n 3, 1) := by decide +kernel
theorem dL_law_752 : decode code 752 = .ok (.iconst 2, 1) := by decide +kernel
theorem dL_law_753 : decode code 753 = .ok (.iadd, 1) := by decide +kernel
theorem dL_law_754 : decode code 754 = .ok (.iaload, 1) := by decide +kernel
theorem dL_law_755 : decode code 755 = .ok (.invokevirtual 65, 3) := by decide +kernel
theorem dL_law_758 : decode code 758 = .ok (.aload_n 2, 1) := by decide +kernel
theorem dL_law_759 : decode code 759 = .ok (.aload_n 0, 1) := by decide +kernel
theorem dL_law_760 : decode code 760 = .ok (.iload_n 3, 1) := by decide +kernel
theorem dL_law_761 : decode code 761 = .ok (.iconst 1, 1) := by decide +kernel
theorem dL_law_762 : decode code 762 = .ok (.iadd, 1) := by decide +kernel
theorem dL_law_763 : decode code 763 = .ok (.iaload, 1) := by decide +kernel
theorem dL_law_764 : decode code 764 = .ok (.aload_n 0, 1) := by decide +kernel
theorem dL_law_765 : decode code 765 = .ok (.iload_n 3, 1) := by decide +kernel
theorem dL_law_766 : decode code 766 = .ok (.iconst 2, 1) := by decide +kernel
theorem dL_law_767 : decode code 767 = .ok (.iadd, 1) := by decide +kernel
theorem dL_law_768 : decode code 768 = .ok (.iaload, 1) := by decide +kernel
theorem dL_law_769 : decode code 769 = .ok (.invokevirtual 68, 3) := by decide +kernel
theorem dL_law_772 : decode code 772 = .ok (.if_icmp .eq 1882, 3) := by decide +kernel
theorem dL_law_775 : decode code 775 = .ok (.iconst 0, 1) := by decide +kernel
theorem dL_law_776 : decode code 776 = .ok (.ireturn, 1) := by decide +kernel
theorem dL_law_777 : decode code 777 = .ok (.aload_n 1, 1) := by decide +kernel
theorem dL_law_778 : decode code 778 = .ok (.aload_n 0, 1) := by decide +kernel
theorem dL_law_779 : decode code 779 = .ok (.iload_n 3, 1) := by decide +kernel
theorem dL_law_780 : decode code 780 = .ok (.iconst 1, 1) := by decide +kernel
theorem dL_law_781 : decode code 781 = .ok (.iadd, 1) := by decide +kernel
theorem dL_law_782 : decode code 782 = .ok (.iaload, 1) := by decide +kernel
theorem dL_law_783 : decode code 783 = .ok (.aload_n 0, 1) := by decide +kernel
theorem dL_law_784 : decode code 784 = .ok (.iload_n 3, 1) := by decide +kernel
theorem dL_law_785 : decode code 785 = .ok (.iconst 2, 1) := by decide +kernel
theorem dL_law_786 : decode code 786 = .ok (.iadd, 1) := by decide +kernel
theorem dL_law_787 : decode code 787 = .ok (.iaload, 1) := by decide +kernel
theorem dL_law_788 : decode code 788 = .ok (.invokevirtual 69, 3) := by decide +kernel
theorem dL_law_791 : decode code 791 = .ok (.aload_n 2, 1) := by decide +kernel
theorem dL_law_792 : decode code 792 = .ok (.aload_n 0, 1) := by decide +kernel
theorem dL_law_793 : decode code 793 = .ok (.iload_n 3, 1) := by decide +kernel
theorem dL_law_794 : decode code 794 = .ok (.iconst 1, 1) := by decide +kernel
theorem dL_law_795 : decode code 795 = .ok (.iadd, 1) := by decide +kernel
theorem dL_law_796 : decode code 796 = .ok (.iaload, 1) := by decide +kernel
theorem dL_law_797 : decode code 797 = .ok (.aload_n 0, 1) := by decide +kernel
theorem dL_law_798 : decode code 798 = .ok (.iload_n 3, 1) := by decide +kernel
theorem dL_law_799 : decode code 799 = .ok (.iconst 2, 1) := by decide +kernel
theorem dL_law_800 : decode code 800 = .ok (.iadd, 1) := by decide +kernel
theorem dL_law_801 : decode code 801 = .ok (.iaload, 1) := by decide +kernel
theorem dL_law_802 : decode code 802 = .ok (.invokevirtual 72, 3) := by decide +kernel
theorem dL_law_805 : decode code 805 = .ok (.if_icmp .eq 1849, 3) := by decide +kernel
theorem dL_law_808 : decode code 808 = .ok (.iconst 0, 1) := by decide +kernel
theorem dL_law_809 : decode code 809 = .ok (.ireturn, 1) := by decide +kernel
theorem dL_law_810 : decode code 810 = .ok (.aload_n 1, 1) := by decide +kernel
theorem dL_law_811 : decode code 811 = .ok (.aload_n 0, 1) := by decide +kernel
theorem dL_law_812 : decode code 812 = .ok (.iload_n 3, 1) := by decide +kernel
theorem dL_law_813 : decode code 813 = .ok (.iconst 1, 1) := by decide +kernel
theorem dL_law_814 : decode code 814 = .ok (.iadd, 1) := by decide +kernel
theorem dL_law_815 : decode code 815 = .ok (.iaload, 1) := by decide +kernel
theorem dL_law_816 : decode code 816 = .ok (.invokevirtual 73, 3) := by decide +kernel
theorem dL_law_819 : decode code 819 = .ok (.aload_n 2, 1) := by decide +kernel
theorem dL_law_820 : decode code 820 = .ok (.aload_n 0, 1) := by decide +kernel
theorem dL_law_821 : decode code 821 = .ok (.iload_n 3, 1) := by decide +kernel
theorem dL_law_822 : decode code 822 = .ok (.iconst 1, 1) := by decide +kernel
theorem dL_law_823 : decode code 823 = .ok (.iadd, 1) := by decide +kernel
theorem dL_law_824 : decode code 824 = .ok (.iaload, 1) := by decide +kernel
theorem dL_law_825 : decode code 825 = .ok (.invokevirtual 76, 3) := by decide +kernel
theorem dL_law_828 : decode code 828 = .ok (.if_icmp .eq 1826, 3) := by decide +kernel
theorem dL_law_831 : decode code 831 = .ok (.iconst 0, 1) := by decide +kernel
theorem dL_law_832 : decode code 832 = .ok (.ireturn, 1) := by decide +kernel
theorem dL_law_833 : decode code 833 = .ok (.aload_n 1, 1) := by decide +kernel
theorem dL_law_834 : decode code 834 = .ok (.aload_n 0, 1) := by decide +kernel
theorem dL_law_835 : decode code 835 = .ok (.iload_n 3, 1) := by decide +kernel
theorem dL_law_836 : decode code 836 = .ok (.iconst 1, 1) := by decide +kernel
theorem dL_law_837 : decode code 837 = .ok (.iadd, 1) := by decide +kernel
theorem dL_law_838 : decode code 838 = .ok (.iaload, 1) := by decide +kernel
theorem dL_law_839 : decode code 839 = .ok (.invokevirtual 77, 3) := by decide +kernel
theorem dL_law_842 : decode code 842 = .ok (.aload_n 2, 1) := by decide +kernel
theorem dL_law_843 : decode code 843 = .ok (.aload_n 0, 1) := by decide +kernel
theorem dL_law_844 : decode code 844 = .ok (.iload_n 3, 1) := by decide +kernel
theorem dL_law_845 : decode code 845 = .ok (.iconst 1, 1) := by decide +kernel
theorem dL_law_846 : decode code 846 = .ok (.iadd, 1) := by decide +kernel
theorem dL_law_847 : decode code 847 = .ok (.iaload, 1) := by decide +kernel
theorem dL_law_848 : decode code 848 = .ok (.invokevirtual 80, 3) := by decide +kernel
theorem dL_law_851 : decode code 851 = .ok (.if_icmp .eq 1803, 3) := by decide +kernel
theorem dL_law_854 : decode code 854 = .ok (.iconst 0, 1) := by decide +kernel
theorem dL_law_855 : decode code 855 = .ok (.ireturn, 1) := by decide +kernel
theorem dL_law_856 : decode code 856 = .ok (.aload_n 1, 1) := by decide +kernel
theorem dL_law_857 : decode code 857 = .ok (.aload_n 0, 1) := by decide +kernel
theorem dL_law_858 : decode code 858 = .ok (.iload_n 3, 1) := by decide +kernel
theorem dL_law_859 : decode code 859 = .ok (.iconst 1, 1) := by decide +kernel
theorem dL_law_860 : decode code 860 = .ok (.iadd, 1) := by decide +kernel
theorem dL_law_861 : decode code 861 = .ok (.iaload, 1) := by decide +kernel
theorem dL_law_862 : decode code 862 = .ok (.invokevirtual 81, 3) := by decide +kernel
theorem dL_law_865 : decode code 865 = .ok (.aload_n 2, 1) := by decide +kernel
theorem dL_law_866 : decode code 866 = .ok (.aload_n 0, 1) := by decide +kernel
theorem dL_law_867 : decode code 867 = .ok (.iload_n 3, 1) := by decide +kernel
theorem dL_law_868 : decode code 868 = .ok (.iconst 1, 1) := by decide +kernel
theorem dL_law_869 : decode code 869 = .ok (.iadd, 1) := by decide +kernel
theorem dL_law_870 : decode code 870 = .ok (.iaload, 1) := by decide +kernel
theorem dL_law_871 : decode code 871 = .ok (.invokevirtual 84, 3) := by decide +kernel
theorem dL_law_874 : decode code 874 = .ok (.if_icmp .eq 1780, 3) := by decide +kernel
theorem dL_law_877 : decode code 877 = .ok (.iconst 0, 1) := by decide +kernel
theorem dL_law_878 : decode code 878 = .ok (.ireturn, 1) := by decide +kernel
theorem dL_law_879 : decode code 879 = .ok (.aload_n 1, 1) := by decide +kernel
theorem dL_law_880 : decode code 880 = .ok (.aload_n 0, 1) := by decide +kernel
theorem dL_law_881 : decode code 881 = .ok (.iload_n 3, 1) := by decide +kernel
theorem dL_law_882 : decode code 882 = .ok (.iconst 1, 1) := by decide +kernel
theorem dL_law_883 : decode code 883 = .ok (.iadd, 1) := by decide +kernel
theorem dL_law_884 : decode code 884 = .ok (.iaload, 1) := by decide +kernel
theorem dL_law_885 : decode code 885 = .ok (.invokevirtual 85, 3) := by decide +kernel
theorem dL_law_888 : decode code 888 = .ok (.aload_n 2, 1) := by decide +kernel
theorem dL_law_889 : decode code 889 = .ok (.aload_n 0, 1) := by decide +kernel
theorem dL_law_890 : decode code 890 = .ok (.iload_n 3, 1) := by decide +kernel
theorem dL_law_891 : decode code 891 = .ok (.iconst 1, 1) := by decide +kernel
theorem dL_law_892 : decode code 892 = .ok (.iadd, 1) := by decide +kernel
theorem dL_law_893 : decode code 893 = .ok (.iaload, 1) := by decide +kernel
theorem dL_law_894 : decode code 894 = .ok (.invokevirtual 88, 3) := by decide +kernel
theorem dL_law_897 : decode code 897 = .ok (.if_icmp .eq 1757, 3) := by decide +kernel
theorem dL_law_900 : decode code 900 = .ok (.iconst 0, 1) := by decide +kernel
theorem dL_law_901 : decode code 901 = .ok (.ireturn, 1) := by decide +kernel
theorem dL_law_902 : decode code 902 = .ok (.aload_n 1, 1) := by decide +kernel
theorem dL_law_903 : decode code 903 = .ok (.aload_n 0, 1) := by decide +kernel
theorem dL_law_904 : decode code 904 = .ok (.iload_n 3, 1) := by decide +kernel
theorem dL_law_905 : decode code 905 = .ok (.iconst 1, 1) := by decide +kernel
theorem dL_law_906 : decode code 906 = .ok (.iadd, 1) := by decide +kernel
theorem dL_law_907 : decode code 907 = .ok (.iaload, 1) := by decide +kernel
theorem dL_law_908 : decode code 908 = .ok (.invokevirtual 89, 3) := by decide +kernel
theorem dL_law_911 : decode code 911 = .ok (.aload_n 2, 1) := by decide +kernel
theorem dL_law_912 : decode code 912 = .ok (.aload_n 0, 1) := by decide +kernel
theorem dL_law_913 : decode code 913 = .ok (.iload_n 3, 1) := by decide +kernel
theorem dL_law_914 : decode code 914 = .ok (.iconst 1, 1) := by decide +kernel
theorem dL_law_915 : decode code 915 = .ok (.iadd, 1) := by decide +kernel
theorem dL_law_916 : decode code 916 = .ok (.iaload, 1) := by decide +kernel
theorem dL_law_917 : decode code 917 = .ok (.invokevirtual 92, 3) := by decide +kernel
theorem dL_law_920 : decode code 920 = .ok (.if_icmp .eq 1734, 3) := by decide +kernel
theorem dL_law_923 : decode code 923 = .ok (.iconst 0, 1) := by decide +kernel
theorem dL_law_924 : decode code 924 = .ok (.ireturn, 1) := by decide +kernel
theorem dL_law_925 : decode code 925 = .ok (.aload_n 1, 1) := by decide +kernel
theorem dL_law_926 : decode code 926 = .ok (.aload_n 0, 1) := by decide +kernel
theorem dL_law_927 : decode code 927 = .ok (.iload_n 3, 1) := by decide +kernel
theorem dL_law_928 : decode code 928 = .ok (.iconst 1, 1) := by decide +kernel
theorem dL_law_929 : decode code 929 = .ok (.iadd, 1) := by decide +kernel
theorem dL_law_930 : decode code 930 = .ok (.iaload, 1) := by decide +kernel
theorem dL_law_931 : decode code 931 = .ok (.invokevirtual 93, 3) := by decide +kernel
theorem dL_law_934 : decode code 934 = .ok (.aload_n 2, 1) := by decide +kernel
theorem dL_law_935 : decode code 935 = .ok (.aload_n 0, 1) := by decide +kernel
theorem dL_law_936 : decode code 936 = .ok (.iload_n 3, 1) := by decide +kernel
theorem dL_law_937 : decode code 937 = .ok (.iconst 1, 1) := by decide +kernel
theorem dL_law_938 : decode code 938 = .ok (.iadd, 1) := by decide +kernel
theorem dL_law_939 : decode code 939 = .ok (.iaload, 1) := by decide +kernel
theorem dL_law_940 : decode code 940 = .ok (.invokevirtual 96, 3) := by decide +kernel
theorem dL_law_943 : decode code 943 = .ok (.if_icmp .eq 1711, 3) := by decide +kernel
theorem dL_law_946 : decode code 946 = .ok (.iconst 0, 1) := by decide +kernel
theorem dL_law_947 : decode code 947 = .ok (.ireturn, 1) := by decide +kernel
theorem dL_law_948 : decode code 948 = .ok (.aload_n 1, 1) := by decide +kernel
theorem dL_law_949 : decode code 949 = .ok (.aload_n 0, 1) := by decide +kernel
theorem dL_law_950 : decode code 950 = .ok (.iload_n 3, 1) := by decide +kernel
theorem dL_law_951 : decode code 951 = .ok (.iconst 1, 1) := by decide +kernel
theorem dL_law_952 : decode code 952 = .ok (.iadd, 1) := by decide +kernel
theorem dL_law_953 : decode code 953 = .ok (.iaload, 1) := by decide +kernel
theorem dL_law_954 : decode code 954 = .ok (.invokevirtual 97, 3) := by decide +kernel
theorem dL_law_957 : decode code 957 = .ok (.aload_n 2, 1) := by decide +kernel
theorem dL_law_958 : decode code 958 = .ok (.aload_n 0, 1) := by decide +kernel
theorem dL_law_959 : decode code 959 = .ok (.iload_n 3, 1) := by decide +kernel
theorem dL_law_960 : decode code 960 = .ok (.iconst 1, 1) := by decide +kernel
theorem dL_law_961 : decode code 961 = .ok (.iadd, 1) := by decide +kernel
theorem dL_law_962 : decode code 962 = .ok (.iaload, 1) := by decide +kernel
theorem dL_law_963 : decode code 963 = .ok (.invokevirtual 100, 3) := by decide +kernel
theorem dL_law_966 : decode code 966 = .ok (.if_icmp .eq 1688, 3) := by decide +kernel
theorem dL_law_969 : decode code 969 = .ok (.iconst 0, 1) := by decide +kernel
theorem dL_law_970 : decode code 970 = .ok (.ireturn, 1) := by decide +kernel
theorem dL_law_971 : decode code 971 = .ok (.aload_n 1, 1) := by decide +kernel
theorem dL_law_972 : decode code 972 = .ok (.invokevirtual 101, 3) := by decide +kernel
theorem dL_law_975 : decode code 975 = .ok (.aload_n 2, 1) := by decide +kernel
theorem dL_law_976 : decode code 976 = .ok (.invokevirtual 104, 3) := by decide +kernel
theorem dL_law_979 : decode code 979 = .ok (.if_icmp .eq 1675, 3) := by decide +kernel
theorem dL_law_982 : decode code 982 = .ok (.iconst 0, 1) := by decide +kernel
theorem dL_law_983 : decode code 983 = .ok (.ireturn, 1) := by decide +kernel
theorem dL_law_984 : decode code 984 = .ok (.aload_n 1, 1) := by decide +kernel
theorem dL_law_985 : decode code 985 = .ok (.invokevirtual 105, 3) := by decide +kernel
theorem dL_law_988 : decode code 988 = .ok (.aload_n 2, 1) := by decide +kernel
theorem dL_law_989 : decode code 989 = .ok (.invokevirtual 108, 3) := by decide +kernel
theorem dL_law_992 : decode code 992 = .ok (.if_icmp .eq 1662, 3) := by decide +kernel
theorem dL_law_995 : decode code 995 = .ok (.iconst 0, 1) := by decide +kernel
theorem dL_law_996 : decode code 996 = .ok (.ireturn, 1) := by decide +kernel
theorem dL_law_997 : decode code 997 = .ok (.aload_n 1, 1) := by decide +kernel
theorem dL_law_998 : decode code 998 = .ok (.aload_n 0, 1) := by decide +kernel
theorem dL_law_999 : decode code 999 = .ok (.iload_n 3, 1) := by decide +kernel
theorem dL_law_1000 : decode code 1000 = .ok (.iconst 1, 1) := by decide +kernel
theorem dL_law_1001 : decode code 1001 = .ok (.iadd, 1) := by decide +kernel
theorem dL_law_1002 : decode code 1002 = .ok (.iaload, 1) := by decide +kernel
theorem dL_law_1003 : decode code 1003 = .ok (.invokevirtual 109, 3) := by decide +kernel
theorem dL_law_1006 : decode code 1006 = .ok (.aload_n 2, 1) := by decide +kernel
theorem dL_law_1007 : decode code 1007 = .ok (.aload_n 0, 1) := by decide +kernel
theorem dL_law_1008 : decode code 1008 = .ok (.iload_n 3, 1) := by decide +kernel
theorem dL_law_1009 : decode code 1009 = .ok (.iconst 1, 1) := by decide +kernel
theorem dL_law_1010 : decode code 1010 = .ok (.iadd, 1) := by decide +kernel
theorem dL_law_1011 : decode code 1011 = .ok (.iaload, 1) := by decide +kernel
theorem dL_law_1012 : decode code 1012 = .ok (.invokevirtual 112, 3) := by decide +kernel
theorem dL_law_1015 : decode code 1015 = .ok (.if_icmp .eq 1639, 3) := by decide +kernel
theorem dL_law_1018 : decode code 1018 = .ok (.iconst 0, 1) := by decide +kernel
theorem dL_law_1019 : decode code 1019 = .ok (.ireturn, 1) := by decide +kernel
theorem dL_law_1020 : decode code 1020 = .ok (.aload_n 1, 1) := by decide +kernel
theorem dL_law_1021 : decode code 1021 = .ok (.aload_n 0, 1) := by decide +kernel
theorem dL_law_1022 : decode code 1022 = .ok (.iload_n 3, 1) := by decide +kernel
theorem dL_law_1023 : decode code 1023 = .ok (.iconst 1, 1) := by decide +kernel
theorem dL_law_1024 : decode code 1024 = .ok (.iadd, 1) := by decide +kernel
theorem dL_law_1025 : decode code 1025 = .ok (.iaload, 1) := by decide +kernel
theorem dL_law_1026 : decode code 1026 = .ok (.invokevirtual 113, 3) := by decide +kernel
theorem dL_law_1029 : decode code 1029 = .ok (.aload_n 2, 1) := by decide +kernel
theorem dL_law_1030 : decode code 1030 = .ok (.aload_n 0, 1) := by decide +kernel
theorem dL_law_1031 : decode code 1031 = .ok (.iload_n 3, 1) := by decide +kernel
theorem dL_law_1032 : decode code 1032 = .ok (.iconst 1, 1) := by decide +kernel
theorem dL_law_1033 : decode code 1033 = .ok (.iadd, 1) := by decide +kernel
theorem dL_law_1034 : decode code 1034 = .ok (.iaload, 1) := by decide +kernel
theorem dL_law_1035 : decode code 1035 = .ok (.invokevirtual 116, 3) := by decide +kernel
theorem dL_law_1038 : decode code 1038 = .ok (.if_icmp .eq 1616, 3) := by decide +kernel
theorem dL_law_1041 : decode code 1041 = .ok (.iconst 0, 1) := by decide +kernel
theorem dL_law_1042 : decode code 1042 = .ok (.ireturn, 1) := by decide +kernel
theorem dL_law_1043 : decode code 1043 = .ok (.aload_n 1, 1) := by decide +kernel
theorem dL_law_1044 : decode code 1044 = .ok (.aload_n 0, 1) := by decide +kernel
theorem dL_law_1045 : decode code 1045 = .ok (.iload_n 3, 1) := by decide +kernel
theorem dL_law_1046 : decode code 1046 = .ok (.iconst 1, 1) := by decide +kernel
theorem dL_law_1047 : decode code 1047 = .ok (.iadd, 1) := by decide +kernel
theorem dL_law_1048 : decode code 1048 = .ok (.iaload, 1) := by decide +kernel
theorem dL_law_1049 : decode code 1049 = .ok (.invokevirtual 117, 3) := by decide +kernel
theorem dL_law_1052 : decode code 1052 = .ok (.aload_n 2, 1) := by decide +kernel
theorem dL_law_1053 : decode code 1053 = .ok (.aload_n 0, 1) := by decide +kernel
theorem dL_law_1054 : decode code 1054 = .ok (.iload_n 3, 1) := by decide +kernel
theorem dL_law_1055 : decode code 1055 = .ok (.iconst 1, 1) := by decide +kernel
theorem dL_law_1056 : decode code 1056 = .ok (.iadd, 1) := by decide +kernel
theorem dL_law_1057 : decode code 1057 = .ok (.iaload, 1) := by decide +kernel
theorem dL_law_1058 : decode code 1058 = .ok (.invokevirtual 120, 3) := by decide +kernel
theorem dL_law_1061 : decode code 1061 = .ok (.if_icmp .eq 1593, 3) := by decide +kernel
theorem dL_law_1064 : decode code 1064 = .ok (.iconst 0, 1) := by decide +kernel
theorem dL_law_1065 : decode code 1065 = .ok (.ireturn, 1) := by decide +kernel
theorem dL_law_1066 : decode code 1066 = .ok (.aload_n 1, 1) := by decide +kernel
theorem dL_law_1067 : decode code 1067 = .ok (.invokevirtual 121, 3) := by decide +kernel
theorem dL_law_1070 : decode code 1070 = .ok (.aload_n 2, 1) := by decide +kernel
theorem dL_law_1071 : decode code 1071 = .ok (.invokevirtual 124, 3) := by decide +kernel
theorem dL_law_1074 : decode code 1074 = .ok (.if_icmp .eq 1580, 3) := by decide +kernel
theorem dL_law_1077 : decode code 1077 = .ok (.iconst 0, 1) := by decide +kernel
theorem dL_law_1078 : decode code 1078 = .ok (.ireturn, 1) := by decide +kernel
theorem dL_law_1079 : decode code 1079 = .ok (.aload_n 1, 1) := by decide +kernel
theorem dL_law_1080 : decode code 1080 = .ok (.invokevirtual 125, 3) := by decide +kernel
theorem dL_law_1083 : decode code 1083 = .ok (.aload_n 2, 1) := by decide +kernel
theorem dL_law_1084 : decode code 1084 = .ok (.invokevirtual 128, 3) := by decide +kernel
theorem dL_law_1087 : decode code 1087 = .ok (.if_icmp .eq 1567, 3) := by decide +kernel
theorem dL_law_1090 : decode code 1090 = .ok (.iconst 0, 1) := by decide +kernel
theorem dL_law_1091 : decode code 1091 = .ok (.ireturn, 1) := by decide +kernel
theorem dL_law_1092 : decode code 1092 = .ok (.aload_n 1, 1) := by decide +kernel
theorem dL_law_1093 : decode code 1093 = .ok (.aload_n 0, 1) := by decide +kernel
theorem dL_law_1094 : decode code 1094 = .ok (.iload_n 3, 1) := by decide +kernel
theorem dL_law_1095 : decode code 1095 = .ok (.iconst 1, 1) := by decide +kernel
theorem dL_law_1096 : decode code 1096 = .ok (.iadd, 1) := by decide +kernel
theorem dL_law_1097 : decode code 1097 = .ok (.iaload, 1) := by decide +kernel
theorem dL_law_1098 : decode code 1098 = .ok (.invokevirtual 129, 3) := by decide +kernel
theorem dL_law_1101 : decode code 1101 = .ok (.aload_n 2, 1) := by decide +kernel
theorem dL_law_1102 : decode code 1102 = .ok (.aload_n 0, 1) := by decide +kernel
theorem dL_law_1103 : decode code 1103 = .ok (.iload_n 3, 1) := by decide +kernel
theorem dL_law_1104 : decode code 1104 = .ok (.iconst 1, 1) := by decide +kernel
theorem dL_law_1105 : decode code 1105 = .ok (.iadd, 1) := by decide +kernel
theorem dL_law_1106 : decode code 1106 = .ok (.iaload, 1) := by decide +kernel
theorem dL_law_1107 : decode code 1107 = .ok (.invokevirtual 132, 3) := by decide +kernel
theorem dL_law_1110 : decode code 1110 = .ok (.if_icmp .eq 1544, 3) := by decide +kernel
theorem dL_law_1113 : decode code 1113 = .ok (.iconst 0, 1) := by decide +kernel
theorem dL_law_1114 : decode code 1114 = .ok (.ireturn, 1) := by decide +kernel
theorem dL_law_1115 : decode code 1115 = .ok (.aload_n 1, 1) := by decide +kernel
theorem dL_law_1116 : decode code 1116 = .ok (.aload_n 0, 1) := by decide +kernel
theorem dL_law_1117 : decode code 1117 = .ok (.iload_n 3, 1) := by decide +kernel
theorem dL_law_1118 : decode code 1118 = .ok (.iconst 1, 1) := by decide +kernel
theorem dL_law_1119 : decode code 1119 = .ok (.iadd, 1) := by decide +kernel
theorem dL_law_1120 : decode code 1120 = .ok (.iaload, 1) := by decide +kernel
theorem dL_law_1121 : decode code 1121 = .ok (.invokevirtual 133, 3) := by decide +kernel
theorem dL_law_1124 : decode code 1124 = .ok (.aload_n 2, 1) := by decide +kernel
theorem dL_law_1125 : decode code 1125 = .ok (.aload_n 0, 1) := by decide +kernel
theorem dL_law_1126 : decode code 1126 = .ok (.iload_n 3, 1) := by decide +kernel
theorem dL_law_1127 : decode code 1127 = .ok (.iconst 1, 1) := by decide +kernel
theorem dL_law_1128 : decode code 1128 = .ok (.iadd, 1) := by decide +kernel
theorem dL_law_1129 : decode code 1129 = .ok (.iaload, 1) := by decide +kernel
theorem dL_law_1130 : decode code 1130 = .ok (.invokevirtual 136, 3) := by decide +kernel
theorem dL_law_1133 : decode code 1133 = .ok (.if_icmp .eq 1521, 3) := by decide +kernel
theorem dL_law_1136 : decode code 1136 = .ok (.iconst 0, 1) := by decide +kernel
theorem dL_law_1137 : decode code 1137 = .ok (.ireturn, 1) := by decide +kernel
theorem dL_law_1138 : decode code 1138 = .ok (.aload_n 1, 1) := by decide +kernel
theorem dL_law_1139 : decode code 1139 = .ok (.aload_n 0, 1) := by decide +kernel
theorem dL_law_1140 : decode code 1140 = .ok (.iload_n 3, 1) := by decide +kernel
theorem dL_law_1141 : decode code 1141 = .ok (.iconst 1, 1) := by decide +kernel
theorem dL_law_1142 : decode code 1142 = .ok (.iadd, 1) := by decide +kernel
theorem dL_law_1143 : decode code 1143 = .ok (.iaload, 1) := by decide +kernel
theorem dL_law_1144 : decode code 1144 = .ok (.aload_n 0, 1) := by decide +kernel
theorem dL_law_1145 : decode code 1145 = .ok (.iload_n 3, 1) := by decide +kernel
theorem dL_law_1146 : decode code 1146 = .ok (.iconst 2, 1) := by decide +kernel
theorem dL_law_1147 : decode code 1147 = .ok (.iadd, 1) := by decide +kernel
theorem dL_law_1148 : decode code 1148 = .ok (.iaload, 1) := by decide +kernel
theorem dL_law_1149 : decode code 1149 = .ok (.invokevirtual 137, 3) := by decide +kernel
theorem dL_law_1152 : decode code 1152 = .ok (.aload_n 2, 1) := by decide +kernel
theorem dL_law_1153 : decode code 1153 = .ok (.aload_n 0, 1) := by decide +kernel
theorem dL_law_1154 : decode code 1154 = .ok (.iload_n 3, 1) := by decide +kernel
theorem dL_law_1155 : decode code 1155 = .ok (.iconst 1, 1) := by decide +kernel
theorem dL_law_1156 : decode code 1156 = .ok (.iadd, 1) := by decide +kernel
theorem dL_law_1157 : decode code 1157 = .ok (.iaload, 1) := by decide +kernel
theorem dL_law_1158 : decode code 1158 = .ok (.aload_n 0, 1) := by decide +kernel
theorem dL_law_1159 : decode code 1159 = .ok (.iload_n 3, 1) := by decide +kernel
theorem dL_law_1160 : decode code 1160 = .ok (.iconst 2, 1) := by decide +kernel
theorem dL_law_1161 : decode code 1161 = .ok (.iadd, 1) := by decide +kernel
theorem dL_law_1162 : decode code 1162 = .ok (.iaload, 1) := by decide +kernel
theorem dL_law_1163 : decode code 1163 = .ok (.invokevirtual 140, 3) := by decide +kernel
theorem dL_law_1166 : decode code 1166 = .ok (.if_icmp .eq 1488, 3) := by decide +kernel
theorem dL_law_1169 : decode code 1169 = .ok (.iconst 0, 1) := by decide +kernel
theorem dL_law_1170 : decode code 1170 = .ok (.ireturn, 1) := by decide +kernel
theorem dL_law_1171 : decode code 1171 = .ok (.aload_n 1, 1) := by decide +kernel
theorem dL_law_1172 : decode code 1172 = .ok (.aload_n 0, 1) := by decide +kernel
theorem dL_law_1173 : decode code 1173 = .ok (.iload_n 3, 1) := by decide +kernel
theorem dL_law_1174 : decode code 1174 = .ok (.iconst 1, 1) := by decide +kernel
theorem dL_law_1175 : decode code 1175 = .ok (.iadd, 1) := by decide +kernel
theorem dL_law_1176 : decode code 1176 = .ok (.iaload, 1) := by decide +kernel
theorem dL_law_1177 : decode code 1177 = .ok (.invokevirtual 141, 3) := by decide +kernel
theorem dL_law_1180 : decode code 1180 = .ok (.aload_n 2, 1) := by decide +kernel
theorem dL_law_1181 : decode code 1181 = .ok (.aload_n 0, 1) := by decide +kernel
theorem dL_law_1182 : decode code 1182 = .ok (.iload_n 3, 1) := by decide +kernel
theorem dL_law_1183 : decode code 1183 = .ok (.iconst 1, 1) := by decide +kernel
theorem dL_law_1184 : decode code 1184 = .ok (.iadd, 1) := by decide +kernel
theorem dL_law_1185 : decode code 1185 = .ok (.iaload, 1) := by decide +kernel
theorem dL_law_1186 : decode code 1186 = .ok (.invokevirtual 144, 3) := by decide +kernel
theorem dL_law_1189 : decode code 1189 = .ok (.if_icmp .eq 1465, 3) := by decide +kernel
theorem dL_law_1192 : decode code 1192 = .ok (.iconst 0, 1) := by decide +kernel
theorem dL_law_1193 : decode code 1193 = .ok (.ireturn, 1) := by decide +kernel
theorem dL_law_1194 : decode code 1194 = .ok (.aload_n 1, 1) := by decide +kernel
theorem dL_law_1195 : decode code 1195 = .ok (.aload_n 0, 1) := by decide +kernel
theorem dL_law_1196 : decode code 1196 = .ok (.iload_n 3, 1) := by decide +kernel
theorem dL_law_1197 : decode code 1197 = .ok (.iconst 1, 1) := by decide +kernel
theorem dL_law_1198 : decode code 1198 = .ok (.iadd, 1) := by decide +kernel
theorem dL_law_1199 : decode code 1199 = .ok (.iaload, 1) := by decide +kernel
theorem dL_law_1200 : decode code 1200 = .ok (.invokevirtual 145, 3) := by decide +kernel
theorem dL_law_1203 : decode code 1203 = .ok (.aload_n 2, 1) := by decide +kernel
theorem dL_law_1204 : decode code 1204 = .ok (.aload_n 0, 1) := by decide +kernel
theorem dL_law_1205 : decode code 1205 = .ok (.iload_n 3, 1) := by decide +kernel
theorem dL_law_1206 : decode code 1206 = .ok (.iconst 1, 1) := by decide +kernel
theorem dL_law_1207 : decode code 1207 = .ok (.iadd, 1) := by decide +kernel
theorem dL_law_1208 : decode code 1208 = .ok (.iaload, 1) := by decide +kernel
theorem dL_law_1209 : decode code 1209 = .ok (.invokevirtual 148, 3) := by decide +kernel
theorem dL_law_1212 : decode code 1212 = .ok (.if_icmp .eq 1442, 3) := by decide +kernel
theorem dL_law_1215 : decode code 1215 = .ok (.iconst 0, 1) := by decide +kernel
theorem dL_law_1216 : decode code 1216 = .ok (.ireturn, 1) := by decide +kernel
theorem dL_law_1217 : decode code 1217 = .ok (.aload_n 1, 1) := by decide +kernel
theorem dL_law_1218 : decode code 1218 = .ok (.invokevirtual 149, 3) := by decide +kernel
theorem dL_law_1221 : decode code 1221 = .ok (.aload_n 2, 1) := by decide +kernel
theorem dL_law_1222 : decode code 1222 = .ok (.invokevirtual 152, 3) := by decide +kernel
theorem dL_law_1225 : decode code 1225 = .ok (.if_icmp .eq 1429, 3) := by decide +kernel
theorem dL_law_1228 : decode code 1228 = .ok (.iconst 0, 1) := by decide +kernel
theorem dL_law_1229 : decode code 1229 = .ok (.ireturn, 1) := by decide +kernel
theorem dL_law_1230 : decode code 1230 = .ok (.aload_n 1, 1) := by decide +kernel
theorem dL_law_1231 : decode code 1231 = .ok (.aload_n 0, 1) := by decide +kernel
theorem dL_law_1232 : decode code 1232 = .ok (.iload_n 3, 1) := by decide +kernel
theorem dL_law_1233 : decode code 1233 = .ok (.iconst 1, 1) := by decide +kernel
theorem dL_law_1234 : decode code 1234 = .ok (.iadd, 1) := by decide +kernel
theorem dL_law_1235 : decode code 1235 = .ok (.iaload, 1) := by decide +kernel
theorem dL_law_1236 : decode code 1236 = .ok (.invokevirtual 153, 3) := by decide +kernel
theorem dL_law_1239 : decode code 1239 = .ok (.aload_n 2, 1) := by decide +kernel
theorem dL_law_1240 : decode code 1240 = .ok (.aload_n 0, 1) := by decide +kernel
theorem dL_law_1241 : decode code 1241 = .ok (.iload_n 3, 1) := by decide +kernel
theorem dL_law_1242 : decode code 1242 = .ok (.iconst 1, 1) := by decide +kernel
theorem dL_law_1243 : decode code 1243 = .ok (.iadd, 1) := by decide +kernel
theorem dL_law_1244 : decode code 1244 = .ok (.iaload, 1) := by decide +kernel
theorem dL_law_1245 : decode code 1245 = .ok (.invokevirtual 156, 3) := by decide +kernel
theorem dL_law_1248 : decode code 1248 = .ok (.if_icmp .eq 1406, 3) := by decide +kernel
theorem dL_law_1251 : decode code 1251 = .ok (.iconst 0, 1) := by decide +kernel
theorem dL_law_1252 : decode code 1252 = .ok (.ireturn, 1) := by decide +kernel
theorem dL_law_1253 : decode code 1253 = .ok (.aload_n 1, 1) := by decide +kernel
theorem dL_law_1254 : decode code 1254 = .ok (.aload_n 0, 1) := by decide +kernel
theorem dL_law_1255 : decode code 1255 = .ok (.iload_n 3, 1) := by decide +kernel
theorem dL_law_1256 : decode code 1256 = .ok (.iconst 1, 1) := by decide +kernel
theorem dL_law_1257 : decode code 1257 = .ok (.iadd, 1) := by decide +kernel
theorem dL_law_1258 : decode code 1258 = .ok (.iaload, 1) := by decide +kernel
theorem dL_law_1259 : decode code 1259 = .ok (.aload_n 0, 1) := by decide +kernel
theorem dL_law_1260 : decode code 1260 = .ok (.iload_n 3, 1) := by decide +kernel
theorem dL_law_1261 : decode code 1261 = .ok (.iconst 2, 1) := by decide +kernel
theorem dL_law_1262 : decode code 1262 = .ok (.iadd, 1) := by decide +kernel
theorem dL_law_1263 : decode code 1263 = .ok (.iaload, 1) := by decide +kernel
theorem dL_law_1264 : decode code 1264 = .ok (.invokevirtual 157, 3) := by decide +kernel
theorem dL_law_1267 : decode code 1267 = .ok (.aload_n 2, 1) := by decide +kernel
theorem dL_law_1268 : decode code 1268 = .ok (.aload_n 0, 1) := by decide +kernel
theorem dL_law_1269 : decode code 1269 = .ok (.iload_n 3, 1) := by decide +kernel
theorem dL_law_1270 : decode code 1270 = .ok (.iconst 1, 1) := by decide +kernel
theorem dL_law_1271 : decode code 1271 = .ok (.iadd, 1) := by decide +kernel
theorem dL_law_1272 : decode code 1272 = .ok (.iaload, 1) := by decide +kernel
theorem dL_law_1273 : decode code 1273 = .ok (.aload_n 0, 1) := by decide +kernel
theorem dL_law_1274 : decode code 1274 = .ok (.iload_n 3, 1) := by decide +kernel
theorem dL_law_1275 : decode code 1275 = .ok (.iconst 2, 1) := by decide +kernel
theorem dL_law_1276 : decode code 1276 = .ok (.iadd, 1) := by decide +kernel
theorem dL_law_1277 : decode code 1277 = .ok (.iaload, 1) := by decide +kernel
theorem dL_law_1278 : decode code 1278 = .ok (.invokevirtual 160, 3) := by decide +kernel
theorem dL_law_1281 : decode code 1281 = .ok (.if_icmp .eq 1373, 3) := by decide +kernel
theorem dL_law_1284 : decode code 1284 = .ok (.iconst 0, 1) := by decide +kernel
theorem dL_law_1285 : decode code 1285 = .ok (.ireturn, 1) := by decide +kernel
theorem dL_law_1286 : decode code 1286 = .ok (.aload_n 1, 1) := by decide +kernel
theorem dL_law_1287 : decode code 1287 = .ok (.aload_n 0, 1) := by decide +kernel
theorem dL_law_1288 : decode code 1288 = .ok (.iload_n 3, 1) := by decide +kernel
theorem dL_law_1289 : decode code 1289 = .ok (.iconst 1, 1) := by decide +kernel
theorem dL_law_1290 : decode code 1290 = .ok (.iadd, 1) := by decide +kernel
theorem dL_law_1291 : decode code 1291 = .ok (.iaload, 1) := by decide +kernel
theorem dL_law_1292 : decode code 1292 = .ok (.invokevirtual 161, 3) := by decide +kernel
theorem dL_law_1295 : decode code 1295 = .ok (.aload_n 2, 1) := by decide +kernel
theorem dL_law_1296 : decode code 1296 = .ok (.aload_n 0, 1) := by decide +kernel
theorem dL_law_1297 : decode code 1297 = .ok (.iload_n 3, 1) := by decide +kernel
theorem dL_law_1298 : decode code 1298 = .ok (.iconst 1, 1) := by decide +kernel
theorem dL_law_1299 : decode code 1299 = .ok (.iadd, 1) := by decide +kernel
theorem dL_law_1300 : decode code 1300 = .ok (.iaload, 1) := by decide +kernel
theorem dL_law_1301 : decode code 1301 = .ok (.invokevirtual 164, 3) := by decide +kernel
theorem dL_law_1304 : decode code 1304 = .ok (.if_icmp .eq 1350, 3) := by decide +kernel
theorem dL_law_1307 : decode code 1307 = .ok (.iconst 0, 1) := by decide +kernel
theorem dL_law_1308 : decode code 1308 = .ok (.ireturn, 1) := by decide +kernel
theorem dL_law_1309 : decode code 1309 = .ok (.aload_n 1, 1) := by decide +kernel
theorem dL_law_1310 : decode code 1310 = .ok (.aload_n 0, 1) := by decide +kernel
theorem dL_law_1311 : decode code 1311 = .ok (.iload_n 3, 1) := by decide +kernel
theorem dL_law_1312 : decode code 1312 = .ok (.iconst 1, 1) := by decide +kernel
theorem dL_law_1313 : decode code 1313 = .ok (.iadd, 1) := by decide +kernel
theorem dL_law_1314 : decode code 1314 = .ok (.iaload, 1) := by decide +kernel
theorem dL_law_1315 : decode code 1315 = .ok (.invokevirtual 165, 3) := by decide +kernel
theorem dL_law_1318 : decode code 1318 = .ok (.aload_n 2, 1) := by decide +kernel
theorem dL_law_1319 : decode code 1319 = .ok (.aload_n 0, 1) := by decide +kernel
theorem dL_law_1320 : decode code 1320 = .ok (.iload_n 3, 1) := by decide +kernel
theorem dL_law_1321 : decode code 1321 = .ok (.iconst 1, 1) := by decide +kernel
theorem dL_law_1322 : decode code 1322 = .ok (.iadd, 1) := by decide +kernel
theorem dL_law_1323 : decode code 1323 = .ok (.iaload, 1) := by decide +kernel
theorem dL_law_1324 : decode code 1324 = .ok (.invokevirtual 168, 3) := by decide +kernel
theorem dL_law_1327 : decode code 1327 = .ok (.if_icmp .eq 1327, 3) := by decide +kernel
theorem dL_law_1330 : decode code 1330 = .ok (.iconst 0, 1) := by decide +kernel
theorem dL_law_1331 : decode code 1331 = .ok (.ireturn, 1) := by decide +kernel
theorem dL_law_1332 : decode code 1332 = .ok (.aload_n 1, 1) := by decide +kernel
theorem dL_law_1333 : decode code 1333 = .ok (.aload_n 0, 1) := by decide +kernel
theorem dL_law_1334 : decode code 1334 = .ok (.iload_n 3, 1) := by decide +kernel
theorem dL_law_1335 : decode code 1335 = .ok (.iconst 1, 1) := by decide +kernel
theorem dL_law_1336 : decode code 1336 = .ok (.iadd, 1) := by decide +kernel
theorem dL_law_1337 : decode code 1337 = .ok (.iaload, 1) := by decide +kernel
theorem dL_law_1338 : decode code 1338 = .ok (.invokevirtual 169, 3) := by decide +kernel
theorem dL_law_1341 : decode code 1341 = .ok (.aload_n 2, 1) := by decide +kernel
theorem dL_law_1342 : decode code 1342 = .ok (.aload_n 0, 1) := by decide +kernel
theorem dL_law_1343 : decode code 1343 = .ok (.iload_n 3, 1) := by decide +kernel
theorem dL_law_1344 : decode code 1344 = .ok (.iconst 1, 1) := by decide +kernel
theorem dL_law_1345 : decode code 1345 = .ok (.iadd, 1) := by decide +kernel
theorem dL_law_1346 : decode code 1346 = .ok (.iaload, 1) := by decide +kernel
theorem dL_law_1347 : decode code 1347 = .ok (.invokevirtual 172, 3) := by decide +kernel
theorem dL_law_1350 : decode code 1350 = .ok (.if_icmp .eq 1304, 3) := by decide +kernel
theorem dL_law_1353 : decode code 1353 = .ok (.iconst 0, 1) := by decide +kernel
theorem dL_law_1354 : decode code 1354 = .ok (.ireturn, 1) := by decide +kernel
theorem dL_law_1355 : decode code 1355 = .ok (.aload_n 1, 1) := by decide +kernel
theorem dL_law_1356 : decode code 1356 = .ok (.aload_n 0, 1) := by decide +kernel
theorem dL_law_1357 : decode code 1357 = .ok (.iload_n 3, 1) := by decide +kernel
theorem dL_law_1358 : decode code 1358 = .ok (.iconst 1, 1) := by decide +kernel
theorem dL_law_1359 : decode code 1359 = .ok (.iadd, 1) := by decide +kernel
theorem dL_law_1360 : decode code 1360 = .ok (.iaload, 1) := by decide +kernel
theorem dL_law_1361 : decode code 1361 = .ok (.aload_n 0, 1) := by decide +kernel
theorem dL_law_1362 : decode code 1362 = .ok (.iload_n 3, 1) := by decide +kernel
theorem dL_law_1363 : decode code 1363 = .ok (.iconst 2, 1) := by decide +kernel
theorem dL_law_1364 : decode code 1364 = .ok (.iadd, 1) := by decide +kernel
theorem dL_law_1365 : decode code 1365 = .ok (.iaload, 1) := by decide +kernel
theorem dL_law_1366 : decode code 1366 = .ok (.invokevirtual 173, 3) := by decide +kernel
theorem dL_law_1369 : decode code 1369 = .ok (.aload_n 2, 1) := by decide +kernel
theorem dL_law_1370 : decode code 1370 = .ok (.aload_n 0, 1) := by decide +kernel
theorem dL_law_1371 : decode code 1371 = .ok (.iload_n 3, 1) := by decide +kernel
theorem dL_law_1372 : decode code 1372 = .ok (.iconst 1, 1) := by decide +kernel
theorem dL_law_1373 : decode code 1373 = .ok (.iadd, 1) := by decide +kernel
theorem dL_law_1374 : decode code 1374 = .ok (.iaload, 1) := by decide +kernel
theorem dL_law_1375 : decode code 1375 = .ok (.aload_n 0, 1) := by decide +kernel
theorem dL_law_1376 : decode code 1376 = .ok (.iload_n 3, 1) := by decide +kernel
theorem dL_law_1377 : decode code 1377 = .ok (.iconst 2, 1) := by decide +kernel
theorem dL_law_1378 : decode code 1378 = .ok (.iadd, 1) := by decide +kernel
theorem dL_law_1379 : decode code 1379 = .ok (.iaload, 1) := by decide +kernel
theorem dL_law_1380 : decode code 1380 = .ok (.invokevirtual 176, 3) := by decide +kernel
theorem dL_law_1383 : decode code 1383 = .ok (.if_icmp .eq 1271, 3) := by decide +kernel
theorem dL_law_1386 : decode code 1386 = .ok (.iconst 0, 1) := by decide +kernel
theorem dL_law_1387 : decode code 1387 = .ok (.ireturn, 1) := by decide +kernel
theorem dL_law_1388 : decode code 1388 = .ok (.aload_n 1, 1) := by decide +kernel
theorem dL_law_1389 : decode code 1389 = .ok (.aload_n 0, 1) := by decide +kernel
theorem dL_law_1390 : decode code 1390 = .ok (.iload_n 3, 1) := by decide +kernel
theorem dL_law_1391 : decode code 1391 = .ok (.iconst 1, 1) := by decide +kernel
theorem dL_law_1392 : decode code 1392 = .ok (.iadd, 1) := by decide +kernel
theorem dL_law_1393 : decode code 1393 = .ok (.iaload, 1) := by decide +kernel
theorem dL_law_1394 : decode code 1394 = .ok (.invokevirtual 177, 3) := by decide +kernel
theorem dL_law_1397 : decode code 1397 = .ok (.aload_n 2, 1) := by decide +kernel
theorem dL_law_1398 : decode code 1398 = .ok (.aload_n 0, 1) := by decide +kernel
theorem dL_law_1399 : decode code 1399 = .ok (.iload_n 3, 1) := by decide +kernel
theorem dL_law_1400 : decode code 1400 = .ok (.iconst 1, 1) := by decide +kernel
theorem dL_law_1401 : decode code 1401 = .ok (.iadd, 1) := by decide +kernel
theorem dL_law_1402 : decode code 1402 = .ok (.iaload, 1) := by decide +kernel
theorem dL_law_1403 : decode code 1403 = .ok (.invokevirtual 180, 3) := by decide +kernel
theorem dL_law_1406 : decode code 1406 = .ok (.if_icmp .eq 1248, 3) := by decide +kernel
theorem dL_law_1409 : decode code 1409 = .ok (.iconst 0, 1) := by decide +kernel
theorem dL_law_1410 : decode code 1410 = .ok (.ireturn, 1) := by decide +kernel
theorem dL_law_1411 : decode code 1411 = .ok (.aload_n 1, 1) := by decide +kernel
theorem dL_law_1412 : decode code 1412 = .ok (.aload_n 0, 1) := by decide +kernel
theorem dL_law_1413 : decode code 1413 = .ok (.iload_n 3, 1) := by decide +kernel
theorem dL_law_1414 : decode code 1414 = .ok (.iconst 1, 1) := by decide +kernel
theorem dL_law_1415 : decode code 1415 = .ok (.iadd, 1) := by decide +kernel
theorem dL_law_1416 : decode code 1416 = .ok (.iaload, 1) := by decide +kernel
theorem dL_law_1417 : decode code 1417 = .ok (.invokevirtual 181, 3) := by decide +kernel
theorem dL_law_1420 : decode code 1420 = .ok (.aload_n 2, 1) := by decide +kernel
theorem dL_law_1421 : decode code 1421 = .ok (.aload_n 0, 1) := by decide +kernel
theorem dL_law_1422 : decode code 1422 = .ok (.iload_n 3, 1) := by decide +kernel
theorem dL_law_1423 : decode code 1423 = .ok (.iconst 1, 1) := by decide +kernel
theorem dL_law_1424 : decode code 1424 = .ok (.iadd, 1) := by decide +kernel
theorem dL_law_1425 : decode code 1425 = .ok (.iaload, 1) := by decide +kernel
theorem dL_law_1426 : decode code 1426 = .ok (.invokevirtual 184, 3) := by decide +kernel
theorem dL_law_1429 : decode code 1429 = .ok (.if_icmp .eq 1225, 3) := by decide +kernel
theorem dL_law_1432 : decode code 1432 = .ok (.iconst 0, 1) := by decide +kernel
theorem dL_law_1433 : decode code 1433 = .ok (.ireturn, 1) := by decide +kernel
theorem dL_law_1434 : decode code 1434 = .ok (.aload_n 1, 1) := by decide +kernel
theorem dL_law_1435 : decode code 1435 = .ok (.aload_n 0, 1) := by decide +kernel
theorem dL_law_1436 : decode code 1436 = .ok (.iload_n 3, 1) := by decide +kernel
theorem dL_law_1437 : decode code 1437 = .ok (.iconst 1, 1) := by decide +kernel
theorem dL_law_1438 : decode code 1438 = .ok (.iadd, 1) := by decide +kernel
theorem dL_law_1439 : decode code 1439 = .ok (.iaload, 1) := by decide +kernel
theorem dL_law_1440 : decode code 1440 = .ok (.invokevirtual 185, 3) := by decide +kernel
theorem dL_law_1443 : decode code 1443 = .ok (.aload_n 2, 1) := by decide +kernel
theorem dL_law_1444 : decode code 1444 = .ok (.aload_n 0, 1) := by decide +kernel
theorem dL_law_1445 : decode code 1445 = .ok (.iload_n 3, 1) := by decide +kernel
theorem dL_law_1446 : decode code 1446 = .ok (.iconst 1, 1) := by decide +kernel
theorem dL_law_1447 : decode code 1447 = .ok (.iadd, 1) := by decide +kernel
theorem dL_law_1448 : decode code 1448 = .ok (.iaload, 1) := by decide +kernel
theorem dL_law_1449 : decode code 1449 = .ok (.invokevirtual 188, 3) := by decide +kernel
theorem dL_law_1452 : decode code 1452 = .ok (.if_icmp .eq 1202, 3) := by decide +kernel
theorem dL_law_1455 : decode code 1455 = .ok (.iconst 0, 1) := by decide +kernel
theorem dL_law_1456 : decode code 1456 = .ok (.ireturn, 1) := by decide +kernel
theorem dL_law_1457 : decode code 1457 = .ok (.aload_n 1, 1) := by decide +kernel
theorem dL_law_1458 : decode code 1458 = .ok (.aload_n 0, 1) := by decide +kernel
theorem dL_law_1459 : decode code 1459 = .ok (.iload_n 3, 1) := by decide +kernel
theorem dL_law_1460 : decode code 1460 = .ok (.iconst 1, 1) := by decide +kernel
theorem dL_law_1461 : decode code 1461 = .ok (.iadd, 1) := by decide +kernel
theorem dL_law_1462 : decode code 1462 = .ok (.iaload, 1) := by decide +kernel
theorem dL_law_1463 : decode code 1463 = .ok (.invokevirtual 189, 3) := by decide +kernel
theorem dL_law_1466 : decode code 1466 = .ok (.aload_n 2, 1) := by decide +kernel
theorem dL_law_1467 : decode code 1467 = .ok (.aload_n 0, 1) := by decide +kernel
theorem dL_law_1468 : decode code 1468 = .ok (.iload_n 3, 1) := by decide +kernel
theorem dL_law_1469 : decode code 1469 = .ok (.iconst 1, 1) := by decide +kernel
theorem dL_law_1470 : decode code 1470 = .ok (.iadd, 1) := by decide +kernel
theorem dL_law_1471 : decode code 1471 = .ok (.iaload, 1) := by decide +kernel
theorem dL_law_1472 : decode code 1472 = .ok (.invokevirtual 192, 3) := by decide +kernel
theorem dL_law_1475 : decode code 1475 = .ok (.if_icmp .eq 1179, 3) := by decide +kernel
theorem dL_law_1478 : decode code 1478 = .ok (.iconst 0, 1) := by decide +kernel
theorem dL_law_1479 : decode code 1479 = .ok (.ireturn, 1) := by decide +kernel
theorem dL_law_1480 : decode code 1480 = .ok (.aload_n 1, 1) := by decide +kernel
theorem dL_law_1481 : decode code 1481 = .ok (.aload_n 0, 1) := by decide +kernel
theorem dL_law_1482 : decode code 1482 = .ok (.iload_n 3, 1) := by decide +kernel
theorem dL_law_1483 : decode code 1483 = .ok (.iconst 1, 1) := by decide +kernel
theorem dL_law_1484 : decode code 1484 = .ok (.iadd, 1) := by decide +kernel
theorem dL_law_1485 : decode code 1485 = .ok (.iaload, 1) := by decide +kernel
theorem dL_law_1486 : decode code 1486 = .ok (.invokevirtual 193, 3) := by decide +kernel
theorem dL_law_1489 : decode code 1489 = .ok (.aload_n 2, 1) := by decide +kernel
theorem dL_law_1490 : decode code 1490 = .ok (.aload_n 0, 1) := by decide +kernel
theorem dL_law_1491 : decode code 1491 = .ok (.iload_n 3, 1) := by decide +kernel
theorem dL_law_1492 : decode code 1492 = .ok (.iconst 1, 1) := by decide +kernel
theorem dL_law_1493 : decode code 1493 = .ok (.iadd, 1) := by decide +kernel
theorem dL_law_1494 : decode code 1494 = .ok (.iaload, 1) := by decide +kernel
theorem dL_law_1495 : decode code 1495 = .ok (.invokevirtual 196, 3) := by decide +kernel
theorem dL_law_1498 : decode code 1498 = .ok (.if_icmp .eq 1156, 3) := by decide +kernel
theorem dL_law_1501 : decode code 1501 = .ok (.iconst 0, 1) := by decide +kernel
theorem dL_law_1502 : decode code 1502 = .ok (.ireturn, 1) := by decide +kernel
theorem dL_law_1503 : decode code 1503 = .ok (.aload_n 1, 1) := by decide +kernel
theorem dL_law_1504 : decode code 1504 = .ok (.aload_n 0, 1) := by decide +kernel
theorem dL_law_1505 : decode code 1505 = .ok (.iload_n 3, 1) := by decide +kernel
theorem dL_law_1506 : decode code 1506 = .ok (.iconst 1, 1) := by decide +kernel
theorem dL_law_1507 : decode code 1507 = .ok (.iadd, 1) := by decide +kernel
theorem dL_law_1508 : decode code 1508 = .ok (.iaload, 1) := by decide +kernel
theorem dL_law_1509 : decode code 1509 = .ok (.invokevirtual 197, 3) := by decide +kernel
theorem dL_law_1512 : decode code 1512 = .ok (.aload_n 2, 1) := by decide +kernel
theorem dL_law_1513 : decode code 1513 = .ok (.aload_n 0, 1) := by decide +kernel
theorem dL_law_1514 : decode code 1514 = .ok (.iload_n 3, 1) := by decide +kernel
theorem dL_law_1515 : decode code 1515 = .ok (.iconst 1, 1) := by decide +kernel
theorem dL_law_1516 : decode code 1516 = .ok (.iadd, 1) := by decide +kernel
theorem dL_law_1517 : decode code 1517 = .ok (.iaload, 1) := by decide +kernel
theorem dL_law_1518 : decode code 1518 = .ok (.invokevirtual 200, 3) := by decide +kernel
theorem dL_law_1521 : decode code 1521 = .ok (.if_icmp .eq 1133, 3) := by decide +kernel
theorem dL_law_1524 : decode code 1524 = .ok (.iconst 0, 1) := by decide +kernel
theorem dL_law_1525 : decode code 1525 = .ok (.ireturn, 1) := by decide +kernel
theorem dL_law_1526 : decode code 1526 = .ok (.aload_n 1, 1) := by decide +kernel
theorem dL_law_1527 : decode code 1527 = .ok (.aload_n 0, 1) := by decide +kernel
theorem dL_law_1528 : decode code 1528 = .ok (.iload_n 3, 1) := by decide +kernel
theorem dL_law_1529 : decode code 1529 = .ok (.iconst 1, 1) := by decide +kernel
theorem dL_law_1530 : decode code 1530 = .ok (.iadd, 1) := by decide +kernel
theorem dL_law_1531 : decode code 1531 = .ok (.iaload, 1) := by decide +kernel
theorem dL_law_1532 : decode code 1532 = .ok (.invokevirtual 201, 3) := by decide +kernel
theorem dL_law_1535 : decode code 1535 = .ok (.aload_n 2, 1) := by decide +kernel
theorem dL_law_1536 : decode code 1536 = .ok (.aload_n 0, 1) := by decide +kernel
theorem dL_law_1537 : decode code 1537 = .ok (.iload_n 3, 1) := by decide +kernel
theorem dL_law_1538 : decode code 1538 = .ok (.iconst 1, 1) := by decide +kernel
theorem dL_law_1539 : decode code 1539 = .ok (.iadd, 1) := by decide +kernel
theorem dL_law_1540 : decode code 1540 = .ok (.iaload, 1) := by decide +kernel
theorem dL_law_1541 : decode code 1541 = .ok (.invokevirtual 204, 3) := by decide +kernel
theorem dL_law_1544 : decode code 1544 = .ok (.if_icmp .eq 1110, 3) := by decide +kernel
theorem dL_law_1547 : decode code 1547 = .ok (.iconst 0, 1) := by decide +kernel
theorem dL_law_1548 : decode code 1548 = .ok (.ireturn, 1) := by decide +kernel
theorem dL_law_1549 : decode code 1549 = .ok (.aload_n 1, 1) := by decide +kernel
theorem dL_law_1550 : decode code 1550 = .ok (.aload_n 0, 1) := by decide +kernel
theorem dL_law_1551 : decode code 1551 = .ok (.iload_n 3, 1) := by decide +kernel
theorem dL_law_1552 : decode code 1552 = .ok (.iconst 1, 1) := by decide +kernel
theorem dL_law_1553 : decode code 1553 = .ok (.iadd, 1) := by decide +kernel
theorem dL_law_1554 : decode code 1554 = .ok (.iaload, 1) := by decide +kernel
theorem dL_law_1555 : decode code 1555 = .ok (.invokevirtual 205, 3) := by decide +kernel
theorem dL_law_1558 : decode code 1558 = .ok (.aload_n 2, 1) := by decide +kernel
theorem dL_law_1559 : decode code 1559 = .ok (.aload_n 0, 1) := by decide +kernel
theorem dL_law_1560 : decode code 1560 = .ok (.iload_n 3, 1) := by decide +kernel
theorem dL_law_1561 : decode code 1561 = .ok (.iconst 1, 1) := by decide +kernel
theorem dL_law_1562 : decode code 1562 = .ok (.iadd, 1) := by decide +kernel
theorem dL_law_1563 : decode code 1563 = .ok (.iaload, 1) := by decide +kernel
theorem dL_law_1564 : decode code 1564 = .ok (.invokevirtual 208, 3) := by decide +kernel
theorem dL_law_1567 : decode code 1567 = .ok (.if_icmp .eq 1087, 3) := by decide +kernel
theorem dL_law_1570 : decode code 1570 = .ok (.iconst 0, 1) := by decide +kernel
theorem dL_law_1571 : decode code 1571 = .ok (.ireturn, 1) := by decide +kernel
theorem dL_law_1572 : decode code 1572 = .ok (.aload_n 1, 1) := by decide +kernel
theorem dL_law_1573 : decode code 1573 = .ok (.invokevirtual 209, 3) := by decide +kernel
theorem dL_law_1576 : decode code 1576 = .ok (.aload_n 2, 1) := by decide +kernel
theorem dL_law_1577 : decode code 1577 = .ok (.invokevirtual 212, 3) := by decide +kernel
theorem dL_law_1580 : decode code 1580 = .ok (.if_icmp .eq 1074, 3) := by decide +kernel
theorem dL_law_1583 : decode code 1583 = .ok (.iconst 0, 1) := by decide +kernel
theorem dL_law_1584 : decode code 1584 = .ok (.ireturn, 1) := by decide +kernel
theorem dL_law_1585 : decode code 1585 = .ok (.aload_n 1, 1) := by decide +kernel
theorem dL_law_1586 : decode code 1586 = .ok (.aload_n 0, 1) := by decide +kernel
theorem dL_law_1587 : decode code 1587 = .ok (.iload_n 3, 1) := by decide +kernel
theorem dL_law_1588 : decode code 1588 = .ok (.iconst 1, 1) := by decide +kernel
theorem dL_law_1589 : decode code 1589 = .ok (.iadd, 1) := by decide +kernel
theorem dL_law_1590 : decode code 1590 = .ok (.iaload, 1) := by decide +kernel
theorem dL_law_1591 : decode code 1591 = .ok (.invokevirtual 213, 3) := by decide +kernel
theorem dL_law_1594 : decode code 1594 = .ok (.aload_n 2, 1) := by decide +kernel
theorem dL_law_1595 : decode code 1595 = .ok (.aload_n 0, 1) := by decide +kernel
theorem dL_law_1596 : decode code 1596 = .ok (.iload_n 3, 1) := by decide +kernel
theorem dL_law_1597 : decode code 1597 = .ok (.iconst 1, 1) := by decide +kernel
theorem dL_law_1598 : decode code 1598 = .ok (.iadd, 1) := by decide +kernel
theorem dL_law_1599 : decode code 1599 = .ok (.iaload, 1) := by decide +kernel
theorem dL_law_1600 : decode code 1600 = .ok (.invokevirtual 216, 3) := by decide +kernel
theorem dL_law_1603 : decode code 1603 = .ok (.if_icmp .eq 1051, 3) := by decide +kernel
theorem dL_law_1606 : decode code 1606 = .ok (.iconst 0, 1) := by decide +kernel
theorem dL_law_1607 : decode code 1607 = .ok (.ireturn, 1) := by decide +kernel
theorem dL_law_1608 : decode code 1608 = .ok (.aload_n 1, 1) := by decide +kernel
theorem dL_law_1609 : decode code 1609 = .ok (.aload_n 0, 1) := by decide +kernel
theorem dL_law_1610 : decode code 1610 = .ok (.iload_n 3, 1) := by decide +kernel
theorem dL_law_1611 : decode code 1611 = .ok (.iconst 1, 1) := by decide +kernel
theorem dL_law_1612 : decode code 1612 = .ok (.iadd, 1) := by decide +kernel
theorem dL_law_1613 : decode code 1613 = .ok (.iaload, 1) := by decide +kernel
theorem dL_law_1614 : decode code 1614 = .ok (.invokevirtual 217, 3) := by decide +kernel
theorem dL_law_1617 : decode code 1617 = .ok (.aload_n 2, 1) := by decide +kernel
theorem dL_law_1618 : decode code 1618 = .ok (.aload_n 0, 1) := by decide +kernel
theorem dL_law_1619 : decode code 1619 = .ok (.iload_n 3, 1) := by decide +kernel
theorem dL_law_1620 : decode code 1620 = .ok (.iconst 1, 1) := by decide +kernel
theorem dL_law_1621 : decode code 1621 = .ok (.iadd, 1) := by decide +kernel
theorem dL_law_1622 : decode code 1622 = .ok (.iaload, 1) := by decide +kernel
theorem dL_law_1623 : decode code 1623 = .ok (.invokevirtual 220, 3) := by decide +kernel
theorem dL_law_1626 : decode code 1626 = .ok (.if_icmp .eq 1028, 3) := by decide +kernel
theorem dL_law_1629 : decode code 1629 = .ok (.iconst 0, 1) := by decide +kernel
theorem dL_law_1630 : decode code 1630 = .ok (.ireturn, 1) := by decide +kernel
theorem dL_law_1631 : decode code 1631 = .ok (.aload_n 1, 1) := by decide +kernel
theorem dL_law_1632 : decode code 1632 = .ok (.aload_n 0, 1) := by decide +kernel
theorem dL_law_1633 : decode code 1633 = .ok (.iload_n 3, 1) := by decide +kernel
theorem dL_law_1634 : decode code 1634 = .ok (.iconst 1, 1) := by decide +kernel
theorem dL_law_1635 : decode code 1635 = .ok (.iadd, 1) := by decide +kernel
theorem dL_law_1636 : decode code 1636 = .ok (.iaload, 1) := by decide +kernel
theorem dL_law_1637 : decode code 1637 = .ok (.invokevirtual 221, 3) := by decide +kernel
theorem dL_law_1640 : decode code 1640 = .ok (.aload_n 2, 1) := by decide +kernel
theorem dL_law_1641 : decode code 1641 = .ok (.aload_n 0, 1) := by decide +kernel
theorem dL_law_1642 : decode code 1642 = .ok (.iload_n 3, 1) := by decide +kernel
theorem dL_law_1643 : decode code 1643 = .ok (.iconst 1, 1) := by decide +kernel
theorem dL_law_1644 : decode code 1644 = .ok (.iadd, 1) := by decide +kernel
theorem dL_law_1645 : decode code 1645 = .ok (.iaload, 1) := by decide +kernel
theorem dL_law_1646 : decode code 1646 = .ok (.invokevirtual 224, 3) := by decide +kernel
theorem dL_law_1649 : decode code 1649 = .ok (.if_icmp .eq 1005, 3) := by decide +kernel
theorem dL_law_1652 : decode code 1652 = .ok (.iconst 0, 1) := by decide +kernel
theorem dL_law_1653 : decode code 1653 = .ok (.ireturn, 1) := by decide +kernel
theorem dL_law_1654 : decode code 1654 = .ok (.aload_n 1, 1) := by decide +kernel
theorem dL_law_1655 : decode code 1655 = .ok (.aload_n 0, 1) := by decide +kernel
theorem dL_law_1656 : decode code 1656 = .ok (.iload_n 3, 1) := by decide +kernel
theorem dL_law_1657 : decode code 1657 = .ok (.iconst 1, 1) := by decide +kernel
theorem dL_law_1658 : decode code 1658 = .ok (.iadd, 1) := by decide +kernel
theorem dL_law_1659 : decode code 1659 = .ok (.iaload, 1) := by decide +kernel
theorem dL_law_1660 : decode code 1660 = .ok (.invokevirtual 225, 3) := by decide +kernel
theorem dL_law_1663 : decode code 1663 = .ok (.aload_n 2, 1) := by decide +kernel
theorem dL_law_1664 : decode code 1664 = .ok (.aload_n 0, 1) := by decide +kernel
theorem dL_law_1665 : decode code 1665 = .ok (.iload_n 3, 1) := by decide +kernel
theorem dL_law_1666 : decode code 1666 = .ok (.iconst 1, 1) := by decide +kernel
theorem dL_law_1667 : decode code 1667 = .ok (.iadd, 1) := by decide +kernel
theorem dL_law_1668 : decode code 1668 = .ok (.iaload, 1) := by decide +kernel
theorem dL_law_1669 : decode code 1669 = .ok (.invokevirtual 228, 3) := by decide +kernel
theorem dL_law_1672 : decode code 1672 = .ok (.if_icmp .eq 982, 3) := by decide +kernel
theorem dL_law_1675 : decode code 1675 = .ok (.iconst 0, 1) := by decide +kernel
theorem dL_law_1676 : decode code 1676 = .ok (.ireturn, 1) := by decide +kernel
theorem dL_law_1677 : decode code 1677 = .ok (.aload_n 1, 1) := by decide +kernel
theorem dL_law_1678 : decode code 1678 = .ok (.invokevirtual 229, 3) := by decide +kernel
theorem dL_law_1681 : decode code 1681 = .ok (.aload_n 2, 1) := by decide +kernel
theorem dL_law_1682 : decode code 1682 = .ok (.invokevirtual 232, 3) := by decide +kernel
theorem dL_law_1685 : decode code 1685 = .ok (.if_icmp .eq 969, 3) := by decide +kernel
theorem dL_law_1688 : decode code 1688 = .ok (.iconst 0, 1) := by decide +kernel
theorem dL_law_1689 : decode code 1689 = .ok (.ireturn, 1) := by decide +kernel
theorem dL_law_1690 : decode code 1690 = .ok (.aload_n 1, 1) := by decide +kernel
theorem dL_law_1691 : decode code 1691 = .ok (.invokevirtual 233, 3) := by decide +kernel
theorem dL_law_1694 : decode code 1694 = .ok (.aload_n 2, 1) := by decide +kernel
theorem dL_law_1695 : decode code 1695 = .ok (.invokevirtual 236, 3) := by decide +kernel
theorem dL_law_1698 : decode code 1698 = .ok (.if_icmp .eq 956, 3) := by decide +kernel
theorem dL_law_1701 : decode code 1701 = .ok (.iconst 0, 1) := by decide +kernel
theorem dL_law_1702 : decode code 1702 = .ok (.ireturn, 1) := by decide +kernel
theorem dL_law_1703 : decode code 1703 = .ok (.aload_n 1, 1) := by decide +kernel
theorem dL_law_1704 : decode code 1704 = .ok (.aload_n 0, 1) := by decide +kernel
theorem dL_law_1705 : decode code 1705 = .ok (.iload_n 3, 1) := by decide +kernel
theorem dL_law_1706 : decode code 1706 = .ok (.iconst 1, 1) := by decide +kernel
theorem dL_law_1707 : decode code 1707 = .ok (.iadd, 1) := by decide +kernel
theorem dL_law_1708 : decode code 1708 = .ok (.iaload, 1) := by decide +kernel
theorem dL_law_1709 : decode code 1709 = .ok (.aload_n 0, 1) := by decide +kernel
theorem dL_law_1710 : decode code 1710 = .ok (.iload_n 3, 1) := by decide +kernel
theorem dL_law_1711 : decode code 1711 = .ok (.iconst 2, 1) := by decide +kernel
theorem dL_law_1712 : decode code 1712 = .ok (.iadd, 1) := by decide +kernel
theorem dL_law_1713 : decode code 1713 = .ok (.iaload, 1) := by decide +kernel
theorem dL_law_1714 : decode code 1714 = .ok (.invokevirtual 237, 3) := by decide +kernel
theorem dL_law_1717 : decode code 1717 = .ok (.aload_n 2, 1) := by decide +kernel
theorem dL_law_1718 : decode code 1718 = .ok (.aload_n 0, 1) := by decide +kernel
theorem dL_law_1719 : decode code 1719 = .ok (.iload_n 3, 1) := by decide +kernel
theorem dL_law_1720 : decode code 1720 = .ok (.iconst 1, 1) := by decide +kernel
theorem dL_law_1721 : decode code 1721 = .ok (.iadd, 1) := by decide +kernel
theorem dL_law_1722 : decode code 1722 = .ok (.iaload, 1) := by decide +kernel
theorem dL_law_1723 : decode code 1723 = .ok (.aload_n 0, 1) := by decide +kernel
theorem dL_law_1724 : decode code 1724 = .ok (.iload_n 3, 1) := by decide +kernel
theorem dL_law_1725 : decode code 1725 = .ok (.iconst 2, 1) := by decide +kernel
theorem dL_law_1726 : decode code 1726 = .ok (.iadd, 1) := by decide +kernel
theorem dL_law_1727 : decode code 1727 = .ok (.iaload, 1) := by decide +kernel
theorem dL_law_1728 : decode code 1728 = .ok (.invokevirtual 240, 3) := by decide +kernel
theorem dL_law_1731 : decode code 1731 = .ok (.if_icmp .eq 923, 3) := by decide +kernel
theorem dL_law_1734 : decode code 1734 = .ok (.iconst 0, 1) := by decide +kernel
theorem dL_law_1735 : decode code 1735 = .ok (.ireturn, 1) := by decide +kernel
theorem dL_law_1736 : decode code 1736 = .ok (.aload_n 1, 1) := by decide +kernel
theorem dL_law_1737 : decode code 1737 = .ok (.aload_n 0, 1) := by decide +kernel
theorem dL_law_1738 : decode code 1738 = .ok (.iload_n 3, 1) := by decide +kernel
theorem dL_law_1739 : decode code 1739 = .ok (.iconst 1, 1) := by decide +kernel
theorem dL_law_1740 : decode code 1740 = .ok (.iadd, 1) := by decide +kernel
theorem dL_law_1741 : decode code 1741 = .ok (.iaload, 1) := by decide +kernel
theorem dL_law_1742 : decode code 1742 = .ok (.invokevirtual 241, 3) := by decide +kernel
theorem dL_law_1745 : decode code 1745 = .ok (.aload_n 2, 1) := by decide +kernel
theorem dL_law_1746 : decode code 1746 = .ok (.aload_n 0, 1) := by decide +kernel
theorem dL_law_1747 : decode code 1747 = .ok (.iload_n 3, 1) := by decide +kernel
theorem dL_law_1748 : decode code 1748 = .ok (.iconst 1, 1) := by decide +kernel
theorem dL_law_1749 : decode code 1749 = .ok (.iadd, 1) := by decide +kernel
theorem dL_law_1750 : decode code 1750 = .ok (.iaload, 1) := by decide +kernel
theorem dL_law_1751 : decode code 1751 = .ok (.invokevirtual 244, 3) := by decide +kernel
theorem dL_law_1754 : decode code 1754 = .ok (.if_icmp .eq 900, 3) := by decide +kernel
theorem dL_law_1757 : decode code 1757 = .ok (.iconst 0, 1) := by decide +kernel
theorem dL_law_1758 : decode code 1758 = .ok (.ireturn, 1) := by decide +kernel
theorem dL_law_1759 : decode code 1759 = .ok (.aload_n 1, 1) := by decide +kernel
theorem dL_law_1760 : decode code 1760 = .ok (.invokevirtual 245, 3) := by decide +kernel
theorem dL_law_1763 : decode code 1763 = .ok (.aload_n 2, 1) := by decide +kernel
theorem dL_law_1764 : decode code 1764 = .ok (.invokevirtual 248, 3) := by decide +kernel
theorem dL_law_1767 : decode code 1767 = .ok (.if_icmp .eq 887, 3) := by decide +kernel
theorem dL_law_1770 : decode code 1770 = .ok (.iconst 0, 1) := by decide +kernel
theorem dL_law_1771 : decode code 1771 = .ok (.ireturn, 1) := by decide +kernel
theorem dL_law_1772 : decode code 1772 = .ok (.aload_n 1, 1) := by decide +kernel
theorem dL_law_1773 : decode code 1773 = .ok (.invokevirtual 249, 3) := by decide +kernel
theorem dL_law_1776 : decode code 1776 = .ok (.aload_n 2, 1) := by decide +kernel
theorem dL_law_1777 : decode code 1777 = .ok (.invokevirtual 252, 3) := by decide +kernel
theorem dL_law_1780 : decode code 1780 = .ok (.if_icmp .eq 874, 3) := by decide +kernel
theorem dL_law_1783 : decode code 1783 = .ok (.iconst 0, 1) := by decide +kernel
theorem dL_law_1784 : decode code 1784 = .ok (.ireturn, 1) := by decide +kernel
theorem dL_law_1785 : decode code 1785 = .ok (.aload_n 1, 1) := by decide +kernel
theorem dL_law_1786 : decode code 1786 = .ok (.aload_n 0, 1) := by decide +kernel
theorem dL_law_1787 : decode code 1787 = .ok (.iload_n 3, 1) := by decide +kernel
theorem dL_law_1788 : decode code 1788 = .ok (.iconst 1, 1) := by decide +kernel
theorem dL_law_1789 : decode code 1789 = .ok (.iadd, 1) := by decide +kernel
theorem dL_law_1790 : decode code 1790 = .ok (.iaload, 1) := by decide +kernel
theorem dL_law_1791 : decode code 1791 = .ok (.aload_n 0, 1) := by decide +kernel
theorem dL_law_1792 : decode code 1792 = .ok (.iload_n 3, 1) := by decide +kernel
theorem dL_law_1793 : decode code 1793 = .ok (.iconst 2, 1) := by decide +kernel
theorem dL_law_1794 : decode code 1794 = .ok (.iadd, 1) := by decide +kernel
theorem dL_law_1795 : decode code 1795 = .ok (.iaload, 1) := by decide +kernel
theorem dL_law_1796 : decode code 1796 = .ok (.invokevirtual 253, 3) := by decide +kernel
theorem dL_law_1799 : decode code 1799 = .ok (.aload_n 2, 1) := by decide +kernel
theorem dL_law_1800 : decode code 1800 = .ok (.aload_n 0, 1) := by decide +kernel
theorem dL_law_1801 : decode code 1801 = .ok (.iload_n 3, 1) := by decide +kernel
theorem dL_law_1802 : decode code 1802 = .ok (.iconst 1, 1) := by decide +kernel
theorem dL_law_1803 : decode code 1803 = .ok (.iadd, 1) := by decide +kernel
theorem dL_law_1804 : decode code 1804 = .ok (.iaload, 1) := by decide +kernel
theorem dL_law_1805 : decode code 1805 = .ok (.aload_n 0, 1) := by decide +kernel
theorem dL_law_1806 : decode code 1806 = .ok (.iload_n 3, 1) := by decide +kernel
theorem dL_law_1807 : decode code 1807 = .ok (.iconst 2, 1) := by decide +kernel
theorem dL_law_1808 : decode code 1808 = .ok (.iadd, 1) := by decide +kernel
theorem dL_law_1809 : decode code 1809 = .ok (.iaload, 1) := by decide +kernel
theorem dL_law_1810 : decode code 1810 = .ok (.invokevirtual 256, 3) := by decide +kernel
theorem dL_law_1813 : decode code 1813 = .ok (.if_icmp .eq 841, 3) := by decide +kernel
theorem dL_law_1816 : decode code 1816 = .ok (.iconst 0, 1) := by decide +kernel
theorem dL_law_1817 : decode code 1817 = .ok (.ireturn, 1) := by decide +kernel
theorem dL_law_1818 : decode code 1818 = .ok (.aload_n 1, 1) := by decide +kernel
theorem dL_law_1819 : decode code 1819 = .ok (.aload_n 0, 1) := by decide +kernel
theorem dL_law_1820 : decode code 1820 = .ok (.iload_n 3, 1) := by decide +kernel
theorem dL_law_1821 : decode code 1821 = .ok (.iconst 1, 1) := by decide +kernel
theorem dL_law_1822 : decode code 1822 = .ok (.iadd, 1) := by decide +kernel
theorem dL_law_1823 : decode code 1823 = .ok (.iaload, 1) := by decide +kernel
theorem dL_law_1824 : decode code 1824 = .ok (.aload_n 0, 1) := by decide +kernel
theorem dL_law_1825 : decode code 1825 = .ok (.iload_n 3, 1) := by decide +kernel
theorem dL_law_1826 : decode code 1826 = .ok (.iconst 2, 1) := by decide +kernel
theorem dL_law_1827 : decode code 1827 = .ok (.iadd, 1) := by decide +kernel
theorem dL_law_1828 : decode code 1828 = .ok (.iaload, 1) := by decide +kernel
theorem dL_law_1829 : decode code 1829 = .ok (.invokevirtual 257, 3) := by decide +kernel
theorem dL_law_1832 : decode code 1832 = .ok (.aload_n 2, 1) := by decide +kernel
theorem dL_law_1833 : decode code 1833 = .ok (.aload_n 0, 1) := by decide +kernel
theorem dL_law_1834 : decode code 1834 = .ok (.iload_n 3, 1) := by decide +kernel
theorem dL_law_1835 : decode code 1835 = .ok (.iconst 1, 1) := by decide +kernel
theorem dL_law_1836 : decode code 1836 = .ok (.iadd, 1) := by decide +kernel
theorem dL_law_1837 : decode code 1837 = .ok (.iaload, 1) := by decide +kernel
theorem dL_law_1838 : decode code 1838 = .ok (.aload_n 0, 1) := by decide +kernel
theorem dL_law_1839 : decode code 1839 = .ok (.iload_n 3, 1) := by decide +kernel
theorem dL_law_1840 : decode code 1840 = .ok (.iconst 2, 1) := by decide +kernel
theorem dL_law_1841 : decode code 1841 = .ok (.iadd, 1) := by decide +kernel
theorem dL_law_1842 : decode code 1842 = .ok (.iaload, 1) := by decide +kernel
theorem dL_law_1843 : decode code 1843 = .ok (.invokevirtual 260, 3) := by decide +kernel
theorem dL_law_1846 : decode code 1846 = .ok (.if_icmp .eq 808, 3) := by decide +kernel
theorem dL_law_1849 : decode code 1849 = .ok (.iconst 0, 1) := by decide +kernel
theorem dL_law_1850 : decode code 1850 = .ok (.ireturn, 1) := by decide +kernel
theorem dL_law_1851 : decode code 1851 = .ok (.aload_n 1, 1) := by decide +kernel
theorem dL_law_1852 : decode code 1852 = .ok (.aload_n 0, 1) := by decide +kernel
theorem dL_law_1853 : decode code 1853 = .ok (.iload_n 3, 1) := by decide +kernel
theorem dL_law_1854 : decode code 1854 = .ok (.iconst 1, 1) := by decide +kernel
theorem dL_law_1855 : decode code 1855 = .ok (.iadd, 1) := by decide +kernel
theorem dL_law_1856 : decode code 1856 = .ok (.iaload, 1) := by decide +kernel
theorem dL_law_1857 : decode code 1857 = .ok (.aload_n 0, 1) := by decide +kernel
theorem dL_law_1858 : decode code 1858 = .ok (.iload_n 3, 1) := by decide +kernel
theorem dL_law_1859 : decode code 1859 = .ok (.iconst 2, 1) := by decide +kernel
theorem dL_law_1860 : decode code 1860 = .ok (.iadd, 1) := by decide +kernel
theorem dL_law_1861 : decode code 1861 = .ok (.iaload, 1) := by decide +kernel
theorem dL_law_1862 : decode code 1862 = .ok (.invokevirtual 261, 3) := by decide +kernel
theorem dL_law_1865 : decode code 1865 = .ok (.aload_n 2, 1) := by decide +kernel
theorem dL_law_1866 : decode code 1866 = .ok (.aload_n 0, 1) := by decide +kernel
theorem dL_law_1867 : decode code 1867 = .ok (.iload_n 3, 1) := by decide +kernel
theorem dL_law_1868 : decode code 1868 = .ok (.iconst 1, 1) := by decide +kernel
theorem dL_law_1869 : decode code 1869 = .ok (.iadd, 1) := by decide +kernel
theorem dL_law_1870 : decode code 1870 = .ok (.iaload, 1) := by decide +kernel
theorem dL_law_1871 : decode code 1871 = .ok (.aload_n 0, 1) := by decide +kernel
theorem dL_law_1872 : decode code 1872 = .ok (.iload_n 3, 1) := by decide +kernel
theorem dL_law_1873 : decode code 1873 = .ok (.iconst 2, 1) := by decide +kernel
theorem dL_law_1874 : decode code 1874 = .ok (.iadd, 1) := by decide +kernel
theorem dL_law_1875 : decode code 1875 = .ok (.iaload, 1) := by decide +kernel
theorem dL_law_1876 : decode code 1876 = .ok (.invokevirtual 264, 3) := by decide +kernel
theorem dL_law_1879 : decode code 1879 = .ok (.if_icmp .eq 775, 3) := by decide +kernel
theorem dL_law_1882 : decode code 1882 = .ok (.iconst 0, 1) := by decide +kernel
theorem dL_law_1883 : decode code 1883 = .ok (.ireturn, 1) := by decide +kernel
theorem dL_law_1884 : decode code 1884 = .ok (.aload_n 1, 1) := by decide +kernel
theorem dL_law_1885 : decode code 1885 = .ok (.aload_n 0, 1) := by decide +kernel
theorem dL_law_1886 : decode code 1886 = .ok (.iload_n 3, 1) := by decide +kernel
theorem dL_law_1887 : decode code 1887 = .ok (.iconst 1, 1) := by decide +kernel
theorem dL_law_1888 : decode code 1888 = .ok (.iadd, 1) := by decide +kernel
theorem dL_law_1889 : decode code 1889 = .ok (.iaload, 1) := by decide +kernel
theorem dL_law_1890 : decode code 1890 = .ok (.aload_n 0, 1) := by decide +kernel
theorem dL_law_1891 : decode code 1891 = .ok (.iload_n 3, 1) := by decide +kernel
theorem dL_law_1892 : decode code 1892 = .ok (.iconst 2, 1) := by decide +kernel
theorem dL_law_1893 : decode code 1893 = .ok (.iadd, 1) := by decide +kernel
theorem dL_law_1894 : decode code 1894 = .ok (.iaload, 1) := by decide +kernel
theorem dL_law_1895 : decode code 1895 = .ok (.invokevirtual 265, 3) := by decide +kernel
theorem dL_law_1898 : decode code 1898 = .ok (.aload_n 2, 1) := by decide +kernel
theorem dL_law_1899 : decode code 1899 = .ok (.aload_n 0, 1) := by decide +kernel
theorem dL_law_1900 : decode code 1900 = .ok (.iload_n 3, 1) := by decide +kernel
theorem dL_law_1901 : decode code 1901 = .ok (.iconst 1, 1) := by decide +kernel
theorem dL_law_1902 : decode code 1902 = .ok (.iadd, 1) := by decide +kernel
theorem dL_law_1903 : decode code 1903 = .ok (.iaload, 1) := by decide +kernel
theorem dL_law_1904 : decode code 1904 = .ok (.aload_n 0, 1) := by decide +kernel
theorem dL_law_1905 : decode code 1905 = .ok (.iload_n 3, 1) := by decide +kernel
theorem dL_law_1906 : decode code 1906 = .ok (.iconst 2, 1) := by decide +kernel
theorem dL_law_1907 : decode code 1907 = .ok (.iadd, 1) := by decide +kernel
theorem dL_law_1908 : decode code 1908 = .ok (.iaload, 1) := by decide +kernel
theorem dL_law_1909 : decode code 1909 = .ok (.invokevirtual 268, 3) := by decide +kernel
theorem dL_law_1912 : decode code 1912 = .ok (.if_icmp .eq 742, 3) := by decide +kernel
theorem dL_law_1915 : decode code 1915 = .ok (.iconst 0, 1) := by decide +kernel
theorem dL_law_1916 : decode code 1916 = .ok (.ireturn, 1) := by decide +kernel
theorem dL_law_1917 : decode code 1917 = .ok (.aload_n 1, 1) := by decide +kernel
theorem dL_law_1918 : decode code 1918 = .ok (.aload_n 0, 1) := by decide +kernel
theorem dL_law_1919 : decode code 1919 = .ok (.iload_n 3, 1) := by decide +kernel
theorem dL_law_1920 : decode code 1920 = .ok (.iconst 1, 1) := by decide +kernel
theorem dL_law_1921 : decode code 1921 = .ok (.iadd, 1) := by decide +kernel
theorem dL_law_1922 : decode code 1922 = .ok (.iaload, 1) := by decide +kernel
theorem dL_law_1923 : decode code 1923 = .ok (.invokevirtual 269, 3) := by decide +kernel
theorem dL_law_1926 : decode code 1926 = .ok (.aload_n 2, 1) := by decide +kernel
theorem dL_law_1927 : decode code 1927 = .ok (.aload_n 0, 1) := by decide +kernel
theorem dL_law_1928 : decode code 1928 = .ok (.iload_n 3, 1) := by decide +kernel
theorem dL_law_1929 : decode code 1929 = .ok (.iconst 1, 1) := by decide +kernel
theorem dL_law_1930 : decode code 1930 = .ok (.iadd, 1) := by decide +kernel
theorem dL_law_1931 : decode code 1931 = .ok (.iaload, 1) := by decide +kernel
theorem dL_law_1932 : decode code 1932 = .ok (.invokevirtual 272, 3) := by decide +kernel
theorem dL_law_1935 : decode code 1935 = .ok (.if_icmp .eq 719, 3) := by decide +kernel
theorem dL_law_1938 : decode code 1938 = .ok (.iconst 0, 1) := by decide +kernel
theorem dL_law_1939 : decode code 1939 = .ok (.ireturn, 1) := by decide +kernel
theorem dL_law_1940 : decode code 1940 = .ok (.aload_n 1, 1) := by decide +kernel
theorem dL_law_1941 : decode code 1941 = .ok (.aload_n 0, 1) := by decide +kernel
theorem dL_law_1942 : decode code 1942 = .ok (.iload_n 3, 1) := by decide +kernel
theorem dL_law_1943 : decode code 1943 = .ok (.iconst 1, 1) := by decide +kernel
theorem dL_law_1944 : decode code 1944 = .ok (.iadd, 1) := by decide +kernel
theorem dL_law_1945 : decode code 1945 = .ok (.iaload, 1) := by decide +kernel
theorem dL_law_1946 : decode code 1946 = .ok (.invokevirtual 273, 3) := by decide +kernel
theorem dL_law_1949 : decode code 1949 = .ok (.aload_n 2, 1) := by decide +kernel
theorem dL_law_1950 : decode code 1950 = .ok (.aload_n 0, 1) := by decide +kernel
theorem dL_law_1951 : decode code 1951 = .ok (.iload_n 3, 1) := by decide +kernel
theorem dL_law_1952 : decode code 1952 = .ok (.iconst 1, 1) := by decide +kernel
theorem dL_law_1953 : decode code 1953 = .ok (.iadd, 1) := by decide +kernel
theorem dL_law_1954 : decode code 1954 = .ok (.iaload, 1) := by decide +kernel
theorem dL_law_1955 : decode code 1955 = .ok (.invokevirtual 276, 3) := by decide +kernel
theorem dL_law_1958 : decode code 1958 = .ok (.if_icmp .eq 696, 3) := by decide +kernel
theorem dL_law_1961 : decode code 1961 = .ok (.iconst 0, 1) := by decide +kernel
theorem dL_law_1962 : decode code 1962 = .ok (.ireturn, 1) := by decide +kernel
theorem dL_law_1963 : decode code 1963 = .ok (.aload_n 1, 1) := by decide +kernel
theorem dL_law_1964 : decode code 1964 = .ok (.invokevirtual 277, 3) := by decide +kernel
theorem dL_law_1967 : decode code 1967 = .ok (.aload_n 2, 1) := by decide +kernel
theorem dL_law_1968 : decode code 1968 = .ok (.invokevirtual 280, 3) := by decide +kernel
theorem dL_law_1971 : decode code 1971 = .ok (.if_icmp .eq 683, 3) := by decide +kernel
theorem dL_law_1974 : decode code 1974 = .ok (.iconst 0, 1) := by decide +kernel
theorem dL_law_1975 : decode code 1975 = .ok (.ireturn, 1) := by decide +kernel
theorem dL_law_1976 : decode code 1976 = .ok (.aload_n 1, 1) := by decide +kernel
theorem dL_law_1977 : decode code 1977 = .ok (.aload_n 0, 1) := by decide +kernel
theorem dL_law_1978 : decode code 1978 = .ok (.iload_n 3, 1) := by decide +kernel
theorem dL_law_1979 : decode code 1979 = .ok (.iconst 1, 1) := by decide +kernel
theorem dL_law_1980 : decode code 1980 = .ok (.iadd, 1) := by decide +kernel
theorem dL_law_1981 : decode code 1981 = .ok (.iaload, 1) := by decide +kernel
theorem dL_law_1982 : decode code 1982 = .ok (.invokevirtual 281, 3) := by decide +kernel
theorem dL_law_1985 : decode code 1985 = .ok (.aload_n 2, 1) := by decide +kernel
theorem dL_law_1986 : decode code 1986 = .ok (.aload_n 0, 1) := by decide +kernel
theorem dL_law_1987 : decode code 1987 = .ok (.iload_n 3, 1) := by decide +kernel
theorem dL_law_1988 : decode code 1988 = .ok (.iconst 1, 1) := by decide +kernel
theorem dL_law_1989 : decode code 1989 = .ok (.iadd, 1) := by decide +kernel
theorem dL_law_1990 : decode code 1990 = .ok (.iaload, 1) := by decide +kernel
theorem dL_law_1991 : decode code 1991 = .ok (.invokevirtual 284, 3) := by decide +kernel
theorem dL_law_1994 : decode code 1994 = .ok (.if_icmp .eq 660, 3) := by decide +kernel
theorem dL_law_1997 : decode code 1997 = .ok (.iconst 0, 1) := by decide +kernel
theorem dL_law_1998 : decode code 1998 = .ok (.ireturn, 1) := by decide +kernel
theorem dL_law_1999 : decode code 1999 = .ok (.aload_n 1, 1) := by decide +kernel
theorem dL_law_2000 : decode code 2000 = .ok (.aload_n 0, 1) := by decide +kernel
theorem dL_law_2001 : decode code 2001 = .ok (.iload_n 3, 1) := by decide +kernel
theorem dL_law_2002 : decode code 2002 = .ok (.iconst 1, 1) := by decide +kernel
theorem dL_law_2003 : decode code 2003 = .ok (.iadd, 1) := by decide +kernel
theorem dL_law_2004 : decode code 2004 = .ok (.iaload, 1) := by decide +kernel
theorem dL_law_2005 : decode code 2005 = .ok (.aload_n 0, 1) := by decide +kernel
theorem dL_law_2006 : decode code 2006 = .ok (.iload_n 3, 1) := by decide +kernel
theorem dL_law_2007 : decode code 2007 = .ok (.iconst 2, 1) := by decide +kernel
theorem dL_law_2008 : decode code 2008 = .ok (.iadd, 1) := by decide +kernel
theorem dL_law_2009 : decode code 2009 = .ok (.iaload, 1) := by decide +kernel
theorem dL_law_2010 : decode code 2010 = .ok (.invokevirtual 285, 3) := by decide +kernel
theorem dL_law_2013 : decode code 2013 = .ok (.aload_n 2, 1) := by decide +kernel
theorem dL_law_2014 : decode code 2014 = .ok (.aload_n 0, 1) := by decide +kernel
theorem dL_law_2015 : decode code 2015 = .ok (.iload_n 3, 1) := by decide +kernel
theorem dL_law_2016 : decode code 2016 = .ok (.iconst 1, 1) := by decide +kernel
theorem dL_law_2017 : decode code 2017 = .ok (.iadd, 1) := by decide +kernel
theorem dL_law_2018 : decode code 2018 = .ok (.iaload, 1) := by decide +kernel
theorem dL_law_2019 : decode code 2019 = .ok (.aload_n 0, 1) := by decide +kernel
theorem dL_law_2020 : decode code 2020 = .ok (.iload_n 3, 1) := by decide +kernel
theorem dL_law_2021 : decode code 2021 = .ok (.iconst 2, 1) := by decide +kernel
theorem dL_law_2022 : decode code 2022 = .ok (.iadd, 1) := by decide +kernel
theorem dL_law_2023 : decode code 2023 = .ok (.iaload, 1) := by decide +kernel
theorem dL_law_2024 : decode code 2024 = .ok (.invokevirtual 288, 3) := by decide +kernel
theorem dL_law_2027 : decode code 2027 = .ok (.if_icmp .eq 627, 3) := by decide +kernel
theorem dL_law_2030 : decode code 2030 = .ok (.iconst 0, 1) := by decide +kernel
theorem dL_law_2031 : decode code 2031 = .ok (.ireturn, 1) := by decide +kernel
theorem dL_law_2032 : decode code 2032 = .ok (.aload_n 1, 1) := by decide +kernel
theorem dL_law_2033 : decode code 2033 = .ok (.aload_n 0, 1) := by decide +kernel
theorem dL_law_2034 : decode code 2034 = .ok (.iload_n 3, 1) := by decide +kernel
theorem dL_law_2035 : decode code 2035 = .ok (.iconst 1, 1) := by decide +kernel
theorem dL_law_2036 : decode code 2036 = .ok (.iadd, 1) := by decide +kernel
theorem dL_law_2037 : decode code 2037 = .ok (.iaload, 1) := by decide +kernel
theorem dL_law_2038 : decode code 2038 = .ok (.aload_n 0, 1) := by decide +kernel
theorem dL_law_2039 : decode code 2039 = .ok (.iload_n 3, 1) := by decide +kernel
theorem dL_law_2040 : decode code 2040 = .ok (.iconst 2, 1) := by decide +kernel
theorem dL_law_2041 : decode code 2041 = .ok (.iadd, 1) := by decide +kernel
theorem dL_law_2042 : decode code 2042 = .ok (.iaload, 1) := by decide +kernel
theorem dL_law_2043 : decode code 2043 = .ok (.invokevirtual 289, 3) := by decide +kernel
theorem dL_law_2046 : decode code 2046 = .ok (.aload_n 2, 1) := by decide +kernel
theorem dL_law_2047 : decode code 2047 = .ok (.aload_n 0, 1) := by decide +kernel
theorem dL_law_2048 : decode code 2048 = .ok (.iload_n 3, 1) := by decide +kernel
theorem dL_law_2049 : decode code 2049 = .ok (.iconst 1, 1) := by decide +kernel
theorem dL_law_2050 : decode code 2050 = .ok (.iadd, 1) := by decide +kernel
theorem dL_law_2051 : decode code 2051 = .ok (.iaload, 1) := by decide +kernel
theorem dL_law_2052 : decode code 2052 = .ok (.aload_n 0, 1) := by decide +kernel
theorem dL_law_2053 : decode code 2053 = .ok (.iload_n 3, 1) := by decide +kernel
theorem dL_law_2054 : decode code 2054 = .ok (.iconst 2, 1) := by decide +kernel
theorem dL_law_2055 : decode code 2055 = .ok (.iadd, 1) := by decide +kernel
theorem dL_law_2056 : decode code 2056 = .ok (.iaload, 1) := by decide +kernel
theorem dL_law_2057 : decode code 2057 = .ok (.invokevirtual 292, 3) := by decide +kernel
theorem dL_law_2060 : decode code 2060 = .ok (.if_icmp .eq 594, 3) := by decide +kernel
theorem dL_law_2063 : decode code 2063 = .ok (.iconst 0, 1) := by decide +kernel
theorem dL_law_2064 : decode code 2064 = .ok (.ireturn, 1) := by decide +kernel
theorem dL_law_2065 : decode code 2065 = .ok (.aload_n 1, 1) := by decide +kernel
theorem dL_law_2066 : decode code 2066 = .ok (.aload_n 0, 1) := by decide +kernel
theorem dL_law_2067 : decode code 2067 = .ok (.iload_n 3, 1) := by decide +kernel
theorem dL_law_2068 : decode code 2068 = .ok (.iconst 1, 1) := by decide +kernel
theorem dL_law_2069 : decode code 2069 = .ok (.iadd, 1) := by decide +kernel
theorem dL_law_2070 : decode code 2070 = .ok (.iaload, 1) := by decide +kernel
theorem dL_law_2071 : decode code 2071 = .ok (.aload_n 0, 1) := by decide +kernel
theorem dL_law_2072 : decode code 2072 = .ok (.iload_n 3, 1) := by decide +kernel
theorem dL_law_2073 : decode code 2073 = .ok (.iconst 2, 1) := by decide +kernel
theorem dL_law_2074 : decode code 2074 = .ok (.iadd, 1) := by decide +kernel
theorem dL_law_2075 : decode code 2075 = .ok (.iaload, 1) := by decide +kernel
theorem dL_law_2076 : decode code 2076 = .ok (.aload_n 0, 1) := by decide +kernel
theorem dL_law_2077 : decode code 2077 = .ok (.iload_n 3, 1) := by decide +kernel
theorem dL_law_2078 : decode code 2078 = .ok (.iconst 3, 1) := by decide +kernel
theorem dL_law_2079 : decode code 2079 = .ok (.iadd, 1) := by decide +kernel
theorem dL_law_2080 : decode code 2080 = .ok (.iaload, 1) := by decide +kernel
theorem dL_law_2081 : decode code 2081 = .ok (.aload_n 0, 1) := by decide +kernel
theorem dL_law_2082 : decode code 2082 = .ok (.iload_n 3, 1) := by decide +kernel
theorem dL_law_2083 : decode code 2083 = .ok (.iconst 4, 1) := by decide +kernel
theorem dL_law_2084 : decode code 2084 = .ok (.iadd, 1) := by decide +kernel
theorem dL_law_2085 : decode code 2085 = .ok (.iaload, 1) := by decide +kernel
theorem dL_law_2086 : decode code 2086 = .ok (.aload_n 0, 1) := by decide +kernel
theorem dL_law_2087 : decode code 2087 = .ok (.iload_n 3, 1) := by decide +kernel
theorem dL_law_2088 : decode code 2088 = .ok (.iconst 5, 1) := by decide +kernel
theorem dL_law_2089 : decode code 2089 = .ok (.iadd, 1) := by decide +kernel
theorem dL_law_2090 : decode code 2090 = .ok (.iaload, 1) := by decide +kernel
theorem dL_law_2091 : decode code 2091 = .ok (.invokevirtual 293, 3) := by decide +kernel
theorem dL_law_2094 : decode code 2094 = .ok (.aload_n 2, 1) := by decide +kernel
theorem dL_law_2095 : decode code 2095 = .ok (.aload_n 0, 1) := by decide +kernel
theorem dL_law_2096 : decode code 2096 = .ok (.iload_n 3, 1) := by decide +kernel
theorem dL_law_2097 : decode code 2097 = .ok (.iconst 1, 1) := by decide +kernel
theorem dL_law_2098 : decode code 2098 = .ok (.iadd, 1) := by decide +kernel
theorem dL_law_2099 : decode code 2099 = .ok (.iaload, 1) := by decide +kernel
theorem dL_law_2100 : decode code 2100 = .ok (.aload_n 0, 1) := by decide +kernel
theorem dL_law_2101 : decode code 2101 = .ok (.iload_n 3, 1) := by decide +kernel
theorem dL_law_2102 : decode code 2102 = .ok (.iconst 2, 1) := by decide +kernel
theorem dL_law_2103 : decode code 2103 = .ok (.iadd, 1) := by decide +kernel
theorem dL_law_2104 : decode code 2104 = .ok (.iaload, 1) := by decide +kernel
theorem dL_law_2105 : decode code 2105 = .ok (.aload_n 0, 1) := by decide +kernel
theorem dL_law_2106 : decode code 2106 = .ok (.iload_n 3, 1) := by decide +kernel
theorem dL_law_2107 : decode code 2107 = .ok (.iconst 3, 1) := by decide +kernel
theorem dL_law_2108 : decode code 2108 = .ok (.iadd, 1) := by decide +kernel
theorem dL_law_2109 : decode code 2109 = .ok (.iaload, 1) := by decide +kernel
theorem dL_law_2110 : decode code 2110 = .ok (.aload_n 0, 1) := by decide +kernel
theorem dL_law_2111 : decode code 2111 = .ok (.iload_n 3, 1) := by decide +kernel
theorem dL_law_2112 : decode code 2112 = .ok (.iconst 4, 1) := by decide +kernel
theorem dL_law_2113 : decode code 2113 = .ok (.iadd, 1) := by decide +kernel
theorem dL_law_2114 : decode code 2114 = .ok (.iaload, 1) := by decide +kernel
theorem dL_law_2115 : decode code 2115 = .ok (.aload_n 0, 1) := by decide +kernel
theorem dL_law_2116 : decode code 2116 = .ok (.iload_n 3, 1) := by decide +kernel
theorem dL_law_2117 : decode code 2117 = .ok (.iconst 5, 1) := by decide +kernel
theorem dL_law_2118 : decode code 2118 = .ok (.iadd, 1) := by decide +kernel
theorem dL_law_2119 : decode code 2119 = .ok (.iaload, 1) := by decide +kernel
theorem dL_law_2120 : decode code 2120 = .ok (.invokevirtual 296, 3) := by decide +kernel
theorem dL_law_2123 : decode code 2123 = .ok (.if_icmp .eq 531, 3) := by decide +kernel
theorem dL_law_2126 : decode code 2126 = .ok (.iconst 0, 1) := by decide +kernel
theorem dL_law_2127 : decode code 2127 = .ok (.ireturn, 1) := by decide +kernel
theorem dL_law_2128 : decode code 2128 = .ok (.aload_n 1, 1) := by decide +kernel
theorem dL_law_2129 : decode code 2129 = .ok (.aload_n 0, 1) := by decide +kernel
theorem dL_law_2130 : decode code 2130 = .ok (.iload_n 3, 1) := by decide +kernel
theorem dL_law_2131 : decode code 2131 = .ok (.iconst 1, 1) := by decide +kernel
theorem dL_law_2132 : decode code 2132 = .ok (.iadd, 1) := by decide +kernel
theorem dL_law_2133 : decode code 2133 = .ok (.iaload, 1) := by decide +kernel
theorem dL_law_2134 : decode code 2134 = .ok (.aload_n 0, 1) := by decide +kernel
theorem dL_law_2135 : decode code 2135 = .ok (.iload_n 3, 1) := by decide +kernel
theorem dL_law_2136 : decode code 2136 = .ok (.iconst 2, 1) := by decide +kernel
theorem dL_law_2137 : decode code 2137 = .ok (.iadd, 1) := by decide +kernel
theorem dL_law_2138 : decode code 2138 = .ok (.iaload, 1) := by decide +kernel
theorem dL_law_2139 : decode code 2139 = .ok (.aload_n 0, 1) := by decide +kernel
theorem dL_law_2140 : decode code 2140 = .ok (.iload_n 3, 1) := by decide +kernel
theorem dL_law_2141 : decode code 2141 = .ok (.iconst 3, 1) := by decide +kernel
theorem dL_law_2142 : decode code 2142 = .ok (.iadd, 1) := by decide +kernel
theorem dL_law_2143 : decode code 2143 = .ok (.iaload, 1) := by decide +kernel
theorem dL_law_2144 : decode code 2144 = .ok (.invokevirtual 297, 3) := by decide +kernel
theorem dL_law_2147 : decode code 2147 = .ok (.aload_n 2, 1) := by decide +kernel
theorem dL_law_2148 : decode code 2148 = .ok (.aload_n 0, 1) := by decide +kernel
theorem dL_law_2149 : decode code 2149 = .ok (.iload_n 3, 1) := by decide +kernel
theorem dL_law_2150 : decode code 2150 = .ok (.iconst 1, 1) := by decide +kernel
theorem dL_law_2151 : decode code 2151 = .ok (.iadd, 1) := by decide +kernel
theorem dL_law_2152 : decode code 2152 = .ok (.iaload, 1) := by decide +kernel
theorem dL_law_2153 : decode code 2153 = .ok (.aload_n 0, 1) := by decide +kernel
theorem dL_law_2154 : decode code 2154 = .ok (.iload_n 3, 1) := by decide +kernel
theorem dL_law_2155 : decode code 2155 = .ok (.iconst 2, 1) := by decide +kernel
theorem dL_law_2156 : decode code 2156 = .ok (.iadd, 1) := by decide +kernel
theorem dL_law_2157 : decode code 2157 = .ok (.iaload, 1) := by decide +kernel
theorem dL_law_2158 : decode code 2158 = .ok (.aload_n 0, 1) := by decide +kernel
theorem dL_law_2159 : decode code 2159 = .ok (.iload_n 3, 1) := by decide +kernel
theorem dL_law_2160 : decode code 2160 = .ok (.iconst 3, 1) := by decide +kernel
theorem dL_law_2161 : decode code 2161 = .ok (.iadd, 1) := by decide +kernel
theorem dL_law_2162 : decode code 2162 = .ok (.iaload, 1) := by decide +kernel
theorem dL_law_2163 : decode code 2163 = .ok (.invokevirtual 301, 3) := by decide +kernel
theorem dL_law_2166 : decode code 2166 = .ok (.if_icmp .eq 488, 3) := by decide +kernel
theorem dL_law_2169 : decode code 2169 = .ok (.iconst 0, 1) := by decide +kernel
theorem dL_law_2170 : decode code 2170 = .ok (.ireturn, 1) := by decide +kernel
theorem dL_law_2171 : decode code 2171 = .ok (.aload_n 1, 1) := by decide +kernel
theorem dL_law_2172 : decode code 2172 = .ok (.aload_n 0, 1) := by decide +kernel
theorem dL_law_2173 : decode code 2173 = .ok (.iload_n 3, 1) := by decide +kernel
theorem dL_law_2174 : decode code 2174 = .ok (.iconst 1, 1) := by decide +kernel
theorem dL_law_2175 : decode code 2175 = .ok (.iadd, 1) := by decide +kernel
theorem dL_law_2176 : decode code 2176 = .ok (.iaload, 1) := by decide +kernel
theorem dL_law_2177 : decode code 2177 = .ok (.aload_n 0, 1) := by decide +kernel
theorem dL_law_2178 : decode code 2178 = .ok (.iload_n 3, 1) := by decide +kernel
theorem dL_law_2179 : decode code 2179 = .ok (.iconst 2, 1) := by decide +kernel
theorem dL_law_2180 : decode code 2180 = .ok (.iadd, 1) := by decide +kernel
theorem dL_law_2181 : decode code 2181 = .ok (.iaload, 1) := by decide +kernel
theorem dL_law_2182 : decode code 2182 = .ok (.invokevirtual 302, 3) := by decide +kernel
theorem dL_law_2185 : decode code 2185 = .ok (.aload_n 2, 1) := by decide +kernel
theorem dL_law_2186 : decode code 2186 = .ok (.aload_n 0, 1) := by decide +kernel
theorem dL_law_2187 : decode code 2187 = .ok (.iload_n 3, 1) := by decide +kernel
theorem dL_law_2188 : decode code 2188 = .ok (.iconst 1, 1) := by decide +kernel
theorem dL_law_2189 : decode code 2189 = .ok (.iadd, 1) := by decide +kernel
theorem dL_law_2190 : decode code 2190 = .ok (.iaload, 1) := by decide +kernel
theorem dL_law_2191 : decode code 2191 = .ok (.aload_n 0, 1) := by decide +kernel
theorem dL_law_2192 : decode code 2192 = .ok (.iload_n 3, 1) := by decide +kernel
theorem dL_law_2193 : decode code 2193 = .ok (.iconst 2, 1) := by decide +kernel
theorem dL_law_2194 : decode code 2194 = .ok (.iadd, 1) := by decide +kernel
theorem dL_law_2195 : decode code 2195 = .ok (.iaload, 1) := by decide +kernel
theorem dL_law_2196 : decode code 2196 = .ok (.invokevirtual 306, 3) := by decide +kernel
theorem dL_law_2199 : decode code 2199 = .ok (.lcmp, 1) := by decide +kernel
theorem dL_law_2200 : decode code 2200 = .ok (.ifCond .eq 454, 3) := by decide +kernel
theorem dL_law_2203 : decode code 2203 = .ok (.iconst 0, 1) := by decide +kernel
theorem dL_law_2204 : decode code 2204 = .ok (.ireturn, 1) := by decide +kernel
theorem dL_law_2205 : decode code 2205 = .ok (.aload_n 1, 1) := by decide +kernel
theorem dL_law_2206 : decode code 2206 = .ok (.aload_n 0, 1) := by decide +kernel
theorem dL_law_2207 : decode code 2207 = .ok (.iload_n 3, 1) := by decide +kernel
theorem dL_law_2208 : decode code 2208 = .ok (.iconst 1, 1) := by decide +kernel
theorem dL_law_2209 : decode code 2209 = .ok (.iadd, 1) := by decide +kernel
theorem dL_law_2210 : decode code 2210 = .ok (.iaload, 1) := by decide +kernel
theorem dL_law_2211 : decode code 2211 = .ok (.aload_n 0, 1) := by decide +kernel
theorem dL_law_2212 : decode code 2212 = .ok (.iload_n 3, 1) := by decide +kernel
theorem dL_law_2213 : decode code 2213 = .ok (.iconst 2, 1) := by decide +kernel
theorem dL_law_2214 : decode code 2214 = .ok (.iadd, 1) := by decide +kernel
theorem dL_law_2215 : decode code 2215 = .ok (.iaload, 1) := by decide +kernel
theorem dL_law_2216 : decode code 2216 = .ok (.aload_n 0, 1) := by decide +kernel
theorem dL_law_2217 : decode code 2217 = .ok (.iload_n 3, 1) := by decide +kernel
theorem dL_law_2218 : decode code 2218 = .ok (.iconst 3, 1) := by decide +kernel
theorem dL_law_2219 : decode code 2219 = .ok (.iadd, 1) := by decide +kernel
theorem dL_law_2220 : decode code 2220 = .ok (.iaload, 1) := by decide +kernel
theorem dL_law_2221 : decode code 2221 = .ok (.invokevirtual 307, 3) := by decide +kernel
theorem dL_law_2224 : decode code 2224 = .ok (.aload_n 2, 1) := by decide +kernel
theorem dL_law_2225 : decode code 2225 = .ok (.aload_n 0, 1) := by decide +kernel
theorem dL_law_2226 : decode code 2226 = .ok (.iload_n 3, 1) := by decide +kernel
theorem dL_law_2227 : decode code 2227 = .ok (.iconst 1, 1) := by decide +kernel
theorem dL_law_2228 : decode code 2228 = .ok (.iadd, 1) := by decide +kernel
theorem dL_law_2229 : decode code 2229 = .ok (.iaload, 1) := by decide +kernel
theorem dL_law_2230 : decode code 2230 = .ok (.aload_n 0, 1) := by decide +kernel
theorem dL_law_2231 : decode code 2231 = .ok (.iload_n 3, 1) := by decide +kernel
theorem dL_law_2232 : decode code 2232 = .ok (.iconst 2, 1) := by decide +kernel
theorem dL_law_2233 : decode code 2233 = .ok (.iadd, 1) := by decide +kernel
theorem dL_law_2234 : decode code 2234 = .ok (.iaload, 1) := by decide +kernel
theorem dL_law_2235 : decode code 2235 = .ok (.aload_n 0, 1) := by decide +kernel
theorem dL_law_2236 : decode code 2236 = .ok (.iload_n 3, 1) := by decide +kernel
theorem dL_law_2237 : decode code 2237 = .ok (.iconst 3, 1) := by decide +kernel
theorem dL_law_2238 : decode code 2238 = .ok (.iadd, 1) := by decide +kernel
theorem dL_law_2239 : decode code 2239 = .ok (.iaload, 1) := by decide +kernel
theorem dL_law_2240 : decode code 2240 = .ok (.invokevirtual 310, 3) := by decide +kernel
theorem dL_law_2243 : decode code 2243 = .ok (.if_icmp .eq 411, 3) := by decide +kernel
theorem dL_law_2246 : decode code 2246 = .ok (.iconst 0, 1) := by decide +kernel
theorem dL_law_2247 : decode code 2247 = .ok (.ireturn, 1) := by decide +kernel
theorem dL_law_2248 : decode code 2248 = .ok (.aload_n 1, 1) := by decide +kernel
theorem dL_law_2249 : decode code 2249 = .ok (.aload_n 0, 1) := by decide +kernel
theorem dL_law_2250 : decode code 2250 = .ok (.iload_n 3, 1) := by decide +kernel
theorem dL_law_2251 : decode code 2251 = .ok (.iconst 1, 1) := by decide +kernel
theorem dL_law_2252 : decode code 2252 = .ok (.iadd, 1) := by decide +kernel
theorem dL_law_2253 : decode code 2253 = .ok (.iaload, 1) := by decide +kernel
theorem dL_law_2254 : decode code 2254 = .ok (.invokevirtual 311, 3) := by decide +kernel
theorem dL_law_2257 : decode code 2257 = .ok (.aload_n 2, 1) := by decide +kernel
theorem dL_law_2258 : decode code 2258 = .ok (.aload_n 0, 1) := by decide +kernel
theorem dL_law_2259 : decode code 2259 = .ok (.iload_n 3, 1) := by decide +kernel
theorem dL_law_2260 : decode code 2260 = .ok (.iconst 1, 1) := by decide +kernel
theorem dL_law_2261 : decode code 2261 = .ok (.iadd, 1) := by decide +kernel
theorem dL_law_2262 : decode code 2262 = .ok (.iaload, 1) := by decide +kernel
theorem dL_law_2263 : decode code 2263 = .ok (.invokevirtual 314, 3) := by decide +kernel
theorem dL_law_2266 : decode code 2266 = .ok (.if_icmp .eq 388, 3) := by decide +kernel
theorem dL_law_2269 : decode code 2269 = .ok (.iconst 0, 1) := by decide +kernel
theorem dL_law_2270 : decode code 2270 = .ok (.ireturn, 1) := by decide +kernel
theorem dL_law_2271 : decode code 2271 = .ok (.aload_n 1, 1) := by decide +kernel
theorem dL_law_2272 : decode code 2272 = .ok (.invokevirtual 315, 3) := by decide +kernel
theorem dL_law_2275 : decode code 2275 = .ok (.aload_n 2, 1) := by decide +kernel
theorem dL_law_2276 : decode code 2276 = .ok (.invokevirtual 318, 3) := by decide +kernel
theorem dL_law_2279 : decode code 2279 = .ok (.if_icmp .eq 375, 3) := by decide +kernel
theorem dL_law_2282 : decode code 2282 = .ok (.iconst 0, 1) := by decide +kernel
theorem dL_law_2283 : decode code 2283 = .ok (.ireturn, 1) := by decide +kernel
theorem dL_law_2284 : decode code 2284 = .ok (.aload_n 1, 1) := by decide +kernel
theorem dL_law_2285 : decode code 2285 = .ok (.invokevirtual 319, 3) := by decide +kernel
theorem dL_law_2288 : decode code 2288 = .ok (.aload_n 2, 1) := by decide +kernel
theorem dL_law_2289 : decode code 2289 = .ok (.invokevirtual 322, 3) := by decide +kernel
theorem dL_law_2292 : decode code 2292 = .ok (.if_icmp .eq 362, 3) := by decide +kernel
theorem dL_law_2295 : decode code 2295 = .ok (.iconst 0, 1) := by decide +kernel
theorem dL_law_2296 : decode code 2296 = .ok (.ireturn, 1) := by decide +kernel
theorem dL_law_2297 : decode code 2297 = .ok (.aload_n 1, 1) := by decide +kernel
theorem dL_law_2298 : decode code 2298 = .ok (.aload_n 0, 1) := by decide +kernel
theorem dL_law_2299 : decode code 2299 = .ok (.iload_n 3, 1) := by decide +kernel
theorem dL_law_2300 : decode code 2300 = .ok (.iconst 1, 1) := by decide +kernel
theorem dL_law_2301 : decode code 2301 = .ok (.iadd, 1) := by decide +kernel
theorem dL_law_2302 : decode code 2302 = .ok (.iaload, 1) := by decide +kernel
theorem dL_law_2303 : decode code 2303 = .ok (.aload_n 0, 1) := by decide +kernel
theorem dL_law_2304 : decode code 2304 = .ok (.iload_n 3, 1) := by decide +kernel
theorem dL_law_2305 : decode code 2305 = .ok (.iconst 2, 1) := by decide +kernel
theorem dL_law_2306 : decode code 2306 = .ok (.iadd, 1) := by decide +kernel
theorem dL_law_2307 : decode code 2307 = .ok (.iaload, 1) := by decide +kernel
theorem dL_law_2308 : decode code 2308 = .ok (.invokevirtual 323, 3) := by decide +kernel
theorem dL_law_2311 : decode code 2311 = .ok (.aload_n 2, 1) := by decide +kernel
theorem dL_law_2312 : decode code 2312 = .ok (.aload_n 0, 1) := by decide +kernel
theorem dL_law_2313 : decode code 2313 = .ok (.iload_n 3, 1) := by decide +kernel
theorem dL_law_2314 : decode code 2314 = .ok (.iconst 1, 1) := by decide +kernel
theorem dL_law_2315 : decode code 2315 = .ok (.iadd, 1) := by decide +kernel
theorem dL_law_2316 : decode code 2316 = .ok (.iaload, 1) := by decide +kernel
theorem dL_law_2317 : decode code 2317 = .ok (.aload_n 0, 1) := by decide +kernel
theorem dL_law_2318 : decode code 2318 = .ok (.iload_n 3, 1) := by decide +kernel
theorem dL_law_2319 : decode code 2319 = .ok (.iconst 2, 1) := by decide +kernel
theorem dL_law_2320 : decode code 2320 = .ok (.iadd, 1) := by decide +kernel
theorem dL_law_2321 : decode code 2321 = .ok (.iaload, 1) := by decide +kernel
theorem dL_law_2322 : decode code 2322 = .ok (.invokevirtual 326, 3) := by decide +kernel
theorem dL_law_2325 : decode code 2325 = .ok (.if_icmp .eq 329, 3) := by decide +kernel
theorem dL_law_2328 : decode code 2328 = .ok (.iconst 0, 1) := by decide +kernel
theorem dL_law_2329 : decode code 2329 = .ok (.ireturn, 1) := by decide +kernel
theorem dL_law_2330 : decode code 2330 = .ok (.aload_n 1, 1) := by decide +kernel
theorem dL_law_2331 : decode code 2331 = .ok (.aload_n 0, 1) := by decide +kernel
theorem dL_law_2332 : decode code 2332 = .ok (.iload_n 3, 1) := by decide +kernel
theorem dL_law_2333 : decode code 2333 = .ok (.iconst 1, 1) := by decide +kernel
theorem dL_law_2334 : decode code 2334 = .ok (.iadd, 1) := by decide +kernel
theorem dL_law_2335 : decode code 2335 = .ok (.iaload, 1) := by decide +kernel
theorem dL_law_2336 : decode code 2336 = .ok (.aload_n 0, 1) := by decide +kernel
theorem dL_law_2337 : decode code 2337 = .ok (.iload_n 3, 1) := by decide +kernel
theorem dL_law_2338 : decode code 2338 = .ok (.iconst 2, 1) := by decide +kernel
theorem dL_law_2339 : decode code 2339 = .ok (.iadd, 1) := by decide +kernel
theorem dL_law_2340 : decode code 2340 = .ok (.iaload, 1) := by decide +kernel
theorem dL_law_2341 : decode code 2341 = .ok (.aload_n 0, 1) := by decide +kernel
theorem dL_law_2342 : decode code 2342 = .ok (.iload_n 3, 1) := by decide +kernel
theorem dL_law_2343 : decode code 2343 = .ok (.iconst 3, 1) := by decide +kernel
theorem dL_law_2344 : decode code 2344 = .ok (.iadd, 1) := by decide +kernel
theorem dL_law_2345 : decode code 2345 = .ok (.iaload, 1) := by decide +kernel
theorem dL_law_2346 : decode code 2346 = .ok (.invokevirtual 327, 3) := by decide +kernel
theorem dL_law_2349 : decode code 2349 = .ok (.aload_n 2, 1) := by decide +kernel
theorem dL_law_2350 : decode code 2350 = .ok (.aload_n 0, 1) := by decide +kernel
theorem dL_law_2351 : decode code 2351 = .ok (.iload_n 3, 1) := by decide +kernel
theorem dL_law_2352 : decode code 2352 = .ok (.iconst 1, 1) := by decide +kernel
theorem dL_law_2353 : decode code 2353 = .ok (.iadd, 1) := by decide +kernel
theorem dL_law_2354 : decode code 2354 = .ok (.iaload, 1) := by decide +kernel
theorem dL_law_2355 : decode code 2355 = .ok (.aload_n 0, 1) := by decide +kernel
theorem dL_law_2356 : decode code 2356 = .ok (.iload_n 3, 1) := by decide +kernel
theorem dL_law_2357 : decode code 2357 = .ok (.iconst 2, 1) := by decide +kernel
theorem dL_law_2358 : decode code 2358 = .ok (.iadd, 1) := by decide +kernel
theorem dL_law_2359 : decode code 2359 = .ok (.iaload, 1) := by decide +kernel
theorem dL_law_2360 : decode code 2360 = .ok (.aload_n 0, 1) := by decide +kernel
theorem dL_law_2361 : decode code 2361 = .ok (.iload_n 3, 1) := by decide +kernel
theorem dL_law_2362 : decode code 2362 = .ok (.iconst 3, 1) := by decide +kernel
theorem dL_law_2363 : decode code 2363 = .ok (.iadd, 1) := by decide +kernel
theorem dL_law_2364 : decode code 2364 = .ok (.iaload, 1) := by decide +kernel
theorem dL_law_2365 : decode code 2365 = .ok (.invokevirtual 330, 3) := by decide +kernel
theorem dL_law_2368 : decode code 2368 = .ok (.if_icmp .eq 286, 3) := by decide +kernel
theorem dL_law_2371 : decode code 2371 = .ok (.iconst 0, 1) := by decide +kernel
theorem dL_law_2372 : decode code 2372 = .ok (.ireturn, 1) := by decide +kernel
theorem dL_law_2373 : decode code 2373 = .ok (.aload_n 1, 1) := by decide +kernel
theorem dL_law_2374 : decode code 2374 = .ok (.aload_n 0, 1) := by decide +kernel
theorem dL_law_2375 : decode code 2375 = .ok (.iload_n 3, 1) := by decide +kernel
theorem dL_law_2376 : decode code 2376 = .ok (.iconst 1, 1) := by decide +kernel
theorem dL_law_2377 : decode code 2377 = .ok (.iadd, 1) := by decide +kernel
theorem dL_law_2378 : decode code 2378 = .ok (.iaload, 1) := by decide +kernel
theorem dL_law_2379 : decode code 2379 = .ok (.aload_n 0, 1) := by decide +kernel
theorem dL_law_2380 : decode code 2380 = .ok (.iload_n 3, 1) := by decide +kernel
theorem dL_law_2381 : decode code 2381 = .ok (.iconst 2, 1) := by decide +kernel
theorem dL_law_2382 : decode code 2382 = .ok (.iadd, 1) := by decide +kernel
theorem dL_law_2383 : decode code 2383 = .ok (.iaload, 1) := by decide +kernel
theorem dL_law_2384 : decode code 2384 = .ok (.invokevirtual 331, 3) := by decide +kernel
theorem dL_law_2387 : decode code 2387 = .ok (.aload_n 2, 1) := by decide +kernel
theorem dL_law_2388 : decode code 2388 = .ok (.aload_n 0, 1) := by decide +kernel
theorem dL_law_2389 : decode code 2389 = .ok (.iload_n 3, 1) := by decide +kernel
theorem dL_law_2390 : decode code 2390 = .ok (.iconst 1, 1) := by decide +kernel
theorem dL_law_2391 : decode code 2391 = .ok (.iadd, 1) := by decide +kernel
theorem dL_law_2392 : decode code 2392 = .ok (.iaload, 1) := by decide +kernel
theorem dL_law_2393 : decode code 2393 = .ok (.aload_n 0, 1) := by decide +kernel
theorem dL_law_2394 : decode code 2394 = .ok (.iload_n 3, 1) := by decide +kernel
theorem dL_law_2395 : decode code 2395 = .ok (.iconst 2, 1) := by decide +kernel
theorem dL_law_2396 : decode code 2396 = .ok (.iadd, 1) := by decide +kernel
theorem dL_law_2397 : decode code 2397 = .ok (.iaload, 1) := by decide +kernel
theorem dL_law_2398 : decode code 2398 = .ok (.invokevirtual 334, 3) := by decide +kernel
theorem dL_law_2401 : decode code 2401 = .ok (.if_icmp .eq 253, 3) := by decide +kernel
theorem dL_law_2404 : decode code 2404 = .ok (.iconst 0, 1) := by decide +kernel
theorem dL_law_2405 : decode code 2405 = .ok (.ireturn, 1) := by decide +kernel
theorem dL_law_2406 : decode code 2406 = .ok (.aload_n 1, 1) := by decide +kernel
theorem dL_law_2407 : decode code 2407 = .ok (.aload_n 0, 1) := by decide +kernel
theorem dL_law_2408 : decode code 2408 = .ok (.iload_n 3, 1) := by decide +kernel
theorem dL_law_2409 : decode code 2409 = .ok (.iconst 1, 1) := by decide +kernel
theorem dL_law_2410 : decode code 2410 = .ok (.iadd, 1) := by decide +kernel
theorem dL_law_2411 : decode code 2411 = .ok (.iaload, 1) := by decide +kernel
theorem dL_law_2412 : decode code 2412 = .ok (.invokevirtual 335, 3) := by decide +kernel
theorem dL_law_2415 : decode code 2415 = .ok (.aload_n 2, 1) := by decide +kernel
theorem dL_law_2416 : decode code 2416 = .ok (.aload_n 0, 1) := by decide +kernel
theorem dL_law_2417 : decode code 2417 = .ok (.iload_n 3, 1) := by decide +kernel
theorem dL_law_2418 : decode code 2418 = .ok (.iconst 1, 1) := by decide +kernel
theorem dL_law_2419 : decode code 2419 = .ok (.iadd, 1) := by decide +kernel
theorem dL_law_2420 : decode code 2420 = .ok (.iaload, 1) := by decide +kernel
theorem dL_law_2421 : decode code 2421 = .ok (.invokevirtual 338, 3) := by decide +kernel
theorem dL_law_2424 : decode code 2424 = .ok (.if_icmp .eq 230, 3) := by decide +kernel
theorem dL_law_2427 : decode code 2427 = .ok (.iconst 0, 1) := by decide +kernel
theorem dL_law_2428 : decode code 2428 = .ok (.ireturn, 1) := by decide +kernel
theorem dL_law_2429 : decode code 2429 = .ok (.aload_n 1, 1) := by decide +kernel
theorem dL_law_2430 : decode code 2430 = .ok (.aload_n 0, 1) := by decide +kernel
theorem dL_law_2431 : decode code 2431 = .ok (.iload_n 3, 1) := by decide +kernel
theorem dL_law_2432 : decode code 2432 = .ok (.iconst 1, 1) := by decide +kernel
theorem dL_law_2433 : decode code 2433 = .ok (.iadd, 1) := by decide +kernel
theorem dL_law_2434 : decode code 2434 = .ok (.iaload, 1) := by decide +kernel
theorem dL_law_2435 : decode code 2435 = .ok (.invokevirtual 339, 3) := by decide +kernel
theorem dL_law_2438 : decode code 2438 = .ok (.aload_n 2, 1) := by decide +kernel
theorem dL_law_2439 : decode code 2439 = .ok (.aload_n 0, 1) := by decide +kernel
theorem dL_law_2440 : decode code 2440 = .ok (.iload_n 3, 1) := by decide +kernel
theorem dL_law_2441 : decode code 2441 = .ok (.iconst 1, 1) := by decide +kernel
theorem dL_law_2442 : decode code 2442 = .ok (.iadd, 1) := by decide +kernel
theorem dL_law_2443 : decode code 2443 = .ok (.iaload, 1) := by decide +kernel
theorem dL_law_2444 : decode code 2444 = .ok (.invokevirtual 342, 3) := by decide +kernel
theorem dL_law_2447 : decode code 2447 = .ok (.if_icmp .eq 207, 3) := by decide +kernel
theorem dL_law_2450 : decode code 2450 = .ok (.iconst 0, 1) := by decide +kernel
theorem dL_law_2451 : decode code 2451 = .ok (.ireturn, 1) := by decide +kernel
theorem dL_law_2452 : decode code 2452 = .ok (.aload_n 1, 1) := by decide +kernel
theorem dL_law_2453 : decode code 2453 = .ok (.aload_n 0, 1) := by decide +kernel
theorem dL_law_2454 : decode code 2454 = .ok (.iload_n 3, 1) := by decide +kernel
theorem dL_law_2455 : decode code 2455 = .ok (.iconst 1, 1) := by decide +kernel
theorem dL_law_2456 : decode code 2456 = .ok (.iadd, 1) := by decide +kernel
theorem dL_law_2457 : decode code 2457 = .ok (.iaload, 1) := by decide +kernel
theorem dL_law_2458 : decode code 2458 = .ok (.invokevirtual 343, 3) := by decide +kernel
theorem dL_law_2461 : decode code 2461 = .ok (.aload_n 2, 1) := by decide +kernel
theorem dL_law_2462 : decode code 2462 = .ok (.aload_n 0, 1) := by decide +kernel
theorem dL_law_2463 : decode code 2463 = .ok (.iload_n 3, 1) := by decide +kernel
theorem dL_law_2464 : decode code 2464 = .ok (.iconst 1, 1) := by decide +kernel
theorem dL_law_2465 : decode code 2465 = .ok (.iadd, 1) := by decide +kernel
theorem dL_law_2466 : decode code 2466 = .ok (.iaload, 1) := by decide +kernel
theorem dL_law_2467 : decode code 2467 = .ok (.invokevirtual 346, 3) := by decide +kernel
theorem dL_law_2470 : decode code 2470 = .ok (.if_icmp .eq 184, 3) := by decide +kernel
theorem dL_law_2473 : decode code 2473 = .ok (.iconst 0, 1) := by decide +kernel
theorem dL_law_2474 : decode code 2474 = .ok (.ireturn, 1) := by decide +kernel
theorem dL_law_2475 : decode code 2475 = .ok (.aload_n 1, 1) := by decide +kernel
theorem dL_law_2476 : decode code 2476 = .ok (.aload_n 0, 1) := by decide +kernel
theorem dL_law_2477 : decode code 2477 = .ok (.iload_n 3, 1) := by decide +kernel
theorem dL_law_2478 : decode code 2478 = .ok (.iconst 1, 1) := by decide +kernel
theorem dL_law_2479 : decode code 2479 = .ok (.iadd, 1) := by decide +kernel
theorem dL_law_2480 : decode code 2480 = .ok (.iaload, 1) := by decide +kernel
theorem dL_law_2481 : decode code 2481 = .ok (.aload_n 0, 1) := by decide +kernel
theorem dL_law_2482 : decode code 2482 = .ok (.iload_n 3, 1) := by decide +kernel
theorem dL_law_2483 : decode code 2483 = .ok (.iconst 2, 1) := by decide +kernel
theorem dL_law_2484 : decode code 2484 = .ok (.iadd, 1) := by decide +kernel
theorem dL_law_2485 : decode code 2485 = .ok (.iaload, 1) := by decide +kernel
theorem dL_law_2486 : decode code 2486 = .ok (.aload_n 0, 1) := by decide +kernel
theorem dL_law_2487 : decode code 2487 = .ok (.iload_n 3, 1) := by decide +kernel
theorem dL_law_2488 : decode code 2488 = .ok (.iconst 3, 1) := by decide +kernel
theorem dL_law_2489 : decode code 2489 = .ok (.iadd, 1) := by decide +kernel
theorem dL_law_2490 : decode code 2490 = .ok (.iaload, 1) := by decide +kernel
theorem dL_law_2491 : decode code 2491 = .ok (.invokevirtual 347, 3) := by decide +kernel
theorem dL_law_2494 : decode code 2494 = .ok (.aload_n 2, 1) := by decide +kernel
theorem dL_law_2495 : decode code 2495 = .ok (.aload_n 0, 1) := by decide +kernel
theorem dL_law_2496 : decode code 2496 = .ok (.iload_n 3, 1) := by decide +kernel
theorem dL_law_2497 : decode code 2497 = .ok (.iconst 1, 1) := by decide +kernel
theorem dL_law_2498 : decode code 2498 = .ok (.iadd, 1) := by decide +kernel
theorem dL_law_2499 : decode code 2499 = .ok (.iaload, 1) := by decide +kernel
theorem dL_law_2500 : decode code 2500 = .ok (.aload_n 0, 1) := by decide +kernel
theorem dL_law_2501 : decode code 2501 = .ok (.iload_n 3, 1) := by decide +kernel
theorem dL_law_2502 : decode code 2502 = .ok (.iconst 2, 1) := by decide +kernel
theorem dL_law_2503 : decode code 2503 = .ok (.iadd, 1) := by decide +kernel
theorem dL_law_2504 : decode code 2504 = .ok (.iaload, 1) := by decide +kernel
theorem dL_law_2505 : decode code 2505 = .ok (.aload_n 0, 1) := by decide +kernel
theorem dL_law_2506 : decode code 2506 = .ok (.iload_n 3, 1) := by decide +kernel
theorem dL_law_2507 : decode code 2507 = .ok (.iconst 3, 1) := by decide +kernel
theorem dL_law_2508 : decode code 2508 = .ok (.iadd, 1) := by decide +kernel
theorem dL_law_2509 : decode code 2509 = .ok (.iaload, 1) := by decide +kernel
theorem dL_law_2510 : decode code 2510 = .ok (.invokevirtual 350, 3) := by decide +kernel
theorem dL_law_2513 : decode code 2513 = .ok (.if_icmp .eq 141, 3) := by decide +kernel
theorem dL_law_2516 : decode code 2516 = .ok (.iconst 0, 1) := by decide +kernel
theorem dL_law_2517 : decode code 2517 = .ok (.ireturn, 1) := by decide +kernel
theorem dL_law_2518 : decode code 2518 = .ok (.aload_n 1, 1) := by decide +kernel
theorem dL_law_2519 : decode code 2519 = .ok (.aload_n 0, 1) := by decide +kernel
theorem dL_law_2520 : decode code 2520 = .ok (.iload_n 3, 1) := by decide +kernel
theorem dL_law_2521 : decode code 2521 = .ok (.iconst 1, 1) := by decide +kernel
theorem dL_law_2522 : decode code 2522 = .ok (.iadd, 1) := by decide +kernel
theorem dL_law_2523 : decode code 2523 = .ok (.iaload, 1) := by decide +kernel
theorem dL_law_2524 : decode code 2524 = .ok (.aload_n 0, 1) := by decide +kernel
theorem dL_law_2525 : decode code 2525 = .ok (.iload_n 3, 1) := by decide +kernel
theorem dL_law_2526 : decode code 2526 = .ok (.iconst 2, 1) := by decide +kernel
theorem dL_law_2527 : decode code 2527 = .ok (.iadd, 1) := by decide +kernel
theorem dL_law_2528 : decode code 2528 = .ok (.iaload, 1) := by decide +kernel
theorem dL_law_2529 : decode code 2529 = .ok (.aload_n 0, 1) := by decide +kernel
theorem dL_law_2530 : decode code 2530 = .ok (.iload_n 3, 1) := by decide +kernel
theorem dL_law_2531 : decode code 2531 = .ok (.iconst 3, 1) := by decide +kernel
theorem dL_law_2532 : decode code 2532 = .ok (.iadd, 1) := by decide +kernel
theorem dL_law_2533 : decode code 2533 = .ok (.iaload, 1) := by decide +kernel
theorem dL_law_2534 : decode code 2534 = .ok (.i2l, 1) := by decide +kernel
theorem dL_law_2535 : decode code 2535 = .ok (.bipush 32, 2) := by decide +kernel
theorem dL_law_2537 : decode code 2537 = .ok (.lshl, 1) := by decide +kernel
theorem dL_law_2538 : decode code 2538 = .ok (.aload_n 0, 1) := by decide +kernel
theorem dL_law_2539 : decode code 2539 = .ok (.iload_n 3, 1) := by decide +kernel
theorem dL_law_2540 : decode code 2540 = .ok (.iconst 4, 1) := by decide +kernel
theorem dL_law_2541 : decode code 2541 = .ok (.iadd, 1) := by decide +kernel
theorem dL_law_2542 : decode code 2542 = .ok (.iaload, 1) := by decide +kernel
theorem dL_law_2543 : decode code 2543 = .ok (.i2l, 1) := by decide +kernel
theorem dL_law_2544 : decode code 2544 = .ok (.ldc2_w 351, 3) := by decide +kernel
theorem dL_law_2547 : decode code 2547 = .ok (.land, 1) := by decide +kernel
theorem dL_law_2548 : decode code 2548 = .ok (.lor, 1) := by decide +kernel
theorem dL_law_2549 : decode code 2549 = .ok (.invokevirtual 353, 3) := by decide +kernel
theorem dL_law_2552 : decode code 2552 = .ok (.aload_n 2, 1) := by decide +kernel
theorem dL_law_2553 : decode code 2553 = .ok (.aload_n 0, 1) := by decide +kernel
theorem dL_law_2554 : decode code 2554 = .ok (.iload_n 3, 1) := by decide +kernel
theorem dL_law_2555 : decode code 2555 = .ok (.iconst 1, 1) := by decide +kernel
theorem dL_law_2556 : decode code 2556 = .ok (.iadd, 1) := by decide +kernel
theorem dL_law_2557 : decode code 2557 = .ok (.iaload, 1) := by decide +kernel
theorem dL_law_2558 : decode code 2558 = .ok (.aload_n 0, 1) := by decide +kernel
theorem dL_law_2559 : decode code 2559 = .ok (.iload_n 3, 1) := by decide +kernel
theorem dL_law_2560 : decode code 2560 = .ok (.iconst 2, 1) := by decide +kernel
theorem dL_law_2561 : decode code 2561 = .ok (.iadd, 1) := by decide +kernel
theorem dL_law_2562 : decode code 2562 = .ok (.iaload, 1) := by decide +kernel
theorem dL_law_2563 : decode code 2563 = .ok (.aload_n 0, 1) := by decide +kernel
theorem dL_law_2564 : decode code 2564 = .ok (.iload_n 3, 1) := by decide +kernel
theorem dL_law_2565 : decode code 2565 = .ok (.iconst 3, 1) := by decide +kernel
theorem dL_law_2566 : decode code 2566 = .ok (.iadd, 1) := by decide +kernel
theorem dL_law_2567 : decode code 2567 = .ok (.iaload, 1) := by decide +kernel
theorem dL_law_2568 : decode code 2568 = .ok (.i2l, 1) := by decide +kernel
theorem dL_law_2569 : decode code 2569 = .ok (.bipush 32, 2) := by decide +kernel
theorem dL_law_2571 : decode code 2571 = .ok (.lshl, 1) := by decide +kernel
theorem dL_law_2572 : decode code 2572 = .ok (.aload_n 0, 1) := by decide +kernel
theorem dL_law_2573 : decode code 2573 = .ok (.iload_n 3, 1) := by decide +kernel
theorem dL_law_2574 : decode code 2574 = .ok (.iconst 4, 1) := by decide +kernel
theorem dL_law_2575 : decode code 2575 = .ok (.iadd, 1) := by decide +kernel
theorem dL_law_2576 : decode code 2576 = .ok (.iaload, 1) := by decide +kernel
theorem dL_law_2577 : decode code 2577 = .ok (.i2l, 1) := by decide +kernel
theorem dL_law_2578 : decode code 2578 = .ok (.ldc2_w 351, 3) := by decide +kernel
theorem dL_law_2581 : decode code 2581 = .ok (.land, 1) := by decide +kernel
theorem dL_law_2582 : decode code 2582 = .ok (.lor, 1) := by decide +kernel
theorem dL_law_2583 : decode code 2583 = .ok (.invokevirtual 357, 3) := by decide +kernel
theorem dL_law_2586 : decode code 2586 = .ok (.if_icmp .eq 68, 3) := by decide +kernel
theorem dL_law_2589 : decode code 2589 = .ok (.iconst 0, 1) := by decide +kernel
theorem dL_law_2590 : decode code 2590 = .ok (.ireturn, 1) := by decide +kernel
theorem dL_law_2591 : decode code 2591 = .ok (.aload_n 1, 1) := by decide +kernel
theorem dL_law_2592 : decode code 2592 = .ok (.aload_n 0, 1) := by decide +kernel
theorem dL_law_2593 : decode code 2593 = .ok (.iload_n 3, 1) := by decide +kernel
theorem dL_law_2594 : decode code 2594 = .ok (.iconst 1, 1) := by decide +kernel
theorem dL_law_2595 : decode code 2595 = .ok (.iadd, 1) := by decide +kernel
theorem dL_law_2596 : decode code 2596 = .ok (.iaload, 1) := by decide +kernel
theorem dL_law_2597 : decode code 2597 = .ok (.aload_n 0, 1) := by decide +kernel
theorem dL_law_2598 : decode code 2598 = .ok (.iload_n 3, 1) := by decide +kernel
theorem dL_law_2599 : decode code 2599 = .ok (.iconst 2, 1) := by decide +kernel
theorem dL_law_2600 : decode code 2600 = .ok (.iadd, 1) := by decide +kernel
theorem dL_law_2601 : decode code 2601 = .ok (.iaload, 1) := by decide +kernel
theorem dL_law_2602 : decode code 2602 = .ok (.aload_n 0, 1) := by decide +kernel
theorem dL_law_2603 : decode code 2603 = .ok (.iload_n 3, 1) := by decide +kernel
theorem dL_law_2604 : decode code 2604 = .ok (.iconst 3, 1) := by decide +kernel
theorem dL_law_2605 : decode code 2605 = .ok (.iadd, 1) := by decide +kernel
theorem dL_law_2606 : decode code 2606 = .ok (.iaload, 1) := by decide +kernel
theorem dL_law_2607 : decode code 2607 = .ok (.aload_n 0, 1) := by decide +kernel
theorem dL_law_2608 : decode code 2608 = .ok (.iload_n 3, 1) := by decide +kernel
theorem dL_law_2609 : decode code 2609 = .ok (.iconst 4, 1) := by decide +kernel
theorem dL_law_2610 : decode code 2610 = .ok (.iadd, 1) := by decide +kernel
theorem dL_law_2611 : decode code 2611 = .ok (.iaload, 1) := by decide +kernel
theorem dL_law_2612 : decode code 2612 = .ok (.aload_n 0, 1) := by decide +kernel
theorem dL_law_2613 : decode code 2613 = .ok (.iload_n 3, 1) := by decide +kernel
theorem dL_law_2614 : decode code 2614 = .ok (.iconst 5, 1) := by decide +kernel
theorem dL_law_2615 : decode code 2615 = .ok (.iadd, 1) := by decide +kernel
theorem dL_law_2616 : decode code 2616 = .ok (.iaload, 1) := by decide +kernel
theorem dL_law_2617 : decode code 2617 = .ok (.invokevirtual 358, 3) := by decide +kernel
theorem dL_law_2620 : decode code 2620 = .ok (.aload_n 2, 1) := by decide +kernel
theorem dL_law_2621 : decode code 2621 = .ok (.aload_n 0, 1) := by decide +kernel
theorem dL_law_2622 : decode code 2622 = .ok (.iload_n 3, 1) := by decide +kernel
theorem dL_law_2623 : decode code 2623 = .ok (.iconst 1, 1) := by decide +kernel
theorem dL_law_2624 : decode code 2624 = .ok (.iadd, 1) := by decide +kernel
theorem dL_law_2625 : decode code 2625 = .ok (.iaload, 1) := by decide +kernel
theorem dL_law_2626 : decode code 2626 = .ok (.aload_n 0, 1) := by decide +kernel
theorem dL_law_2627 : decode code 2627 = .ok (.iload_n 3, 1) := by decide +kernel
theorem dL_law_2628 : decode code 2628 = .ok (.iconst 2, 1) := by decide +kernel
theorem dL_law_2629 : decode code 2629 = .ok (.iadd, 1) := by decide +kernel
theorem dL_law_2630 : decode code 2630 = .ok (.iaload, 1) := by decide +kernel
theorem dL_law_2631 : decode code 2631 = .ok (.aload_n 0, 1) := by decide +kernel
theorem dL_law_2632 : decode code 2632 = .ok (.iload_n 3, 1) := by decide +kernel
theorem dL_law_2633 : decode code 2633 = .ok (.iconst 3, 1) := by decide +kernel
theorem dL_law_2634 : decode code 2634 = .ok (.iadd, 1) := by decide +kernel
theorem dL_law_2635 : decode code 2635 = .ok (.iaload, 1) := by decide +kernel
theorem dL_law_2636 : decode code 2636 = .ok (.aload_n 0, 1) := by decide +kernel
theorem dL_law_2637 : decode code 2637 = .ok (.iload_n 3, 1) := by decide +kernel
theorem dL_law_2638 : decode code 2638 = .ok (.iconst 4, 1) := by decide +kernel
theorem dL_law_2639 : decode code 2639 = .ok (.iadd, 1) := by decide +kernel
theorem dL_law_2640 : decode code 2640 = .ok (.iaload, 1) := by decide +kernel
theorem dL_law_2641 : decode code 2641 = .ok (.aload_n 0, 1) := by decide +kernel
theorem dL_law_2642 : decode code 2642 = .ok (.iload_n 3, 1) := by decide +kernel
theorem dL_law_2643 : decode code 2643 = .ok (.iconst 5, 1) := by decide +kernel
theorem dL_law_2644 : decode code 2644 = .ok (.iadd, 1) := by decide +kernel
theorem dL_law_2645 : decode code 2645 = .ok (.iaload, 1) := by decide +kernel
theorem dL_law_2646 : decode code 2646 = .ok (.invokevirtual 361, 3) := by decide +kernel
theorem dL_law_2649 : decode code 2649 = .ok (.if_icmp .eq 5, 3) := by decide +kernel
theorem dL_law_2652 : decode code 2652 = .ok (.iconst 0, 1) := by decide +kernel
theorem dL_law_2653 : decode code 2653 = .ok (.ireturn, 1) := by decide +kernel
theorem dL_law_2654 : decode code 2654 = .ok (.iinc 3 6, 3) := by decide +kernel
theorem dL_law_2657 : decode code 2657 = .ok (.goto (-2639), 3) := by decide +kernel
theorem dL_law_2660 : decode code 2660 = .ok (.iconst 1, 1) := by decide +kernel
theorem dL_law_2661 : decode code 2661 = .ok (.ireturn, 1) := by decide +kernel
