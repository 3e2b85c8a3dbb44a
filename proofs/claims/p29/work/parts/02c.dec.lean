theorem dL_law_338 : decode cL_law 338 = .ok (.idiv, 1) := by decide +kernel
theorem dL_law_339 : decode cL_law 339 = .ok (.iload 19, 2) := by decide +kernel
theorem dL_law_341 : decode cL_law 341 = .ok (.iconst 4, 1) := by decide +kernel
theorem dL_law_342 : decode cL_law 342 = .ok (.irem, 1) := by decide +kernel
theorem dL_law_343 : decode cL_law 343 = .ok (.invokestatic 47, 3) := by decide +kernel
theorem dL_law_346 : decode cL_law 346 = .ok (.istore 20, 2) := by decide +kernel
theorem dL_law_348 : decode cL_law 348 = .ok (.iload 20, 2) := by decide +kernel
theorem dL_law_350 : decode cL_law 350 = .ok (.ifCond .lt 7, 3) := by decide +kernel
theorem dL_law_353 : decode cL_law 353 = .ok (.iconst 1, 1) := by decide +kernel
theorem dL_law_354 : decode cL_law 354 = .ok (.goto 4, 3) := by decide +kernel
theorem dL_law_357 : decode cL_law 357 = .ok (.iconst 0, 1) := by decide +kernel
theorem dL_law_358 : decode cL_law 358 = .ok (.istore 17, 2) := by decide +kernel
theorem dL_law_360 : decode cL_law 360 = .ok (.iload 17, 2) := by decide +kernel
theorem dL_law_362 : decode cL_law 362 = .ok (.ifCond .eq 18, 3) := by decide +kernel
theorem dL_law_365 : decode cL_law 365 = .ok (.iload 20, 2) := by decide +kernel
theorem dL_law_367 : decode cL_law 367 = .ok (.iload 7, 2) := by decide +kernel
theorem dL_law_369 : decode cL_law 369 = .ok (.ishr, 1) := by decide +kernel
theorem dL_law_370 : decode cL_law 370 = .ok (.iconst 1, 1) := by decide +kernel
theorem dL_law_371 : decode cL_law 371 = .ok (.iand, 1) := by decide +kernel
theorem dL_law_372 : decode cL_law 372 = .ok (.iconst 1, 1) := by decide +kernel
theorem dL_law_373 : decode cL_law 373 = .ok (.if_icmp .ne 7, 3) := by decide +kernel
theorem dL_law_376 : decode cL_law 376 = .ok (.iconst 1, 1) := by decide +kernel
theorem dL_law_377 : decode cL_law 377 = .ok (.goto 4, 3) := by decide +kernel
theorem dL_law_380 : decode cL_law 380 = .ok (.iconst 0, 1) := by decide +kernel
theorem dL_law_381 : decode cL_law 381 = .ok (.istore 16, 2) := by decide +kernel
theorem dL_law_383 : decode cL_law 383 = .ok (.iinc 18 1, 3) := by decide +kernel
theorem dL_law_386 : decode cL_law 386 = .ok (.goto (-98), 3) := by decide +kernel
theorem dL_law_389 : decode cL_law 389 = .ok (.iload 17, 2) := by decide +kernel
theorem dL_law_391 : decode cL_law 391 = .ok (.ifCond .eq 16, 3) := by decide +kernel
theorem dL_law_394 : decode cL_law 394 = .ok (.iload 16, 2) := by decide +kernel
theorem dL_law_396 : decode cL_law 396 = .ok (.ifCond .eq 11, 3) := by decide +kernel
theorem dL_law_399 : decode cL_law 399 = .ok (.iload 11, 2) := by decide +kernel
theorem dL_law_401 : decode cL_law 401 = .ok (.istore 8, 2) := by decide +kernel
theorem dL_law_403 : decode cL_law 403 = .ok (.iload 12, 2) := by decide +kernel
theorem dL_law_405 : decode cL_law 405 = .ok (.istore 9, 2) := by decide +kernel
theorem dL_law_407 : decode cL_law 407 = .ok (.iinc 12 1, 3) := by decide +kernel
theorem dL_law_410 : decode cL_law 410 = .ok (.goto (-179), 3) := by decide +kernel
theorem dL_law_413 : decode cL_law 413 = .ok (.iinc 11 1, 3) := by decide +kernel
theorem dL_law_416 : decode cL_law 416 = .ok (.goto (-206), 3) := by decide +kernel
theorem dL_law_419 : decode cL_law 419 = .ok (.aload_n 1, 1) := by decide +kernel
theorem dL_law_420 : decode cL_law 420 = .ok (.iload 7, 2) := by decide +kernel
theorem dL_law_422 : decode cL_law 422 = .ok (.iconst (-1), 1) := by decide +kernel
theorem dL_law_423 : decode cL_law 423 = .ok (.invokevirtual 53, 3) := by decide +kernel
theorem dL_law_426 : decode cL_law 426 = .ok (.istore 11, 2) := by decide +kernel
theorem dL_law_428 : decode cL_law 428 = .ok (.iload 8, 2) := by decide +kernel
theorem dL_law_430 : decode cL_law 430 = .ok (.ifCond .le 13, 3) := by decide +kernel
theorem dL_law_433 : decode cL_law 433 = .ok (.iload 11, 2) := by decide +kernel
theorem dL_law_435 : decode cL_law 435 = .ok (.iload 8, 2) := by decide +kernel
theorem dL_law_437 : decode cL_law 437 = .ok (.if_icmp .eq 24, 3) := by decide +kernel
theorem dL_law_440 : decode cL_law 440 = .ok (.goto 19, 3) := by decide +kernel
theorem dL_law_443 : decode cL_law 443 = .ok (.iload 11, 2) := by decide +kernel
theorem dL_law_445 : decode cL_law 445 = .ok (.ifCond .le 9, 3) := by decide +kernel
theorem dL_law_448 : decode cL_law 448 = .ok (.iload 11, 2) := by decide +kernel
theorem dL_law_450 : decode cL_law 450 = .ok (.iconst 4, 1) := by decide +kernel
theorem dL_law_451 : decode cL_law 451 = .ok (.if_icmp .lt 8, 3) := by decide +kernel
theorem dL_law_454 : decode cL_law 454 = .ok (.iload 11, 2) := by decide +kernel
theorem dL_law_456 : decode cL_law 456 = .ok (.ifCond .ne 5, 3) := by decide +kernel
theorem dL_law_459 : decode cL_law 459 = .ok (.iconst 0, 1) := by decide +kernel
theorem dL_law_460 : decode cL_law 460 = .ok (.ireturn, 1) := by decide +kernel
theorem dL_law_461 : decode cL_law 461 = .ok (.iload 10, 2) := by decide +kernel
theorem dL_law_463 : decode cL_law 463 = .ok (.iload 4, 2) := by decide +kernel
theorem dL_law_465 : decode cL_law 465 = .ok (.ifCond .le 8, 3) := by decide +kernel
theorem dL_law_468 : decode cL_law 468 = .ok (.iload 4, 2) := by decide +kernel
theorem dL_law_470 : decode cL_law 470 = .ok (.goto 4, 3) := by decide +kernel
theorem dL_law_473 : decode cL_law 473 = .ok (.iconst 1, 1) := by decide +kernel
theorem dL_law_474 : decode cL_law 474 = .ok (.idiv, 1) := by decide +kernel
theorem dL_law_475 : decode cL_law 475 = .ok (.istore 12, 2) := by decide +kernel
theorem dL_law_477 : decode cL_law 477 = .ok (.iconst 0, 1) := by decide +kernel
theorem dL_law_478 : decode cL_law 478 = .ok (.istore 13, 2) := by decide +kernel
theorem dL_law_480 : decode cL_law 480 = .ok (.iload 13, 2) := by decide +kernel
theorem dL_law_482 : decode cL_law 482 = .ok (.iload 8, 2) := by decide +kernel
theorem dL_law_484 : decode cL_law 484 = .ok (.if_icmp .ge 63, 3) := by decide +kernel
theorem dL_law_487 : decode cL_law 487 = .ok (.iload 9, 2) := by decide +kernel
theorem dL_law_489 : decode cL_law 489 = .ok (.iload 12, 2) := by decide +kernel
theorem dL_law_491 : decode cL_law 491 = .ok (.idiv, 1) := by decide +kernel
theorem dL_law_492 : decode cL_law 492 = .ok (.iload 4, 2) := by decide +kernel
theorem dL_law_494 : decode cL_law 494 = .ok (.irem, 1) := by decide +kernel
theorem dL_law_495 : decode cL_law 495 = .ok (.istore 14, 2) := by decide +kernel
theorem dL_law_497 : decode cL_law 497 = .ok (.iload 12, 2) := by decide +kernel
theorem dL_law_499 : decode cL_law 499 = .ok (.iload 4, 2) := by decide +kernel
theorem dL_law_501 : decode cL_law 501 = .ok (.idiv, 1) := by decide +kernel
theorem dL_law_502 : decode cL_law 502 = .ok (.ifCond .le 11, 3) := by decide +kernel
theorem dL_law_505 : decode cL_law 505 = .ok (.iload 12, 2) := by decide +kernel
theorem dL_law_507 : decode cL_law 507 = .ok (.iload 4, 2) := by decide +kernel
theorem dL_law_509 : decode cL_law 509 = .ok (.idiv, 1) := by decide +kernel
theorem dL_law_510 : decode cL_law 510 = .ok (.goto 4, 3) := by decide +kernel
theorem dL_law_513 : decode cL_law 513 = .ok (.iconst 1, 1) := by decide +kernel
theorem dL_law_514 : decode cL_law 514 = .ok (.istore 12, 2) := by decide +kernel
theorem dL_law_516 : decode cL_law 516 = .ok (.aload_n 1, 1) := by decide +kernel
theorem dL_law_517 : decode cL_law 517 = .ok (.iload 7, 2) := by decide +kernel
theorem dL_law_519 : decode cL_law 519 = .ok (.iload 13, 2) := by decide +kernel
theorem dL_law_521 : decode cL_law 521 = .ok (.invokevirtual 53, 3) := by decide +kernel
theorem dL_law_524 : decode cL_law 524 = .ok (.bipush 10, 2) := by decide +kernel
theorem dL_law_526 : decode cL_law 526 = .ok (.iload 14, 2) := by decide +kernel
theorem dL_law_528 : decode cL_law 528 = .ok (.iconst 4, 1) := by decide +kernel
theorem dL_law_529 : decode cL_law 529 = .ok (.idiv, 1) := by decide +kernel
theorem dL_law_530 : decode cL_law 530 = .ok (.imul, 1) := by decide +kernel
theorem dL_law_531 : decode cL_law 531 = .ok (.iload 14, 2) := by decide +kernel
theorem dL_law_533 : decode cL_law 533 = .ok (.iconst 4, 1) := by decide +kernel
theorem dL_law_534 : decode cL_law 534 = .ok (.irem, 1) := by decide +kernel
theorem dL_law_535 : decode cL_law 535 = .ok (.iadd, 1) := by decide +kernel
theorem dL_law_536 : decode cL_law 536 = .ok (.if_icmp .eq 5, 3) := by decide +kernel
theorem dL_law_539 : decode cL_law 539 = .ok (.iconst 0, 1) := by decide +kernel
theorem dL_law_540 : decode cL_law 540 = .ok (.ireturn, 1) := by decide +kernel
theorem dL_law_541 : decode cL_law 541 = .ok (.iinc 13 1, 3) := by decide +kernel
theorem dL_law_544 : decode cL_law 544 = .ok (.goto (-64), 3) := by decide +kernel
theorem dL_law_547 : decode cL_law 547 = .ok (.iload 11, 2) := by decide +kernel
theorem dL_law_549 : decode cL_law 549 = .ok (.iconst 3, 1) := by decide +kernel
theorem dL_law_550 : decode cL_law 550 = .ok (.if_icmp .le 113, 3) := by decide +kernel
theorem dL_law_553 : decode cL_law 553 = .ok (.aload 5, 2) := by decide +kernel
theorem dL_law_555 : decode cL_law 555 = .ok (.invokestatic 44, 3) := by decide +kernel
theorem dL_law_558 : decode cL_law 558 = .ok (.astore 13, 2) := by decide +kernel
theorem dL_law_560 : decode cL_law 560 = .ok (.iconst 3, 1) := by decide +kernel
theorem dL_law_561 : decode cL_law 561 = .ok (.newarray .long, 2) := by decide +kernel
theorem dL_law_563 : decode cL_law 563 = .ok (.astore 14, 2) := by decide +kernel
theorem dL_law_565 : decode cL_law 565 = .ok (.aload 14, 2) := by decide +kernel
theorem dL_law_567 : decode cL_law 567 = .ok (.iconst 0, 1) := by decide +kernel
theorem dL_law_568 : decode cL_law 568 = .ok (.aload 6, 2) := by decide +kernel
theorem dL_law_570 : decode cL_law 570 = .ok (.iconst 0, 1) := by decide +kernel
theorem dL_law_571 : decode cL_law 571 = .ok (.laload, 1) := by decide +kernel
theorem dL_law_572 : decode cL_law 572 = .ok (.lastore, 1) := by decide +kernel
theorem dL_law_573 : decode cL_law 573 = .ok (.iconst 0, 1) := by decide +kernel
theorem dL_law_574 : decode cL_law 574 = .ok (.istore 15, 2) := by decide +kernel
theorem dL_law_576 : decode cL_law 576 = .ok (.iconst 0, 1) := by decide +kernel
theorem dL_law_577 : decode cL_law 577 = .ok (.istore 16, 2) := by decide +kernel
theorem dL_law_579 : decode cL_law 579 = .ok (.iload 16, 2) := by decide +kernel
theorem dL_law_581 : decode cL_law 581 = .ok (.iload 11, 2) := by decide +kernel
theorem dL_law_583 : decode cL_law 583 = .ok (.if_icmp .ge 80, 3) := by decide +kernel
theorem dL_law_586 : decode cL_law 586 = .ok (.aload_n 1, 1) := by decide +kernel
theorem dL_law_587 : decode cL_law 587 = .ok (.iload 7, 2) := by decide +kernel
theorem dL_law_589 : decode cL_law 589 = .ok (.iload 16, 2) := by decide +kernel
theorem dL_law_591 : decode cL_law 591 = .ok (.invokevirtual 53, 3) := by decide +kernel
theorem dL_law_594 : decode cL_law 594 = .ok (.istore 17, 2) := by decide +kernel
theorem dL_law_596 : decode cL_law 596 = .ok (.aload_n 2, 1) := by decide +kernel
theorem dL_law_597 : decode cL_law 597 = .ok (.aload_n 3, 1) := by decide +kernel
theorem dL_law_598 : decode cL_law 598 = .ok (.aload 13, 2) := by decide +kernel
theorem dL_law_600 : decode cL_law 600 = .ok (.aload 14, 2) := by decide +kernel
theorem dL_law_602 : decode cL_law 602 = .ok (.iload 17, 2) := by decide +kernel
theorem dL_law_604 : decode cL_law 604 = .ok (.bipush 10, 2) := by decide +kernel
theorem dL_law_606 : decode cL_law 606 = .ok (.idiv, 1) := by decide +kernel
theorem dL_law_607 : decode cL_law 607 = .ok (.iload 17, 2) := by decide +kernel
theorem dL_law_609 : decode cL_law 609 = .ok (.bipush 10, 2) := by decide +kernel
theorem dL_law_611 : decode cL_law 611 = .ok (.irem, 1) := by decide +kernel
theorem dL_law_612 : decode cL_law 612 = .ok (.invokestatic 47, 3) := by decide +kernel
theorem dL_law_615 : decode cL_law 615 = .ok (.istore 15, 2) := by decide +kernel
theorem dL_law_617 : decode cL_law 617 = .ok (.iload 15, 2) := by decide +kernel
theorem dL_law_619 : decode cL_law 619 = .ok (.ifCond .lt 36, 3) := by decide +kernel
theorem dL_law_622 : decode cL_law 622 = .ok (.iload 15, 2) := by decide +kernel
theorem dL_law_624 : decode cL_law 624 = .ok (.iload 7, 2) := by decide +kernel
theorem dL_law_626 : decode cL_law 626 = .ok (.ishr, 1) := by decide +kernel
theorem dL_law_627 : decode cL_law 627 = .ok (.iconst 1, 1) := by decide +kernel
theorem dL_law_628 : decode cL_law 628 = .ok (.iand, 1) := by decide +kernel
theorem dL_law_629 : decode cL_law 629 = .ok (.iconst 1, 1) := by decide +kernel
theorem dL_law_630 : decode cL_law 630 = .ok (.if_icmp .ne 7, 3) := by decide +kernel
theorem dL_law_633 : decode cL_law 633 = .ok (.iconst 1, 1) := by decide +kernel
theorem dL_law_634 : decode cL_law 634 = .ok (.goto 4, 3) := by decide +kernel
theorem dL_law_637 : decode cL_law 637 = .ok (.iconst 0, 1) := by decide +kernel
theorem dL_law_638 : decode cL_law 638 = .ok (.iload 16, 2) := by decide +kernel
theorem dL_law_640 : decode cL_law 640 = .ok (.iload 11, 2) := by decide +kernel
theorem dL_law_642 : decode cL_law 642 = .ok (.iconst 1, 1) := by decide +kernel
theorem dL_law_643 : decode cL_law 643 = .ok (.isub, 1) := by decide +kernel
theorem dL_law_644 : decode cL_law 644 = .ok (.if_icmp .ne 7, 3) := by decide +kernel
theorem dL_law_647 : decode cL_law 647 = .ok (.iconst 1, 1) := by decide +kernel
theorem dL_law_648 : decode cL_law 648 = .ok (.goto 4, 3) := by decide +kernel
theorem dL_law_651 : decode cL_law 651 = .ok (.iconst 0, 1) := by decide +kernel
theorem dL_law_652 : decode cL_law 652 = .ok (.if_icmp .eq 5, 3) := by decide +kernel
theorem dL_law_655 : decode cL_law 655 = .ok (.iconst 0, 1) := by decide +kernel
theorem dL_law_656 : decode cL_law 656 = .ok (.ireturn, 1) := by decide +kernel
theorem dL_law_657 : decode cL_law 657 = .ok (.iinc 16 1, 3) := by decide +kernel
theorem dL_law_660 : decode cL_law 660 = .ok (.goto (-81), 3) := by decide +kernel
theorem dL_law_663 : decode cL_law 663 = .ok (.aload_n 1, 1) := by decide +kernel
theorem dL_law_664 : decode cL_law 664 = .ok (.iload 7, 2) := by decide +kernel
theorem dL_law_666 : decode cL_law 666 = .ok (.iload 11, 2) := by decide +kernel
theorem dL_law_668 : decode cL_law 668 = .ok (.ifCond .le 8, 3) := by decide +kernel
theorem dL_law_671 : decode cL_law 671 = .ok (.iload 11, 2) := by decide +kernel
theorem dL_law_673 : decode cL_law 673 = .ok (.goto 4, 3) := by decide +kernel
theorem dL_law_676 : decode cL_law 676 = .ok (.iconst 0, 1) := by decide +kernel
theorem dL_law_677 : decode cL_law 677 = .ok (.invokevirtual 53, 3) := by decide +kernel
theorem dL_law_680 : decode cL_law 680 = .ok (.iload 11, 2) := by decide +kernel
theorem dL_law_682 : decode cL_law 682 = .ok (.bipush (-5), 2) := by decide +kernel
theorem dL_law_684 : decode cL_law 684 = .ok (.if_icmp .ne 8, 3) := by decide +kernel
theorem dL_law_687 : decode cL_law 687 = .ok (.bipush (-5), 2) := by decide +kernel
theorem dL_law_689 : decode cL_law 689 = .ok (.goto 5, 3) := by decide +kernel
theorem dL_law_692 : decode cL_law 692 = .ok (.bipush (-9), 2) := by decide +kernel
theorem dL_law_694 : decode cL_law 694 = .ok (.if_icmp .eq 5, 3) := by decide +kernel
theorem dL_law_697 : decode cL_law 697 = .ok (.iconst 0, 1) := by decide +kernel
theorem dL_law_698 : decode cL_law 698 = .ok (.ireturn, 1) := by decide +kernel
theorem dL_law_699 : decode cL_law 699 = .ok (.iinc 7 1, 3) := by decide +kernel
theorem dL_law_702 : decode cL_law 702 = .ok (.goto (-511), 3) := by decide +kernel
theorem dL_law_705 : decode cL_law 705 = .ok (.iconst 0, 1) := by decide +kernel
theorem dL_law_706 : decode cL_law 706 = .ok (.istore 7, 2) := by decide +kernel
theorem dL_law_708 : decode cL_law 708 = .ok (.iload 7, 2) := by decide +kernel
theorem dL_law_710 : decode cL_law 710 = .ok (.iconst 2, 1) := by decide +kernel
theorem dL_law_711 : decode cL_law 711 = .ok (.if_icmp .ge 251, 3) := by decide +kernel
theorem dL_law_714 : decode cL_law 714 = .ok (.bipush (-9), 2) := by decide +kernel
theorem dL_law_716 : decode cL_law 716 = .ok (.istore 8, 2) := by decide +kernel
theorem dL_law_718 : decode cL_law 718 = .ok (.bipush (-9), 2) := by decide +kernel
theorem dL_law_720 : decode cL_law 720 = .ok (.istore 9, 2) := by decide +kernel
theorem dL_law_722 : decode cL_law 722 = .ok (.iconst 0, 1) := by decide +kernel
theorem dL_law_723 : decode cL_law 723 = .ok (.istore 10, 2) := by decide +kernel
theorem dL_law_725 : decode cL_law 725 = .ok (.iconst 0, 1) := by decide +kernel
theorem dL_law_726 : decode cL_law 726 = .ok (.istore 11, 2) := by decide +kernel
theorem dL_law_728 : decode cL_law 728 = .ok (.iload 11, 2) := by decide +kernel
theorem dL_law_730 : decode cL_law 730 = .ok (.iload 4, 2) := by decide +kernel
theorem dL_law_732 : decode cL_law 732 = .ok (.if_icmp .ge 74, 3) := by decide +kernel
theorem dL_law_735 : decode cL_law 735 = .ok (.aload_n 2, 1) := by decide +kernel
theorem dL_law_736 : decode cL_law 736 = .ok (.aload_n 3, 1) := by decide +kernel
theorem dL_law_737 : decode cL_law 737 = .ok (.aload 5, 2) := by decide +kernel
theorem dL_law_739 : decode cL_law 739 = .ok (.aload 6, 2) := by decide +kernel
theorem dL_law_741 : decode cL_law 741 = .ok (.iconst 0, 1) := by decide +kernel
theorem dL_law_742 : decode cL_law 742 = .ok (.laload, 1) := by decide +kernel
theorem dL_law_743 : decode cL_law 743 = .ok (.iload 11, 2) := by decide +kernel
theorem dL_law_745 : decode cL_law 745 = .ok (.iload 7, 2) := by decide +kernel
theorem dL_law_747 : decode cL_law 747 = .ok (.iconst 1, 1) := by decide +kernel
theorem dL_law_748 : decode cL_law 748 = .ok (.invokestatic 56, 3) := by decide +kernel
theorem dL_law_751 : decode cL_law 751 = .ok (.istore 12, 2) := by decide +kernel
theorem dL_law_753 : decode cL_law 753 = .ok (.iload 10, 2) := by decide +kernel
theorem dL_law_755 : decode cL_law 755 = .ok (.ifCond .ne 10, 3) := by decide +kernel
theorem dL_law_758 : decode cL_law 758 = .ok (.iload 12, 2) := by decide +kernel
theorem dL_law_760 : decode cL_law 760 = .ok (.bipush (-2), 2) := by decide +kernel
theorem dL_law_762 : decode cL_law 762 = .ok (.if_icmp .le 7, 3) := by decide +kernel
theorem dL_law_765 : decode cL_law 765 = .ok (.iconst 1, 1) := by decide +kernel
theorem dL_law_766 : decode cL_law 766 = .ok (.goto 4, 3) := by decide +kernel
theorem dL_law_769 : decode cL_law 769 = .ok (.iconst 0, 1) := by decide +kernel
theorem dL_law_770 : decode cL_law 770 = .ok (.istore 10, 2) := by decide +kernel
theorem dL_law_772 : decode cL_law 772 = .ok (.iload 12, 2) := by decide +kernel
theorem dL_law_774 : decode cL_law 774 = .ok (.iconst 1, 1) := by decide +kernel
theorem dL_law_775 : decode cL_law 775 = .ok (.if_icmp .ne 25, 3) := by decide +kernel
theorem dL_law_778 : decode cL_law 778 = .ok (.iload 8, 2) := by decide +kernel
theorem dL_law_780 : decode cL_law 780 = .ok (.ifCond .ge 20, 3) := by decide +kernel
theorem dL_law_783 : decode cL_law 783 = .ok (.iconst 1, 1) := by decide +kernel
theorem dL_law_784 : decode cL_law 784 = .ok (.istore 8, 2) := by decide +kernel
theorem dL_law_786 : decode cL_law 786 = .ok (.bipush 10, 2) := by decide +kernel
theorem dL_law_788 : decode cL_law 788 = .ok (.iload 11, 2) := by decide +kernel
theorem dL_law_790 : decode cL_law 790 = .ok (.iconst 4, 1) := by decide +kernel
theorem dL_law_791 : decode cL_law 791 = .ok (.idiv, 1) := by decide +kernel
theorem dL_law_792 : decode cL_law 792 = .ok (.imul, 1) := by decide +kernel
theorem dL_law_793 : decode cL_law 793 = .ok (.iload 11, 2) := by decide +kernel
theorem dL_law_795 : decode cL_law 795 = .ok (.iconst 4, 1) := by decide +kernel
theorem dL_law_796 : decode cL_law 796 = .ok (.irem, 1) := by decide +kernel
theorem dL_law_797 : decode cL_law 797 = .ok (.iadd, 1) := by decide +kernel
theorem dL_law_798 : decode cL_law 798 = .ok (.istore 9, 2) := by decide +kernel
theorem dL_law_800 : decode cL_law 800 = .ok (.iinc 11 1, 3) := by decide +kernel
theorem dL_law_803 : decode cL_law 803 = .ok (.goto (-75), 3) := by decide +kernel
theorem dL_law_806 : decode cL_law 806 = .ok (.iconst 2, 1) := by decide +kernel
theorem dL_law_807 : decode cL_law 807 = .ok (.istore 11, 2) := by decide +kernel
theorem dL_law_809 : decode cL_law 809 = .ok (.iload 11, 2) := by decide +kernel
theorem dL_law_811 : decode cL_law 811 = .ok (.iconst 4, 1) := by decide +kernel
theorem dL_law_812 : decode cL_law 812 = .ok (.if_icmp .ge 92, 3) := by decide +kernel
theorem dL_law_815 : decode cL_law 815 = .ok (.iload 8, 2) := by decide +kernel
theorem dL_law_817 : decode cL_law 817 = .ok (.ifCond .ge 87, 3) := by decide +kernel
theorem dL_law_820 : decode cL_law 820 = .ok (.iconst 0, 1) := by decide +kernel
theorem dL_law_821 : decode cL_law 821 = .ok (.istore 12, 2) := by decide +kernel
theorem dL_law_823 : decode cL_law 823 = .ok (.iload 12, 2) := by decide +kernel
theorem dL_law_825 : decode cL_law 825 = .ok (.iload 4, 2) := by decide +kernel
theorem dL_law_827 : decode cL_law 827 = .ok (.if_icmp .ge 71, 3) := by decide +kernel
theorem dL_law_830 : decode cL_law 830 = .ok (.iload 8, 2) := by decide +kernel
theorem dL_law_832 : decode cL_law 832 = .ok (.ifCond .ge 66, 3) := by decide +kernel
theorem dL_law_835 : decode cL_law 835 = .ok (.aload_n 2, 1) := by decide +kernel
theorem dL_law_836 : decode cL_law 836 = .ok (.aload_n 3, 1) := by decide +kernel
theorem dL_law_837 : decode cL_law 837 = .ok (.aload 5, 2) := by decide +kernel
theorem dL_law_839 : decode cL_law 839 = .ok (.aload 6, 2) := by decide +kernel
theorem dL_law_841 : decode cL_law 841 = .ok (.iconst 0, 1) := by decide +kernel
theorem dL_law_842 : decode cL_law 842 = .ok (.laload, 1) := by decide +kernel
theorem dL_law_843 : decode cL_law 843 = .ok (.iload 12, 2) := by decide +kernel
theorem dL_law_845 : decode cL_law 845 = .ok (.iload 7, 2) := by decide +kernel
theorem dL_law_847 : decode cL_law 847 = .ok (.iconst 1, 1) := by decide +kernel
theorem dL_law_848 : decode cL_law 848 = .ok (.invokestatic 56, 3) := by decide +kernel
theorem dL_law_851 : decode cL_law 851 = .ok (.ifCond .ne 41, 3) := by decide +kernel
theorem dL_law_854 : decode cL_law 854 = .ok (.aload_n 2, 1) := by decide +kernel
theorem dL_law_855 : decode cL_law 855 = .ok (.aload_n 3, 1) := by decide +kernel
theorem dL_law_856 : decode cL_law 856 = .ok (.aload 5, 2) := by decide +kernel
theorem dL_law_858 : decode cL_law 858 = .ok (.aload 6, 2) := by decide +kernel
theorem dL_law_860 : decode cL_law 860 = .ok (.iconst 0, 1) := by decide +kernel
theorem dL_law_861 : decode cL_law 861 = .ok (.laload, 1) := by decide +kernel
theorem dL_law_862 : decode cL_law 862 = .ok (.iload 12, 2) := by decide +kernel
theorem dL_law_864 : decode cL_law 864 = .ok (.iload 7, 2) := by decide +kernel
theorem dL_law_866 : decode cL_law 866 = .ok (.iload 11, 2) := by decide +kernel
theorem dL_law_868 : decode cL_law 868 = .ok (.invokestatic 60, 3) := by decide +kernel
theorem dL_law_871 : decode cL_law 871 = .ok (.ifCond .eq 21, 3) := by decide +kernel
theorem dL_law_874 : decode cL_law 874 = .ok (.iload 11, 2) := by decide +kernel
theorem dL_law_876 : decode cL_law 876 = .ok (.istore 8, 2) := by decide +kernel
theorem dL_law_878 : decode cL_law 878 = .ok (.bipush 10, 2) := by decide +kernel
theorem dL_law_880 : decode cL_law 880 = .ok (.iload 12, 2) := by decide +kernel
theorem dL_law_882 : decode cL_law 882 = .ok (.iconst 4, 1) := by decide +kernel
theorem dL_law_883 : decode cL_law 883 = .ok (.idiv, 1) := by decide +kernel
theorem dL_law_884 : decode cL_law 884 = .ok (.imul, 1) := by decide +kernel
theorem dL_law_885 : decode cL_law 885 = .ok (.iload 12, 2) := by decide +kernel
theorem dL_law_887 : decode cL_law 887 = .ok (.iconst 4, 1) := by decide +kernel
theorem dL_law_888 : decode cL_law 888 = .ok (.irem, 1) := by decide +kernel
theorem dL_law_889 : decode cL_law 889 = .ok (.iadd, 1) := by decide +kernel
theorem dL_law_890 : decode cL_law 890 = .ok (.istore 9, 2) := by decide +kernel
theorem dL_law_892 : decode cL_law 892 = .ok (.iinc 12 1, 3) := by decide +kernel
theorem dL_law_895 : decode cL_law 895 = .ok (.goto (-72), 3) := by decide +kernel
theorem dL_law_898 : decode cL_law 898 = .ok (.iinc 11 1, 3) := by decide +kernel
theorem dL_law_901 : decode cL_law 901 = .ok (.goto (-92), 3) := by decide +kernel
theorem dL_law_904 : decode cL_law 904 = .ok (.aload_n 1, 1) := by decide +kernel
theorem dL_law_905 : decode cL_law 905 = .ok (.iload 7, 2) := by decide +kernel
theorem dL_law_907 : decode cL_law 907 = .ok (.invokevirtual 64, 3) := by decide +kernel
theorem dL_law_910 : decode cL_law 910 = .ok (.istore 11, 2) := by decide +kernel
theorem dL_law_912 : decode cL_law 912 = .ok (.iload 10, 2) := by decide +kernel
theorem dL_law_914 : decode cL_law 914 = .ok (.ifCond .eq 42, 3) := by decide +kernel
theorem dL_law_917 : decode cL_law 917 = .ok (.iload 8, 2) := by decide +kernel
theorem dL_law_919 : decode cL_law 919 = .ok (.ifCond .le 24, 3) := by decide +kernel
theorem dL_law_922 : decode cL_law 922 = .ok (.iload 11, 2) := by decide +kernel
theorem dL_law_924 : decode cL_law 924 = .ok (.iload 8, 2) := by decide +kernel
theorem dL_law_926 : decode cL_law 926 = .ok (.if_icmp .ne 28, 3) := by decide +kernel
theorem dL_law_929 : decode cL_law 929 = .ok (.aload_n 1, 1) := by decide +kernel
theorem dL_law_930 : decode cL_law 930 = .ok (.iload 7, 2) := by decide +kernel
theorem dL_law_932 : decode cL_law 932 = .ok (.invokevirtual 68, 3) := by decide +kernel
theorem dL_law_935 : decode cL_law 935 = .ok (.iload 9, 2) := by decide +kernel
theorem dL_law_937 : decode cL_law 937 = .ok (.if_icmp .eq 19, 3) := by decide +kernel
theorem dL_law_940 : decode cL_law 940 = .ok (.goto 14, 3) := by decide +kernel
theorem dL_law_943 : decode cL_law 943 = .ok (.iload 11, 2) := by decide +kernel
theorem dL_law_945 : decode cL_law 945 = .ok (.ifCond .le 11, 3) := by decide +kernel
theorem dL_law_948 : decode cL_law 948 = .ok (.iload 11, 2) := by decide +kernel
theorem dL_law_950 : decode cL_law 950 = .ok (.iconst 4, 1) := by decide +kernel
theorem dL_law_951 : decode cL_law 951 = .ok (.if_icmp .ge 5, 3) := by decide +kernel
theorem dL_law_954 : decode cL_law 954 = .ok (.iconst 0, 1) := by decide +kernel
theorem dL_law_955 : decode cL_law 955 = .ok (.ireturn, 1) := by decide +kernel
theorem dL_law_956 : decode cL_law 956 = .ok (.iinc 7 1, 3) := by decide +kernel
theorem dL_law_959 : decode cL_law 959 = .ok (.goto (-251), 3) := by decide +kernel
theorem dL_law_962 : decode cL_law 962 = .ok (.iload 4, 2) := by decide +kernel
theorem dL_law_964 : decode cL_law 964 = .ok (.ifCond .le 17, 3) := by decide +kernel
theorem dL_law_967 : decode cL_law 967 = .ok (.aload_n 0, 1) := by decide +kernel
theorem dL_law_968 : decode cL_law 968 = .ok (.bipush 8, 2) := by decide +kernel
theorem dL_law_970 : decode cL_law 970 = .ok (.invokestatic 9, 3) := by decide +kernel
theorem dL_law_973 : decode cL_law 973 = .ok (.iload 4, 2) := by decide +kernel
theorem dL_law_975 : decode cL_law 975 = .ok (.invokestatic 15, 3) := by decide +kernel
theorem dL_law_978 : decode cL_law 978 = .ok (.goto 4, 3) := by decide +kernel
theorem dL_law_981 : decode cL_law 981 = .ok (.iconst 0, 1) := by decide +kernel
theorem dL_law_982 : decode cL_law 982 = .ok (.istore 7, 2) := by decide +kernel
theorem dL_law_984 : decode cL_law 984 = .ok (.iload 4, 2) := by decide +kernel
theorem dL_law_986 : decode cL_law 986 = .ok (.ifCond .le 19, 3) := by decide +kernel
theorem dL_law_989 : decode cL_law 989 = .ok (.aload_n 0, 1) := by decide +kernel
theorem dL_law_990 : decode cL_law 990 = .ok (.bipush 8, 2) := by decide +kernel
theorem dL_law_992 : decode cL_law 992 = .ok (.invokestatic 9, 3) := by decide +kernel
theorem dL_law_995 : decode cL_law 995 = .ok (.iconst 5, 1) := by decide +kernel
theorem dL_law_996 : decode cL_law 996 = .ok (.ishr, 1) := by decide +kernel
theorem dL_law_997 : decode cL_law 997 = .ok (.iload 4, 2) := by decide +kernel
theorem dL_law_999 : decode cL_law 999 = .ok (.invokestatic 15, 3) := by decide +kernel
theorem dL_law_1002 : decode cL_law 1002 = .ok (.goto 4, 3) := by decide +kernel
theorem dL_law_1005 : decode cL_law 1005 = .ok (.iconst 0, 1) := by decide +kernel
theorem dL_law_1006 : decode cL_law 1006 = .ok (.istore 8, 2) := by decide +kernel
theorem dL_law_1008 : decode cL_law 1008 = .ok (.lconst 0, 1) := by decide +kernel
theorem dL_law_1009 : decode cL_law 1009 = .ok (.lstore 9, 2) := by decide +kernel
theorem dL_law_1011 : decode cL_law 1011 = .ok (.aload 5, 2) := by decide +kernel
theorem dL_law_1013 : decode cL_law 1013 = .ok (.invokestatic 44, 3) := by decide +kernel
theorem dL_law_1016 : decode cL_law 1016 = .ok (.astore 11, 2) := by decide +kernel
theorem dL_law_1018 : decode cL_law 1018 = .ok (.iconst 3, 1) := by decide +kernel
theorem dL_law_1019 : decode cL_law 1019 = .ok (.newarray .long, 2) := by decide +kernel
theorem dL_law_1021 : decode cL_law 1021 = .ok (.astore 12, 2) := by decide +kernel
theorem dL_law_1023 : decode cL_law 1023 = .ok (.aload 12, 2) := by decide +kernel
theorem dL_law_1025 : decode cL_law 1025 = .ok (.iconst 0, 1) := by decide +kernel
theorem dL_law_1026 : decode cL_law 1026 = .ok (.aload 6, 2) := by decide +kernel
theorem dL_law_1028 : decode cL_law 1028 = .ok (.iconst 0, 1) := by decide +kernel
theorem dL_law_1029 : decode cL_law 1029 = .ok (.laload, 1) := by decide +kernel
theorem dL_law_1030 : decode cL_law 1030 = .ok (.lastore, 1) := by decide +kernel
theorem dL_law_1031 : decode cL_law 1031 = .ok (.iload 4, 2) := by decide +kernel
theorem dL_law_1033 : decode cL_law 1033 = .ok (.ifCond .le 65, 3) := by decide +kernel
theorem dL_law_1036 : decode cL_law 1036 = .ok (.aload_n 2, 1) := by decide +kernel
theorem dL_law_1037 : decode cL_law 1037 = .ok (.aload_n 3, 1) := by decide +kernel
theorem dL_law_1038 : decode cL_law 1038 = .ok (.aload 11, 2) := by decide +kernel
theorem dL_law_1040 : decode cL_law 1040 = .ok (.aload 12, 2) := by decide +kernel
theorem dL_law_1042 : decode cL_law 1042 = .ok (.iload 7, 2) := by decide +kernel
theorem dL_law_1044 : decode cL_law 1044 = .ok (.iconst 4, 1) := by decide +kernel
theorem dL_law_1045 : decode cL_law 1045 = .ok (.idiv, 1) := by decide +kernel
theorem dL_law_1046 : decode cL_law 1046 = .ok (.iload 7, 2) := by decide +kernel
theorem dL_law_1048 : decode cL_law 1048 = .ok (.iconst 4, 1) := by decide +kernel
theorem dL_law_1049 : decode cL_law 1049 = .ok (.irem, 1) := by decide +kernel
theorem dL_law_1050 : decode cL_law 1050 = .ok (.invokestatic 47, 3) := by decide +kernel
theorem dL_law_1053 : decode cL_law 1053 = .ok (.ifCond .lt 45, 3) := by decide +kernel
theorem dL_law_1056 : decode cL_law 1056 = .ok (.lload 9, 2) := by decide +kernel
theorem dL_law_1058 : decode cL_law 1058 = .ok (.aload 12, 2) := by decide +kernel
theorem dL_law_1060 : decode cL_law 1060 = .ok (.iconst 1, 1) := by decide +kernel
theorem dL_law_1061 : decode cL_law 1061 = .ok (.laload, 1) := by decide +kernel
theorem dL_law_1062 : decode cL_law 1062 = .ok (.lor, 1) := by decide +kernel
theorem dL_law_1063 : decode cL_law 1063 = .ok (.lstore 9, 2) := by decide +kernel
theorem dL_law_1065 : decode cL_law 1065 = .ok (.lload 9, 2) := by decide +kernel
theorem dL_law_1067 : decode cL_law 1067 = .ok (.aload_n 2, 1) := by decide +kernel
theorem dL_law_1068 : decode cL_law 1068 = .ok (.aload_n 3, 1) := by decide +kernel
theorem dL_law_1069 : decode cL_law 1069 = .ok (.aload 11, 2) := by decide +kernel
theorem dL_law_1071 : decode cL_law 1071 = .ok (.aload 12, 2) := by decide +kernel
theorem dL_law_1073 : decode cL_law 1073 = .ok (.iload 8, 2) := by decide +kernel
theorem dL_law_1075 : decode cL_law 1075 = .ok (.iconst 4, 1) := by decide +kernel
theorem dL_law_1076 : decode cL_law 1076 = .ok (.idiv, 1) := by decide +kernel
theorem dL_law_1077 : decode cL_law 1077 = .ok (.iload 8, 2) := by decide +kernel
theorem dL_law_1079 : decode cL_law 1079 = .ok (.iconst 4, 1) := by decide +kernel
theorem dL_law_1080 : decode cL_law 1080 = .ok (.irem, 1) := by decide +kernel
theorem dL_law_1081 : decode cL_law 1081 = .ok (.invokestatic 47, 3) := by decide +kernel
theorem dL_law_1084 : decode cL_law 1084 = .ok (.ifCond .lt 10, 3) := by decide +kernel
theorem dL_law_1087 : decode cL_law 1087 = .ok (.aload 12, 2) := by decide +kernel
theorem dL_law_1089 : decode cL_law 1089 = .ok (.iconst 1, 1) := by decide +kernel
theorem dL_law_1090 : decode cL_law 1090 = .ok (.laload, 1) := by decide +kernel
theorem dL_law_1091 : decode cL_law 1091 = .ok (.goto 4, 3) := by decide +kernel
theorem dL_law_1094 : decode cL_law 1094 = .ok (.lconst 0, 1) := by decide +kernel
theorem dL_law_1095 : decode cL_law 1095 = .ok (.lor, 1) := by decide +kernel
theorem dL_law_1096 : decode cL_law 1096 = .ok (.lstore 9, 2) := by decide +kernel
theorem dL_law_1098 : decode cL_law 1098 = .ok (.iconst 1, 1) := by decide +kernel
theorem dL_law_1099 : decode cL_law 1099 = .ok (.istore 13, 2) := by decide +kernel
theorem dL_law_1101 : decode cL_law 1101 = .ok (.iload 13, 2) := by decide +kernel
theorem dL_law_1103 : decode cL_law 1103 = .ok (.iconst 3, 1) := by decide +kernel
theorem dL_law_1104 : decode cL_law 1104 = .ok (.if_icmp .ge 381, 3) := by decide +kernel
theorem dL_law_1107 : decode cL_law 1107 = .ok (.iconst 0, 1) := by decide +kernel
theorem dL_law_1108 : decode cL_law 1108 = .ok (.istore 14, 2) := by decide +kernel
theorem dL_law_1110 : decode cL_law 1110 = .ok (.iconst (-1), 1) := by decide +kernel
theorem dL_law_1111 : decode cL_law 1111 = .ok (.istore 15, 2) := by decide +kernel
theorem dL_law_1113 : decode cL_law 1113 = .ok (.iconst 0, 1) := by decide +kernel
theorem dL_law_1114 : decode cL_law 1114 = .ok (.istore 16, 2) := by decide +kernel
theorem dL_law_1116 : decode cL_law 1116 = .ok (.iload 16, 2) := by decide +kernel
theorem dL_law_1118 : decode cL_law 1118 = .ok (.iload 13, 2) := by decide +kernel
theorem dL_law_1120 : decode cL_law 1120 = .ok (.iconst 1, 1) := by decide +kernel
theorem dL_law_1121 : decode cL_law 1121 = .ok (.if_icmp .ne 8, 3) := by decide +kernel
theorem dL_law_1124 : decode cL_law 1124 = .ok (.iload 4, 2) := by decide +kernel
theorem dL_law_1126 : decode cL_law 1126 = .ok (.goto 8, 3) := by decide +kernel
theorem dL_law_1129 : decode cL_law 1129 = .ok (.iload 4, 2) := by decide +kernel
theorem dL_law_1131 : decode cL_law 1131 = .ok (.iload 4, 2) := by decide +kernel
theorem dL_law_1133 : decode cL_law 1133 = .ok (.imul, 1) := by decide +kernel
theorem dL_law_1134 : decode cL_law 1134 = .ok (.if_icmp .ge 166, 3) := by decide +kernel
theorem dL_law_1137 : decode cL_law 1137 = .ok (.aload 5, 2) := by decide +kernel
theorem dL_law_1139 : decode cL_law 1139 = .ok (.invokestatic 44, 3) := by decide +kernel
theorem dL_law_1142 : decode cL_law 1142 = .ok (.astore 17, 2) := by decide +kernel
theorem dL_law_1144 : decode cL_law 1144 = .ok (.iconst 3, 1) := by decide +kernel
theorem dL_law_1145 : decode cL_law 1145 = .ok (.newarray .long, 2) := by decide +kernel
theorem dL_law_1147 : decode cL_law 1147 = .ok (.astore 18, 2) := by decide +kernel
theorem dL_law_1149 : decode cL_law 1149 = .ok (.aload 18, 2) := by decide +kernel
theorem dL_law_1151 : decode cL_law 1151 = .ok (.iconst 0, 1) := by decide +kernel
theorem dL_law_1152 : decode cL_law 1152 = .ok (.aload 6, 2) := by decide +kernel
theorem dL_law_1154 : decode cL_law 1154 = .ok (.iconst 0, 1) := by decide +kernel
theorem dL_law_1155 : decode cL_law 1155 = .ok (.laload, 1) := by decide +kernel
theorem dL_law_1156 : decode cL_law 1156 = .ok (.lastore, 1) := by decide +kernel
theorem dL_law_1157 : decode cL_law 1157 = .ok (.lconst 0, 1) := by decide +kernel
theorem dL_law_1158 : decode cL_law 1158 = .ok (.lstore 19, 2) := by decide +kernel
theorem dL_law_1160 : decode cL_law 1160 = .ok (.iload 13, 2) := by decide +kernel
theorem dL_law_1162 : decode cL_law 1162 = .ok (.iconst 1, 1) := by decide +kernel
theorem dL_law_1163 : decode cL_law 1163 = .ok (.if_icmp .ne 8, 3) := by decide +kernel
theorem dL_law_1166 : decode cL_law 1166 = .ok (.iload 16, 2) := by decide +kernel
theorem dL_law_1168 : decode cL_law 1168 = .ok (.goto 8, 3) := by decide +kernel
theorem dL_law_1171 : decode cL_law 1171 = .ok (.iload 16, 2) := by decide +kernel
theorem dL_law_1173 : decode cL_law 1173 = .ok (.iload 4, 2) := by decide +kernel
theorem dL_law_1175 : decode cL_law 1175 = .ok (.idiv, 1) := by decide +kernel
theorem dL_law_1176 : decode cL_law 1176 = .ok (.istore 21, 2) := by decide +kernel
theorem dL_law_1178 : decode cL_law 1178 = .ok (.aload_n 2, 1) := by decide +kernel
theorem dL_law_1179 : decode cL_law 1179 = .ok (.aload_n 3, 1) := by decide +kernel
theorem dL_law_1180 : decode cL_law 1180 = .ok (.aload 17, 2) := by decide +kernel
theorem dL_law_1182 : decode cL_law 1182 = .ok (.aload 18, 2) := by decide +kernel
theorem dL_law_1184 : decode cL_law 1184 = .ok (.iload 21, 2) := by decide +kernel
theorem dL_law_1186 : decode cL_law 1186 = .ok (.iconst 4, 1) := by decide +kernel
theorem dL_law_1187 : decode cL_law 1187 = .ok (.idiv, 1) := by decide +kernel
theorem dL_law_1188 : decode cL_law 1188 = .ok (.iload 21, 2) := by decide +kernel
theorem dL_law_1190 : decode cL_law 1190 = .ok (.iconst 4, 1) := by decide +kernel
theorem dL_law_1191 : decode cL_law 1191 = .ok (.irem, 1) := by decide +kernel
theorem dL_law_1192 : decode cL_law 1192 = .ok (.invokestatic 47, 3) := by decide +kernel
theorem dL_law_1195 : decode cL_law 1195 = .ok (.ifCond .lt 7, 3) := by decide +kernel
theorem dL_law_1198 : decode cL_law 1198 = .ok (.iconst 1, 1) := by decide +kernel
theorem dL_law_1199 : decode cL_law 1199 = .ok (.goto 4, 3) := by decide +kernel
theorem dL_law_1202 : decode cL_law 1202 = .ok (.iconst 0, 1) := by decide +kernel
theorem dL_law_1203 : decode cL_law 1203 = .ok (.istore 22, 2) := by decide +kernel
theorem dL_law_1205 : decode cL_law 1205 = .ok (.lload 19, 2) := by decide +kernel
theorem dL_law_1207 : decode cL_law 1207 = .ok (.aload 18, 2) := by decide +kernel
theorem dL_law_1209 : decode cL_law 1209 = .ok (.iconst 1, 1) := by decide +kernel
theorem dL_law_1210 : decode cL_law 1210 = .ok (.laload, 1) := by decide +kernel
theorem dL_law_1211 : decode cL_law 1211 = .ok (.lor, 1) := by decide +kernel
theorem dL_law_1212 : decode cL_law 1212 = .ok (.lstore 19, 2) := by decide +kernel
theorem dL_law_1214 : decode cL_law 1214 = .ok (.iload 13, 2) := by decide +kernel
theorem dL_law_1216 : decode cL_law 1216 = .ok (.iconst 2, 1) := by decide +kernel
theorem dL_law_1217 : decode cL_law 1217 = .ok (.if_icmp .ne 47, 3) := by decide +kernel
theorem dL_law_1220 : decode cL_law 1220 = .ok (.iload 22, 2) := by decide +kernel
theorem dL_law_1222 : decode cL_law 1222 = .ok (.ifCond .eq 42, 3) := by decide +kernel
theorem dL_law_1225 : decode cL_law 1225 = .ok (.aload_n 2, 1) := by decide +kernel
theorem dL_law_1226 : decode cL_law 1226 = .ok (.aload_n 3, 1) := by decide +kernel
theorem dL_law_1227 : decode cL_law 1227 = .ok (.aload 17, 2) := by decide +kernel
theorem dL_law_1229 : decode cL_law 1229 = .ok (.aload 18, 2) := by decide +kernel
theorem dL_law_1231 : decode cL_law 1231 = .ok (.iload 16, 2) := by decide +kernel
theorem dL_law_1233 : decode cL_law 1233 = .ok (.iload 4, 2) := by decide +kernel
theorem dL_law_1235 : decode cL_law 1235 = .ok (.irem, 1) := by decide +kernel
theorem dL_law_1236 : decode cL_law 1236 = .ok (.iconst 4, 1) := by decide +kernel
theorem dL_law_1237 : decode cL_law 1237 = .ok (.idiv, 1) := by decide +kernel
theorem dL_law_1238 : decode cL_law 1238 = .ok (.iload 16, 2) := by decide +kernel
theorem dL_law_1240 : decode cL_law 1240 = .ok (.iconst 4, 1) := by decide +kernel
theorem dL_law_1241 : decode cL_law 1241 = .ok (.irem, 1) := by decide +kernel
theorem dL_law_1242 : decode cL_law 1242 = .ok (.invokestatic 47, 3) := by decide +kernel
theorem dL_law_1245 : decode cL_law 1245 = .ok (.ifCond .lt 7, 3) := by decide +kernel
theorem dL_law_1248 : decode cL_law 1248 = .ok (.iconst 1, 1) := by decide +kernel
theorem dL_law_1249 : decode cL_law 1249 = .ok (.goto 4, 3) := by decide +kernel
theorem dL_law_1252 : decode cL_law 1252 = .ok (.iconst 0, 1) := by decide +kernel
theorem dL_law_1253 : decode cL_law 1253 = .ok (.istore 22, 2) := by decide +kernel
theorem dL_law_1255 : decode cL_law 1255 = .ok (.lload 19, 2) := by decide +kernel
theorem dL_law_1257 : decode cL_law 1257 = .ok (.aload 18, 2) := by decide +kernel
theorem dL_law_1259 : decode cL_law 1259 = .ok (.iconst 1, 1) := by decide +kernel
theorem dL_law_1260 : decode cL_law 1260 = .ok (.laload, 1) := by decide +kernel
theorem dL_law_1261 : decode cL_law 1261 = .ok (.lor, 1) := by decide +kernel
theorem dL_law_1262 : decode cL_law 1262 = .ok (.lstore 19, 2) := by decide +kernel
theorem dL_law_1264 : decode cL_law 1264 = .ok (.iload 22, 2) := by decide +kernel
theorem dL_law_1266 : decode cL_law 1266 = .ok (.ifCond .eq 28, 3) := by decide +kernel
theorem dL_law_1269 : decode cL_law 1269 = .ok (.lload 19, 2) := by decide +kernel
theorem dL_law_1271 : decode cL_law 1271 = .ok (.lload 9, 2) := by decide +kernel
theorem dL_law_1273 : decode cL_law 1273 = .ok (.lcmp, 1) := by decide +kernel
theorem dL_law_1274 : decode cL_law 1274 = .ok (.ifCond .ne 20, 3) := by decide +kernel
theorem dL_law_1277 : decode cL_law 1277 = .ok (.iload 14, 2) := by decide +kernel
theorem dL_law_1279 : decode cL_law 1279 = .ok (.ifCond .ne 8, 3) := by decide +kernel
theorem dL_law_1282 : decode cL_law 1282 = .ok (.iload 16, 2) := by decide +kernel
theorem dL_law_1284 : decode cL_law 1284 = .ok (.goto 5, 3) := by decide +kernel
theorem dL_law_1287 : decode cL_law 1287 = .ok (.iload 15, 2) := by decide +kernel
theorem dL_law_1289 : decode cL_law 1289 = .ok (.istore 15, 2) := by decide +kernel
theorem dL_law_1291 : decode cL_law 1291 = .ok (.iinc 14 1, 3) := by decide +kernel
theorem dL_law_1294 : decode cL_law 1294 = .ok (.iinc 16 1, 3) := by decide +kernel
theorem dL_law_1297 : decode cL_law 1297 = .ok (.goto (-181), 3) := by decide +kernel
theorem dL_law_1300 : decode cL_law 1300 = .ok (.iload 13, 2) := by decide +kernel
theorem dL_law_1302 : decode cL_law 1302 = .ok (.iconst 1, 1) := by decide +kernel
theorem dL_law_1303 : decode cL_law 1303 = .ok (.if_icmp .eq 8, 3) := by decide +kernel
theorem dL_law_1306 : decode cL_law 1306 = .ok (.iload 4, 2) := by decide +kernel
theorem dL_law_1308 : decode cL_law 1308 = .ok (.ifCond .ne 8, 3) := by decide +kernel
theorem dL_law_1311 : decode cL_law 1311 = .ok (.iload 15, 2) := by decide +kernel
theorem dL_law_1313 : decode cL_law 1313 = .ok (.goto 8, 3) := by decide +kernel
theorem dL_law_1316 : decode cL_law 1316 = .ok (.iload 15, 2) := by decide +kernel
theorem dL_law_1318 : decode cL_law 1318 = .ok (.iload 4, 2) := by decide +kernel
theorem dL_law_1320 : decode cL_law 1320 = .ok (.idiv, 1) := by decide +kernel
theorem dL_law_1321 : decode cL_law 1321 = .ok (.istore 16, 2) := by decide +kernel
theorem dL_law_1323 : decode cL_law 1323 = .ok (.aload_n 1, 1) := by decide +kernel
theorem dL_law_1324 : decode cL_law 1324 = .ok (.iload 13, 2) := by decide +kernel
theorem dL_law_1326 : decode cL_law 1326 = .ok (.lload 9, 2) := by decide +kernel
theorem dL_law_1328 : decode cL_law 1328 = .ok (.iconst (-1), 1) := by decide +kernel
theorem dL_law_1329 : decode cL_law 1329 = .ok (.invokevirtual 71, 3) := by decide +kernel
theorem dL_law_1332 : decode cL_law 1332 = .ok (.iload 14, 2) := by decide +kernel
theorem dL_law_1334 : decode cL_law 1334 = .ok (.if_icmp .ne 143, 3) := by decide +kernel
theorem dL_law_1337 : decode cL_law 1337 = .ok (.aload_n 1, 1) := by decide +kernel
theorem dL_law_1338 : decode cL_law 1338 = .ok (.iload 13, 2) := by decide +kernel
theorem dL_law_1340 : decode cL_law 1340 = .ok (.lload 9, 2) := by decide +kernel
theorem dL_law_1342 : decode cL_law 1342 = .ok (.iconst 0, 1) := by decide +kernel
theorem dL_law_1343 : decode cL_law 1343 = .ok (.invokevirtual 71, 3) := by decide +kernel
theorem dL_law_1346 : decode cL_law 1346 = .ok (.iload 14, 2) := by decide +kernel
theorem dL_law_1348 : decode cL_law 1348 = .ok (.ifCond .ne 8, 3) := by decide +kernel
theorem dL_law_1351 : decode cL_law 1351 = .ok (.bipush (-9), 2) := by decide +kernel
theorem dL_law_1353 : decode cL_law 1353 = .ok (.goto 15, 3) := by decide +kernel
theorem dL_law_1356 : decode cL_law 1356 = .ok (.bipush 10, 2) := by decide +kernel
theorem dL_law_1358 : decode cL_law 1358 = .ok (.iload 16, 2) := by decide +kernel
theorem dL_law_1360 : decode cL_law 1360 = .ok (.iconst 4, 1) := by decide +kernel
theorem dL_law_1361 : decode cL_law 1361 = .ok (.idiv, 1) := by decide +kernel
theorem dL_law_1362 : decode cL_law 1362 = .ok (.imul, 1) := by decide +kernel
theorem dL_law_1363 : decode cL_law 1363 = .ok (.iload 16, 2) := by decide +kernel
theorem dL_law_1365 : decode cL_law 1365 = .ok (.iconst 4, 1) := by decide +kernel
theorem dL_law_1366 : decode cL_law 1366 = .ok (.irem, 1) := by decide +kernel
theorem dL_law_1367 : decode cL_law 1367 = .ok (.iadd, 1) := by decide +kernel
theorem dL_law_1368 : decode cL_law 1368 = .ok (.if_icmp .ne 109, 3) := by decide +kernel
theorem dL_law_1371 : decode cL_law 1371 = .ok (.iload 13, 2) := by decide +kernel
theorem dL_law_1373 : decode cL_law 1373 = .ok (.iconst 2, 1) := by decide +kernel
theorem dL_law_1374 : decode cL_law 1374 = .ok (.if_icmp .ne 40, 3) := by decide +kernel
theorem dL_law_1377 : decode cL_law 1377 = .ok (.aload_n 1, 1) := by decide +kernel
theorem dL_law_1378 : decode cL_law 1378 = .ok (.iload 13, 2) := by decide +kernel
theorem dL_law_1380 : decode cL_law 1380 = .ok (.lload 9, 2) := by decide +kernel
theorem dL_law_1382 : decode cL_law 1382 = .ok (.iconst 1, 1) := by decide +kernel
theorem dL_law_1383 : decode cL_law 1383 = .ok (.invokevirtual 71, 3) := by decide +kernel
theorem dL_law_1386 : decode cL_law 1386 = .ok (.iload 14, 2) := by decide +kernel
theorem dL_law_1388 : decode cL_law 1388 = .ok (.ifCond .ne 8, 3) := by decide +kernel
theorem dL_law_1391 : decode cL_law 1391 = .ok (.bipush (-9), 2) := by decide +kernel
theorem dL_law_1393 : decode cL_law 1393 = .ok (.goto 18, 3) := by decide +kernel
theorem dL_law_1396 : decode cL_law 1396 = .ok (.bipush 10, 2) := by decide +kernel
theorem dL_law_1398 : decode cL_law 1398 = .ok (.iload 15, 2) := by decide +kernel
theorem dL_law_1400 : decode cL_law 1400 = .ok (.iload 4, 2) := by decide +kernel
theorem dL_law_1402 : decode cL_law 1402 = .ok (.irem, 1) := by decide +kernel
theorem dL_law_1403 : decode cL_law 1403 = .ok (.iconst 4, 1) := by decide +kernel
theorem dL_law_1404 : decode cL_law 1404 = .ok (.idiv, 1) := by decide +kernel
theorem dL_law_1405 : decode cL_law 1405 = .ok (.imul, 1) := by decide +kernel
theorem dL_law_1406 : decode cL_law 1406 = .ok (.iload 15, 2) := by decide +kernel
theorem dL_law_1408 : decode cL_law 1408 = .ok (.iconst 4, 1) := by decide +kernel
theorem dL_law_1409 : decode cL_law 1409 = .ok (.irem, 1) := by decide +kernel
theorem dL_law_1410 : decode cL_law 1410 = .ok (.iadd, 1) := by decide +kernel
theorem dL_law_1411 : decode cL_law 1411 = .ok (.if_icmp .ne 66, 3) := by decide +kernel
theorem dL_law_1414 : decode cL_law 1414 = .ok (.aload_n 1, 1) := by decide +kernel
theorem dL_law_1415 : decode cL_law 1415 = .ok (.iload 13, 2) := by decide +kernel
theorem dL_law_1417 : decode cL_law 1417 = .ok (.lload 9, 2) := by decide +kernel
theorem dL_law_1419 : decode cL_law 1419 = .ok (.iload 13, 2) := by decide +kernel
theorem dL_law_1421 : decode cL_law 1421 = .ok (.invokevirtual 71, 3) := by decide +kernel
theorem dL_law_1424 : decode cL_law 1424 = .ok (.iconst (-1), 1) := by decide +kernel
theorem dL_law_1425 : decode cL_law 1425 = .ok (.if_icmp .ne 52, 3) := by decide +kernel
theorem dL_law_1428 : decode cL_law 1428 = .ok (.aload_n 1, 1) := by decide +kernel
theorem dL_law_1429 : decode cL_law 1429 = .ok (.iload 13, 2) := by decide +kernel
theorem dL_law_1431 : decode cL_law 1431 = .ok (.ldc2_w 75, 3) := by decide +kernel
theorem dL_law_1434 : decode cL_law 1434 = .ok (.iconst 0, 1) := by decide +kernel
theorem dL_law_1435 : decode cL_law 1435 = .ok (.invokevirtual 71, 3) := by decide +kernel
theorem dL_law_1438 : decode cL_law 1438 = .ok (.bipush (-2), 2) := by decide +kernel
theorem dL_law_1440 : decode cL_law 1440 = .ok (.if_icmp .ne 37, 3) := by decide +kernel
theorem dL_law_1443 : decode cL_law 1443 = .ok (.aload_n 1, 1) := by decide +kernel
theorem dL_law_1444 : decode cL_law 1444 = .ok (.iload 13, 2) := by decide +kernel
theorem dL_law_1446 : decode cL_law 1446 = .ok (.lconst 1, 1) := by decide +kernel
theorem dL_law_1447 : decode cL_law 1447 = .ok (.aload_n 2, 1) := by decide +kernel
theorem dL_law_1448 : decode cL_law 1448 = .ok (.iconst 0, 1) := by decide +kernel
theorem dL_law_1449 : decode cL_law 1449 = .ok (.iaload, 1) := by decide +kernel
theorem dL_law_1450 : decode cL_law 1450 = .ok (.aload_n 2, 1) := by decide +kernel
theorem dL_law_1451 : decode cL_law 1451 = .ok (.iconst 1, 1) := by decide +kernel
theorem dL_law_1452 : decode cL_law 1452 = .ok (.iaload, 1) := by decide +kernel
theorem dL_law_1453 : decode cL_law 1453 = .ok (.imul, 1) := by decide +kernel
theorem dL_law_1454 : decode cL_law 1454 = .ok (.lshl, 1) := by decide +kernel
theorem dL_law_1455 : decode cL_law 1455 = .ok (.iconst 0, 1) := by decide +kernel
theorem dL_law_1456 : decode cL_law 1456 = .ok (.invokevirtual 71, 3) := by decide +kernel
theorem dL_law_1459 : decode cL_law 1459 = .ok (.bipush (-2), 2) := by decide +kernel
theorem dL_law_1461 : decode cL_law 1461 = .ok (.if_icmp .ne 16, 3) := by decide +kernel
theorem dL_law_1464 : decode cL_law 1464 = .ok (.aload_n 1, 1) := by decide +kernel
theorem dL_law_1465 : decode cL_law 1465 = .ok (.iconst 4, 1) := by decide +kernel
theorem dL_law_1466 : decode cL_law 1466 = .ok (.lload 9, 2) := by decide +kernel
theorem dL_law_1468 : decode cL_law 1468 = .ok (.iconst 0, 1) := by decide +kernel
theorem dL_law_1469 : decode cL_law 1469 = .ok (.invokevirtual 71, 3) := by decide +kernel
theorem dL_law_1472 : decode cL_law 1472 = .ok (.bipush (-2), 2) := by decide +kernel
theorem dL_law_1474 : decode cL_law 1474 = .ok (.if_icmp .eq 5, 3) := by decide +kernel
theorem dL_law_1477 : decode cL_law 1477 = .ok (.iconst 0, 1) := by decide +kernel
theorem dL_law_1478 : decode cL_law 1478 = .ok (.ireturn, 1) := by decide +kernel
theorem dL_law_1479 : decode cL_law 1479 = .ok (.iinc 13 1, 3) := by decide +kernel
theorem dL_law_1482 : decode cL_law 1482 = .ok (.goto (-381), 3) := by decide +kernel
theorem dL_law_1485 : decode cL_law 1485 = .ok (.iconst 0, 1) := by decide +kernel
theorem dL_law_1486 : decode cL_law 1486 = .ok (.istore 13, 2) := by decide +kernel
theorem dL_law_1488 : decode cL_law 1488 = .ok (.iload 13, 2) := by decide +kernel
theorem dL_law_1490 : decode cL_law 1490 = .ok (.aload_n 2, 1) := by decide +kernel
theorem dL_law_1491 : decode cL_law 1491 = .ok (.iconst 2, 1) := by decide +kernel
theorem dL_law_1492 : decode cL_law 1492 = .ok (.iaload, 1) := by decide +kernel
theorem dL_law_1493 : decode cL_law 1493 = .ok (.if_icmp .ge 377, 3) := by decide +kernel
theorem dL_law_1496 : decode cL_law 1496 = .ok (.aload_n 0, 1) := by decide +kernel
theorem dL_law_1497 : decode cL_law 1497 = .ok (.bipush 9, 2) := by decide +kernel
theorem dL_law_1499 : decode cL_law 1499 = .ok (.invokestatic 9, 3) := by decide +kernel
theorem dL_law_1502 : decode cL_law 1502 = .ok (.iload 13, 2) := by decide +kernel
theorem dL_law_1504 : decode cL_law 1504 = .ok (.ishr, 1) := by decide +kernel
theorem dL_law_1505 : decode cL_law 1505 = .ok (.iconst 1, 1) := by decide +kernel
theorem dL_law_1506 : decode cL_law 1506 = .ok (.iand, 1) := by decide +kernel
theorem dL_law_1507 : decode cL_law 1507 = .ok (.istore 14, 2) := by decide +kernel
theorem dL_law_1509 : decode cL_law 1509 = .ok (.aload_n 2, 1) := by decide +kernel
theorem dL_law_1510 : decode cL_law 1510 = .ok (.iconst 0, 1) := by decide +kernel
theorem dL_law_1511 : decode cL_law 1511 = .ok (.iaload, 1) := by decide +kernel
theorem dL_law_1512 : decode cL_law 1512 = .ok (.aload_n 2, 1) := by decide +kernel
theorem dL_law_1513 : decode cL_law 1513 = .ok (.iconst 1, 1) := by decide +kernel
theorem dL_law_1514 : decode cL_law 1514 = .ok (.iaload, 1) := by decide +kernel
theorem dL_law_1515 : decode cL_law 1515 = .ok (.imul, 1) := by decide +kernel
theorem dL_law_1516 : decode cL_law 1516 = .ok (.istore 15, 2) := by decide +kernel
theorem dL_law_1518 : decode cL_law 1518 = .ok (.bipush (-9), 2) := by decide +kernel
theorem dL_law_1520 : decode cL_law 1520 = .ok (.istore 16, 2) := by decide +kernel
theorem dL_law_1522 : decode cL_law 1522 = .ok (.bipush (-9), 2) := by decide +kernel
theorem dL_law_1524 : decode cL_law 1524 = .ok (.istore 17, 2) := by decide +kernel
theorem dL_law_1526 : decode cL_law 1526 = .ok (.bipush (-9), 2) := by decide +kernel
theorem dL_law_1528 : decode cL_law 1528 = .ok (.istore 18, 2) := by decide +kernel
theorem dL_law_1530 : decode cL_law 1530 = .ok (.iconst (-1), 1) := by decide +kernel
theorem dL_law_1531 : decode cL_law 1531 = .ok (.istore 19, 2) := by decide +kernel
theorem dL_law_1533 : decode cL_law 1533 = .ok (.iload 19, 2) := by decide +kernel
theorem dL_law_1535 : decode cL_law 1535 = .ok (.iload 15, 2) := by decide +kernel
theorem dL_law_1537 : decode cL_law 1537 = .ok (.if_icmp .ge 280, 3) := by decide +kernel
theorem dL_law_1540 : decode cL_law 1540 = .ok (.iload 16, 2) := by decide +kernel
theorem dL_law_1542 : decode cL_law 1542 = .ok (.ifCond .eq 275, 3) := by decide +kernel
theorem dL_law_1545 : decode cL_law 1545 = .ok (.iload 19, 2) := by decide +kernel
theorem dL_law_1547 : decode cL_law 1547 = .ok (.ifCond .ge 7, 3) := by decide +kernel
theorem dL_law_1550 : decode cL_law 1550 = .ok (.iconst (-1), 1) := by decide +kernel
theorem dL_law_1551 : decode cL_law 1551 = .ok (.goto 5, 3) := by decide +kernel
theorem dL_law_1554 : decode cL_law 1554 = .ok (.iload 19, 2) := by decide +kernel
theorem dL_law_1556 : decode cL_law 1556 = .ok (.istore 20, 2) := by decide +kernel
theorem dL_law_1558 : decode cL_law 1558 = .ok (.iload 20, 2) := by decide +kernel
theorem dL_law_1560 : decode cL_law 1560 = .ok (.iload 19, 2) := by decide +kernel
theorem dL_law_1562 : decode cL_law 1562 = .ok (.ifCond .ge 7, 3) := by decide +kernel
theorem dL_law_1565 : decode cL_law 1565 = .ok (.iconst 0, 1) := by decide +kernel
theorem dL_law_1566 : decode cL_law 1566 = .ok (.goto 5, 3) := by decide +kernel
theorem dL_law_1569 : decode cL_law 1569 = .ok (.iload 15, 2) := by decide +kernel
theorem dL_law_1571 : decode cL_law 1571 = .ok (.if_icmp .ge 240, 3) := by decide +kernel
theorem dL_law_1574 : decode cL_law 1574 = .ok (.iload 19, 2) := by decide +kernel
theorem dL_law_1576 : decode cL_law 1576 = .ok (.ifCond .lt 14, 3) := by decide +kernel
theorem dL_law_1579 : decode cL_law 1579 = .ok (.aload_n 3, 1) := by decide +kernel
theorem dL_law_1580 : decode cL_law 1580 = .ok (.aload 5, 2) := by decide +kernel
theorem dL_law_1582 : decode cL_law 1582 = .ok (.iload 19, 2) := by decide +kernel
theorem dL_law_1584 : decode cL_law 1584 = .ok (.invokestatic 77, 3) := by decide +kernel
theorem dL_law_1587 : decode cL_law 1587 = .ok (.ifCond .eq 23, 3) := by decide +kernel
theorem dL_law_1590 : decode cL_law 1590 = .ok (.iload 20, 2) := by decide +kernel
theorem dL_law_1592 : decode cL_law 1592 = .ok (.ifCond .lt 14, 3) := by decide +kernel
theorem dL_law_1595 : decode cL_law 1595 = .ok (.aload_n 3, 1) := by decide +kernel
theorem dL_law_1596 : decode cL_law 1596 = .ok (.aload 5, 2) := by decide +kernel
theorem dL_law_1598 : decode cL_law 1598 = .ok (.iload 20, 2) := by decide +kernel
theorem dL_law_1600 : decode cL_law 1600 = .ok (.invokestatic 77, 3) := by decide +kernel
theorem dL_law_1603 : decode cL_law 1603 = .ok (.ifCond .eq 7, 3) := by decide +kernel
theorem dL_law_1606 : decode cL_law 1606 = .ok (.iconst 1, 1) := by decide +kernel
theorem dL_law_1607 : decode cL_law 1607 = .ok (.goto 4, 3) := by decide +kernel
theorem dL_law_1610 : decode cL_law 1610 = .ok (.iconst 0, 1) := by decide +kernel
theorem dL_law_1611 : decode cL_law 1611 = .ok (.istore 21, 2) := by decide +kernel
theorem dL_law_1613 : decode cL_law 1613 = .ok (.iload 19, 2) := by decide +kernel
theorem dL_law_1615 : decode cL_law 1615 = .ok (.ifCond .ge 7, 3) := by decide +kernel
theorem dL_law_1618 : decode cL_law 1618 = .ok (.iconst 0, 1) := by decide +kernel
theorem dL_law_1619 : decode cL_law 1619 = .ok (.goto 15, 3) := by decide +kernel
theorem dL_law_1622 : decode cL_law 1622 = .ok (.iload 20, 2) := by decide +kernel
theorem dL_law_1624 : decode cL_law 1624 = .ok (.iload 19, 2) := by decide +kernel
theorem dL_law_1626 : decode cL_law 1626 = .ok (.if_icmp .ne 7, 3) := by decide +kernel
theorem dL_law_1629 : decode cL_law 1629 = .ok (.iconst 1, 1) := by decide +kernel
theorem dL_law_1630 : decode cL_law 1630 = .ok (.goto 4, 3) := by decide +kernel
theorem dL_law_1633 : decode cL_law 1633 = .ok (.iconst 2, 1) := by decide +kernel
theorem dL_law_1634 : decode cL_law 1634 = .ok (.istore 22, 2) := by decide +kernel
theorem dL_law_1636 : decode cL_law 1636 = .ok (.iconst 0, 1) := by decide +kernel
theorem dL_law_1637 : decode cL_law 1637 = .ok (.istore 23, 2) := by decide +kernel
theorem dL_law_1639 : decode cL_law 1639 = .ok (.iconst 0, 1) := by decide +kernel
theorem dL_law_1640 : decode cL_law 1640 = .ok (.istore 24, 2) := by decide +kernel
theorem dL_law_1642 : decode cL_law 1642 = .ok (.iload 24, 2) := by decide +kernel
theorem dL_law_1644 : decode cL_law 1644 = .ok (.iload 4, 2) := by decide +kernel
theorem dL_law_1646 : decode cL_law 1646 = .ok (.if_icmp .ge 121, 3) := by decide +kernel
theorem dL_law_1649 : decode cL_law 1649 = .ok (.iload 21, 2) := by decide +kernel
theorem dL_law_1651 : decode cL_law 1651 = .ok (.ifCond .eq 116, 3) := by decide +kernel
theorem dL_law_1654 : decode cL_law 1654 = .ok (.iload 16, 2) := by decide +kernel
theorem dL_law_1656 : decode cL_law 1656 = .ok (.ifCond .lt 10, 3) := by decide +kernel
theorem dL_law_1659 : decode cL_law 1659 = .ok (.iload 22, 2) := by decide +kernel
theorem dL_law_1661 : decode cL_law 1661 = .ok (.iload 16, 2) := by decide +kernel
theorem dL_law_1663 : decode cL_law 1663 = .ok (.if_icmp .ge 104, 3) := by decide +kernel
theorem dL_law_1666 : decode cL_law 1666 = .ok (.aload 5, 2) := by decide +kernel
theorem dL_law_1668 : decode cL_law 1668 = .ok (.invokestatic 44, 3) := by decide +kernel
theorem dL_law_1671 : decode cL_law 1671 = .ok (.astore 25, 2) := by decide +kernel
theorem dL_law_1673 : decode cL_law 1673 = .ok (.iconst 3, 1) := by decide +kernel
theorem dL_law_1674 : decode cL_law 1674 = .ok (.newarray .long, 2) := by decide +kernel
theorem dL_law_1676 : decode cL_law 1676 = .ok (.astore 26, 2) := by decide +kernel
theorem dL_law_1678 : decode cL_law 1678 = .ok (.aload 26, 2) := by decide +kernel
theorem dL_law_1680 : decode cL_law 1680 = .ok (.iconst 0, 1) := by decide +kernel
theorem dL_law_1681 : decode cL_law 1681 = .ok (.aload 6, 2) := by decide +kernel
theorem dL_law_1683 : decode cL_law 1683 = .ok (.iconst 0, 1) := by decide +kernel
theorem dL_law_1684 : decode cL_law 1684 = .ok (.laload, 1) := by decide +kernel
theorem dL_law_1685 : decode cL_law 1685 = .ok (.lastore, 1) := by decide +kernel
theorem dL_law_1686 : decode cL_law 1686 = .ok (.aload 26, 2) := by decide +kernel
theorem dL_law_1688 : decode cL_law 1688 = .ok (.iconst 2, 1) := by decide +kernel
theorem dL_law_1689 : decode cL_law 1689 = .ok (.iload 19, 2) := by decide +kernel
theorem dL_law_1691 : decode cL_law 1691 = .ok (.ifCond .ge 7, 3) := by decide +kernel
theorem dL_law_1694 : decode cL_law 1694 = .ok (.lconst 0, 1) := by decide +kernel
theorem dL_law_1695 : decode cL_law 1695 = .ok (.goto 12, 3) := by decide +kernel
theorem dL_law_1698 : decode cL_law 1698 = .ok (.lconst 1, 1) := by decide +kernel
theorem dL_law_1699 : decode cL_law 1699 = .ok (.iload 19, 2) := by decide +kernel
theorem dL_law_1701 : decode cL_law 1701 = .ok (.lshl, 1) := by decide +kernel
theorem dL_law_1702 : decode cL_law 1702 = .ok (.lconst 1, 1) := by decide +kernel
theorem dL_law_1703 : decode cL_law 1703 = .ok (.iload 20, 2) := by decide +kernel
theorem dL_law_1705 : decode cL_law 1705 = .ok (.lshl, 1) := by decide +kernel
theorem dL_law_1706 : decode cL_law 1706 = .ok (.lor, 1) := by decide +kernel
theorem dL_law_1707 : decode cL_law 1707 = .ok (.lastore, 1) := by decide +kernel
theorem dL_law_1708 : decode cL_law 1708 = .ok (.iload 23, 2) := by decide +kernel
theorem dL_law_1710 : decode cL_law 1710 = .ok (.ifCond .ne 44, 3) := by decide +kernel
theorem dL_law_1713 : decode cL_law 1713 = .ok (.aload 5, 2) := by decide +kernel
theorem dL_law_1715 : decode cL_law 1715 = .ok (.iload 13, 2) := by decide +kernel
theorem dL_law_1717 : decode cL_law 1717 = .ok (.iaload, 1) := by decide +kernel
theorem dL_law_1718 : decode cL_law 1718 = .ok (.ifCond .lt 40, 3) := by decide +kernel
theorem dL_law_1721 : decode cL_law 1721 = .ok (.aload_n 2, 1) := by decide +kernel
theorem dL_law_1722 : decode cL_law 1722 = .ok (.aload_n 3, 1) := by decide +kernel
theorem dL_law_1723 : decode cL_law 1723 = .ok (.aload 25, 2) := by decide +kernel
theorem dL_law_1725 : decode cL_law 1725 = .ok (.aload 26, 2) := by decide +kernel
theorem dL_law_1727 : decode cL_law 1727 = .ok (.iload 24, 2) := by decide +kernel
theorem dL_law_1729 : decode cL_law 1729 = .ok (.iconst 4, 1) := by decide +kernel
theorem dL_law_1730 : decode cL_law 1730 = .ok (.idiv, 1) := by decide +kernel
theorem dL_law_1731 : decode cL_law 1731 = .ok (.iload 24, 2) := by decide +kernel
theorem dL_law_1733 : decode cL_law 1733 = .ok (.iconst 4, 1) := by decide +kernel
theorem dL_law_1734 : decode cL_law 1734 = .ok (.irem, 1) := by decide +kernel
theorem dL_law_1735 : decode cL_law 1735 = .ok (.invokestatic 47, 3) := by decide +kernel
theorem dL_law_1738 : decode cL_law 1738 = .ok (.ifCond .lt 20, 3) := by decide +kernel
theorem dL_law_1741 : decode cL_law 1741 = .ok (.aload 25, 2) := by decide +kernel
theorem dL_law_1743 : decode cL_law 1743 = .ok (.iload 13, 2) := by decide +kernel
theorem dL_law_1745 : decode cL_law 1745 = .ok (.iaload, 1) := by decide +kernel
theorem dL_law_1746 : decode cL_law 1746 = .ok (.bipush (-20), 2) := by decide +kernel
theorem dL_law_1748 : decode cL_law 1748 = .ok (.iload 14, 2) := by decide +kernel
theorem dL_law_1750 : decode cL_law 1750 = .ok (.isub, 1) := by decide +kernel
theorem dL_law_1751 : decode cL_law 1751 = .ok (.if_icmp .ne 7, 3) := by decide +kernel
theorem dL_law_1754 : decode cL_law 1754 = .ok (.iconst 1, 1) := by decide +kernel
theorem dL_law_1755 : decode cL_law 1755 = .ok (.goto 4, 3) := by decide +kernel
theorem dL_law_1758 : decode cL_law 1758 = .ok (.iconst 0, 1) := by decide +kernel
theorem dL_law_1759 : decode cL_law 1759 = .ok (.istore 23, 2) := by decide +kernel
theorem dL_law_1761 : decode cL_law 1761 = .ok (.iinc 24 1, 3) := by decide +kernel
theorem dL_law_1764 : decode cL_law 1764 = .ok (.goto (-122), 3) := by decide +kernel
theorem dL_law_1767 : decode cL_law 1767 = .ok (.iload 23, 2) := by decide +kernel
theorem dL_law_1769 : decode cL_law 1769 = .ok (.ifCond .eq 36, 3) := by decide +kernel
theorem dL_law_1772 : decode cL_law 1772 = .ok (.iload 22, 2) := by decide +kernel
theorem dL_law_1774 : decode cL_law 1774 = .ok (.istore 16, 2) := by decide +kernel
theorem dL_law_1776 : decode cL_law 1776 = .ok (.iload 22, 2) := by decide +kernel
theorem dL_law_1778 : decode cL_law 1778 = .ok (.ifCond .le 8, 3) := by decide +kernel
theorem dL_law_1781 : decode cL_law 1781 = .ok (.iload 19, 2) := by decide +kernel
theorem dL_law_1783 : decode cL_law 1783 = .ok (.goto 5, 3) := by decide +kernel
theorem dL_law_1786 : decode cL_law 1786 = .ok (.bipush (-9), 2) := by decide +kernel
theorem dL_law_1788 : decode cL_law 1788 = .ok (.istore 17, 2) := by decide +kernel
theorem dL_law_1790 : decode cL_law 1790 = .ok (.iload 22, 2) := by decide +kernel
theorem dL_law_1792 : decode cL_law 1792 = .ok (.iconst 1, 1) := by decide +kernel
theorem dL_law_1793 : decode cL_law 1793 = .ok (.if_icmp .le 8, 3) := by decide +kernel
theorem dL_law_1796 : decode cL_law 1796 = .ok (.iload 20, 2) := by decide +kernel
theorem dL_law_1798 : decode cL_law 1798 = .ok (.goto 5, 3) := by decide +kernel
theorem dL_law_1801 : decode cL_law 1801 = .ok (.bipush (-9), 2) := by decide +kernel
theorem dL_law_1803 : decode cL_law 1803 = .ok (.istore 18, 2) := by decide +kernel
theorem dL_law_1805 : decode cL_law 1805 = .ok (.iinc 20 1, 3) := by decide +kernel
theorem dL_law_1808 : decode cL_law 1808 = .ok (.goto (-250), 3) := by decide +kernel
theorem dL_law_1811 : decode cL_law 1811 = .ok (.iinc 19 1, 3) := by decide +kernel
theorem dL_law_1814 : decode cL_law 1814 = .ok (.goto (-281), 3) := by decide +kernel
theorem dL_law_1817 : decode cL_law 1817 = .ok (.aload_n 1, 1) := by decide +kernel
theorem dL_law_1818 : decode cL_law 1818 = .ok (.iload 13, 2) := by decide +kernel
theorem dL_law_1820 : decode cL_law 1820 = .ok (.iload 14, 2) := by decide +kernel
theorem dL_law_1822 : decode cL_law 1822 = .ok (.iconst 1, 1) := by decide +kernel
theorem dL_law_1823 : decode cL_law 1823 = .ok (.iconst (-1), 1) := by decide +kernel
theorem dL_law_1824 : decode cL_law 1824 = .ok (.invokevirtual 81, 3) := by decide +kernel
theorem dL_law_1827 : decode cL_law 1827 = .ok (.iload 16, 2) := by decide +kernel
theorem dL_law_1829 : decode cL_law 1829 = .ok (.if_icmp .ne 33, 3) := by decide +kernel
theorem dL_law_1832 : decode cL_law 1832 = .ok (.aload_n 1, 1) := by decide +kernel
theorem dL_law_1833 : decode cL_law 1833 = .ok (.iload 13, 2) := by decide +kernel
theorem dL_law_1835 : decode cL_law 1835 = .ok (.iload 14, 2) := by decide +kernel
theorem dL_law_1837 : decode cL_law 1837 = .ok (.iconst 1, 1) := by decide +kernel
theorem dL_law_1838 : decode cL_law 1838 = .ok (.iconst 0, 1) := by decide +kernel
theorem dL_law_1839 : decode cL_law 1839 = .ok (.invokevirtual 81, 3) := by decide +kernel
theorem dL_law_1842 : decode cL_law 1842 = .ok (.iload 17, 2) := by decide +kernel
theorem dL_law_1844 : decode cL_law 1844 = .ok (.if_icmp .ne 18, 3) := by decide +kernel
theorem dL_law_1847 : decode cL_law 1847 = .ok (.aload_n 1, 1) := by decide +kernel
theorem dL_law_1848 : decode cL_law 1848 = .ok (.iload 13, 2) := by decide +kernel
theorem dL_law_1850 : decode cL_law 1850 = .ok (.iload 14, 2) := by decide +kernel
theorem dL_law_1852 : decode cL_law 1852 = .ok (.iconst 1, 1) := by decide +kernel
theorem dL_law_1853 : decode cL_law 1853 = .ok (.iconst 1, 1) := by decide +kernel
theorem dL_law_1854 : decode cL_law 1854 = .ok (.invokevirtual 81, 3) := by decide +kernel
theorem dL_law_1857 : decode cL_law 1857 = .ok (.iload 18, 2) := by decide +kernel
theorem dL_law_1859 : decode cL_law 1859 = .ok (.if_icmp .eq 5, 3) := by decide +kernel
theorem dL_law_1862 : decode cL_law 1862 = .ok (.iconst 0, 1) := by decide +kernel
theorem dL_law_1863 : decode cL_law 1863 = .ok (.ireturn, 1) := by decide +kernel
theorem dL_law_1864 : decode cL_law 1864 = .ok (.iinc 13 1, 3) := by decide +kernel
theorem dL_law_1867 : decode cL_law 1867 = .ok (.goto (-379), 3) := by decide +kernel
theorem dL_law_1870 : decode cL_law 1870 = .ok (.iconst 0, 1) := by decide +kernel
theorem dL_law_1871 : decode cL_law 1871 = .ok (.istore 13, 2) := by decide +kernel
theorem dL_law_1873 : decode cL_law 1873 = .ok (.iload 13, 2) := by decide +kernel
theorem dL_law_1875 : decode cL_law 1875 = .ok (.aload_n 2, 1) := by decide +kernel
theorem dL_law_1876 : decode cL_law 1876 = .ok (.iconst 2, 1) := by decide +kernel
theorem dL_law_1877 : decode cL_law 1877 = .ok (.iaload, 1) := by decide +kernel
theorem dL_law_1878 : decode cL_law 1878 = .ok (.if_icmp .ge 26, 3) := by decide +kernel
theorem dL_law_1881 : decode cL_law 1881 = .ok (.aload_n 1, 1) := by decide +kernel
theorem dL_law_1882 : decode cL_law 1882 = .ok (.iload 13, 2) := by decide +kernel
theorem dL_law_1884 : decode cL_law 1884 = .ok (.iconst 1, 1) := by decide +kernel
theorem dL_law_1885 : decode cL_law 1885 = .ok (.invokevirtual 84, 3) := by decide +kernel
theorem dL_law_1888 : decode cL_law 1888 = .ok (.aload 5, 2) := by decide +kernel
theorem dL_law_1890 : decode cL_law 1890 = .ok (.iload 13, 2) := by decide +kernel
theorem dL_law_1892 : decode cL_law 1892 = .ok (.iaload, 1) := by decide +kernel
theorem dL_law_1893 : decode cL_law 1893 = .ok (.if_icmp .eq 5, 3) := by decide +kernel
theorem dL_law_1896 : decode cL_law 1896 = .ok (.iconst 0, 1) := by decide +kernel
theorem dL_law_1897 : decode cL_law 1897 = .ok (.ireturn, 1) := by decide +kernel
theorem dL_law_1898 : decode cL_law 1898 = .ok (.iinc 13 1, 3) := by decide +kernel
theorem dL_law_1901 : decode cL_law 1901 = .ok (.goto (-28), 3) := by decide +kernel
theorem dL_law_1904 : decode cL_law 1904 = .ok (.aload_n 1, 1) := by decide +kernel
theorem dL_law_1905 : decode cL_law 1905 = .ok (.iconst 2, 1) := by decide +kernel
theorem dL_law_1906 : decode cL_law 1906 = .ok (.iconst 0, 1) := by decide +kernel
theorem dL_law_1907 : decode cL_law 1907 = .ok (.invokevirtual 53, 3) := by decide +kernel
theorem dL_law_1910 : decode cL_law 1910 = .ok (.iconst (-1), 1) := by decide +kernel
theorem dL_law_1911 : decode cL_law 1911 = .ok (.if_icmp .ne 30, 3) := by decide +kernel
theorem dL_law_1914 : decode cL_law 1914 = .ok (.aload_n 1, 1) := by decide +kernel
theorem dL_law_1915 : decode cL_law 1915 = .ok (.iconst (-1), 1) := by decide +kernel
theorem dL_law_1916 : decode cL_law 1916 = .ok (.invokevirtual 64, 3) := by decide +kernel
theorem dL_law_1919 : decode cL_law 1919 = .ok (.iconst (-1), 1) := by decide +kernel
theorem dL_law_1920 : decode cL_law 1920 = .ok (.if_icmp .ne 21, 3) := by decide +kernel
theorem dL_law_1923 : decode cL_law 1923 = .ok (.aload_n 1, 1) := by decide +kernel
theorem dL_law_1924 : decode cL_law 1924 = .ok (.aload_n 2, 1) := by decide +kernel
theorem dL_law_1925 : decode cL_law 1925 = .ok (.iconst 2, 1) := by decide +kernel
theorem dL_law_1926 : decode cL_law 1926 = .ok (.iaload, 1) := by decide +kernel
theorem dL_law_1927 : decode cL_law 1927 = .ok (.iconst 0, 1) := by decide +kernel
theorem dL_law_1928 : decode cL_law 1928 = .ok (.iconst 1, 1) := by decide +kernel
theorem dL_law_1929 : decode cL_law 1929 = .ok (.iconst 0, 1) := by decide +kernel
theorem dL_law_1930 : decode cL_law 1930 = .ok (.invokevirtual 81, 3) := by decide +kernel
theorem dL_law_1933 : decode cL_law 1933 = .ok (.iconst (-1), 1) := by decide +kernel
theorem dL_law_1934 : decode cL_law 1934 = .ok (.if_icmp .ne 7, 3) := by decide +kernel
theorem dL_law_1937 : decode cL_law 1937 = .ok (.iconst 1, 1) := by decide +kernel
theorem dL_law_1938 : decode cL_law 1938 = .ok (.goto 4, 3) := by decide +kernel
theorem dL_law_1941 : decode cL_law 1941 = .ok (.iconst 0, 1) := by decide +kernel
theorem dL_law_1942 : decode cL_law 1942 = .ok (.ireturn, 1) := by decide +kernel
theorem dL_free_0 : decode cL_free 0 = .ok (.aload_n 0, 1) := by decide +kernel
theorem dL_free_1 : decode cL_free 1 = .ok (.iload_n 2, 1) := by decide +kernel
theorem dL_free_2 : decode cL_free 2 = .ok (.iaload, 1) := by decide +kernel
theorem dL_free_3 : decode cL_free 3 = .ok (.ifCond .ne 15, 3) := by decide +kernel
theorem dL_free_6 : decode cL_free 6 = .ok (.aload_n 1, 1) := by decide +kernel
theorem dL_free_7 : decode cL_free 7 = .ok (.iload_n 2, 1) := by decide +kernel
theorem dL_free_8 : decode cL_free 8 = .ok (.invokestatic 29, 3) := by decide +kernel
theorem dL_free_11 : decode cL_free 11 = .ok (.ifCond .ge 7, 3) := by decide +kernel
theorem dL_free_14 : decode cL_free 14 = .ok (.iconst 1, 1) := by decide +kernel
theorem dL_free_15 : decode cL_free 15 = .ok (.goto 4, 3) := by decide +kernel
theorem dL_free_18 : decode cL_free 18 = .ok (.iconst 0, 1) := by decide +kernel
theorem dL_free_19 : decode cL_free 19 = .ok (.ireturn, 1) := by decide +kernel
theorem dL_outcome_0 : decode cL_outcome 0 = .ok (.aload_n 2, 1) := by decide +kernel
theorem dL_outcome_1 : decode cL_outcome 1 = .ok (.invokestatic 44, 3) := by decide +kernel
theorem dL_outcome_4 : decode cL_outcome 4 = .ok (.astore 8, 2) := by decide +kernel
theorem dL_outcome_6 : decode cL_outcome 6 = .ok (.iconst 3, 1) := by decide +kernel
theorem dL_outcome_7 : decode cL_outcome 7 = .ok (.newarray .long, 2) := by decide +kernel
theorem dL_outcome_9 : decode cL_outcome 9 = .ok (.astore 9, 2) := by decide +kernel
theorem dL_outcome_11 : decode cL_outcome 11 = .ok (.aload 9, 2) := by decide +kernel
theorem dL_outcome_13 : decode cL_outcome 13 = .ok (.iconst 0, 1) := by decide +kernel
theorem dL_outcome_14 : decode cL_outcome 14 = .ok (.lload_n 3, 1) := by decide +kernel
theorem dL_outcome_15 : decode cL_outcome 15 = .ok (.lastore, 1) := by decide +kernel
theorem dL_outcome_16 : decode cL_outcome 16 = .ok (.aload_n 0, 1) := by decide +kernel
theorem dL_outcome_17 : decode cL_outcome 17 = .ok (.aload_n 1, 1) := by decide +kernel
theorem dL_outcome_18 : decode cL_outcome 18 = .ok (.aload 8, 2) := by decide +kernel
theorem dL_outcome_20 : decode cL_outcome 20 = .ok (.aload 9, 2) := by decide +kernel
theorem dL_outcome_22 : decode cL_outcome 22 = .ok (.iload 5, 2) := by decide +kernel
theorem dL_outcome_24 : decode cL_outcome 24 = .ok (.iconst 4, 1) := by decide +kernel
theorem dL_outcome_25 : decode cL_outcome 25 = .ok (.idiv, 1) := by decide +kernel
theorem dL_outcome_26 : decode cL_outcome 26 = .ok (.iload 5, 2) := by decide +kernel
theorem dL_outcome_28 : decode cL_outcome 28 = .ok (.iconst 4, 1) := by decide +kernel
theorem dL_outcome_29 : decode cL_outcome 29 = .ok (.irem, 1) := by decide +kernel
theorem dL_outcome_30 : decode cL_outcome 30 = .ok (.invokestatic 47, 3) := by decide +kernel
theorem dL_outcome_33 : decode cL_outcome 33 = .ok (.istore 10, 2) := by decide +kernel
theorem dL_outcome_35 : decode cL_outcome 35 = .ok (.iload 10, 2) := by decide +kernel
theorem dL_outcome_37 : decode cL_outcome 37 = .ok (.ifCond .ge 6, 3) := by decide +kernel
theorem dL_outcome_40 : decode cL_outcome 40 = .ok (.bipush (-2), 2) := by decide +kernel
theorem dL_outcome_42 : decode cL_outcome 42 = .ok (.ireturn, 1) := by decide +kernel
theorem dL_outcome_43 : decode cL_outcome 43 = .ok (.iload 10, 2) := by decide +kernel
theorem dL_outcome_45 : decode cL_outcome 45 = .ok (.iload 6, 2) := by decide +kernel
theorem dL_outcome_47 : decode cL_outcome 47 = .ok (.ishr, 1) := by decide +kernel
theorem dL_outcome_48 : decode cL_outcome 48 = .ok (.iconst 1, 1) := by decide +kernel
theorem dL_outcome_49 : decode cL_outcome 49 = .ok (.iand, 1) := by decide +kernel
theorem dL_outcome_50 : decode cL_outcome 50 = .ok (.iconst 1, 1) := by decide +kernel
theorem dL_outcome_51 : decode cL_outcome 51 = .ok (.if_icmp .ne 7, 3) := by decide +kernel
theorem dL_outcome_54 : decode cL_outcome 54 = .ok (.iconst 1, 1) := by decide +kernel
theorem dL_outcome_55 : decode cL_outcome 55 = .ok (.goto 4, 3) := by decide +kernel
theorem dL_outcome_58 : decode cL_outcome 58 = .ok (.iconst 0, 1) := by decide +kernel
theorem dL_outcome_59 : decode cL_outcome 59 = .ok (.istore 11, 2) := by decide +kernel
theorem dL_outcome_61 : decode cL_outcome 61 = .ok (.iload 10, 2) := by decide +kernel
theorem dL_outcome_63 : decode cL_outcome 63 = .ok (.iconst 1, 1) := by decide +kernel
theorem dL_outcome_64 : decode cL_outcome 64 = .ok (.iload 6, 2) := by decide +kernel
theorem dL_outcome_66 : decode cL_outcome 66 = .ok (.isub, 1) := by decide +kernel
theorem dL_outcome_67 : decode cL_outcome 67 = .ok (.ishr, 1) := by decide +kernel
theorem dL_outcome_68 : decode cL_outcome 68 = .ok (.iconst 1, 1) := by decide +kernel
theorem dL_outcome_69 : decode cL_outcome 69 = .ok (.iand, 1) := by decide +kernel
theorem dL_outcome_70 : decode cL_outcome 70 = .ok (.iconst 1, 1) := by decide +kernel
theorem dL_outcome_71 : decode cL_outcome 71 = .ok (.if_icmp .ne 7, 3) := by decide +kernel
theorem dL_outcome_74 : decode cL_outcome 74 = .ok (.iconst 1, 1) := by decide +kernel
theorem dL_outcome_75 : decode cL_outcome 75 = .ok (.goto 4, 3) := by decide +kernel
theorem dL_outcome_78 : decode cL_outcome 78 = .ok (.iconst 0, 1) := by decide +kernel
theorem dL_outcome_79 : decode cL_outcome 79 = .ok (.istore 12, 2) := by decide +kernel
theorem dL_outcome_81 : decode cL_outcome 81 = .ok (.iload 11, 2) := by decide +kernel
theorem dL_outcome_83 : decode cL_outcome 83 = .ok (.ifCond .eq 17, 3) := by decide +kernel
theorem dL_outcome_86 : decode cL_outcome 86 = .ok (.iload 7, 2) := by decide +kernel
theorem dL_outcome_88 : decode cL_outcome 88 = .ok (.ifCond .ne 8, 3) := by decide +kernel
theorem dL_outcome_91 : decode cL_outcome 91 = .ok (.iload 12, 2) := by decide +kernel
theorem dL_outcome_93 : decode cL_outcome 93 = .ok (.ifCond .ne 7, 3) := by decide +kernel
theorem dL_outcome_96 : decode cL_outcome 96 = .ok (.iconst 1, 1) := by decide +kernel
theorem dL_outcome_97 : decode cL_outcome 97 = .ok (.goto 13, 3) := by decide +kernel
theorem dL_outcome_100 : decode cL_outcome 100 = .ok (.iload 12, 2) := by decide +kernel
theorem dL_outcome_102 : decode cL_outcome 102 = .ok (.ifCond .eq 7, 3) := by decide +kernel
theorem dL_outcome_105 : decode cL_outcome 105 = .ok (.iconst (-1), 1) := by decide +kernel
theorem dL_outcome_106 : decode cL_outcome 106 = .ok (.goto 4, 3) := by decide +kernel
theorem dL_outcome_109 : decode cL_outcome 109 = .ok (.iconst 0, 1) := by decide +kernel
theorem dL_outcome_110 : decode cL_outcome 110 = .ok (.ireturn, 1) := by decide +kernel
theorem dL_forced_0 : decode cL_forced 0 = .ok (.iconst 4, 1) := by decide +kernel
theorem dL_forced_1 : decode cL_forced 1 = .ok (.aload_n 0, 1) := by decide +kernel
theorem dL_forced_2 : decode cL_forced 2 = .ok (.iconst 2, 1) := by decide +kernel
theorem dL_forced_3 : decode cL_forced 3 = .ok (.iaload, 1) := by decide +kernel
theorem dL_forced_4 : decode cL_forced 4 = .ok (.imul, 1) := by decide +kernel
theorem dL_forced_5 : decode cL_forced 5 = .ok (.istore 8, 2) := by decide +kernel
theorem dL_forced_7 : decode cL_forced 7 = .ok (.aload_n 2, 1) := by decide +kernel
theorem dL_forced_8 : decode cL_forced 8 = .ok (.invokestatic 44, 3) := by decide +kernel
theorem dL_forced_11 : decode cL_forced 11 = .ok (.astore 9, 2) := by decide +kernel
theorem dL_forced_13 : decode cL_forced 13 = .ok (.iconst 3, 1) := by decide +kernel
theorem dL_forced_14 : decode cL_forced 14 = .ok (.newarray .long, 2) := by decide +kernel
theorem dL_forced_16 : decode cL_forced 16 = .ok (.astore 10, 2) := by decide +kernel
theorem dL_forced_18 : decode cL_forced 18 = .ok (.aload 10, 2) := by decide +kernel
theorem dL_forced_20 : decode cL_forced 20 = .ok (.iconst 0, 1) := by decide +kernel
theorem dL_forced_21 : decode cL_forced 21 = .ok (.lload_n 3, 1) := by decide +kernel
theorem dL_forced_22 : decode cL_forced 22 = .ok (.lastore, 1) := by decide +kernel
theorem dL_forced_23 : decode cL_forced 23 = .ok (.aload_n 0, 1) := by decide +kernel
theorem dL_forced_24 : decode cL_forced 24 = .ok (.aload_n 1, 1) := by decide +kernel
theorem dL_forced_25 : decode cL_forced 25 = .ok (.aload 9, 2) := by decide +kernel
theorem dL_forced_27 : decode cL_forced 27 = .ok (.aload 10, 2) := by decide +kernel
theorem dL_forced_29 : decode cL_forced 29 = .ok (.iload 5, 2) := by decide +kernel
theorem dL_forced_31 : decode cL_forced 31 = .ok (.iconst 4, 1) := by decide +kernel
theorem dL_forced_32 : decode cL_forced 32 = .ok (.idiv, 1) := by decide +kernel
theorem dL_forced_33 : decode cL_forced 33 = .ok (.iload 5, 2) := by decide +kernel
theorem dL_forced_35 : decode cL_forced 35 = .ok (.iconst 4, 1) := by decide +kernel
theorem dL_forced_36 : decode cL_forced 36 = .ok (.irem, 1) := by decide +kernel
theorem dL_forced_37 : decode cL_forced 37 = .ok (.invokestatic 47, 3) := by decide +kernel
theorem dL_forced_40 : decode cL_forced 40 = .ok (.pop, 1) := by decide +kernel
theorem dL_forced_41 : decode cL_forced 41 = .ok (.iconst 0, 1) := by decide +kernel
theorem dL_forced_42 : decode cL_forced 42 = .ok (.istore 11, 2) := by decide +kernel
theorem dL_forced_44 : decode cL_forced 44 = .ok (.iconst 0, 1) := by decide +kernel
theorem dL_forced_45 : decode cL_forced 45 = .ok (.istore 12, 2) := by decide +kernel
theorem dL_forced_47 : decode cL_forced 47 = .ok (.iload 12, 2) := by decide +kernel
theorem dL_forced_49 : decode cL_forced 49 = .ok (.iload 8, 2) := by decide +kernel
theorem dL_forced_51 : decode cL_forced 51 = .ok (.if_icmp .ge 90, 3) := by decide +kernel
theorem dL_forced_54 : decode cL_forced 54 = .ok (.aload_n 0, 1) := by decide +kernel
theorem dL_forced_55 : decode cL_forced 55 = .ok (.aload_n 1, 1) := by decide +kernel
theorem dL_forced_56 : decode cL_forced 56 = .ok (.aload 9, 2) := by decide +kernel
theorem dL_forced_58 : decode cL_forced 58 = .ok (.aload 10, 2) := by decide +kernel
theorem dL_forced_60 : decode cL_forced 60 = .ok (.iconst 0, 1) := by decide +kernel
theorem dL_forced_61 : decode cL_forced 61 = .ok (.laload, 1) := by decide +kernel
theorem dL_forced_62 : decode cL_forced 62 = .ok (.iload 12, 2) := by decide +kernel
theorem dL_forced_64 : decode cL_forced 64 = .ok (.iload 6, 2) := by decide +kernel
theorem dL_forced_66 : decode cL_forced 66 = .ok (.iconst 0, 1) := by decide +kernel
theorem dL_forced_67 : decode cL_forced 67 = .ok (.invokestatic 56, 3) := by decide +kernel
theorem dL_forced_70 : decode cL_forced 70 = .ok (.istore 13, 2) := by decide +kernel
theorem dL_forced_72 : decode cL_forced 72 = .ok (.iload 11, 2) := by decide +kernel
theorem dL_forced_74 : decode cL_forced 74 = .ok (.ifCond .ne 10, 3) := by decide +kernel
theorem dL_forced_77 : decode cL_forced 77 = .ok (.iload 13, 2) := by decide +kernel
theorem dL_forced_79 : decode cL_forced 79 = .ok (.bipush (-2), 2) := by decide +kernel
theorem dL_forced_81 : decode cL_forced 81 = .ok (.if_icmp .le 7, 3) := by decide +kernel
theorem dL_forced_84 : decode cL_forced 84 = .ok (.iconst 1, 1) := by decide +kernel
theorem dL_forced_85 : decode cL_forced 85 = .ok (.goto 4, 3) := by decide +kernel
theorem dL_forced_88 : decode cL_forced 88 = .ok (.iconst 0, 1) := by decide +kernel
theorem dL_forced_89 : decode cL_forced 89 = .ok (.istore 11, 2) := by decide +kernel
theorem dL_forced_91 : decode cL_forced 91 = .ok (.iload 13, 2) := by decide +kernel
theorem dL_forced_93 : decode cL_forced 93 = .ok (.iconst (-1), 1) := by decide +kernel
theorem dL_forced_94 : decode cL_forced 94 = .ok (.if_icmp .eq 14, 3) := by decide +kernel
theorem dL_forced_97 : decode cL_forced 97 = .ok (.iload 13, 2) := by decide +kernel
theorem dL_forced_99 : decode cL_forced 99 = .ok (.ifCond .ne 11, 3) := by decide +kernel
theorem dL_forced_102 : decode cL_forced 102 = .ok (.iload 7, 2) := by decide +kernel
theorem dL_forced_104 : decode cL_forced 104 = .ok (.iconst 2, 1) := by decide +kernel
theorem dL_forced_105 : decode cL_forced 105 = .ok (.if_icmp .ne 5, 3) := by decide +kernel
theorem dL_forced_108 : decode cL_forced 108 = .ok (.iconst 0, 1) := by decide +kernel
theorem dL_forced_109 : decode cL_forced 109 = .ok (.ireturn, 1) := by decide +kernel
theorem dL_forced_110 : decode cL_forced 110 = .ok (.iload 13, 2) := by decide +kernel
theorem dL_forced_112 : decode cL_forced 112 = .ok (.ifCond .ne 23, 3) := by decide +kernel
theorem dL_forced_115 : decode cL_forced 115 = .ok (.aload_n 0, 1) := by decide +kernel
theorem dL_forced_116 : decode cL_forced 116 = .ok (.aload_n 1, 1) := by decide +kernel
theorem dL_forced_117 : decode cL_forced 117 = .ok (.aload 9, 2) := by decide +kernel
theorem dL_forced_119 : decode cL_forced 119 = .ok (.aload 10, 2) := by decide +kernel
theorem dL_forced_121 : decode cL_forced 121 = .ok (.iconst 0, 1) := by decide +kernel
theorem dL_forced_122 : decode cL_forced 122 = .ok (.laload, 1) := by decide +kernel
theorem dL_forced_123 : decode cL_forced 123 = .ok (.iload 12, 2) := by decide +kernel
theorem dL_forced_125 : decode cL_forced 125 = .ok (.iload 6, 2) := by decide +kernel
theorem dL_forced_127 : decode cL_forced 127 = .ok (.invokestatic 87, 3) := by decide +kernel
theorem dL_forced_130 : decode cL_forced 130 = .ok (.ifCond .ne 5, 3) := by decide +kernel
theorem dL_forced_133 : decode cL_forced 133 = .ok (.iconst 0, 1) := by decide +kernel
theorem dL_forced_134 : decode cL_forced 134 = .ok (.ireturn, 1) := by decide +kernel
theorem dL_forced_135 : decode cL_forced 135 = .ok (.iinc 12 1, 3) := by decide +kernel
theorem dL_forced_138 : decode cL_forced 138 = .ok (.goto (-91), 3) := by decide +kernel
theorem dL_forced_141 : decode cL_forced 141 = .ok (.iload 11, 2) := by decide +kernel
theorem dL_forced_143 : decode cL_forced 143 = .ok (.ifCond .ne 63, 3) := by decide +kernel
theorem dL_forced_146 : decode cL_forced 146 = .ok (.iconst 0, 1) := by decide +kernel
theorem dL_forced_147 : decode cL_forced 147 = .ok (.istore 12, 2) := by decide +kernel
theorem dL_forced_149 : decode cL_forced 149 = .ok (.iconst 0, 1) := by decide +kernel
theorem dL_forced_150 : decode cL_forced 150 = .ok (.istore 13, 2) := by decide +kernel
theorem dL_forced_152 : decode cL_forced 152 = .ok (.iload 13, 2) := by decide +kernel
theorem dL_forced_154 : decode cL_forced 154 = .ok (.iload 8, 2) := by decide +kernel
theorem dL_forced_156 : decode cL_forced 156 = .ok (.if_icmp .ge 47, 3) := by decide +kernel
theorem dL_forced_159 : decode cL_forced 159 = .ok (.iload 7, 2) := by decide +kernel
theorem dL_forced_161 : decode cL_forced 161 = .ok (.iconst 2, 1) := by decide +kernel
theorem dL_forced_162 : decode cL_forced 162 = .ok (.if_icmp .le 41, 3) := by decide +kernel
theorem dL_forced_165 : decode cL_forced 165 = .ok (.iload 12, 2) := by decide +kernel
theorem dL_forced_167 : decode cL_forced 167 = .ok (.ifCond .ne 23, 3) := by decide +kernel
theorem dL_forced_170 : decode cL_forced 170 = .ok (.aload_n 0, 1) := by decide +kernel
theorem dL_forced_171 : decode cL_forced 171 = .ok (.aload_n 1, 1) := by decide +kernel
theorem dL_forced_172 : decode cL_forced 172 = .ok (.aload 9, 2) := by decide +kernel
theorem dL_forced_174 : decode cL_forced 174 = .ok (.aload 10, 2) := by decide +kernel
theorem dL_forced_176 : decode cL_forced 176 = .ok (.iconst 0, 1) := by decide +kernel
theorem dL_forced_177 : decode cL_forced 177 = .ok (.laload, 1) := by decide +kernel
theorem dL_forced_178 : decode cL_forced 178 = .ok (.iload 13, 2) := by decide +kernel
theorem dL_forced_180 : decode cL_forced 180 = .ok (.iload 6, 2) := by decide +kernel
theorem dL_forced_182 : decode cL_forced 182 = .ok (.iconst 1, 1) := by decide +kernel
theorem dL_forced_183 : decode cL_forced 183 = .ok (.invokestatic 56, 3) := by decide +kernel
theorem dL_forced_186 : decode cL_forced 186 = .ok (.iconst 1, 1) := by decide +kernel
theorem dL_forced_187 : decode cL_forced 187 = .ok (.if_icmp .ne 7, 3) := by decide +kernel
theorem dL_forced_190 : decode cL_forced 190 = .ok (.iconst 1, 1) := by decide +kernel
theorem dL_forced_191 : decode cL_forced 191 = .ok (.goto 4, 3) := by decide +kernel
theorem dL_forced_194 : decode cL_forced 194 = .ok (.iconst 0, 1) := by decide +kernel
theorem dL_forced_195 : decode cL_forced 195 = .ok (.istore 12, 2) := by decide +kernel
theorem dL_forced_197 : decode cL_forced 197 = .ok (.iinc 13 1, 3) := by decide +kernel
theorem dL_forced_200 : decode cL_forced 200 = .ok (.goto (-48), 3) := by decide +kernel
theorem dL_forced_203 : decode cL_forced 203 = .ok (.iload 12, 2) := by decide +kernel
theorem dL_forced_205 : decode cL_forced 205 = .ok (.ireturn, 1) := by decide +kernel
theorem dL_forced_206 : decode cL_forced 206 = .ok (.iconst 1, 1) := by decide +kernel
theorem dL_forced_207 : decode cL_forced 207 = .ok (.ireturn, 1) := by decide +kernel
theorem dL_wins_0 : decode cL_wins 0 = .ok (.aload_n 2, 1) := by decide +kernel
theorem dL_wins_1 : decode cL_wins 1 = .ok (.invokestatic 44, 3) := by decide +kernel
theorem dL_wins_4 : decode cL_wins 4 = .ok (.astore 7, 2) := by decide +kernel
theorem dL_wins_6 : decode cL_wins 6 = .ok (.iconst 3, 1) := by decide +kernel
theorem dL_wins_7 : decode cL_wins 7 = .ok (.newarray .long, 2) := by decide +kernel
theorem dL_wins_9 : decode cL_wins 9 = .ok (.astore 8, 2) := by decide +kernel
theorem dL_wins_11 : decode cL_wins 11 = .ok (.aload 8, 2) := by decide +kernel
theorem dL_wins_13 : decode cL_wins 13 = .ok (.iconst 0, 1) := by decide +kernel
theorem dL_wins_14 : decode cL_wins 14 = .ok (.lload_n 3, 1) := by decide +kernel
theorem dL_wins_15 : decode cL_wins 15 = .ok (.lastore, 1) := by decide +kernel
theorem dL_wins_16 : decode cL_wins 16 = .ok (.aload_n 0, 1) := by decide +kernel
theorem dL_wins_17 : decode cL_wins 17 = .ok (.aload_n 1, 1) := by decide +kernel
theorem dL_wins_18 : decode cL_wins 18 = .ok (.aload 7, 2) := by decide +kernel
theorem dL_wins_20 : decode cL_wins 20 = .ok (.aload 8, 2) := by decide +kernel
theorem dL_wins_22 : decode cL_wins 22 = .ok (.iload 5, 2) := by decide +kernel
theorem dL_wins_24 : decode cL_wins 24 = .ok (.iconst 4, 1) := by decide +kernel
theorem dL_wins_25 : decode cL_wins 25 = .ok (.idiv, 1) := by decide +kernel
theorem dL_wins_26 : decode cL_wins 26 = .ok (.iload 5, 2) := by decide +kernel
theorem dL_wins_28 : decode cL_wins 28 = .ok (.iconst 4, 1) := by decide +kernel
theorem dL_wins_29 : decode cL_wins 29 = .ok (.irem, 1) := by decide +kernel
theorem dL_wins_30 : decode cL_wins 30 = .ok (.invokestatic 47, 3) := by decide +kernel
theorem dL_wins_33 : decode cL_wins 33 = .ok (.pop, 1) := by decide +kernel
theorem dL_wins_34 : decode cL_wins 34 = .ok (.iconst 0, 1) := by decide +kernel
theorem dL_wins_35 : decode cL_wins 35 = .ok (.istore 9, 2) := by decide +kernel
theorem dL_wins_37 : decode cL_wins 37 = .ok (.iconst 0, 1) := by decide +kernel
theorem dL_wins_38 : decode cL_wins 38 = .ok (.istore 10, 2) := by decide +kernel
theorem dL_wins_40 : decode cL_wins 40 = .ok (.iload 10, 2) := by decide +kernel
theorem dL_wins_42 : decode cL_wins 42 = .ok (.iconst 4, 1) := by decide +kernel
theorem dL_wins_43 : decode cL_wins 43 = .ok (.aload_n 0, 1) := by decide +kernel
theorem dL_wins_44 : decode cL_wins 44 = .ok (.iconst 2, 1) := by decide +kernel
theorem dL_wins_45 : decode cL_wins 45 = .ok (.iaload, 1) := by decide +kernel
theorem dL_wins_46 : decode cL_wins 46 = .ok (.imul, 1) := by decide +kernel
theorem dL_wins_47 : decode cL_wins 47 = .ok (.if_icmp .ge 41, 3) := by decide +kernel
theorem dL_wins_50 : decode cL_wins 50 = .ok (.iload 9, 2) := by decide +kernel
theorem dL_wins_52 : decode cL_wins 52 = .ok (.ifCond .ne 23, 3) := by decide +kernel
theorem dL_wins_55 : decode cL_wins 55 = .ok (.aload_n 0, 1) := by decide +kernel
theorem dL_wins_56 : decode cL_wins 56 = .ok (.aload_n 1, 1) := by decide +kernel
theorem dL_wins_57 : decode cL_wins 57 = .ok (.aload 7, 2) := by decide +kernel
theorem dL_wins_59 : decode cL_wins 59 = .ok (.aload 8, 2) := by decide +kernel
theorem dL_wins_61 : decode cL_wins 61 = .ok (.iconst 0, 1) := by decide +kernel
theorem dL_wins_62 : decode cL_wins 62 = .ok (.laload, 1) := by decide +kernel
theorem dL_wins_63 : decode cL_wins 63 = .ok (.iload 10, 2) := by decide +kernel
theorem dL_wins_65 : decode cL_wins 65 = .ok (.iload 6, 2) := by decide +kernel
theorem dL_wins_67 : decode cL_wins 67 = .ok (.iconst 1, 1) := by decide +kernel
theorem dL_wins_68 : decode cL_wins 68 = .ok (.invokestatic 56, 3) := by decide +kernel
theorem dL_wins_71 : decode cL_wins 71 = .ok (.iconst 1, 1) := by decide +kernel
theorem dL_wins_72 : decode cL_wins 72 = .ok (.if_icmp .ne 7, 3) := by decide +kernel
theorem dL_wins_75 : decode cL_wins 75 = .ok (.iconst 1, 1) := by decide +kernel
theorem dL_wins_76 : decode cL_wins 76 = .ok (.goto 4, 3) := by decide +kernel
theorem dL_wins_79 : decode cL_wins 79 = .ok (.iconst 0, 1) := by decide +kernel
theorem dL_wins_80 : decode cL_wins 80 = .ok (.istore 9, 2) := by decide +kernel
theorem dL_wins_82 : decode cL_wins 82 = .ok (.iinc 10 1, 3) := by decide +kernel
theorem dL_wins_85 : decode cL_wins 85 = .ok (.goto (-45), 3) := by decide +kernel
theorem dL_wins_88 : decode cL_wins 88 = .ok (.iload 9, 2) := by decide +kernel
theorem dL_wins_90 : decode cL_wins 90 = .ok (.ireturn, 1) := by decide +kernel
