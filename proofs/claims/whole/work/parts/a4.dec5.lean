/-! printed by wip/whole/tools/dec.py: the law -/
theorem d_La_law_521 : decode code 521 = .ok (.iaload, 1) := by decide +kernel
theorem d_La_law_522 : decode code 522 = .ok (.aload_n 0, 1) := by decide +kernel
theorem d_La_law_523 : decode code 523 = .ok (.iload 4, 2) := by decide +kernel
theorem d_La_law_525 : decode code 525 = .ok (.iconst 3, 1) := by decide +kernel
theorem d_La_law_526 : decode code 526 = .ok (.iadd, 1) := by decide +kernel
theorem d_La_law_527 : decode code 527 = .ok (.iaload, 1) := by decide +kernel
theorem d_La_law_528 : decode code 528 = .ok (.aload_n 0, 1) := by decide +kernel
theorem d_La_law_529 : decode code 529 = .ok (.iload 4, 2) := by decide +kernel
theorem d_La_law_531 : decode code 531 = .ok (.iconst 4, 1) := by decide +kernel
theorem d_La_law_532 : decode code 532 = .ok (.iadd, 1) := by decide +kernel
theorem d_La_law_533 : decode code 533 = .ok (.iaload, 1) := by decide +kernel
theorem d_La_law_534 : decode code 534 = .ok (.invokevirtual 82, 3) := by decide +kernel
theorem d_La_law_537 : decode code 537 = .ok (.if_icmp .eq 196, 3) := by decide +kernel
theorem d_La_law_540 : decode code 540 = .ok (.iconst 0, 1) := by decide +kernel
theorem d_La_law_541 : decode code 541 = .ok (.ireturn, 1) := by decide +kernel
theorem d_La_law_542 : decode code 542 = .ok (.aload_n 1, 1) := by decide +kernel
theorem d_La_law_543 : decode code 543 = .ok (.aload_n 0, 1) := by decide +kernel
theorem d_La_law_544 : decode code 544 = .ok (.iload 4, 2) := by decide +kernel
theorem d_La_law_546 : decode code 546 = .ok (.iconst 1, 1) := by decide +kernel
theorem d_La_law_547 : decode code 547 = .ok (.iadd, 1) := by decide +kernel
theorem d_La_law_548 : decode code 548 = .ok (.iaload, 1) := by decide +kernel
theorem d_La_law_549 : decode code 549 = .ok (.aload_n 0, 1) := by decide +kernel
theorem d_La_law_550 : decode code 550 = .ok (.iload 4, 2) := by decide +kernel
theorem d_La_law_552 : decode code 552 = .ok (.iconst 2, 1) := by decide +kernel
theorem d_La_law_553 : decode code 553 = .ok (.iadd, 1) := by decide +kernel
theorem d_La_law_554 : decode code 554 = .ok (.iaload, 1) := by decide +kernel
theorem d_La_law_555 : decode code 555 = .ok (.invokevirtual 83, 3) := by decide +kernel
theorem d_La_law_558 : decode code 558 = .ok (.aload_n 2, 1) := by decide +kernel
theorem d_La_law_559 : decode code 559 = .ok (.aload_n 0, 1) := by decide +kernel
theorem d_La_law_560 : decode code 560 = .ok (.iload 4, 2) := by decide +kernel
theorem d_La_law_562 : decode code 562 = .ok (.iconst 1, 1) := by decide +kernel
theorem d_La_law_563 : decode code 563 = .ok (.iadd, 1) := by decide +kernel
theorem d_La_law_564 : decode code 564 = .ok (.iaload, 1) := by decide +kernel
theorem d_La_law_565 : decode code 565 = .ok (.aload_n 0, 1) := by decide +kernel
theorem d_La_law_566 : decode code 566 = .ok (.iload 4, 2) := by decide +kernel
theorem d_La_law_568 : decode code 568 = .ok (.iconst 2, 1) := by decide +kernel
theorem d_La_law_569 : decode code 569 = .ok (.iadd, 1) := by decide +kernel
theorem d_La_law_570 : decode code 570 = .ok (.iaload, 1) := by decide +kernel
theorem d_La_law_571 : decode code 571 = .ok (.invokevirtual 86, 3) := by decide +kernel
theorem d_La_law_574 : decode code 574 = .ok (.if_icmp .eq 159, 3) := by decide +kernel
theorem d_La_law_577 : decode code 577 = .ok (.iconst 0, 1) := by decide +kernel
theorem d_La_law_578 : decode code 578 = .ok (.ireturn, 1) := by decide +kernel
theorem d_La_law_579 : decode code 579 = .ok (.aload_n 1, 1) := by decide +kernel
theorem d_La_law_580 : decode code 580 = .ok (.invokevirtual 87, 3) := by decide +kernel
theorem d_La_law_583 : decode code 583 = .ok (.dstore 5, 2) := by decide +kernel
theorem d_La_law_585 : decode code 585 = .ok (.aload_n 2, 1) := by decide +kernel
theorem d_La_law_586 : decode code 586 = .ok (.invokevirtual 91, 3) := by decide +kernel
theorem d_La_law_589 : decode code 589 = .ok (.dstore 7, 2) := by decide +kernel
theorem d_La_law_591 : decode code 591 = .ok (.dload 5, 2) := by decide +kernel
theorem d_La_law_593 : decode code 593 = .ok (.dload 7, 2) := by decide +kernel
theorem d_La_law_595 : decode code 595 = .ok (.dcmp .l, 1) := by decide +kernel
theorem d_La_law_596 : decode code 596 = .ok (.ifCond .eq 21, 3) := by decide +kernel
theorem d_La_law_599 : decode code 599 = .ok (.dload 5, 2) := by decide +kernel
theorem d_La_law_601 : decode code 601 = .ok (.dload 5, 2) := by decide +kernel
theorem d_La_law_603 : decode code 603 = .ok (.dcmp .l, 1) := by decide +kernel
theorem d_La_law_604 : decode code 604 = .ok (.ifCond .eq 11, 3) := by decide +kernel
theorem d_La_law_607 : decode code 607 = .ok (.dload 7, 2) := by decide +kernel
theorem d_La_law_609 : decode code 609 = .ok (.dload 7, 2) := by decide +kernel
theorem d_La_law_611 : decode code 611 = .ok (.dcmp .l, 1) := by decide +kernel
theorem d_La_law_612 : decode code 612 = .ok (.ifCond .ne 5, 3) := by decide +kernel
theorem d_La_law_615 : decode code 615 = .ok (.iconst 0, 1) := by decide +kernel
theorem d_La_law_616 : decode code 616 = .ok (.ireturn, 1) := by decide +kernel
theorem d_La_law_617 : decode code 617 = .ok (.goto 116, 3) := by decide +kernel
theorem d_La_law_620 : decode code 620 = .ok (.aload_n 1, 1) := by decide +kernel
theorem d_La_law_621 : decode code 621 = .ok (.aload_n 0, 1) := by decide +kernel
theorem d_La_law_622 : decode code 622 = .ok (.iload 4, 2) := by decide +kernel
theorem d_La_law_624 : decode code 624 = .ok (.iconst 1, 1) := by decide +kernel
theorem d_La_law_625 : decode code 625 = .ok (.iadd, 1) := by decide +kernel
theorem d_La_law_626 : decode code 626 = .ok (.iaload, 1) := by decide +kernel
theorem d_La_law_627 : decode code 627 = .ok (.i2d, 1) := by decide +kernel
theorem d_La_law_628 : decode code 628 = .ok (.ldc2_w 92, 3) := by decide +kernel
theorem d_La_law_631 : decode code 631 = .ok (.dmul, 1) := by decide +kernel
theorem d_La_law_632 : decode code 632 = .ok (.invokevirtual 94, 3) := by decide +kernel
theorem d_La_law_635 : decode code 635 = .ok (.dstore 5, 2) := by decide +kernel
theorem d_La_law_637 : decode code 637 = .ok (.aload_n 2, 1) := by decide +kernel
theorem d_La_law_638 : decode code 638 = .ok (.aload_n 0, 1) := by decide +kernel
theorem d_La_law_639 : decode code 639 = .ok (.iload 4, 2) := by decide +kernel
theorem d_La_law_641 : decode code 641 = .ok (.iconst 1, 1) := by decide +kernel
theorem d_La_law_642 : decode code 642 = .ok (.iadd, 1) := by decide +kernel
theorem d_La_law_643 : decode code 643 = .ok (.iaload, 1) := by decide +kernel
theorem d_La_law_644 : decode code 644 = .ok (.i2d, 1) := by decide +kernel
theorem d_La_law_645 : decode code 645 = .ok (.ldc2_w 92, 3) := by decide +kernel
theorem d_La_law_648 : decode code 648 = .ok (.dmul, 1) := by decide +kernel
theorem d_La_law_649 : decode code 649 = .ok (.invokevirtual 98, 3) := by decide +kernel
theorem d_La_law_652 : decode code 652 = .ok (.dstore 7, 2) := by decide +kernel
theorem d_La_law_654 : decode code 654 = .ok (.dload 5, 2) := by decide +kernel
theorem d_La_law_656 : decode code 656 = .ok (.dload 7, 2) := by decide +kernel
theorem d_La_law_658 : decode code 658 = .ok (.dcmp .l, 1) := by decide +kernel
theorem d_La_law_659 : decode code 659 = .ok (.ifCond .eq 21, 3) := by decide +kernel
theorem d_La_law_662 : decode code 662 = .ok (.dload 5, 2) := by decide +kernel
theorem d_La_law_664 : decode code 664 = .ok (.dload 5, 2) := by decide +kernel
theorem d_La_law_666 : decode code 666 = .ok (.dcmp .l, 1) := by decide +kernel
theorem d_La_law_667 : decode code 667 = .ok (.ifCond .eq 11, 3) := by decide +kernel
theorem d_La_law_670 : decode code 670 = .ok (.dload 7, 2) := by decide +kernel
theorem d_La_law_672 : decode code 672 = .ok (.dload 7, 2) := by decide +kernel
theorem d_La_law_674 : decode code 674 = .ok (.dcmp .l, 1) := by decide +kernel
theorem d_La_law_675 : decode code 675 = .ok (.ifCond .ne 5, 3) := by decide +kernel
theorem d_La_law_678 : decode code 678 = .ok (.iconst 0, 1) := by decide +kernel
theorem d_La_law_679 : decode code 679 = .ok (.ireturn, 1) := by decide +kernel
theorem d_La_law_680 : decode code 680 = .ok (.goto 53, 3) := by decide +kernel
