/-! PART e0b (by gen_law.py): the law, decoded -/
theorem d_Law_law_427 : decode y_Law_law.2.1 427 = .ok (.istore 5, 2) := by decide +kernel
theorem d_Law_law_429 : decode y_Law_law.2.1 429 = .ok (.aload_n 2, 1) := by decide +kernel
theorem d_Law_law_430 : decode y_Law_law.2.1 430 = .ok (.aload_n 0, 1) := by decide +kernel
theorem d_Law_law_431 : decode y_Law_law.2.1 431 = .ok (.iload 4, 2) := by decide +kernel
theorem d_Law_law_433 : decode y_Law_law.2.1 433 = .ok (.iconst 1, 1) := by decide +kernel
theorem d_Law_law_434 : decode y_Law_law.2.1 434 = .ok (.iadd, 1) := by decide +kernel
theorem d_Law_law_435 : decode y_Law_law.2.1 435 = .ok (.iaload, 1) := by decide +kernel
theorem d_Law_law_436 : decode y_Law_law.2.1 436 = .ok (.aload_n 0, 1) := by decide +kernel
theorem d_Law_law_437 : decode y_Law_law.2.1 437 = .ok (.iload 4, 2) := by decide +kernel
theorem d_Law_law_439 : decode y_Law_law.2.1 439 = .ok (.iconst 2, 1) := by decide +kernel
theorem d_Law_law_440 : decode y_Law_law.2.1 440 = .ok (.iadd, 1) := by decide +kernel
theorem d_Law_law_441 : decode y_Law_law.2.1 441 = .ok (.iaload, 1) := by decide +kernel
theorem d_Law_law_442 : decode y_Law_law.2.1 442 = .ok (.invokevirtual 53, 3) := by decide +kernel
theorem d_Law_law_445 : decode y_Law_law.2.1 445 = .ok (.istore 6, 2) := by decide +kernel
theorem d_Law_law_447 : decode y_Law_law.2.1 447 = .ok (.aload_n 2, 1) := by decide +kernel
theorem d_Law_law_448 : decode y_Law_law.2.1 448 = .ok (.invokevirtual 54, 3) := by decide +kernel
theorem d_Law_law_451 : decode y_Law_law.2.1 451 = .ok (.iload 5, 2) := by decide +kernel
theorem d_Law_law_453 : decode y_Law_law.2.1 453 = .ok (.if_icmp .eq (5), 3) := by decide +kernel
theorem d_Law_law_456 : decode y_Law_law.2.1 456 = .ok (.iconst 0, 1) := by decide +kernel
theorem d_Law_law_457 : decode y_Law_law.2.1 457 = .ok (.ireturn, 1) := by decide +kernel
theorem d_Law_law_458 : decode y_Law_law.2.1 458 = .ok (.iload 5, 2) := by decide +kernel
theorem d_Law_law_460 : decode y_Law_law.2.1 460 = .ok (.ifCond .ne (15), 3) := by decide +kernel
theorem d_Law_law_463 : decode y_Law_law.2.1 463 = .ok (.aload_n 3, 1) := by decide +kernel
theorem d_Law_law_464 : decode y_Law_law.2.1 464 = .ok (.iconst 0, 1) := by decide +kernel
theorem d_Law_law_465 : decode y_Law_law.2.1 465 = .ok (.laload, 1) := by decide +kernel
theorem d_Law_law_466 : decode y_Law_law.2.1 466 = .ok (.iload 6, 2) := by decide +kernel
theorem d_Law_law_468 : decode y_Law_law.2.1 468 = .ok (.i2l, 1) := by decide +kernel
theorem d_Law_law_469 : decode y_Law_law.2.1 469 = .ok (.lcmp, 1) := by decide +kernel
theorem d_Law_law_470 : decode y_Law_law.2.1 470 = .ok (.ifCond .eq (5), 3) := by decide +kernel
theorem d_Law_law_473 : decode y_Law_law.2.1 473 = .ok (.iconst 0, 1) := by decide +kernel
theorem d_Law_law_474 : decode y_Law_law.2.1 474 = .ok (.ireturn, 1) := by decide +kernel
theorem d_Law_law_475 : decode y_Law_law.2.1 475 = .ok (.goto (797), 3) := by decide +kernel
theorem d_Law_law_478 : decode y_Law_law.2.1 478 = .ok (.aload_n 1, 1) := by decide +kernel
theorem d_Law_law_479 : decode y_Law_law.2.1 479 = .ok (.aload_n 0, 1) := by decide +kernel
theorem d_Law_law_480 : decode y_Law_law.2.1 480 = .ok (.iload 4, 2) := by decide +kernel
theorem d_Law_law_482 : decode y_Law_law.2.1 482 = .ok (.iconst 1, 1) := by decide +kernel
theorem d_Law_law_483 : decode y_Law_law.2.1 483 = .ok (.iadd, 1) := by decide +kernel
theorem d_Law_law_484 : decode y_Law_law.2.1 484 = .ok (.iaload, 1) := by decide +kernel
theorem d_Law_law_485 : decode y_Law_law.2.1 485 = .ok (.aload_n 0, 1) := by decide +kernel
theorem d_Law_law_486 : decode y_Law_law.2.1 486 = .ok (.iload 4, 2) := by decide +kernel
theorem d_Law_law_488 : decode y_Law_law.2.1 488 = .ok (.iconst 2, 1) := by decide +kernel
theorem d_Law_law_489 : decode y_Law_law.2.1 489 = .ok (.iadd, 1) := by decide +kernel
theorem d_Law_law_490 : decode y_Law_law.2.1 490 = .ok (.iaload, 1) := by decide +kernel
theorem d_Law_law_491 : decode y_Law_law.2.1 491 = .ok (.invokevirtual 57, 3) := by decide +kernel
theorem d_Law_law_494 : decode y_Law_law.2.1 494 = .ok (.aload_n 2, 1) := by decide +kernel
theorem d_Law_law_495 : decode y_Law_law.2.1 495 = .ok (.aload_n 0, 1) := by decide +kernel
theorem d_Law_law_496 : decode y_Law_law.2.1 496 = .ok (.iload 4, 2) := by decide +kernel
theorem d_Law_law_498 : decode y_Law_law.2.1 498 = .ok (.iconst 1, 1) := by decide +kernel
theorem d_Law_law_499 : decode y_Law_law.2.1 499 = .ok (.iadd, 1) := by decide +kernel
theorem d_Law_law_500 : decode y_Law_law.2.1 500 = .ok (.iaload, 1) := by decide +kernel
theorem d_Law_law_501 : decode y_Law_law.2.1 501 = .ok (.aload_n 0, 1) := by decide +kernel
theorem d_Law_law_502 : decode y_Law_law.2.1 502 = .ok (.iload 4, 2) := by decide +kernel
theorem d_Law_law_504 : decode y_Law_law.2.1 504 = .ok (.iconst 2, 1) := by decide +kernel
theorem d_Law_law_505 : decode y_Law_law.2.1 505 = .ok (.iadd, 1) := by decide +kernel
theorem d_Law_law_506 : decode y_Law_law.2.1 506 = .ok (.iaload, 1) := by decide +kernel
theorem d_Law_law_507 : decode y_Law_law.2.1 507 = .ok (.invokevirtual 60, 3) := by decide +kernel
theorem d_Law_law_510 : decode y_Law_law.2.1 510 = .ok (.if_icmp .eq (762), 3) := by decide +kernel
theorem d_Law_law_513 : decode y_Law_law.2.1 513 = .ok (.iconst 0, 1) := by decide +kernel
theorem d_Law_law_514 : decode y_Law_law.2.1 514 = .ok (.ireturn, 1) := by decide +kernel
theorem d_Law_law_515 : decode y_Law_law.2.1 515 = .ok (.aload_n 1, 1) := by decide +kernel
theorem d_Law_law_516 : decode y_Law_law.2.1 516 = .ok (.aload_n 0, 1) := by decide +kernel
theorem d_Law_law_517 : decode y_Law_law.2.1 517 = .ok (.iload 4, 2) := by decide +kernel
theorem d_Law_law_519 : decode y_Law_law.2.1 519 = .ok (.iconst 1, 1) := by decide +kernel
theorem d_Law_law_520 : decode y_Law_law.2.1 520 = .ok (.iadd, 1) := by decide +kernel
theorem d_Law_law_521 : decode y_Law_law.2.1 521 = .ok (.iaload, 1) := by decide +kernel
theorem d_Law_law_522 : decode y_Law_law.2.1 522 = .ok (.invokevirtual 61, 3) := by decide +kernel
theorem d_Law_law_525 : decode y_Law_law.2.1 525 = .ok (.aload_n 2, 1) := by decide +kernel
theorem d_Law_law_526 : decode y_Law_law.2.1 526 = .ok (.aload_n 0, 1) := by decide +kernel
theorem d_Law_law_527 : decode y_Law_law.2.1 527 = .ok (.iload 4, 2) := by decide +kernel
theorem d_Law_law_529 : decode y_Law_law.2.1 529 = .ok (.iconst 1, 1) := by decide +kernel
theorem d_Law_law_530 : decode y_Law_law.2.1 530 = .ok (.iadd, 1) := by decide +kernel
theorem d_Law_law_531 : decode y_Law_law.2.1 531 = .ok (.iaload, 1) := by decide +kernel
theorem d_Law_law_532 : decode y_Law_law.2.1 532 = .ok (.invokevirtual 64, 3) := by decide +kernel
theorem d_Law_law_535 : decode y_Law_law.2.1 535 = .ok (.if_icmp .eq (737), 3) := by decide +kernel
theorem d_Law_law_538 : decode y_Law_law.2.1 538 = .ok (.iconst 0, 1) := by decide +kernel
theorem d_Law_law_539 : decode y_Law_law.2.1 539 = .ok (.ireturn, 1) := by decide +kernel
theorem d_Law_law_540 : decode y_Law_law.2.1 540 = .ok (.aload_n 1, 1) := by decide +kernel
theorem d_Law_law_541 : decode y_Law_law.2.1 541 = .ok (.aload_n 0, 1) := by decide +kernel
theorem d_Law_law_542 : decode y_Law_law.2.1 542 = .ok (.iload 4, 2) := by decide +kernel
theorem d_Law_law_544 : decode y_Law_law.2.1 544 = .ok (.iconst 1, 1) := by decide +kernel
theorem d_Law_law_545 : decode y_Law_law.2.1 545 = .ok (.iadd, 1) := by decide +kernel
theorem d_Law_law_546 : decode y_Law_law.2.1 546 = .ok (.iaload, 1) := by decide +kernel
theorem d_Law_law_547 : decode y_Law_law.2.1 547 = .ok (.aload_n 0, 1) := by decide +kernel
theorem d_Law_law_548 : decode y_Law_law.2.1 548 = .ok (.iload 4, 2) := by decide +kernel
theorem d_Law_law_550 : decode y_Law_law.2.1 550 = .ok (.iconst 2, 1) := by decide +kernel
theorem d_Law_law_551 : decode y_Law_law.2.1 551 = .ok (.iadd, 1) := by decide +kernel
theorem d_Law_law_552 : decode y_Law_law.2.1 552 = .ok (.iaload, 1) := by decide +kernel
theorem d_Law_law_553 : decode y_Law_law.2.1 553 = .ok (.invokevirtual 65, 3) := by decide +kernel
theorem d_Law_law_556 : decode y_Law_law.2.1 556 = .ok (.aload_n 2, 1) := by decide +kernel
theorem d_Law_law_557 : decode y_Law_law.2.1 557 = .ok (.aload_n 0, 1) := by decide +kernel
theorem d_Law_law_558 : decode y_Law_law.2.1 558 = .ok (.iload 4, 2) := by decide +kernel
theorem d_Law_law_560 : decode y_Law_law.2.1 560 = .ok (.iconst 1, 1) := by decide +kernel
theorem d_Law_law_561 : decode y_Law_law.2.1 561 = .ok (.iadd, 1) := by decide +kernel
theorem d_Law_law_562 : decode y_Law_law.2.1 562 = .ok (.iaload, 1) := by decide +kernel
theorem d_Law_law_563 : decode y_Law_law.2.1 563 = .ok (.aload_n 0, 1) := by decide +kernel
theorem d_Law_law_564 : decode y_Law_law.2.1 564 = .ok (.iload 4, 2) := by decide +kernel
theorem d_Law_law_566 : decode y_Law_law.2.1 566 = .ok (.iconst 2, 1) := by decide +kernel
theorem d_Law_law_567 : decode y_Law_law.2.1 567 = .ok (.iadd, 1) := by decide +kernel
theorem d_Law_law_568 : decode y_Law_law.2.1 568 = .ok (.iaload, 1) := by decide +kernel
theorem d_Law_law_569 : decode y_Law_law.2.1 569 = .ok (.invokevirtual 68, 3) := by decide +kernel
theorem d_Law_law_572 : decode y_Law_law.2.1 572 = .ok (.if_icmp .eq (700), 3) := by decide +kernel
theorem d_Law_law_575 : decode y_Law_law.2.1 575 = .ok (.iconst 0, 1) := by decide +kernel
theorem d_Law_law_576 : decode y_Law_law.2.1 576 = .ok (.ireturn, 1) := by decide +kernel
theorem d_Law_law_577 : decode y_Law_law.2.1 577 = .ok (.aload_n 1, 1) := by decide +kernel
theorem d_Law_law_578 : decode y_Law_law.2.1 578 = .ok (.aload_n 0, 1) := by decide +kernel
theorem d_Law_law_579 : decode y_Law_law.2.1 579 = .ok (.iload 4, 2) := by decide +kernel
theorem d_Law_law_581 : decode y_Law_law.2.1 581 = .ok (.iconst 1, 1) := by decide +kernel
theorem d_Law_law_582 : decode y_Law_law.2.1 582 = .ok (.iadd, 1) := by decide +kernel
theorem d_Law_law_583 : decode y_Law_law.2.1 583 = .ok (.iaload, 1) := by decide +kernel
theorem d_Law_law_584 : decode y_Law_law.2.1 584 = .ok (.aload_n 0, 1) := by decide +kernel
theorem d_Law_law_585 : decode y_Law_law.2.1 585 = .ok (.iload 4, 2) := by decide +kernel
theorem d_Law_law_587 : decode y_Law_law.2.1 587 = .ok (.iconst 2, 1) := by decide +kernel
theorem d_Law_law_588 : decode y_Law_law.2.1 588 = .ok (.iadd, 1) := by decide +kernel
theorem d_Law_law_589 : decode y_Law_law.2.1 589 = .ok (.iaload, 1) := by decide +kernel
theorem d_Law_law_590 : decode y_Law_law.2.1 590 = .ok (.aload_n 0, 1) := by decide +kernel
theorem d_Law_law_591 : decode y_Law_law.2.1 591 = .ok (.iload 4, 2) := by decide +kernel
theorem d_Law_law_593 : decode y_Law_law.2.1 593 = .ok (.iconst 3, 1) := by decide +kernel
theorem d_Law_law_594 : decode y_Law_law.2.1 594 = .ok (.iadd, 1) := by decide +kernel
theorem d_Law_law_595 : decode y_Law_law.2.1 595 = .ok (.iaload, 1) := by decide +kernel
theorem d_Law_law_596 : decode y_Law_law.2.1 596 = .ok (.invokevirtual 69, 3) := by decide +kernel
theorem d_Law_law_599 : decode y_Law_law.2.1 599 = .ok (.aload_n 2, 1) := by decide +kernel
theorem d_Law_law_600 : decode y_Law_law.2.1 600 = .ok (.aload_n 0, 1) := by decide +kernel
theorem d_Law_law_601 : decode y_Law_law.2.1 601 = .ok (.iload 4, 2) := by decide +kernel
theorem d_Law_law_603 : decode y_Law_law.2.1 603 = .ok (.iconst 1, 1) := by decide +kernel
theorem d_Law_law_604 : decode y_Law_law.2.1 604 = .ok (.iadd, 1) := by decide +kernel
theorem d_Law_law_605 : decode y_Law_law.2.1 605 = .ok (.iaload, 1) := by decide +kernel
theorem d_Law_law_606 : decode y_Law_law.2.1 606 = .ok (.aload_n 0, 1) := by decide +kernel
theorem d_Law_law_607 : decode y_Law_law.2.1 607 = .ok (.iload 4, 2) := by decide +kernel
theorem d_Law_law_609 : decode y_Law_law.2.1 609 = .ok (.iconst 2, 1) := by decide +kernel
theorem d_Law_law_610 : decode y_Law_law.2.1 610 = .ok (.iadd, 1) := by decide +kernel
theorem d_Law_law_611 : decode y_Law_law.2.1 611 = .ok (.iaload, 1) := by decide +kernel
theorem d_Law_law_612 : decode y_Law_law.2.1 612 = .ok (.aload_n 0, 1) := by decide +kernel
theorem d_Law_law_613 : decode y_Law_law.2.1 613 = .ok (.iload 4, 2) := by decide +kernel
theorem d_Law_law_615 : decode y_Law_law.2.1 615 = .ok (.iconst 3, 1) := by decide +kernel
theorem d_Law_law_616 : decode y_Law_law.2.1 616 = .ok (.iadd, 1) := by decide +kernel
theorem d_Law_law_617 : decode y_Law_law.2.1 617 = .ok (.iaload, 1) := by decide +kernel
theorem d_Law_law_618 : decode y_Law_law.2.1 618 = .ok (.invokevirtual 73, 3) := by decide +kernel
theorem d_Law_law_621 : decode y_Law_law.2.1 621 = .ok (.if_icmp .eq (651), 3) := by decide +kernel
theorem d_Law_law_624 : decode y_Law_law.2.1 624 = .ok (.iconst 0, 1) := by decide +kernel
theorem d_Law_law_625 : decode y_Law_law.2.1 625 = .ok (.ireturn, 1) := by decide +kernel
theorem d_Law_law_626 : decode y_Law_law.2.1 626 = .ok (.aload_n 1, 1) := by decide +kernel
theorem d_Law_law_627 : decode y_Law_law.2.1 627 = .ok (.aload_n 0, 1) := by decide +kernel
theorem d_Law_law_628 : decode y_Law_law.2.1 628 = .ok (.iload 4, 2) := by decide +kernel
theorem d_Law_law_630 : decode y_Law_law.2.1 630 = .ok (.iconst 1, 1) := by decide +kernel
theorem d_Law_law_631 : decode y_Law_law.2.1 631 = .ok (.iadd, 1) := by decide +kernel
theorem d_Law_law_632 : decode y_Law_law.2.1 632 = .ok (.iaload, 1) := by decide +kernel
theorem d_Law_law_633 : decode y_Law_law.2.1 633 = .ok (.aload_n 0, 1) := by decide +kernel
theorem d_Law_law_634 : decode y_Law_law.2.1 634 = .ok (.iload 4, 2) := by decide +kernel
theorem d_Law_law_636 : decode y_Law_law.2.1 636 = .ok (.iconst 2, 1) := by decide +kernel
theorem d_Law_law_637 : decode y_Law_law.2.1 637 = .ok (.iadd, 1) := by decide +kernel
theorem d_Law_law_638 : decode y_Law_law.2.1 638 = .ok (.iaload, 1) := by decide +kernel
theorem d_Law_law_639 : decode y_Law_law.2.1 639 = .ok (.aload_n 0, 1) := by decide +kernel
theorem d_Law_law_640 : decode y_Law_law.2.1 640 = .ok (.iload 4, 2) := by decide +kernel
theorem d_Law_law_642 : decode y_Law_law.2.1 642 = .ok (.iconst 3, 1) := by decide +kernel
theorem d_Law_law_643 : decode y_Law_law.2.1 643 = .ok (.iadd, 1) := by decide +kernel
theorem d_Law_law_644 : decode y_Law_law.2.1 644 = .ok (.iaload, 1) := by decide +kernel
theorem d_Law_law_645 : decode y_Law_law.2.1 645 = .ok (.aload_n 0, 1) := by decide +kernel
theorem d_Law_law_646 : decode y_Law_law.2.1 646 = .ok (.iload 4, 2) := by decide +kernel
theorem d_Law_law_648 : decode y_Law_law.2.1 648 = .ok (.iconst 4, 1) := by decide +kernel
theorem d_Law_law_649 : decode y_Law_law.2.1 649 = .ok (.iadd, 1) := by decide +kernel
theorem d_Law_law_650 : decode y_Law_law.2.1 650 = .ok (.iaload, 1) := by decide +kernel
theorem d_Law_law_651 : decode y_Law_law.2.1 651 = .ok (.invokevirtual 74, 3) := by decide +kernel
theorem d_Law_law_654 : decode y_Law_law.2.1 654 = .ok (.aload_n 2, 1) := by decide +kernel
theorem d_Law_law_655 : decode y_Law_law.2.1 655 = .ok (.aload_n 0, 1) := by decide +kernel
theorem d_Law_law_656 : decode y_Law_law.2.1 656 = .ok (.iload 4, 2) := by decide +kernel
theorem d_Law_law_658 : decode y_Law_law.2.1 658 = .ok (.iconst 1, 1) := by decide +kernel
theorem d_Law_law_659 : decode y_Law_law.2.1 659 = .ok (.iadd, 1) := by decide +kernel
theorem d_Law_law_660 : decode y_Law_law.2.1 660 = .ok (.iaload, 1) := by decide +kernel
theorem d_Law_law_661 : decode y_Law_law.2.1 661 = .ok (.aload_n 0, 1) := by decide +kernel
theorem d_Law_law_662 : decode y_Law_law.2.1 662 = .ok (.iload 4, 2) := by decide +kernel
theorem d_Law_law_664 : decode y_Law_law.2.1 664 = .ok (.iconst 2, 1) := by decide +kernel
theorem d_Law_law_665 : decode y_Law_law.2.1 665 = .ok (.iadd, 1) := by decide +kernel
theorem d_Law_law_666 : decode y_Law_law.2.1 666 = .ok (.iaload, 1) := by decide +kernel
theorem d_Law_law_667 : decode y_Law_law.2.1 667 = .ok (.aload_n 0, 1) := by decide +kernel
theorem d_Law_law_668 : decode y_Law_law.2.1 668 = .ok (.iload 4, 2) := by decide +kernel
theorem d_Law_law_670 : decode y_Law_law.2.1 670 = .ok (.iconst 3, 1) := by decide +kernel
theorem d_Law_law_671 : decode y_Law_law.2.1 671 = .ok (.iadd, 1) := by decide +kernel
theorem d_Law_law_672 : decode y_Law_law.2.1 672 = .ok (.iaload, 1) := by decide +kernel
theorem d_Law_law_673 : decode y_Law_law.2.1 673 = .ok (.aload_n 0, 1) := by decide +kernel
theorem d_Law_law_674 : decode y_Law_law.2.1 674 = .ok (.iload 4, 2) := by decide +kernel
theorem d_Law_law_676 : decode y_Law_law.2.1 676 = .ok (.iconst 4, 1) := by decide +kernel
theorem d_Law_law_677 : decode y_Law_law.2.1 677 = .ok (.iadd, 1) := by decide +kernel
theorem d_Law_law_678 : decode y_Law_law.2.1 678 = .ok (.iaload, 1) := by decide +kernel
theorem d_Law_law_679 : decode y_Law_law.2.1 679 = .ok (.invokevirtual 78, 3) := by decide +kernel
theorem d_Law_law_682 : decode y_Law_law.2.1 682 = .ok (.if_icmp .eq (590), 3) := by decide +kernel
theorem d_Law_law_685 : decode y_Law_law.2.1 685 = .ok (.iconst 0, 1) := by decide +kernel
theorem d_Law_law_686 : decode y_Law_law.2.1 686 = .ok (.ireturn, 1) := by decide +kernel
theorem d_Law_law_687 : decode y_Law_law.2.1 687 = .ok (.aload_n 1, 1) := by decide +kernel
theorem d_Law_law_688 : decode y_Law_law.2.1 688 = .ok (.invokevirtual 79, 3) := by decide +kernel
theorem d_Law_law_691 : decode y_Law_law.2.1 691 = .ok (.aload_n 2, 1) := by decide +kernel
theorem d_Law_law_692 : decode y_Law_law.2.1 692 = .ok (.invokevirtual 82, 3) := by decide +kernel
theorem d_Law_law_695 : decode y_Law_law.2.1 695 = .ok (.if_icmp .eq (577), 3) := by decide +kernel
theorem d_Law_law_698 : decode y_Law_law.2.1 698 = .ok (.iconst 0, 1) := by decide +kernel
theorem d_Law_law_699 : decode y_Law_law.2.1 699 = .ok (.ireturn, 1) := by decide +kernel
theorem d_Law_law_700 : decode y_Law_law.2.1 700 = .ok (.aload_n 1, 1) := by decide +kernel
theorem d_Law_law_701 : decode y_Law_law.2.1 701 = .ok (.aload_n 0, 1) := by decide +kernel
theorem d_Law_law_702 : decode y_Law_law.2.1 702 = .ok (.iload 4, 2) := by decide +kernel
theorem d_Law_law_704 : decode y_Law_law.2.1 704 = .ok (.iconst 1, 1) := by decide +kernel
theorem d_Law_law_705 : decode y_Law_law.2.1 705 = .ok (.iadd, 1) := by decide +kernel
theorem d_Law_law_706 : decode y_Law_law.2.1 706 = .ok (.iaload, 1) := by decide +kernel
