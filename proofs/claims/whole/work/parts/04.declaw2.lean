theorem d_LA_law_564 : decode b_LA_law 564 = .ok (.iconst 0, 1) := by decide +kernel
theorem d_LA_law_565 : decode b_LA_law 565 = .ok (.laload, 1) := by decide +kernel
theorem d_LA_law_566 : decode b_LA_law 566 = .ok (.iload 6, 2) := by decide +kernel
theorem d_LA_law_568 : decode b_LA_law 568 = .ok (.i2l, 1) := by decide +kernel
theorem d_LA_law_569 : decode b_LA_law 569 = .ok (.lcmp, 1) := by decide +kernel
theorem d_LA_law_570 : decode b_LA_law 570 = .ok (.ifCond .eq 5, 3) := by decide +kernel
theorem d_LA_law_573 : decode b_LA_law 573 = .ok (.iconst 0, 1) := by decide +kernel
theorem d_LA_law_574 : decode b_LA_law 574 = .ok (.ireturn, 1) := by decide +kernel
theorem d_LA_law_575 : decode b_LA_law 575 = .ok (.goto 437, 3) := by decide +kernel
theorem d_LA_law_578 : decode b_LA_law 578 = .ok (.aload_n 1, 1) := by decide +kernel
theorem d_LA_law_579 : decode b_LA_law 579 = .ok (.aload_n 0, 1) := by decide +kernel
theorem d_LA_law_580 : decode b_LA_law 580 = .ok (.iload 4, 2) := by decide +kernel
theorem d_LA_law_582 : decode b_LA_law 582 = .ok (.iconst 1, 1) := by decide +kernel
theorem d_LA_law_583 : decode b_LA_law 583 = .ok (.iadd, 1) := by decide +kernel
theorem d_LA_law_584 : decode b_LA_law 584 = .ok (.iaload, 1) := by decide +kernel
theorem d_LA_law_585 : decode b_LA_law 585 = .ok (.aload_n 3, 1) := by decide +kernel
theorem d_LA_law_586 : decode b_LA_law 586 = .ok (.invokestatic 106, 3) := by decide +kernel
theorem d_LA_law_589 : decode b_LA_law 589 = .ok (.istore 5, 2) := by decide +kernel
theorem d_LA_law_591 : decode b_LA_law 591 = .ok (.aload_n 2, 1) := by decide +kernel
theorem d_LA_law_592 : decode b_LA_law 592 = .ok (.aload_n 0, 1) := by decide +kernel
theorem d_LA_law_593 : decode b_LA_law 593 = .ok (.iload 4, 2) := by decide +kernel
theorem d_LA_law_595 : decode b_LA_law 595 = .ok (.iconst 1, 1) := by decide +kernel
theorem d_LA_law_596 : decode b_LA_law 596 = .ok (.iadd, 1) := by decide +kernel
theorem d_LA_law_597 : decode b_LA_law 597 = .ok (.iaload, 1) := by decide +kernel
theorem d_LA_law_598 : decode b_LA_law 598 = .ok (.invokevirtual 108, 3) := by decide +kernel
theorem d_LA_law_601 : decode b_LA_law 601 = .ok (.istore 6, 2) := by decide +kernel
theorem d_LA_law_603 : decode b_LA_law 603 = .ok (.aload_n 2, 1) := by decide +kernel
theorem d_LA_law_604 : decode b_LA_law 604 = .ok (.invokevirtual 80, 3) := by decide +kernel
theorem d_LA_law_607 : decode b_LA_law 607 = .ok (.iload 5, 2) := by decide +kernel
theorem d_LA_law_609 : decode b_LA_law 609 = .ok (.if_icmp .eq 5, 3) := by decide +kernel
theorem d_LA_law_612 : decode b_LA_law 612 = .ok (.iconst 0, 1) := by decide +kernel
theorem d_LA_law_613 : decode b_LA_law 613 = .ok (.ireturn, 1) := by decide +kernel
theorem d_LA_law_614 : decode b_LA_law 614 = .ok (.iload 5, 2) := by decide +kernel
theorem d_LA_law_616 : decode b_LA_law 616 = .ok (.ifCond .ne 15, 3) := by decide +kernel
theorem d_LA_law_619 : decode b_LA_law 619 = .ok (.aload_n 3, 1) := by decide +kernel
theorem d_LA_law_620 : decode b_LA_law 620 = .ok (.iconst 0, 1) := by decide +kernel
theorem d_LA_law_621 : decode b_LA_law 621 = .ok (.laload, 1) := by decide +kernel
theorem d_LA_law_622 : decode b_LA_law 622 = .ok (.iload 6, 2) := by decide +kernel
theorem d_LA_law_624 : decode b_LA_law 624 = .ok (.i2l, 1) := by decide +kernel
theorem d_LA_law_625 : decode b_LA_law 625 = .ok (.lcmp, 1) := by decide +kernel
theorem d_LA_law_626 : decode b_LA_law 626 = .ok (.ifCond .eq 5, 3) := by decide +kernel
theorem d_LA_law_629 : decode b_LA_law 629 = .ok (.iconst 0, 1) := by decide +kernel
theorem d_LA_law_630 : decode b_LA_law 630 = .ok (.ireturn, 1) := by decide +kernel
theorem d_LA_law_631 : decode b_LA_law 631 = .ok (.goto 381, 3) := by decide +kernel
theorem d_LA_law_634 : decode b_LA_law 634 = .ok (.aload_n 1, 1) := by decide +kernel
theorem d_LA_law_635 : decode b_LA_law 635 = .ok (.aload_n 0, 1) := by decide +kernel
theorem d_LA_law_636 : decode b_LA_law 636 = .ok (.iload 4, 2) := by decide +kernel
theorem d_LA_law_638 : decode b_LA_law 638 = .ok (.iconst 1, 1) := by decide +kernel
theorem d_LA_law_639 : decode b_LA_law 639 = .ok (.iadd, 1) := by decide +kernel
theorem d_LA_law_640 : decode b_LA_law 640 = .ok (.iaload, 1) := by decide +kernel
theorem d_LA_law_641 : decode b_LA_law 641 = .ok (.aload_n 3, 1) := by decide +kernel
theorem d_LA_law_642 : decode b_LA_law 642 = .ok (.invokestatic 109, 3) := by decide +kernel
theorem d_LA_law_645 : decode b_LA_law 645 = .ok (.istore 5, 2) := by decide +kernel
theorem d_LA_law_647 : decode b_LA_law 647 = .ok (.aload_n 2, 1) := by decide +kernel
theorem d_LA_law_648 : decode b_LA_law 648 = .ok (.aload_n 0, 1) := by decide +kernel
theorem d_LA_law_649 : decode b_LA_law 649 = .ok (.iload 4, 2) := by decide +kernel
theorem d_LA_law_651 : decode b_LA_law 651 = .ok (.iconst 1, 1) := by decide +kernel
theorem d_LA_law_652 : decode b_LA_law 652 = .ok (.iadd, 1) := by decide +kernel
theorem d_LA_law_653 : decode b_LA_law 653 = .ok (.iaload, 1) := by decide +kernel
theorem d_LA_law_654 : decode b_LA_law 654 = .ok (.invokevirtual 111, 3) := by decide +kernel
theorem d_LA_law_657 : decode b_LA_law 657 = .ok (.istore 6, 2) := by decide +kernel
theorem d_LA_law_659 : decode b_LA_law 659 = .ok (.aload_n 2, 1) := by decide +kernel
theorem d_LA_law_660 : decode b_LA_law 660 = .ok (.invokevirtual 80, 3) := by decide +kernel
theorem d_LA_law_663 : decode b_LA_law 663 = .ok (.iload 5, 2) := by decide +kernel
theorem d_LA_law_665 : decode b_LA_law 665 = .ok (.if_icmp .eq 5, 3) := by decide +kernel
theorem d_LA_law_668 : decode b_LA_law 668 = .ok (.iconst 0, 1) := by decide +kernel
theorem d_LA_law_669 : decode b_LA_law 669 = .ok (.ireturn, 1) := by decide +kernel
theorem d_LA_law_670 : decode b_LA_law 670 = .ok (.iload 5, 2) := by decide +kernel
theorem d_LA_law_672 : decode b_LA_law 672 = .ok (.ifCond .ne 15, 3) := by decide +kernel
theorem d_LA_law_675 : decode b_LA_law 675 = .ok (.aload_n 3, 1) := by decide +kernel
theorem d_LA_law_676 : decode b_LA_law 676 = .ok (.iconst 0, 1) := by decide +kernel
theorem d_LA_law_677 : decode b_LA_law 677 = .ok (.laload, 1) := by decide +kernel
theorem d_LA_law_678 : decode b_LA_law 678 = .ok (.iload 6, 2) := by decide +kernel
theorem d_LA_law_680 : decode b_LA_law 680 = .ok (.i2l, 1) := by decide +kernel
theorem d_LA_law_681 : decode b_LA_law 681 = .ok (.lcmp, 1) := by decide +kernel
theorem d_LA_law_682 : decode b_LA_law 682 = .ok (.ifCond .eq 5, 3) := by decide +kernel
theorem d_LA_law_685 : decode b_LA_law 685 = .ok (.iconst 0, 1) := by decide +kernel
theorem d_LA_law_686 : decode b_LA_law 686 = .ok (.ireturn, 1) := by decide +kernel
theorem d_LA_law_687 : decode b_LA_law 687 = .ok (.goto 325, 3) := by decide +kernel
theorem d_LA_law_690 : decode b_LA_law 690 = .ok (.aload_n 1, 1) := by decide +kernel
theorem d_LA_law_691 : decode b_LA_law 691 = .ok (.aload_n 0, 1) := by decide +kernel
theorem d_LA_law_692 : decode b_LA_law 692 = .ok (.iload 4, 2) := by decide +kernel
theorem d_LA_law_694 : decode b_LA_law 694 = .ok (.iconst 1, 1) := by decide +kernel
theorem d_LA_law_695 : decode b_LA_law 695 = .ok (.iadd, 1) := by decide +kernel
theorem d_LA_law_696 : decode b_LA_law 696 = .ok (.iaload, 1) := by decide +kernel
theorem d_LA_law_697 : decode b_LA_law 697 = .ok (.invokestatic 112, 3) := by decide +kernel
theorem d_LA_law_700 : decode b_LA_law 700 = .ok (.istore 5, 2) := by decide +kernel
theorem d_LA_law_702 : decode b_LA_law 702 = .ok (.aload_n 2, 1) := by decide +kernel
theorem d_LA_law_703 : decode b_LA_law 703 = .ok (.aload_n 0, 1) := by decide +kernel
theorem d_LA_law_704 : decode b_LA_law 704 = .ok (.iload 4, 2) := by decide +kernel
theorem d_LA_law_706 : decode b_LA_law 706 = .ok (.iconst 1, 1) := by decide +kernel
theorem d_LA_law_707 : decode b_LA_law 707 = .ok (.iadd, 1) := by decide +kernel
theorem d_LA_law_708 : decode b_LA_law 708 = .ok (.iaload, 1) := by decide +kernel
theorem d_LA_law_709 : decode b_LA_law 709 = .ok (.invokevirtual 115, 3) := by decide +kernel
theorem d_LA_law_712 : decode b_LA_law 712 = .ok (.aload_n 2, 1) := by decide +kernel
theorem d_LA_law_713 : decode b_LA_law 713 = .ok (.invokevirtual 80, 3) := by decide +kernel
theorem d_LA_law_716 : decode b_LA_law 716 = .ok (.iload 5, 2) := by decide +kernel
theorem d_LA_law_718 : decode b_LA_law 718 = .ok (.if_icmp .eq 5, 3) := by decide +kernel
theorem d_LA_law_721 : decode b_LA_law 721 = .ok (.iconst 0, 1) := by decide +kernel
theorem d_LA_law_722 : decode b_LA_law 722 = .ok (.ireturn, 1) := by decide +kernel
theorem d_LA_law_723 : decode b_LA_law 723 = .ok (.goto 289, 3) := by decide +kernel
theorem d_LA_law_726 : decode b_LA_law 726 = .ok (.aload_n 1, 1) := by decide +kernel
theorem d_LA_law_727 : decode b_LA_law 727 = .ok (.invokevirtual 116, 3) := by decide +kernel
theorem d_LA_law_730 : decode b_LA_law 730 = .ok (.aload_n 2, 1) := by decide +kernel
theorem d_LA_law_731 : decode b_LA_law 731 = .ok (.invokevirtual 119, 3) := by decide +kernel
theorem d_LA_law_734 : decode b_LA_law 734 = .ok (.if_icmp .eq 278, 3) := by decide +kernel
theorem d_LA_law_737 : decode b_LA_law 737 = .ok (.iconst 0, 1) := by decide +kernel
theorem d_LA_law_738 : decode b_LA_law 738 = .ok (.ireturn, 1) := by decide +kernel
theorem d_LA_law_739 : decode b_LA_law 739 = .ok (.aload_n 1, 1) := by decide +kernel
theorem d_LA_law_740 : decode b_LA_law 740 = .ok (.invokevirtual 120, 3) := by decide +kernel
theorem d_LA_law_743 : decode b_LA_law 743 = .ok (.aload_n 2, 1) := by decide +kernel
theorem d_LA_law_744 : decode b_LA_law 744 = .ok (.invokevirtual 124, 3) := by decide +kernel
theorem d_LA_law_747 : decode b_LA_law 747 = .ok (.if_icmp .eq 265, 3) := by decide +kernel
theorem d_LA_law_750 : decode b_LA_law 750 = .ok (.iconst 0, 1) := by decide +kernel
theorem d_LA_law_751 : decode b_LA_law 751 = .ok (.ireturn, 1) := by decide +kernel
theorem d_LA_law_752 : decode b_LA_law 752 = .ok (.aload_n 1, 1) := by decide +kernel
theorem d_LA_law_753 : decode b_LA_law 753 = .ok (.aload_n 0, 1) := by decide +kernel
theorem d_LA_law_754 : decode b_LA_law 754 = .ok (.iload 4, 2) := by decide +kernel
theorem d_LA_law_756 : decode b_LA_law 756 = .ok (.iconst 1, 1) := by decide +kernel
theorem d_LA_law_757 : decode b_LA_law 757 = .ok (.iadd, 1) := by decide +kernel
theorem d_LA_law_758 : decode b_LA_law 758 = .ok (.iaload, 1) := by decide +kernel
theorem d_LA_law_759 : decode b_LA_law 759 = .ok (.aload_n 0, 1) := by decide +kernel
theorem d_LA_law_760 : decode b_LA_law 760 = .ok (.iload 4, 2) := by decide +kernel
theorem d_LA_law_762 : decode b_LA_law 762 = .ok (.iconst 2, 1) := by decide +kernel
theorem d_LA_law_763 : decode b_LA_law 763 = .ok (.iadd, 1) := by decide +kernel
theorem d_LA_law_764 : decode b_LA_law 764 = .ok (.iaload, 1) := by decide +kernel
theorem d_LA_law_765 : decode b_LA_law 765 = .ok (.aload_n 3, 1) := by decide +kernel
theorem d_LA_law_766 : decode b_LA_law 766 = .ok (.invokestatic 125, 3) := by decide +kernel
theorem d_LA_law_769 : decode b_LA_law 769 = .ok (.istore 5, 2) := by decide +kernel
theorem d_LA_law_771 : decode b_LA_law 771 = .ok (.aload_n 2, 1) := by decide +kernel
theorem d_LA_law_772 : decode b_LA_law 772 = .ok (.aload_n 0, 1) := by decide +kernel
theorem d_LA_law_773 : decode b_LA_law 773 = .ok (.iload 4, 2) := by decide +kernel
theorem d_LA_law_775 : decode b_LA_law 775 = .ok (.iconst 1, 1) := by decide +kernel
theorem d_LA_law_776 : decode b_LA_law 776 = .ok (.iadd, 1) := by decide +kernel
theorem d_LA_law_777 : decode b_LA_law 777 = .ok (.iaload, 1) := by decide +kernel
theorem d_LA_law_778 : decode b_LA_law 778 = .ok (.aload_n 0, 1) := by decide +kernel
theorem d_LA_law_779 : decode b_LA_law 779 = .ok (.iload 4, 2) := by decide +kernel
theorem d_LA_law_781 : decode b_LA_law 781 = .ok (.iconst 2, 1) := by decide +kernel
theorem d_LA_law_782 : decode b_LA_law 782 = .ok (.iadd, 1) := by decide +kernel
theorem d_LA_law_783 : decode b_LA_law 783 = .ok (.iaload, 1) := by decide +kernel
theorem d_LA_law_784 : decode b_LA_law 784 = .ok (.invokevirtual 127, 3) := by decide +kernel
theorem d_LA_law_787 : decode b_LA_law 787 = .ok (.istore 6, 2) := by decide +kernel
theorem d_LA_law_789 : decode b_LA_law 789 = .ok (.aload_n 2, 1) := by decide +kernel
theorem d_LA_law_790 : decode b_LA_law 790 = .ok (.invokevirtual 80, 3) := by decide +kernel
theorem d_LA_law_793 : decode b_LA_law 793 = .ok (.iload 5, 2) := by decide +kernel
theorem d_LA_law_795 : decode b_LA_law 795 = .ok (.if_icmp .eq 5, 3) := by decide +kernel
theorem d_LA_law_798 : decode b_LA_law 798 = .ok (.iconst 0, 1) := by decide +kernel
theorem d_LA_law_799 : decode b_LA_law 799 = .ok (.ireturn, 1) := by decide +kernel
theorem d_LA_law_800 : decode b_LA_law 800 = .ok (.iload 5, 2) := by decide +kernel
theorem d_LA_law_802 : decode b_LA_law 802 = .ok (.ifCond .ne 15, 3) := by decide +kernel
