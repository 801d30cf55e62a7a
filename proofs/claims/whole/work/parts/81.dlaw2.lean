theorem d_law_579 : decode code 579 = .ok (.iadd, 1) := by decide +kernel
theorem d_law_580 : decode code 580 = .ok (.iaload, 1) := by decide +kernel
theorem d_law_581 : decode code 581 = .ok (.aload_n 0, 1) := by decide +kernel
theorem d_law_582 : decode code 582 = .ok (.iload 4, 2) := by decide +kernel
theorem d_law_584 : decode code 584 = .ok (.iconst 2, 1) := by decide +kernel
theorem d_law_585 : decode code 585 = .ok (.iadd, 1) := by decide +kernel
theorem d_law_586 : decode code 586 = .ok (.iaload, 1) := by decide +kernel
theorem d_law_587 : decode code 587 = .ok (.aload_n 3, 1) := by decide +kernel
theorem d_law_588 : decode code 588 = .ok (.invokestatic 100, 3) := by decide +kernel
theorem d_law_591 : decode code 591 = .ok (.istore 5, 2) := by decide +kernel
theorem d_law_593 : decode code 593 = .ok (.aload_n 2, 1) := by decide +kernel
theorem d_law_594 : decode code 594 = .ok (.aload_n 0, 1) := by decide +kernel
theorem d_law_595 : decode code 595 = .ok (.iload 4, 2) := by decide +kernel
theorem d_law_597 : decode code 597 = .ok (.iconst 1, 1) := by decide +kernel
theorem d_law_598 : decode code 598 = .ok (.iadd, 1) := by decide +kernel
theorem d_law_599 : decode code 599 = .ok (.iaload, 1) := by decide +kernel
theorem d_law_600 : decode code 600 = .ok (.aload_n 0, 1) := by decide +kernel
theorem d_law_601 : decode code 601 = .ok (.iload 4, 2) := by decide +kernel
theorem d_law_603 : decode code 603 = .ok (.iconst 2, 1) := by decide +kernel
theorem d_law_604 : decode code 604 = .ok (.iadd, 1) := by decide +kernel
theorem d_law_605 : decode code 605 = .ok (.iaload, 1) := by decide +kernel
theorem d_law_606 : decode code 606 = .ok (.invokevirtual 102, 3) := by decide +kernel
theorem d_law_609 : decode code 609 = .ok (.istore 6, 2) := by decide +kernel
theorem d_law_611 : decode code 611 = .ok (.aload_n 2, 1) := by decide +kernel
theorem d_law_612 : decode code 612 = .ok (.invokevirtual 73, 3) := by decide +kernel
theorem d_law_615 : decode code 615 = .ok (.iload 5, 2) := by decide +kernel
theorem d_law_617 : decode code 617 = .ok (.if_icmp .eq 5, 3) := by decide +kernel
theorem d_law_620 : decode code 620 = .ok (.iconst 0, 1) := by decide +kernel
theorem d_law_621 : decode code 621 = .ok (.ireturn, 1) := by decide +kernel
theorem d_law_622 : decode code 622 = .ok (.iload 5, 2) := by decide +kernel
theorem d_law_624 : decode code 624 = .ok (.ifCond .ne 15, 3) := by decide +kernel
theorem d_law_627 : decode code 627 = .ok (.aload_n 3, 1) := by decide +kernel
theorem d_law_628 : decode code 628 = .ok (.iconst 0, 1) := by decide +kernel
theorem d_law_629 : decode code 629 = .ok (.laload, 1) := by decide +kernel
theorem d_law_630 : decode code 630 = .ok (.iload 6, 2) := by decide +kernel
theorem d_law_632 : decode code 632 = .ok (.i2l, 1) := by decide +kernel
theorem d_law_633 : decode code 633 = .ok (.lcmp, 1) := by decide +kernel
theorem d_law_634 : decode code 634 = .ok (.ifCond .eq 5, 3) := by decide +kernel
theorem d_law_637 : decode code 637 = .ok (.iconst 0, 1) := by decide +kernel
theorem d_law_638 : decode code 638 = .ok (.ireturn, 1) := by decide +kernel
theorem d_law_639 : decode code 639 = .ok (.goto 411, 3) := by decide +kernel
theorem d_law_642 : decode code 642 = .ok (.aload_n 1, 1) := by decide +kernel
theorem d_law_643 : decode code 643 = .ok (.aload_n 0, 1) := by decide +kernel
theorem d_law_644 : decode code 644 = .ok (.iload 4, 2) := by decide +kernel
theorem d_law_646 : decode code 646 = .ok (.iconst 1, 1) := by decide +kernel
theorem d_law_647 : decode code 647 = .ok (.iadd, 1) := by decide +kernel
theorem d_law_648 : decode code 648 = .ok (.iaload, 1) := by decide +kernel
theorem d_law_649 : decode code 649 = .ok (.aload_n 0, 1) := by decide +kernel
theorem d_law_650 : decode code 650 = .ok (.iload 4, 2) := by decide +kernel
theorem d_law_652 : decode code 652 = .ok (.iconst 2, 1) := by decide +kernel
theorem d_law_653 : decode code 653 = .ok (.iadd, 1) := by decide +kernel
theorem d_law_654 : decode code 654 = .ok (.iaload, 1) := by decide +kernel
theorem d_law_655 : decode code 655 = .ok (.aload_n 0, 1) := by decide +kernel
theorem d_law_656 : decode code 656 = .ok (.iload 4, 2) := by decide +kernel
theorem d_law_658 : decode code 658 = .ok (.iconst 3, 1) := by decide +kernel
theorem d_law_659 : decode code 659 = .ok (.iadd, 1) := by decide +kernel
theorem d_law_660 : decode code 660 = .ok (.iaload, 1) := by decide +kernel
theorem d_law_661 : decode code 661 = .ok (.aload_n 3, 1) := by decide +kernel
theorem d_law_662 : decode code 662 = .ok (.invokestatic 103, 3) := by decide +kernel
theorem d_law_665 : decode code 665 = .ok (.istore 5, 2) := by decide +kernel
theorem d_law_667 : decode code 667 = .ok (.aload_n 2, 1) := by decide +kernel
theorem d_law_668 : decode code 668 = .ok (.aload_n 0, 1) := by decide +kernel
theorem d_law_669 : decode code 669 = .ok (.iload 4, 2) := by decide +kernel
theorem d_law_671 : decode code 671 = .ok (.iconst 1, 1) := by decide +kernel
theorem d_law_672 : decode code 672 = .ok (.iadd, 1) := by decide +kernel
theorem d_law_673 : decode code 673 = .ok (.iaload, 1) := by decide +kernel
theorem d_law_674 : decode code 674 = .ok (.aload_n 0, 1) := by decide +kernel
theorem d_law_675 : decode code 675 = .ok (.iload 4, 2) := by decide +kernel
theorem d_law_677 : decode code 677 = .ok (.iconst 2, 1) := by decide +kernel
theorem d_law_678 : decode code 678 = .ok (.iadd, 1) := by decide +kernel
theorem d_law_679 : decode code 679 = .ok (.iaload, 1) := by decide +kernel
theorem d_law_680 : decode code 680 = .ok (.aload_n 0, 1) := by decide +kernel
theorem d_law_681 : decode code 681 = .ok (.iload 4, 2) := by decide +kernel
theorem d_law_683 : decode code 683 = .ok (.iconst 3, 1) := by decide +kernel
theorem d_law_684 : decode code 684 = .ok (.iadd, 1) := by decide +kernel
theorem d_law_685 : decode code 685 = .ok (.iaload, 1) := by decide +kernel
theorem d_law_686 : decode code 686 = .ok (.invokevirtual 106, 3) := by decide +kernel
theorem d_law_689 : decode code 689 = .ok (.istore 6, 2) := by decide +kernel
theorem d_law_691 : decode code 691 = .ok (.aload_n 2, 1) := by decide +kernel
theorem d_law_692 : decode code 692 = .ok (.invokevirtual 73, 3) := by decide +kernel
theorem d_law_695 : decode code 695 = .ok (.iload 5, 2) := by decide +kernel
theorem d_law_697 : decode code 697 = .ok (.if_icmp .eq 5, 3) := by decide +kernel
theorem d_law_700 : decode code 700 = .ok (.iconst 0, 1) := by decide +kernel
theorem d_law_701 : decode code 701 = .ok (.ireturn, 1) := by decide +kernel
theorem d_law_702 : decode code 702 = .ok (.iload 5, 2) := by decide +kernel
theorem d_law_704 : decode code 704 = .ok (.ifCond .ne 15, 3) := by decide +kernel
theorem d_law_707 : decode code 707 = .ok (.aload_n 3, 1) := by decide +kernel
theorem d_law_708 : decode code 708 = .ok (.iconst 0, 1) := by decide +kernel
theorem d_law_709 : decode code 709 = .ok (.laload, 1) := by decide +kernel
theorem d_law_710 : decode code 710 = .ok (.iload 6, 2) := by decide +kernel
theorem d_law_712 : decode code 712 = .ok (.i2l, 1) := by decide +kernel
theorem d_law_713 : decode code 713 = .ok (.lcmp, 1) := by decide +kernel
theorem d_law_714 : decode code 714 = .ok (.ifCond .eq 5, 3) := by decide +kernel
theorem d_law_717 : decode code 717 = .ok (.iconst 0, 1) := by decide +kernel
theorem d_law_718 : decode code 718 = .ok (.ireturn, 1) := by decide +kernel
theorem d_law_719 : decode code 719 = .ok (.goto 331, 3) := by decide +kernel
theorem d_law_722 : decode code 722 = .ok (.aload_n 1, 1) := by decide +kernel
theorem d_law_723 : decode code 723 = .ok (.aload_n 0, 1) := by decide +kernel
theorem d_law_724 : decode code 724 = .ok (.iload 4, 2) := by decide +kernel
theorem d_law_726 : decode code 726 = .ok (.iconst 1, 1) := by decide +kernel
theorem d_law_727 : decode code 727 = .ok (.iadd, 1) := by decide +kernel
theorem d_law_728 : decode code 728 = .ok (.iaload, 1) := by decide +kernel
theorem d_law_729 : decode code 729 = .ok (.aload_n 0, 1) := by decide +kernel
theorem d_law_730 : decode code 730 = .ok (.iload 4, 2) := by decide +kernel
theorem d_law_732 : decode code 732 = .ok (.iconst 2, 1) := by decide +kernel
theorem d_law_733 : decode code 733 = .ok (.iadd, 1) := by decide +kernel
theorem d_law_734 : decode code 734 = .ok (.iaload, 1) := by decide +kernel
theorem d_law_735 : decode code 735 = .ok (.aload_n 3, 1) := by decide +kernel
theorem d_law_736 : decode code 736 = .ok (.invokestatic 107, 3) := by decide +kernel
theorem d_law_739 : decode code 739 = .ok (.istore 5, 2) := by decide +kernel
theorem d_law_741 : decode code 741 = .ok (.aload_n 2, 1) := by decide +kernel
theorem d_law_742 : decode code 742 = .ok (.aload_n 0, 1) := by decide +kernel
theorem d_law_743 : decode code 743 = .ok (.iload 4, 2) := by decide +kernel
theorem d_law_745 : decode code 745 = .ok (.iconst 1, 1) := by decide +kernel
theorem d_law_746 : decode code 746 = .ok (.iadd, 1) := by decide +kernel
theorem d_law_747 : decode code 747 = .ok (.iaload, 1) := by decide +kernel
theorem d_law_748 : decode code 748 = .ok (.aload_n 0, 1) := by decide +kernel
theorem d_law_749 : decode code 749 = .ok (.iload 4, 2) := by decide +kernel
theorem d_law_751 : decode code 751 = .ok (.iconst 2, 1) := by decide +kernel
theorem d_law_752 : decode code 752 = .ok (.iadd, 1) := by decide +kernel
theorem d_law_753 : decode code 753 = .ok (.iaload, 1) := by decide +kernel
theorem d_law_754 : decode code 754 = .ok (.invokevirtual 109, 3) := by decide +kernel
theorem d_law_757 : decode code 757 = .ok (.istore 6, 2) := by decide +kernel
theorem d_law_759 : decode code 759 = .ok (.aload_n 2, 1) := by decide +kernel
theorem d_law_760 : decode code 760 = .ok (.invokevirtual 73, 3) := by decide +kernel
theorem d_law_763 : decode code 763 = .ok (.iload 5, 2) := by decide +kernel
theorem d_law_765 : decode code 765 = .ok (.if_icmp .eq 5, 3) := by decide +kernel
theorem d_law_768 : decode code 768 = .ok (.iconst 0, 1) := by decide +kernel
theorem d_law_769 : decode code 769 = .ok (.ireturn, 1) := by decide +kernel
theorem d_law_770 : decode code 770 = .ok (.iload 5, 2) := by decide +kernel
theorem d_law_772 : decode code 772 = .ok (.ifCond .ne 15, 3) := by decide +kernel
theorem d_law_775 : decode code 775 = .ok (.aload_n 3, 1) := by decide +kernel
theorem d_law_776 : decode code 776 = .ok (.iconst 0, 1) := by decide +kernel
theorem d_law_777 : decode code 777 = .ok (.laload, 1) := by decide +kernel
theorem d_law_778 : decode code 778 = .ok (.iload 6, 2) := by decide +kernel
theorem d_law_780 : decode code 780 = .ok (.i2l, 1) := by decide +kernel
theorem d_law_781 : decode code 781 = .ok (.lcmp, 1) := by decide +kernel
theorem d_law_782 : decode code 782 = .ok (.ifCond .eq 5, 3) := by decide +kernel
theorem d_law_785 : decode code 785 = .ok (.iconst 0, 1) := by decide +kernel
theorem d_law_786 : decode code 786 = .ok (.ireturn, 1) := by decide +kernel
theorem d_law_787 : decode code 787 = .ok (.goto 263, 3) := by decide +kernel
theorem d_law_790 : decode code 790 = .ok (.aload_n 1, 1) := by decide +kernel
theorem d_law_791 : decode code 791 = .ok (.aload_n 0, 1) := by decide +kernel
theorem d_law_792 : decode code 792 = .ok (.iload 4, 2) := by decide +kernel
theorem d_law_794 : decode code 794 = .ok (.iconst 1, 1) := by decide +kernel
theorem d_law_795 : decode code 795 = .ok (.iadd, 1) := by decide +kernel
theorem d_law_796 : decode code 796 = .ok (.iaload, 1) := by decide +kernel
theorem d_law_797 : decode code 797 = .ok (.aload_n 0, 1) := by decide +kernel
theorem d_law_798 : decode code 798 = .ok (.iload 4, 2) := by decide +kernel
theorem d_law_800 : decode code 800 = .ok (.iconst 2, 1) := by decide +kernel
theorem d_law_801 : decode code 801 = .ok (.iadd, 1) := by decide +kernel
theorem d_law_802 : decode code 802 = .ok (.iaload, 1) := by decide +kernel
theorem d_law_803 : decode code 803 = .ok (.aload_n 3, 1) := by decide +kernel
theorem d_law_804 : decode code 804 = .ok (.invokestatic 110, 3) := by decide +kernel
theorem d_law_807 : decode code 807 = .ok (.istore 5, 2) := by decide +kernel
theorem d_law_809 : decode code 809 = .ok (.aload_n 2, 1) := by decide +kernel
theorem d_law_810 : decode code 810 = .ok (.aload_n 0, 1) := by decide +kernel
theorem d_law_811 : decode code 811 = .ok (.iload 4, 2) := by decide +kernel
theorem d_law_813 : decode code 813 = .ok (.iconst 1, 1) := by decide +kernel
theorem d_law_814 : decode code 814 = .ok (.iadd, 1) := by decide +kernel
