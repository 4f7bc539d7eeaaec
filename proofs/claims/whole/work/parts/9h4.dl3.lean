/-! the law, decoded, 4 of 8 -/
theorem dl_611 : decode code 611 = .ok (.iload_n 3, 1) := by decide +kernel
theorem dl_612 : decode code 612 = .ok (.iconst 2, 1) := by decide +kernel
theorem dl_613 : decode code 613 = .ok (.iadd, 1) := by decide +kernel
theorem dl_614 : decode code 614 = .ok (.iaload, 1) := by decide +kernel
theorem dl_615 : decode code 615 = .ok (.aload_n 0, 1) := by decide +kernel
theorem dl_616 : decode code 616 = .ok (.iload_n 3, 1) := by decide +kernel
theorem dl_617 : decode code 617 = .ok (.iconst 3, 1) := by decide +kernel
theorem dl_618 : decode code 618 = .ok (.iadd, 1) := by decide +kernel
theorem dl_619 : decode code 619 = .ok (.iaload, 1) := by decide +kernel
theorem dl_620 : decode code 620 = .ok (.aload_n 0, 1) := by decide +kernel
theorem dl_621 : decode code 621 = .ok (.iload_n 3, 1) := by decide +kernel
theorem dl_622 : decode code 622 = .ok (.iconst 4, 1) := by decide +kernel
theorem dl_623 : decode code 623 = .ok (.iadd, 1) := by decide +kernel
theorem dl_624 : decode code 624 = .ok (.iaload, 1) := by decide +kernel
theorem dl_625 : decode code 625 = .ok (.ifCond .eq 7, 3) := by decide +kernel
theorem dl_628 : decode code 628 = .ok (.iconst 1, 1) := by decide +kernel
theorem dl_629 : decode code 629 = .ok (.goto 4, 3) := by decide +kernel
theorem dl_632 : decode code 632 = .ok (.iconst 0, 1) := by decide +kernel
theorem dl_633 : decode code 633 = .ok (.invokevirtual 67, 3) := by decide +kernel
theorem dl_636 : decode code 636 = .ok (.if_icmp .eq 754, 3) := by decide +kernel
theorem dl_639 : decode code 639 = .ok (.iconst 0, 1) := by decide +kernel
theorem dl_640 : decode code 640 = .ok (.ireturn, 1) := by decide +kernel
theorem dl_641 : decode code 641 = .ok (.aload_n 1, 1) := by decide +kernel
theorem dl_642 : decode code 642 = .ok (.aload_n 0, 1) := by decide +kernel
theorem dl_643 : decode code 643 = .ok (.iload_n 3, 1) := by decide +kernel
theorem dl_644 : decode code 644 = .ok (.iconst 1, 1) := by decide +kernel
theorem dl_645 : decode code 645 = .ok (.iadd, 1) := by decide +kernel
theorem dl_646 : decode code 646 = .ok (.iaload, 1) := by decide +kernel
theorem dl_647 : decode code 647 = .ok (.aload_n 0, 1) := by decide +kernel
theorem dl_648 : decode code 648 = .ok (.iload_n 3, 1) := by decide +kernel
theorem dl_649 : decode code 649 = .ok (.iconst 2, 1) := by decide +kernel
theorem dl_650 : decode code 650 = .ok (.iadd, 1) := by decide +kernel
theorem dl_651 : decode code 651 = .ok (.iaload, 1) := by decide +kernel
theorem dl_652 : decode code 652 = .ok (.invokevirtual 68, 3) := by decide +kernel
theorem dl_655 : decode code 655 = .ok (.aload_n 2, 1) := by decide +kernel
theorem dl_656 : decode code 656 = .ok (.aload_n 0, 1) := by decide +kernel
theorem dl_657 : decode code 657 = .ok (.iload_n 3, 1) := by decide +kernel
theorem dl_658 : decode code 658 = .ok (.iconst 1, 1) := by decide +kernel
theorem dl_659 : decode code 659 = .ok (.iadd, 1) := by decide +kernel
theorem dl_660 : decode code 660 = .ok (.iaload, 1) := by decide +kernel
theorem dl_661 : decode code 661 = .ok (.aload_n 0, 1) := by decide +kernel
theorem dl_662 : decode code 662 = .ok (.iload_n 3, 1) := by decide +kernel
theorem dl_663 : decode code 663 = .ok (.iconst 2, 1) := by decide +kernel
theorem dl_664 : decode code 664 = .ok (.iadd, 1) := by decide +kernel
theorem dl_665 : decode code 665 = .ok (.iaload, 1) := by decide +kernel
theorem dl_666 : decode code 666 = .ok (.invokevirtual 71, 3) := by decide +kernel
theorem dl_669 : decode code 669 = .ok (.if_icmp .eq 721, 3) := by decide +kernel
theorem dl_672 : decode code 672 = .ok (.iconst 0, 1) := by decide +kernel
theorem dl_673 : decode code 673 = .ok (.ireturn, 1) := by decide +kernel
theorem dl_674 : decode code 674 = .ok (.aload_n 1, 1) := by decide +kernel
theorem dl_675 : decode code 675 = .ok (.aload_n 0, 1) := by decide +kernel
theorem dl_676 : decode code 676 = .ok (.iload_n 3, 1) := by decide +kernel
theorem dl_677 : decode code 677 = .ok (.iconst 1, 1) := by decide +kernel
theorem dl_678 : decode code 678 = .ok (.iadd, 1) := by decide +kernel
theorem dl_679 : decode code 679 = .ok (.iaload, 1) := by decide +kernel
theorem dl_680 : decode code 680 = .ok (.aload_n 0, 1) := by decide +kernel
theorem dl_681 : decode code 681 = .ok (.iload_n 3, 1) := by decide +kernel
theorem dl_682 : decode code 682 = .ok (.iconst 2, 1) := by decide +kernel
theorem dl_683 : decode code 683 = .ok (.iadd, 1) := by decide +kernel
theorem dl_684 : decode code 684 = .ok (.iaload, 1) := by decide +kernel
theorem dl_685 : decode code 685 = .ok (.aload_n 0, 1) := by decide +kernel
theorem dl_686 : decode code 686 = .ok (.iload_n 3, 1) := by decide +kernel
theorem dl_687 : decode code 687 = .ok (.iconst 3, 1) := by decide +kernel
theorem dl_688 : decode code 688 = .ok (.iadd, 1) := by decide +kernel
theorem dl_689 : decode code 689 = .ok (.iaload, 1) := by decide +kernel
theorem dl_690 : decode code 690 = .ok (.aload_n 0, 1) := by decide +kernel
theorem dl_691 : decode code 691 = .ok (.iload_n 3, 1) := by decide +kernel
theorem dl_692 : decode code 692 = .ok (.iconst 4, 1) := by decide +kernel
theorem dl_693 : decode code 693 = .ok (.iadd, 1) := by decide +kernel
theorem dl_694 : decode code 694 = .ok (.iaload, 1) := by decide +kernel
theorem dl_695 : decode code 695 = .ok (.invokevirtual 72, 3) := by decide +kernel
theorem dl_698 : decode code 698 = .ok (.aload_n 2, 1) := by decide +kernel
theorem dl_699 : decode code 699 = .ok (.aload_n 0, 1) := by decide +kernel
theorem dl_700 : decode code 700 = .ok (.iload_n 3, 1) := by decide +kernel
theorem dl_701 : decode code 701 = .ok (.iconst 1, 1) := by decide +kernel
theorem dl_702 : decode code 702 = .ok (.iadd, 1) := by decide +kernel
theorem dl_703 : decode code 703 = .ok (.iaload, 1) := by decide +kernel
theorem dl_704 : decode code 704 = .ok (.aload_n 0, 1) := by decide +kernel
theorem dl_705 : decode code 705 = .ok (.iload_n 3, 1) := by decide +kernel
theorem dl_706 : decode code 706 = .ok (.iconst 2, 1) := by decide +kernel
theorem dl_707 : decode code 707 = .ok (.iadd, 1) := by decide +kernel
theorem dl_708 : decode code 708 = .ok (.iaload, 1) := by decide +kernel
theorem dl_709 : decode code 709 = .ok (.aload_n 0, 1) := by decide +kernel
theorem dl_710 : decode code 710 = .ok (.iload_n 3, 1) := by decide +kernel
theorem dl_711 : decode code 711 = .ok (.iconst 3, 1) := by decide +kernel
theorem dl_712 : decode code 712 = .ok (.iadd, 1) := by decide +kernel
theorem dl_713 : decode code 713 = .ok (.iaload, 1) := by decide +kernel
theorem dl_714 : decode code 714 = .ok (.aload_n 0, 1) := by decide +kernel
theorem dl_715 : decode code 715 = .ok (.iload_n 3, 1) := by decide +kernel
theorem dl_716 : decode code 716 = .ok (.iconst 4, 1) := by decide +kernel
theorem dl_717 : decode code 717 = .ok (.iadd, 1) := by decide +kernel
theorem dl_718 : decode code 718 = .ok (.iaload, 1) := by decide +kernel
theorem dl_719 : decode code 719 = .ok (.invokevirtual 75, 3) := by decide +kernel
theorem dl_722 : decode code 722 = .ok (.if_icmp .eq 668, 3) := by decide +kernel
theorem dl_725 : decode code 725 = .ok (.iconst 0, 1) := by decide +kernel
theorem dl_726 : decode code 726 = .ok (.ireturn, 1) := by decide +kernel
theorem dl_727 : decode code 727 = .ok (.aload_n 1, 1) := by decide +kernel
theorem dl_728 : decode code 728 = .ok (.aload_n 0, 1) := by decide +kernel
theorem dl_729 : decode code 729 = .ok (.iload_n 3, 1) := by decide +kernel
theorem dl_730 : decode code 730 = .ok (.iconst 1, 1) := by decide +kernel
theorem dl_731 : decode code 731 = .ok (.iadd, 1) := by decide +kernel
theorem dl_732 : decode code 732 = .ok (.iaload, 1) := by decide +kernel
theorem dl_733 : decode code 733 = .ok (.aload_n 0, 1) := by decide +kernel
theorem dl_734 : decode code 734 = .ok (.iload_n 3, 1) := by decide +kernel
theorem dl_735 : decode code 735 = .ok (.iconst 2, 1) := by decide +kernel
theorem dl_736 : decode code 736 = .ok (.iadd, 1) := by decide +kernel
theorem dl_737 : decode code 737 = .ok (.iaload, 1) := by decide +kernel
theorem dl_738 : decode code 738 = .ok (.invokevirtual 76, 3) := by decide +kernel
theorem dl_741 : decode code 741 = .ok (.aload_n 2, 1) := by decide +kernel
theorem dl_742 : decode code 742 = .ok (.aload_n 0, 1) := by decide +kernel
theorem dl_743 : decode code 743 = .ok (.iload_n 3, 1) := by decide +kernel
theorem dl_744 : decode code 744 = .ok (.iconst 1, 1) := by decide +kernel
theorem dl_745 : decode code 745 = .ok (.iadd, 1) := by decide +kernel
theorem dl_746 : decode code 746 = .ok (.iaload, 1) := by decide +kernel
theorem dl_747 : decode code 747 = .ok (.aload_n 0, 1) := by decide +kernel
theorem dl_748 : decode code 748 = .ok (.iload_n 3, 1) := by decide +kernel
theorem dl_749 : decode code 749 = .ok (.iconst 2, 1) := by decide +kernel
theorem dl_750 : decode code 750 = .ok (.iadd, 1) := by decide +kernel
theorem dl_751 : decode code 751 = .ok (.iaload, 1) := by decide +kernel
theorem dl_752 : decode code 752 = .ok (.invokevirtual 79, 3) := by decide +kernel
theorem dl_755 : decode code 755 = .ok (.if_icmp .eq 635, 3) := by decide +kernel
theorem dl_758 : decode code 758 = .ok (.iconst 0, 1) := by decide +kernel
theorem dl_759 : decode code 759 = .ok (.ireturn, 1) := by decide +kernel
theorem dl_760 : decode code 760 = .ok (.aload_n 1, 1) := by decide +kernel
theorem dl_761 : decode code 761 = .ok (.aload_n 0, 1) := by decide +kernel
theorem dl_762 : decode code 762 = .ok (.iload_n 3, 1) := by decide +kernel
theorem dl_763 : decode code 763 = .ok (.iconst 1, 1) := by decide +kernel
theorem dl_764 : decode code 764 = .ok (.iadd, 1) := by decide +kernel
theorem dl_765 : decode code 765 = .ok (.iaload, 1) := by decide +kernel
theorem dl_766 : decode code 766 = .ok (.aload_n 0, 1) := by decide +kernel
theorem dl_767 : decode code 767 = .ok (.iload_n 3, 1) := by decide +kernel
