/-! decodings of the law, 2 of 4 -/
theorem dl_514 : decode code 514 = .ok (.iconst 1, 1) := by decide +kernel
theorem dl_515 : decode code 515 = .ok (.iadd, 1) := by decide +kernel
theorem dl_516 : decode code 516 = .ok (.iaload, 1) := by decide +kernel
theorem dl_517 : decode code 517 = .ok (.aload_n 0, 1) := by decide +kernel
theorem dl_518 : decode code 518 = .ok (.iload_n 3, 1) := by decide +kernel
theorem dl_519 : decode code 519 = .ok (.iconst 2, 1) := by decide +kernel
theorem dl_520 : decode code 520 = .ok (.iadd, 1) := by decide +kernel
theorem dl_521 : decode code 521 = .ok (.iaload, 1) := by decide +kernel
theorem dl_522 : decode code 522 = .ok (.aload_n 0, 1) := by decide +kernel
theorem dl_523 : decode code 523 = .ok (.iload_n 3, 1) := by decide +kernel
theorem dl_524 : decode code 524 = .ok (.iconst 3, 1) := by decide +kernel
theorem dl_525 : decode code 525 = .ok (.iadd, 1) := by decide +kernel
theorem dl_526 : decode code 526 = .ok (.iaload, 1) := by decide +kernel
theorem dl_527 : decode code 527 = .ok (.invokevirtual 60, 3) := by decide +kernel
theorem dl_530 : decode code 530 = .ok (.if_icmp .eq 947, 3) := by decide +kernel
theorem dl_533 : decode code 533 = .ok (.iconst 0, 1) := by decide +kernel
theorem dl_534 : decode code 534 = .ok (.ireturn, 1) := by decide +kernel
theorem dl_535 : decode code 535 = .ok (.aload_n 1, 1) := by decide +kernel
theorem dl_536 : decode code 536 = .ok (.aload_n 0, 1) := by decide +kernel
theorem dl_537 : decode code 537 = .ok (.iload_n 3, 1) := by decide +kernel
theorem dl_538 : decode code 538 = .ok (.iconst 1, 1) := by decide +kernel
theorem dl_539 : decode code 539 = .ok (.iadd, 1) := by decide +kernel
theorem dl_540 : decode code 540 = .ok (.iaload, 1) := by decide +kernel
theorem dl_541 : decode code 541 = .ok (.invokevirtual 61, 3) := by decide +kernel
theorem dl_544 : decode code 544 = .ok (.aload_n 2, 1) := by decide +kernel
theorem dl_545 : decode code 545 = .ok (.aload_n 0, 1) := by decide +kernel
theorem dl_546 : decode code 546 = .ok (.iload_n 3, 1) := by decide +kernel
theorem dl_547 : decode code 547 = .ok (.iconst 1, 1) := by decide +kernel
theorem dl_548 : decode code 548 = .ok (.iadd, 1) := by decide +kernel
theorem dl_549 : decode code 549 = .ok (.iaload, 1) := by decide +kernel
theorem dl_550 : decode code 550 = .ok (.invokevirtual 64, 3) := by decide +kernel
theorem dl_553 : decode code 553 = .ok (.if_icmp .eq 924, 3) := by decide +kernel
theorem dl_556 : decode code 556 = .ok (.iconst 0, 1) := by decide +kernel
theorem dl_557 : decode code 557 = .ok (.ireturn, 1) := by decide +kernel
theorem dl_558 : decode code 558 = .ok (.aload_n 1, 1) := by decide +kernel
theorem dl_559 : decode code 559 = .ok (.invokevirtual 65, 3) := by decide +kernel
theorem dl_562 : decode code 562 = .ok (.aload_n 2, 1) := by decide +kernel
theorem dl_563 : decode code 563 = .ok (.invokevirtual 68, 3) := by decide +kernel
theorem dl_566 : decode code 566 = .ok (.if_icmp .eq 911, 3) := by decide +kernel
theorem dl_569 : decode code 569 = .ok (.iconst 0, 1) := by decide +kernel
theorem dl_570 : decode code 570 = .ok (.ireturn, 1) := by decide +kernel
theorem dl_571 : decode code 571 = .ok (.aload_n 1, 1) := by decide +kernel
theorem dl_572 : decode code 572 = .ok (.aload_n 0, 1) := by decide +kernel
theorem dl_573 : decode code 573 = .ok (.iload_n 3, 1) := by decide +kernel
theorem dl_574 : decode code 574 = .ok (.iconst 1, 1) := by decide +kernel
theorem dl_575 : decode code 575 = .ok (.iadd, 1) := by decide +kernel
theorem dl_576 : decode code 576 = .ok (.iaload, 1) := by decide +kernel
theorem dl_577 : decode code 577 = .ok (.invokevirtual 69, 3) := by decide +kernel
theorem dl_580 : decode code 580 = .ok (.aload_n 2, 1) := by decide +kernel
theorem dl_581 : decode code 581 = .ok (.aload_n 0, 1) := by decide +kernel
theorem dl_582 : decode code 582 = .ok (.iload_n 3, 1) := by decide +kernel
theorem dl_583 : decode code 583 = .ok (.iconst 1, 1) := by decide +kernel
theorem dl_584 : decode code 584 = .ok (.iadd, 1) := by decide +kernel
theorem dl_585 : decode code 585 = .ok (.iaload, 1) := by decide +kernel
theorem dl_586 : decode code 586 = .ok (.invokevirtual 72, 3) := by decide +kernel
theorem dl_589 : decode code 589 = .ok (.if_icmp .eq 888, 3) := by decide +kernel
theorem dl_592 : decode code 592 = .ok (.iconst 0, 1) := by decide +kernel
theorem dl_593 : decode code 593 = .ok (.ireturn, 1) := by decide +kernel
theorem dl_594 : decode code 594 = .ok (.aload_n 1, 1) := by decide +kernel
theorem dl_595 : decode code 595 = .ok (.aload_n 0, 1) := by decide +kernel
theorem dl_596 : decode code 596 = .ok (.iload_n 3, 1) := by decide +kernel
theorem dl_597 : decode code 597 = .ok (.iconst 1, 1) := by decide +kernel
theorem dl_598 : decode code 598 = .ok (.iadd, 1) := by decide +kernel
theorem dl_599 : decode code 599 = .ok (.iaload, 1) := by decide +kernel
theorem dl_600 : decode code 600 = .ok (.aload_n 0, 1) := by decide +kernel
theorem dl_601 : decode code 601 = .ok (.iload_n 3, 1) := by decide +kernel
theorem dl_602 : decode code 602 = .ok (.iconst 2, 1) := by decide +kernel
theorem dl_603 : decode code 603 = .ok (.iadd, 1) := by decide +kernel
theorem dl_604 : decode code 604 = .ok (.iaload, 1) := by decide +kernel
theorem dl_605 : decode code 605 = .ok (.invokevirtual 73, 3) := by decide +kernel
theorem dl_608 : decode code 608 = .ok (.aload_n 2, 1) := by decide +kernel
theorem dl_609 : decode code 609 = .ok (.aload_n 0, 1) := by decide +kernel
theorem dl_610 : decode code 610 = .ok (.iload_n 3, 1) := by decide +kernel
theorem dl_611 : decode code 611 = .ok (.iconst 1, 1) := by decide +kernel
theorem dl_612 : decode code 612 = .ok (.iadd, 1) := by decide +kernel
theorem dl_613 : decode code 613 = .ok (.iaload, 1) := by decide +kernel
theorem dl_614 : decode code 614 = .ok (.aload_n 0, 1) := by decide +kernel
theorem dl_615 : decode code 615 = .ok (.iload_n 3, 1) := by decide +kernel
theorem dl_616 : decode code 616 = .ok (.iconst 2, 1) := by decide +kernel
theorem dl_617 : decode code 617 = .ok (.iadd, 1) := by decide +kernel
theorem dl_618 : decode code 618 = .ok (.iaload, 1) := by decide +kernel
theorem dl_619 : decode code 619 = .ok (.invokevirtual 76, 3) := by decide +kernel
theorem dl_622 : decode code 622 = .ok (.if_icmp .eq 855, 3) := by decide +kernel
theorem dl_625 : decode code 625 = .ok (.iconst 0, 1) := by decide +kernel
theorem dl_626 : decode code 626 = .ok (.ireturn, 1) := by decide +kernel
theorem dl_627 : decode code 627 = .ok (.aload_n 1, 1) := by decide +kernel
theorem dl_628 : decode code 628 = .ok (.aload_n 0, 1) := by decide +kernel
theorem dl_629 : decode code 629 = .ok (.iload_n 3, 1) := by decide +kernel
theorem dl_630 : decode code 630 = .ok (.iconst 1, 1) := by decide +kernel
theorem dl_631 : decode code 631 = .ok (.iadd, 1) := by decide +kernel
theorem dl_632 : decode code 632 = .ok (.iaload, 1) := by decide +kernel
theorem dl_633 : decode code 633 = .ok (.aload_n 0, 1) := by decide +kernel
theorem dl_634 : decode code 634 = .ok (.iload_n 3, 1) := by decide +kernel
theorem dl_635 : decode code 635 = .ok (.iconst 2, 1) := by decide +kernel
theorem dl_636 : decode code 636 = .ok (.iadd, 1) := by decide +kernel
theorem dl_637 : decode code 637 = .ok (.iaload, 1) := by decide +kernel
theorem dl_638 : decode code 638 = .ok (.aload_n 0, 1) := by decide +kernel
theorem dl_639 : decode code 639 = .ok (.iload_n 3, 1) := by decide +kernel
theorem dl_640 : decode code 640 = .ok (.iconst 3, 1) := by decide +kernel
theorem dl_641 : decode code 641 = .ok (.iadd, 1) := by decide +kernel
theorem dl_642 : decode code 642 = .ok (.iaload, 1) := by decide +kernel
theorem dl_643 : decode code 643 = .ok (.invokevirtual 77, 3) := by decide +kernel
theorem dl_646 : decode code 646 = .ok (.aload_n 2, 1) := by decide +kernel
theorem dl_647 : decode code 647 = .ok (.aload_n 0, 1) := by decide +kernel
theorem dl_648 : decode code 648 = .ok (.iload_n 3, 1) := by decide +kernel
theorem dl_649 : decode code 649 = .ok (.iconst 1, 1) := by decide +kernel
theorem dl_650 : decode code 650 = .ok (.iadd, 1) := by decide +kernel
theorem dl_651 : decode code 651 = .ok (.iaload, 1) := by decide +kernel
theorem dl_652 : decode code 652 = .ok (.aload_n 0, 1) := by decide +kernel
theorem dl_653 : decode code 653 = .ok (.iload_n 3, 1) := by decide +kernel
theorem dl_654 : decode code 654 = .ok (.iconst 2, 1) := by decide +kernel
theorem dl_655 : decode code 655 = .ok (.iadd, 1) := by decide +kernel
theorem dl_656 : decode code 656 = .ok (.iaload, 1) := by decide +kernel
theorem dl_657 : decode code 657 = .ok (.aload_n 0, 1) := by decide +kernel
theorem dl_658 : decode code 658 = .ok (.iload_n 3, 1) := by decide +kernel
theorem dl_659 : decode code 659 = .ok (.iconst 3, 1) := by decide +kernel
theorem dl_660 : decode code 660 = .ok (.iadd, 1) := by decide +kernel
theorem dl_661 : decode code 661 = .ok (.iaload, 1) := by decide +kernel
theorem dl_662 : decode code 662 = .ok (.invokevirtual 80, 3) := by decide +kernel
theorem dl_665 : decode code 665 = .ok (.if_icmp .eq 812, 3) := by decide +kernel
theorem dl_668 : decode code 668 = .ok (.iconst 0, 1) := by decide +kernel
theorem dl_669 : decode code 669 = .ok (.ireturn, 1) := by decide +kernel
theorem dl_670 : decode code 670 = .ok (.aload_n 1, 1) := by decide +kernel
theorem dl_671 : decode code 671 = .ok (.aload_n 0, 1) := by decide +kernel
theorem dl_672 : decode code 672 = .ok (.iload_n 3, 1) := by decide +kernel
theorem dl_673 : decode code 673 = .ok (.iconst 1, 1) := by decide +kernel
theorem dl_674 : decode code 674 = .ok (.iadd, 1) := by decide +kernel
theorem dl_675 : decode code 675 = .ok (.iaload, 1) := by decide +kernel
theorem dl_676 : decode code 676 = .ok (.invokevirtual 81, 3) := by decide +kernel
theorem dl_679 : decode code 679 = .ok (.aload_n 2, 1) := by decide +kernel
theorem dl_680 : decode code 680 = .ok (.aload_n 0, 1) := by decide +kernel
theorem dl_681 : decode code 681 = .ok (.iload_n 3, 1) := by decide +kernel
theorem dl_682 : decode code 682 = .ok (.iconst 1, 1) := by decide +kernel
theorem dl_683 : decode code 683 = .ok (.iadd, 1) := by decide +kernel
theorem dl_684 : decode code 684 = .ok (.iaload, 1) := by decide +kernel
theorem dl_685 : decode code 685 = .ok (.invokevirtual 84, 3) := by decide +kernel
theorem dl_688 : decode code 688 = .ok (.if_icmp .eq 789, 3) := by decide +kernel
theorem dl_691 : decode code 691 = .ok (.iconst 0, 1) := by decide +kernel
theorem dl_692 : decode code 692 = .ok (.ireturn, 1) := by decide +kernel
theorem dl_693 : decode code 693 = .ok (.aload_n 1, 1) := by decide +kernel
theorem dl_694 : decode code 694 = .ok (.aload_n 0, 1) := by decide +kernel
theorem dl_695 : decode code 695 = .ok (.iload_n 3, 1) := by decide +kernel
theorem dl_696 : decode code 696 = .ok (.iconst 1, 1) := by decide +kernel
theorem dl_697 : decode code 697 = .ok (.iadd, 1) := by decide +kernel
theorem dl_698 : decode code 698 = .ok (.iaload, 1) := by decide +kernel
theorem dl_699 : decode code 699 = .ok (.aload_n 0, 1) := by decide +kernel
theorem dl_700 : decode code 700 = .ok (.iload_n 3, 1) := by decide +kernel
theorem dl_701 : decode code 701 = .ok (.iconst 2, 1) := by decide +kernel
theorem dl_702 : decode code 702 = .ok (.iadd, 1) := by decide +kernel
theorem dl_703 : decode code 703 = .ok (.iaload, 1) := by decide +kernel
theorem dl_704 : decode code 704 = .ok (.invokevirtual 85, 3) := by decide +kernel
theorem dl_707 : decode code 707 = .ok (.aload_n 2, 1) := by decide +kernel
theorem dl_708 : decode code 708 = .ok (.aload_n 0, 1) := by decide +kernel
theorem dl_709 : decode code 709 = .ok (.iload_n 3, 1) := by decide +kernel
theorem dl_710 : decode code 710 = .ok (.iconst 1, 1) := by decide +kernel
theorem dl_711 : decode code 711 = .ok (.iadd, 1) := by decide +kernel
theorem dl_712 : decode code 712 = .ok (.iaload, 1) := by decide +kernel
theorem dl_713 : decode code 713 = .ok (.aload_n 0, 1) := by decide +kernel
theorem dl_714 : decode code 714 = .ok (.iload_n 3, 1) := by decide +kernel
theorem dl_715 : decode code 715 = .ok (.iconst 2, 1) := by decide +kernel
theorem dl_716 : decode code 716 = .ok (.iadd, 1) := by decide +kernel
theorem dl_717 : decode code 717 = .ok (.iaload, 1) := by decide +kernel
theorem dl_718 : decode code 718 = .ok (.invokevirtual 88, 3) := by decide +kernel
theorem dl_721 : decode code 721 = .ok (.if_icmp .eq 756, 3) := by decide +kernel
theorem dl_724 : decode code 724 = .ok (.iconst 0, 1) := by decide +kernel
theorem dl_725 : decode code 725 = .ok (.ireturn, 1) := by decide +kernel
theorem dl_726 : decode code 726 = .ok (.aload_n 1, 1) := by decide +kernel
theorem dl_727 : decode code 727 = .ok (.aload_n 0, 1) := by decide +kernel
theorem dl_728 : decode code 728 = .ok (.iload_n 3, 1) := by decide +kernel
theorem dl_729 : decode code 729 = .ok (.iconst 1, 1) := by decide +kernel
theorem dl_730 : decode code 730 = .ok (.iadd, 1) := by decide +kernel
theorem dl_731 : decode code 731 = .ok (.iaload, 1) := by decide +kernel
theorem dl_732 : decode code 732 = .ok (.aload_n 0, 1) := by decide +kernel
theorem dl_733 : decode code 733 = .ok (.iload_n 3, 1) := by decide +kernel
theorem dl_734 : decode code 734 = .ok (.iconst 2, 1) := by decide +kernel
theorem dl_735 : decode code 735 = .ok (.iadd, 1) := by decide +kernel
theorem dl_736 : decode code 736 = .ok (.iaload, 1) := by decide +kernel
theorem dl_737 : decode code 737 = .ok (.invokevirtual 89, 3) := by decide +kernel
theorem dl_740 : decode code 740 = .ok (.aload_n 2, 1) := by decide +kernel
theorem dl_741 : decode code 741 = .ok (.aload_n 0, 1) := by decide +kernel
theorem dl_742 : decode code 742 = .ok (.iload_n 3, 1) := by decide +kernel
theorem dl_743 : decode code 743 = .ok (.iconst 1, 1) := by decide +kernel
theorem dl_744 : decode code 744 = .ok (.iadd, 1) := by decide +kernel
theorem dl_745 : decode code 745 = .ok (.iaload, 1) := by decide +kernel
theorem dl_746 : decode code 746 = .ok (.aload_n 0, 1) := by decide +kernel
theorem dl_747 : decode code 747 = .ok (.iload_n 3, 1) := by decide +kernel
theorem dl_748 : decode code 748 = .ok (.iconst 2, 1) := by decide +kernel
theorem dl_749 : decode code 749 = .ok (.iadd, 1) := by decide +kernel
theorem dl_750 : decode code 750 = .ok (.iaload, 1) := by decide +kernel
theorem dl_751 : decode code 751 = .ok (.invokevirtual 92, 3) := by decide +kernel
theorem dl_754 : decode code 754 = .ok (.if_icmp .eq 723, 3) := by decide +kernel
theorem dl_757 : decode code 757 = .ok (.iconst 0, 1) := by decide +kernel
theorem dl_758 : decode code 758 = .ok (.ireturn, 1) := by decide +kernel
theorem dl_759 : decode code 759 = .ok (.aload_n 1, 1) := by decide +kernel
theorem dl_760 : decode code 760 = .ok (.aload_n 0, 1) := by decide +kernel
theorem dl_761 : decode code 761 = .ok (.iload_n 3, 1) := by decide +kernel
theorem dl_762 : decode code 762 = .ok (.iconst 1, 1) := by decide +kernel
theorem dl_763 : decode code 763 = .ok (.iadd, 1) := by decide +kernel
theorem dl_764 : decode code 764 = .ok (.iaload, 1) := by decide +kernel
theorem dl_765 : decode code 765 = .ok (.aload_n 0, 1) := by decide +kernel
theorem dl_766 : decode code 766 = .ok (.iload_n 3, 1) := by decide +kernel
theorem dl_767 : decode code 767 = .ok (.iconst 2, 1) := by decide +kernel
theorem dl_768 : decode code 768 = .ok (.iadd, 1) := by decide +kernel
theorem dl_769 : decode code 769 = .ok (.iaload, 1) := by decide +kernel
theorem dl_770 : decode code 770 = .ok (.invokevirtual 93, 3) := by decide +kernel
theorem dl_773 : decode code 773 = .ok (.aload_n 2, 1) := by decide +kernel
theorem dl_774 : decode code 774 = .ok (.aload_n 0, 1) := by decide +kernel
theorem dl_775 : decode code 775 = .ok (.iload_n 3, 1) := by decide +kernel
theorem dl_776 : decode code 776 = .ok (.iconst 1, 1) := by decide +kernel
theorem dl_777 : decode code 777 = .ok (.iadd, 1) := by decide +kernel
theorem dl_778 : decode code 778 = .ok (.iaload, 1) := by decide +kernel
theorem dl_779 : decode code 779 = .ok (.aload_n 0, 1) := by decide +kernel
theorem dl_780 : decode code 780 = .ok (.iload_n 3, 1) := by decide +kernel
theorem dl_781 : decode code 781 = .ok (.iconst 2, 1) := by decide +kernel
theorem dl_782 : decode code 782 = .ok (.iadd, 1) := by decide +kernel
theorem dl_783 : decode code 783 = .ok (.iaload, 1) := by decide +kernel
theorem dl_784 : decode code 784 = .ok (.invokevirtual 96, 3) := by decide +kernel
theorem dl_787 : decode code 787 = .ok (.if_icmp .eq 690, 3) := by decide +kernel
theorem dl_790 : decode code 790 = .ok (.iconst 0, 1) := by decide +kernel
theorem dl_791 : decode code 791 = .ok (.ireturn, 1) := by decide +kernel
theorem dl_792 : decode code 792 = .ok (.aload_n 1, 1) := by decide +kernel
theorem dl_793 : decode code 793 = .ok (.aload_n 0, 1) := by decide +kernel
theorem dl_794 : decode code 794 = .ok (.iload_n 3, 1) := by decide +kernel
theorem dl_795 : decode code 795 = .ok (.iconst 1, 1) := by decide +kernel
theorem dl_796 : decode code 796 = .ok (.iadd, 1) := by decide +kernel
theorem dl_797 : decode code 797 = .ok (.iaload, 1) := by decide +kernel
theorem dl_798 : decode code 798 = .ok (.aload_n 0, 1) := by decide +kernel
theorem dl_799 : decode code 799 = .ok (.iload_n 3, 1) := by decide +kernel
theorem dl_800 : decode code 800 = .ok (.iconst 2, 1) := by decide +kernel
theorem dl_801 : decode code 801 = .ok (.iadd, 1) := by decide +kernel
theorem dl_802 : decode code 802 = .ok (.iaload, 1) := by decide +kernel
theorem dl_803 : decode code 803 = .ok (.invokevirtual 97, 3) := by decide +kernel
theorem dl_806 : decode code 806 = .ok (.aload_n 2, 1) := by decide +kernel
theorem dl_807 : decode code 807 = .ok (.aload_n 0, 1) := by decide +kernel
theorem dl_808 : decode code 808 = .ok (.iload_n 3, 1) := by decide +kernel
theorem dl_809 : decode code 809 = .ok (.iconst 1, 1) := by decide +kernel
theorem dl_810 : decode code 810 = .ok (.iadd, 1) := by decide +kernel
theorem dl_811 : decode code 811 = .ok (.iaload, 1) := by decide +kernel
theorem dl_812 : decode code 812 = .ok (.aload_n 0, 1) := by decide +kernel
theorem dl_813 : decode code 813 = .ok (.iload_n 3, 1) := by decide +kernel
theorem dl_814 : decode code 814 = .ok (.iconst 2, 1) := by decide +kernel
theorem dl_815 : decode code 815 = .ok (.iadd, 1) := by decide +kernel
theorem dl_816 : decode code 816 = .ok (.iaload, 1) := by decide +kernel
theorem dl_817 : decode code 817 = .ok (.invokevirtual 100, 3) := by decide +kernel
theorem dl_820 : decode code 820 = .ok (.if_icmp .eq 657, 3) := by decide +kernel
theorem dl_823 : decode code 823 = .ok (.iconst 0, 1) := by decide +kernel
theorem dl_824 : decode code 824 = .ok (.ireturn, 1) := by decide +kernel
theorem dl_825 : decode code 825 = .ok (.aload_n 1, 1) := by decide +kernel
theorem dl_826 : decode code 826 = .ok (.aload_n 0, 1) := by decide +kernel
theorem dl_827 : decode code 827 = .ok (.iload_n 3, 1) := by decide +kernel
theorem dl_828 : decode code 828 = .ok (.iconst 1, 1) := by decide +kernel
theorem dl_829 : decode code 829 = .ok (.iadd, 1) := by decide +kernel
theorem dl_830 : decode code 830 = .ok (.iaload, 1) := by decide +kernel
theorem dl_831 : decode code 831 = .ok (.aload_n 0, 1) := by decide +kernel
theorem dl_832 : decode code 832 = .ok (.iload_n 3, 1) := by decide +kernel
theorem dl_833 : decode code 833 = .ok (.iconst 2, 1) := by decide +kernel
theorem dl_834 : decode code 834 = .ok (.iadd, 1) := by decide +kernel
theorem dl_835 : decode code 835 = .ok (.iaload, 1) := by decide +kernel
theorem dl_836 : decode code 836 = .ok (.invokevirtual 101, 3) := by decide +kernel
theorem dl_839 : decode code 839 = .ok (.aload_n 2, 1) := by decide +kernel
theorem dl_840 : decode code 840 = .ok (.aload_n 0, 1) := by decide +kernel
theorem dl_841 : decode code 841 = .ok (.iload_n 3, 1) := by decide +kernel
