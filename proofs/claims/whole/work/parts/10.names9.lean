theorem dL_law__566 : decode cL_law_ 566 = .ok (.iload 5, 2) := by decide +kernel
theorem dL_law__568 : decode cL_law_ 568 = .ok (.iconst 1, 1) := by decide +kernel
theorem dL_law__569 : decode cL_law_ 569 = .ok (.iadd, 1) := by decide +kernel
theorem dL_law__570 : decode cL_law_ 570 = .ok (.iaload, 1) := by decide +kernel
theorem dL_law__571 : decode cL_law_ 571 = .ok (.aload_n 3, 1) := by decide +kernel
theorem dL_law__572 : decode cL_law_ 572 = .ok (.invokestatic 129, 3) := by decide +kernel
theorem dL_law__575 : decode cL_law_ 575 = .ok (.istore 6, 2) := by decide +kernel
theorem dL_law__577 : decode cL_law_ 577 = .ok (.aload_n 2, 1) := by decide +kernel
theorem dL_law__578 : decode cL_law_ 578 = .ok (.aload_n 0, 1) := by decide +kernel
theorem dL_law__579 : decode cL_law_ 579 = .ok (.iload 5, 2) := by decide +kernel
theorem dL_law__581 : decode cL_law_ 581 = .ok (.iconst 1, 1) := by decide +kernel
theorem dL_law__582 : decode cL_law_ 582 = .ok (.iadd, 1) := by decide +kernel
theorem dL_law__583 : decode cL_law_ 583 = .ok (.iaload, 1) := by decide +kernel
theorem dL_law__584 : decode cL_law_ 584 = .ok (.invokevirtual 132, 3) := by decide +kernel
theorem dL_law__587 : decode cL_law_ 587 = .ok (.lstore 7, 2) := by decide +kernel
theorem dL_law__589 : decode cL_law_ 589 = .ok (.aload_n 2, 1) := by decide +kernel
theorem dL_law__590 : decode cL_law_ 590 = .ok (.invokevirtual 107, 3) := by decide +kernel
theorem dL_law__593 : decode cL_law_ 593 = .ok (.iload 6, 2) := by decide +kernel
theorem dL_law__595 : decode cL_law_ 595 = .ok (.if_icmp .eq 5, 3) := by decide +kernel
theorem dL_law__598 : decode cL_law_ 598 = .ok (.iconst 0, 1) := by decide +kernel
theorem dL_law__599 : decode cL_law_ 599 = .ok (.ireturn, 1) := by decide +kernel
theorem dL_law__600 : decode cL_law_ 600 = .ok (.iload 6, 2) := by decide +kernel
theorem dL_law__602 : decode cL_law_ 602 = .ok (.ifCond .ne 14, 3) := by decide +kernel
theorem dL_law__605 : decode cL_law_ 605 = .ok (.aload_n 3, 1) := by decide +kernel
theorem dL_law__606 : decode cL_law_ 606 = .ok (.iconst 0, 1) := by decide +kernel
theorem dL_law__607 : decode cL_law_ 607 = .ok (.laload, 1) := by decide +kernel
theorem dL_law__608 : decode cL_law_ 608 = .ok (.lload 7, 2) := by decide +kernel
theorem dL_law__610 : decode cL_law_ 610 = .ok (.lcmp, 1) := by decide +kernel
theorem dL_law__611 : decode cL_law_ 611 = .ok (.ifCond .eq 5, 3) := by decide +kernel
theorem dL_law__614 : decode cL_law_ 614 = .ok (.iconst 0, 1) := by decide +kernel
theorem dL_law__615 : decode cL_law_ 615 = .ok (.ireturn, 1) := by decide +kernel
theorem dL_law__616 : decode cL_law_ 616 = .ok (.goto 1207, 3) := by decide +kernel
theorem dL_law__619 : decode cL_law_ 619 = .ok (.aload_n 1, 1) := by decide +kernel
theorem dL_law__620 : decode cL_law_ 620 = .ok (.aload_n 0, 1) := by decide +kernel
theorem dL_law__621 : decode cL_law_ 621 = .ok (.iload 5, 2) := by decide +kernel
theorem dL_law__623 : decode cL_law_ 623 = .ok (.iconst 1, 1) := by decide +kernel
theorem dL_law__624 : decode cL_law_ 624 = .ok (.iadd, 1) := by decide +kernel
theorem dL_law__625 : decode cL_law_ 625 = .ok (.iaload, 1) := by decide +kernel
theorem dL_law__626 : decode cL_law_ 626 = .ok (.aload_n 0, 1) := by decide +kernel
theorem dL_law__627 : decode cL_law_ 627 = .ok (.iload 5, 2) := by decide +kernel
theorem dL_law__629 : decode cL_law_ 629 = .ok (.iconst 2, 1) := by decide +kernel
theorem dL_law__630 : decode cL_law_ 630 = .ok (.iadd, 1) := by decide +kernel
theorem dL_law__631 : decode cL_law_ 631 = .ok (.iaload, 1) := by decide +kernel
theorem dL_law__632 : decode cL_law_ 632 = .ok (.aload_n 0, 1) := by decide +kernel
theorem dL_law__633 : decode cL_law_ 633 = .ok (.iload 5, 2) := by decide +kernel
theorem dL_law__635 : decode cL_law_ 635 = .ok (.iconst 3, 1) := by decide +kernel
theorem dL_law__636 : decode cL_law_ 636 = .ok (.iadd, 1) := by decide +kernel
theorem dL_law__637 : decode cL_law_ 637 = .ok (.iaload, 1) := by decide +kernel
theorem dL_law__638 : decode cL_law_ 638 = .ok (.aload_n 3, 1) := by decide +kernel
theorem dL_law__639 : decode cL_law_ 639 = .ok (.invokestatic 133, 3) := by decide +kernel
theorem dL_law__642 : decode cL_law_ 642 = .ok (.istore 6, 2) := by decide +kernel
theorem dL_law__644 : decode cL_law_ 644 = .ok (.aload_n 2, 1) := by decide +kernel
theorem dL_law__645 : decode cL_law_ 645 = .ok (.aload_n 0, 1) := by decide +kernel
theorem dL_law__646 : decode cL_law_ 646 = .ok (.iload 5, 2) := by decide +kernel
theorem dL_law__648 : decode cL_law_ 648 = .ok (.iconst 1, 1) := by decide +kernel
theorem dL_law__649 : decode cL_law_ 649 = .ok (.iadd, 1) := by decide +kernel
theorem dL_law__650 : decode cL_law_ 650 = .ok (.iaload, 1) := by decide +kernel
theorem dL_law__651 : decode cL_law_ 651 = .ok (.aload_n 0, 1) := by decide +kernel
theorem dL_law__652 : decode cL_law_ 652 = .ok (.iload 5, 2) := by decide +kernel
theorem dL_law__654 : decode cL_law_ 654 = .ok (.iconst 2, 1) := by decide +kernel
theorem dL_law__655 : decode cL_law_ 655 = .ok (.iadd, 1) := by decide +kernel
theorem dL_law__656 : decode cL_law_ 656 = .ok (.iaload, 1) := by decide +kernel
theorem dL_law__657 : decode cL_law_ 657 = .ok (.aload_n 0, 1) := by decide +kernel
theorem dL_law__658 : decode cL_law_ 658 = .ok (.iload 5, 2) := by decide +kernel
theorem dL_law__660 : decode cL_law_ 660 = .ok (.iconst 3, 1) := by decide +kernel
theorem dL_law__661 : decode cL_law_ 661 = .ok (.iadd, 1) := by decide +kernel
theorem dL_law__662 : decode cL_law_ 662 = .ok (.iaload, 1) := by decide +kernel
theorem dL_law__663 : decode cL_law_ 663 = .ok (.invokevirtual 135, 3) := by decide +kernel
theorem dL_law__666 : decode cL_law_ 666 = .ok (.lstore 7, 2) := by decide +kernel
theorem dL_law__668 : decode cL_law_ 668 = .ok (.aload_n 2, 1) := by decide +kernel
theorem dL_law__669 : decode cL_law_ 669 = .ok (.invokevirtual 107, 3) := by decide +kernel
theorem dL_law__672 : decode cL_law_ 672 = .ok (.iload 6, 2) := by decide +kernel
theorem dL_law__674 : decode cL_law_ 674 = .ok (.if_icmp .eq 5, 3) := by decide +kernel
theorem dL_law__677 : decode cL_law_ 677 = .ok (.iconst 0, 1) := by decide +kernel
theorem dL_law__678 : decode cL_law_ 678 = .ok (.ireturn, 1) := by decide +kernel
theorem dL_law__679 : decode cL_law_ 679 = .ok (.iload 6, 2) := by decide +kernel
theorem dL_law__681 : decode cL_law_ 681 = .ok (.ifCond .ne 14, 3) := by decide +kernel
theorem dL_law__684 : decode cL_law_ 684 = .ok (.aload_n 3, 1) := by decide +kernel
theorem dL_law__685 : decode cL_law_ 685 = .ok (.iconst 0, 1) := by decide +kernel
theorem dL_law__686 : decode cL_law_ 686 = .ok (.laload, 1) := by decide +kernel
theorem dL_law__687 : decode cL_law_ 687 = .ok (.lload 7, 2) := by decide +kernel
theorem dL_law__689 : decode cL_law_ 689 = .ok (.lcmp, 1) := by decide +kernel
theorem dL_law__690 : decode cL_law_ 690 = .ok (.ifCond .eq 5, 3) := by decide +kernel
theorem dL_law__693 : decode cL_law_ 693 = .ok (.iconst 0, 1) := by decide +kernel
theorem dL_law__694 : decode cL_law_ 694 = .ok (.ireturn, 1) := by decide +kernel
theorem dL_law__695 : decode cL_law_ 695 = .ok (.goto 1128, 3) := by decide +kernel
theorem dL_law__698 : decode cL_law_ 698 = .ok (.aload_n 1, 1) := by decide +kernel
theorem dL_law__699 : decode cL_law_ 699 = .ok (.aload_n 0, 1) := by decide +kernel
theorem dL_law__700 : decode cL_law_ 700 = .ok (.iload 5, 2) := by decide +kernel
theorem dL_law__702 : decode cL_law_ 702 = .ok (.iconst 1, 1) := by decide +kernel
theorem dL_law__703 : decode cL_law_ 703 = .ok (.iadd, 1) := by decide +kernel
theorem dL_law__704 : decode cL_law_ 704 = .ok (.iaload, 1) := by decide +kernel
theorem dL_law__705 : decode cL_law_ 705 = .ok (.aload_n 0, 1) := by decide +kernel
theorem dL_law__706 : decode cL_law_ 706 = .ok (.iload 5, 2) := by decide +kernel
theorem dL_law__708 : decode cL_law_ 708 = .ok (.iconst 2, 1) := by decide +kernel
theorem dL_law__709 : decode cL_law_ 709 = .ok (.iadd, 1) := by decide +kernel
theorem dL_law__710 : decode cL_law_ 710 = .ok (.iaload, 1) := by decide +kernel
theorem dL_law__711 : decode cL_law_ 711 = .ok (.aload_n 0, 1) := by decide +kernel
theorem dL_law__712 : decode cL_law_ 712 = .ok (.iload 5, 2) := by decide +kernel
theorem dL_law__714 : decode cL_law_ 714 = .ok (.iconst 3, 1) := by decide +kernel
theorem dL_law__715 : decode cL_law_ 715 = .ok (.iadd, 1) := by decide +kernel
theorem dL_law__716 : decode cL_law_ 716 = .ok (.iaload, 1) := by decide +kernel
theorem dL_law__717 : decode cL_law_ 717 = .ok (.aload_n 3, 1) := by decide +kernel
theorem dL_law__718 : decode cL_law_ 718 = .ok (.invokestatic 136, 3) := by decide +kernel
theorem dL_law__721 : decode cL_law_ 721 = .ok (.istore 6, 2) := by decide +kernel
theorem dL_law__723 : decode cL_law_ 723 = .ok (.aload_n 2, 1) := by decide +kernel
theorem dL_law__724 : decode cL_law_ 724 = .ok (.aload_n 0, 1) := by decide +kernel
theorem dL_law__725 : decode cL_law_ 725 = .ok (.iload 5, 2) := by decide +kernel
theorem dL_law__727 : decode cL_law_ 727 = .ok (.iconst 1, 1) := by decide +kernel
theorem dL_law__728 : decode cL_law_ 728 = .ok (.iadd, 1) := by decide +kernel
theorem dL_law__729 : decode cL_law_ 729 = .ok (.iaload, 1) := by decide +kernel
theorem dL_law__730 : decode cL_law_ 730 = .ok (.aload_n 0, 1) := by decide +kernel
theorem dL_law__731 : decode cL_law_ 731 = .ok (.iload 5, 2) := by decide +kernel
theorem dL_law__733 : decode cL_law_ 733 = .ok (.iconst 2, 1) := by decide +kernel
theorem dL_law__734 : decode cL_law_ 734 = .ok (.iadd, 1) := by decide +kernel
theorem dL_law__735 : decode cL_law_ 735 = .ok (.iaload, 1) := by decide +kernel
theorem dL_law__736 : decode cL_law_ 736 = .ok (.aload_n 0, 1) := by decide +kernel
theorem dL_law__737 : decode cL_law_ 737 = .ok (.iload 5, 2) := by decide +kernel
theorem dL_law__739 : decode cL_law_ 739 = .ok (.iconst 3, 1) := by decide +kernel
theorem dL_law__740 : decode cL_law_ 740 = .ok (.iadd, 1) := by decide +kernel
theorem dL_law__741 : decode cL_law_ 741 = .ok (.iaload, 1) := by decide +kernel
theorem dL_law__742 : decode cL_law_ 742 = .ok (.invokevirtual 138, 3) := by decide +kernel
theorem dL_law__745 : decode cL_law_ 745 = .ok (.lstore 7, 2) := by decide +kernel
theorem dL_law__747 : decode cL_law_ 747 = .ok (.aload_n 2, 1) := by decide +kernel
theorem dL_law__748 : decode cL_law_ 748 = .ok (.invokevirtual 107, 3) := by decide +kernel
theorem dL_law__751 : decode cL_law_ 751 = .ok (.iload 6, 2) := by decide +kernel
theorem dL_law__753 : decode cL_law_ 753 = .ok (.if_icmp .eq 5, 3) := by decide +kernel
theorem dL_law__756 : decode cL_law_ 756 = .ok (.iconst 0, 1) := by decide +kernel
theorem dL_law__757 : decode cL_law_ 757 = .ok (.ireturn, 1) := by decide +kernel
theorem dL_law__758 : decode cL_law_ 758 = .ok (.iload 6, 2) := by decide +kernel
theorem dL_law__760 : decode cL_law_ 760 = .ok (.ifCond .ne 14, 3) := by decide +kernel
theorem dL_law__763 : decode cL_law_ 763 = .ok (.aload_n 3, 1) := by decide +kernel
theorem dL_law__764 : decode cL_law_ 764 = .ok (.iconst 0, 1) := by decide +kernel
theorem dL_law__765 : decode cL_law_ 765 = .ok (.laload, 1) := by decide +kernel
theorem dL_law__766 : decode cL_law_ 766 = .ok (.lload 7, 2) := by decide +kernel
theorem dL_law__768 : decode cL_law_ 768 = .ok (.lcmp, 1) := by decide +kernel
theorem dL_law__769 : decode cL_law_ 769 = .ok (.ifCond .eq 5, 3) := by decide +kernel
theorem dL_law__772 : decode cL_law_ 772 = .ok (.iconst 0, 1) := by decide +kernel
theorem dL_law__773 : decode cL_law_ 773 = .ok (.ireturn, 1) := by decide +kernel
theorem dL_law__774 : decode cL_law_ 774 = .ok (.goto 1049, 3) := by decide +kernel
theorem dL_law__777 : decode cL_law_ 777 = .ok (.aload_n 1, 1) := by decide +kernel
theorem dL_law__778 : decode cL_law_ 778 = .ok (.aload_n 0, 1) := by decide +kernel
theorem dL_law__779 : decode cL_law_ 779 = .ok (.iload 5, 2) := by decide +kernel
theorem dL_law__781 : decode cL_law_ 781 = .ok (.iconst 1, 1) := by decide +kernel
theorem dL_law__782 : decode cL_law_ 782 = .ok (.iadd, 1) := by decide +kernel
theorem dL_law__783 : decode cL_law_ 783 = .ok (.iaload, 1) := by decide +kernel
theorem dL_law__784 : decode cL_law_ 784 = .ok (.aload_n 0, 1) := by decide +kernel
theorem dL_law__785 : decode cL_law_ 785 = .ok (.iload 5, 2) := by decide +kernel
theorem dL_law__787 : decode cL_law_ 787 = .ok (.iconst 2, 1) := by decide +kernel
theorem dL_law__788 : decode cL_law_ 788 = .ok (.iadd, 1) := by decide +kernel
theorem dL_law__789 : decode cL_law_ 789 = .ok (.iaload, 1) := by decide +kernel
theorem dL_law__790 : decode cL_law_ 790 = .ok (.aload_n 0, 1) := by decide +kernel
theorem dL_law__791 : decode cL_law_ 791 = .ok (.iload 5, 2) := by decide +kernel
theorem dL_law__793 : decode cL_law_ 793 = .ok (.iconst 3, 1) := by decide +kernel
theorem dL_law__794 : decode cL_law_ 794 = .ok (.iadd, 1) := by decide +kernel
theorem dL_law__795 : decode cL_law_ 795 = .ok (.iaload, 1) := by decide +kernel
theorem dL_law__796 : decode cL_law_ 796 = .ok (.aload_n 3, 1) := by decide +kernel
theorem dL_law__797 : decode cL_law_ 797 = .ok (.invokestatic 139, 3) := by decide +kernel
theorem dL_law__800 : decode cL_law_ 800 = .ok (.istore 6, 2) := by decide +kernel
theorem dL_law__802 : decode cL_law_ 802 = .ok (.aload_n 2, 1) := by decide +kernel
theorem dL_law__803 : decode cL_law_ 803 = .ok (.aload_n 0, 1) := by decide +kernel
theorem dL_law__804 : decode cL_law_ 804 = .ok (.iload 5, 2) := by decide +kernel
theorem dL_law__806 : decode cL_law_ 806 = .ok (.iconst 1, 1) := by decide +kernel
theorem dL_law__807 : decode cL_law_ 807 = .ok (.iadd, 1) := by decide +kernel
theorem dL_law__808 : decode cL_law_ 808 = .ok (.iaload, 1) := by decide +kernel
theorem dL_law__809 : decode cL_law_ 809 = .ok (.aload_n 0, 1) := by decide +kernel
theorem dL_law__810 : decode cL_law_ 810 = .ok (.iload 5, 2) := by decide +kernel
theorem dL_law__812 : decode cL_law_ 812 = .ok (.iconst 2, 1) := by decide +kernel
theorem dL_law__813 : decode cL_law_ 813 = .ok (.iadd, 1) := by decide +kernel
theorem dL_law__814 : decode cL_law_ 814 = .ok (.iaload, 1) := by decide +kernel
theorem dL_law__815 : decode cL_law_ 815 = .ok (.aload_n 0, 1) := by decide +kernel
theorem dL_law__816 : decode cL_law_ 816 = .ok (.iload 5, 2) := by decide +kernel
theorem dL_law__818 : decode cL_law_ 818 = .ok (.iconst 3, 1) := by decide +kernel
theorem dL_law__819 : decode cL_law_ 819 = .ok (.iadd, 1) := by decide +kernel
theorem dL_law__820 : decode cL_law_ 820 = .ok (.iaload, 1) := by decide +kernel
theorem dL_law__821 : decode cL_law_ 821 = .ok (.invokevirtual 141, 3) := by decide +kernel
theorem dL_law__824 : decode cL_law_ 824 = .ok (.lstore 7, 2) := by decide +kernel
theorem dL_law__826 : decode cL_law_ 826 = .ok (.aload_n 2, 1) := by decide +kernel
theorem dL_law__827 : decode cL_law_ 827 = .ok (.invokevirtual 107, 3) := by decide +kernel
theorem dL_law__830 : decode cL_law_ 830 = .ok (.iload 6, 2) := by decide +kernel
theorem dL_law__832 : decode cL_law_ 832 = .ok (.if_icmp .eq 5, 3) := by decide +kernel
theorem dL_law__835 : decode cL_law_ 835 = .ok (.iconst 0, 1) := by decide +kernel
theorem dL_law__836 : decode cL_law_ 836 = .ok (.ireturn, 1) := by decide +kernel
theorem dL_law__837 : decode cL_law_ 837 = .ok (.iload 6, 2) := by decide +kernel
theorem dL_law__839 : decode cL_law_ 839 = .ok (.ifCond .ne 14, 3) := by decide +kernel
theorem dL_law__842 : decode cL_law_ 842 = .ok (.aload_n 3, 1) := by decide +kernel
theorem dL_law__843 : decode cL_law_ 843 = .ok (.iconst 0, 1) := by decide +kernel
theorem dL_law__844 : decode cL_law_ 844 = .ok (.laload, 1) := by decide +kernel
theorem dL_law__845 : decode cL_law_ 845 = .ok (.lload 7, 2) := by decide +kernel
theorem dL_law__847 : decode cL_law_ 847 = .ok (.lcmp, 1) := by decide +kernel
theorem dL_law__848 : decode cL_law_ 848 = .ok (.ifCond .eq 5, 3) := by decide +kernel
theorem dL_law__851 : decode cL_law_ 851 = .ok (.iconst 0, 1) := by decide +kernel
theorem dL_law__852 : decode cL_law_ 852 = .ok (.ireturn, 1) := by decide +kernel
theorem dL_law__853 : decode cL_law_ 853 = .ok (.goto 970, 3) := by decide +kernel
theorem dL_law__856 : decode cL_law_ 856 = .ok (.aload_n 1, 1) := by decide +kernel
theorem dL_law__857 : decode cL_law_ 857 = .ok (.aload_n 0, 1) := by decide +kernel
theorem dL_law__858 : decode cL_law_ 858 = .ok (.iload 5, 2) := by decide +kernel
theorem dL_law__860 : decode cL_law_ 860 = .ok (.iconst 1, 1) := by decide +kernel
theorem dL_law__861 : decode cL_law_ 861 = .ok (.iadd, 1) := by decide +kernel
theorem dL_law__862 : decode cL_law_ 862 = .ok (.iaload, 1) := by decide +kernel
theorem dL_law__863 : decode cL_law_ 863 = .ok (.aload_n 3, 1) := by decide +kernel
theorem dL_law__864 : decode cL_law_ 864 = .ok (.invokestatic 142, 3) := by decide +kernel
theorem dL_law__867 : decode cL_law_ 867 = .ok (.istore 6, 2) := by decide +kernel
theorem dL_law__869 : decode cL_law_ 869 = .ok (.aload_n 2, 1) := by decide +kernel
theorem dL_law__870 : decode cL_law_ 870 = .ok (.aload_n 0, 1) := by decide +kernel
theorem dL_law__871 : decode cL_law_ 871 = .ok (.iload 5, 2) := by decide +kernel
theorem dL_law__873 : decode cL_law_ 873 = .ok (.iconst 1, 1) := by decide +kernel
theorem dL_law__874 : decode cL_law_ 874 = .ok (.iadd, 1) := by decide +kernel
theorem dL_law__875 : decode cL_law_ 875 = .ok (.iaload, 1) := by decide +kernel
theorem dL_law__876 : decode cL_law_ 876 = .ok (.invokevirtual 144, 3) := by decide +kernel
theorem dL_law__879 : decode cL_law_ 879 = .ok (.istore 7, 2) := by decide +kernel
theorem dL_law__881 : decode cL_law_ 881 = .ok (.aload_n 2, 1) := by decide +kernel
theorem dL_law__882 : decode cL_law_ 882 = .ok (.invokevirtual 107, 3) := by decide +kernel
theorem dL_law__885 : decode cL_law_ 885 = .ok (.iload 6, 2) := by decide +kernel
theorem dL_law__887 : decode cL_law_ 887 = .ok (.if_icmp .eq 5, 3) := by decide +kernel
theorem dL_law__890 : decode cL_law_ 890 = .ok (.iconst 0, 1) := by decide +kernel
theorem dL_law__891 : decode cL_law_ 891 = .ok (.ireturn, 1) := by decide +kernel
theorem dL_law__892 : decode cL_law_ 892 = .ok (.iload 6, 2) := by decide +kernel
theorem dL_law__894 : decode cL_law_ 894 = .ok (.ifCond .ne 15, 3) := by decide +kernel
theorem dL_law__897 : decode cL_law_ 897 = .ok (.aload_n 3, 1) := by decide +kernel
theorem dL_law__898 : decode cL_law_ 898 = .ok (.iconst 0, 1) := by decide +kernel
theorem dL_law__899 : decode cL_law_ 899 = .ok (.laload, 1) := by decide +kernel
theorem dL_law__900 : decode cL_law_ 900 = .ok (.iload 7, 2) := by decide +kernel
theorem dL_law__902 : decode cL_law_ 902 = .ok (.i2l, 1) := by decide +kernel
theorem dL_law__903 : decode cL_law_ 903 = .ok (.lcmp, 1) := by decide +kernel
theorem dL_law__904 : decode cL_law_ 904 = .ok (.ifCond .eq 5, 3) := by decide +kernel
theorem dL_law__907 : decode cL_law_ 907 = .ok (.iconst 0, 1) := by decide +kernel
theorem dL_law__908 : decode cL_law_ 908 = .ok (.ireturn, 1) := by decide +kernel
theorem dL_law__909 : decode cL_law_ 909 = .ok (.goto 914, 3) := by decide +kernel
theorem dL_law__912 : decode cL_law_ 912 = .ok (.aload_n 1, 1) := by decide +kernel
theorem dL_law__913 : decode cL_law_ 913 = .ok (.aload_n 0, 1) := by decide +kernel
theorem dL_law__914 : decode cL_law_ 914 = .ok (.iload 5, 2) := by decide +kernel
theorem dL_law__916 : decode cL_law_ 916 = .ok (.iconst 1, 1) := by decide +kernel
theorem dL_law__917 : decode cL_law_ 917 = .ok (.iadd, 1) := by decide +kernel
theorem dL_law__918 : decode cL_law_ 918 = .ok (.iaload, 1) := by decide +kernel
theorem dL_law__919 : decode cL_law_ 919 = .ok (.aload_n 0, 1) := by decide +kernel
theorem dL_law__920 : decode cL_law_ 920 = .ok (.iload 5, 2) := by decide +kernel
theorem dL_law__922 : decode cL_law_ 922 = .ok (.iconst 2, 1) := by decide +kernel
theorem dL_law__923 : decode cL_law_ 923 = .ok (.iadd, 1) := by decide +kernel
theorem dL_law__924 : decode cL_law_ 924 = .ok (.iaload, 1) := by decide +kernel
theorem dL_law__925 : decode cL_law_ 925 = .ok (.aload_n 0, 1) := by decide +kernel
theorem dL_law__926 : decode cL_law_ 926 = .ok (.iload 5, 2) := by decide +kernel
theorem dL_law__928 : decode cL_law_ 928 = .ok (.iconst 3, 1) := by decide +kernel
theorem dL_law__929 : decode cL_law_ 929 = .ok (.iadd, 1) := by decide +kernel
theorem dL_law__930 : decode cL_law_ 930 = .ok (.iaload, 1) := by decide +kernel
theorem dL_law__931 : decode cL_law_ 931 = .ok (.aload_n 3, 1) := by decide +kernel
theorem dL_law__932 : decode cL_law_ 932 = .ok (.invokestatic 145, 3) := by decide +kernel
theorem dL_law__935 : decode cL_law_ 935 = .ok (.istore 6, 2) := by decide +kernel
theorem dL_law__937 : decode cL_law_ 937 = .ok (.aload_n 2, 1) := by decide +kernel
theorem dL_law__938 : decode cL_law_ 938 = .ok (.aload_n 0, 1) := by decide +kernel
theorem dL_law__939 : decode cL_law_ 939 = .ok (.iload 5, 2) := by decide +kernel
theorem dL_law__941 : decode cL_law_ 941 = .ok (.iconst 1, 1) := by decide +kernel
theorem dL_law__942 : decode cL_law_ 942 = .ok (.iadd, 1) := by decide +kernel
theorem dL_law__943 : decode cL_law_ 943 = .ok (.iaload, 1) := by decide +kernel
theorem dL_law__944 : decode cL_law_ 944 = .ok (.aload_n 0, 1) := by decide +kernel
theorem dL_law__945 : decode cL_law_ 945 = .ok (.iload 5, 2) := by decide +kernel
theorem dL_law__947 : decode cL_law_ 947 = .ok (.iconst 2, 1) := by decide +kernel
theorem dL_law__948 : decode cL_law_ 948 = .ok (.iadd, 1) := by decide +kernel
theorem dL_law__949 : decode cL_law_ 949 = .ok (.iaload, 1) := by decide +kernel
theorem dL_law__950 : decode cL_law_ 950 = .ok (.aload_n 0, 1) := by decide +kernel
theorem dL_law__951 : decode cL_law_ 951 = .ok (.iload 5, 2) := by decide +kernel
theorem dL_law__953 : decode cL_law_ 953 = .ok (.iconst 3, 1) := by decide +kernel
theorem dL_law__954 : decode cL_law_ 954 = .ok (.iadd, 1) := by decide +kernel
theorem dL_law__955 : decode cL_law_ 955 = .ok (.iaload, 1) := by decide +kernel
theorem dL_law__956 : decode cL_law_ 956 = .ok (.invokevirtual 147, 3) := by decide +kernel
theorem dL_law__959 : decode cL_law_ 959 = .ok (.lstore 7, 2) := by decide +kernel
theorem dL_law__961 : decode cL_law_ 961 = .ok (.aload_n 2, 1) := by decide +kernel
theorem dL_law__962 : decode cL_law_ 962 = .ok (.invokevirtual 107, 3) := by decide +kernel
theorem dL_law__965 : decode cL_law_ 965 = .ok (.iload 6, 2) := by decide +kernel
theorem dL_law__967 : decode cL_law_ 967 = .ok (.if_icmp .eq 5, 3) := by decide +kernel
theorem dL_law__970 : decode cL_law_ 970 = .ok (.iconst 0, 1) := by decide +kernel
theorem dL_law__971 : decode cL_law_ 971 = .ok (.ireturn, 1) := by decide +kernel
theorem dL_law__972 : decode cL_law_ 972 = .ok (.iload 6, 2) := by decide +kernel
theorem dL_law__974 : decode cL_law_ 974 = .ok (.ifCond .ne 14, 3) := by decide +kernel
theorem dL_law__977 : decode cL_law_ 977 = .ok (.aload_n 3, 1) := by decide +kernel
theorem dL_law__978 : decode cL_law_ 978 = .ok (.iconst 0, 1) := by decide +kernel
theorem dL_law__979 : decode cL_law_ 979 = .ok (.laload, 1) := by decide +kernel
theorem dL_law__980 : decode cL_law_ 980 = .ok (.lload 7, 2) := by decide +kernel
theorem dL_law__982 : decode cL_law_ 982 = .ok (.lcmp, 1) := by decide +kernel
theorem dL_law__983 : decode cL_law_ 983 = .ok (.ifCond .eq 5, 3) := by decide +kernel
theorem dL_law__986 : decode cL_law_ 986 = .ok (.iconst 0, 1) := by decide +kernel
theorem dL_law__987 : decode cL_law_ 987 = .ok (.ireturn, 1) := by decide +kernel
theorem dL_law__988 : decode cL_law_ 988 = .ok (.goto 835, 3) := by decide +kernel
theorem dL_law__991 : decode cL_law_ 991 = .ok (.aload_n 1, 1) := by decide +kernel
theorem dL_law__992 : decode cL_law_ 992 = .ok (.aload_n 0, 1) := by decide +kernel
theorem dL_law__993 : decode cL_law_ 993 = .ok (.iload 5, 2) := by decide +kernel
theorem dL_law__995 : decode cL_law_ 995 = .ok (.iconst 1, 1) := by decide +kernel
theorem dL_law__996 : decode cL_law_ 996 = .ok (.iadd, 1) := by decide +kernel
theorem dL_law__997 : decode cL_law_ 997 = .ok (.iaload, 1) := by decide +kernel
theorem dL_law__998 : decode cL_law_ 998 = .ok (.aload_n 0, 1) := by decide +kernel
theorem dL_law__999 : decode cL_law_ 999 = .ok (.iload 5, 2) := by decide +kernel
theorem dL_law__1001 : decode cL_law_ 1001 = .ok (.iconst 2, 1) := by decide +kernel
theorem dL_law__1002 : decode cL_law_ 1002 = .ok (.iadd, 1) := by decide +kernel
theorem dL_law__1003 : decode cL_law_ 1003 = .ok (.iaload, 1) := by decide +kernel
theorem dL_law__1004 : decode cL_law_ 1004 = .ok (.aload_n 3, 1) := by decide +kernel
theorem dL_law__1005 : decode cL_law_ 1005 = .ok (.invokestatic 148, 3) := by decide +kernel
theorem dL_law__1008 : decode cL_law_ 1008 = .ok (.istore 6, 2) := by decide +kernel
theorem dL_law__1010 : decode cL_law_ 1010 = .ok (.aload_n 2, 1) := by decide +kernel
theorem dL_law__1011 : decode cL_law_ 1011 = .ok (.aload_n 0, 1) := by decide +kernel
theorem dL_law__1012 : decode cL_law_ 1012 = .ok (.iload 5, 2) := by decide +kernel
theorem dL_law__1014 : decode cL_law_ 1014 = .ok (.iconst 1, 1) := by decide +kernel
theorem dL_law__1015 : decode cL_law_ 1015 = .ok (.iadd, 1) := by decide +kernel
theorem dL_law__1016 : decode cL_law_ 1016 = .ok (.iaload, 1) := by decide +kernel
theorem dL_law__1017 : decode cL_law_ 1017 = .ok (.aload_n 0, 1) := by decide +kernel
theorem dL_law__1018 : decode cL_law_ 1018 = .ok (.iload 5, 2) := by decide +kernel
theorem dL_law__1020 : decode cL_law_ 1020 = .ok (.iconst 2, 1) := by decide +kernel
theorem dL_law__1021 : decode cL_law_ 1021 = .ok (.iadd, 1) := by decide +kernel
theorem dL_law__1022 : decode cL_law_ 1022 = .ok (.iaload, 1) := by decide +kernel
theorem dL_law__1023 : decode cL_law_ 1023 = .ok (.invokevirtual 150, 3) := by decide +kernel
theorem dL_law__1026 : decode cL_law_ 1026 = .ok (.lstore 7, 2) := by decide +kernel
theorem dL_law__1028 : decode cL_law_ 1028 = .ok (.aload_n 2, 1) := by decide +kernel
theorem dL_law__1029 : decode cL_law_ 1029 = .ok (.invokevirtual 107, 3) := by decide +kernel
theorem dL_law__1032 : decode cL_law_ 1032 = .ok (.iload 6, 2) := by decide +kernel
theorem dL_law__1034 : decode cL_law_ 1034 = .ok (.if_icmp .eq 5, 3) := by decide +kernel
theorem dL_law__1037 : decode cL_law_ 1037 = .ok (.iconst 0, 1) := by decide +kernel
theorem dL_law__1038 : decode cL_law_ 1038 = .ok (.ireturn, 1) := by decide +kernel
theorem dL_law__1039 : decode cL_law_ 1039 = .ok (.iload 6, 2) := by decide +kernel
theorem dL_law__1041 : decode cL_law_ 1041 = .ok (.ifCond .ne 14, 3) := by decide +kernel
theorem dL_law__1044 : decode cL_law_ 1044 = .ok (.aload_n 3, 1) := by decide +kernel
theorem dL_law__1045 : decode cL_law_ 1045 = .ok (.iconst 0, 1) := by decide +kernel
theorem dL_law__1046 : decode cL_law_ 1046 = .ok (.laload, 1) := by decide +kernel
theorem dL_law__1047 : decode cL_law_ 1047 = .ok (.lload 7, 2) := by decide +kernel
theorem dL_law__1049 : decode cL_law_ 1049 = .ok (.lcmp, 1) := by decide +kernel
theorem dL_law__1050 : decode cL_law_ 1050 = .ok (.ifCond .eq 5, 3) := by decide +kernel
theorem dL_law__1053 : decode cL_law_ 1053 = .ok (.iconst 0, 1) := by decide +kernel
theorem dL_law__1054 : decode cL_law_ 1054 = .ok (.ireturn, 1) := by decide +kernel
theorem dL_law__1055 : decode cL_law_ 1055 = .ok (.goto 768, 3) := by decide +kernel
theorem dL_law__1058 : decode cL_law_ 1058 = .ok (.aload_n 1, 1) := by decide +kernel
theorem dL_law__1059 : decode cL_law_ 1059 = .ok (.aload_n 0, 1) := by decide +kernel
theorem dL_law__1060 : decode cL_law_ 1060 = .ok (.iload 5, 2) := by decide +kernel
theorem dL_law__1062 : decode cL_law_ 1062 = .ok (.iconst 1, 1) := by decide +kernel
theorem dL_law__1063 : decode cL_law_ 1063 = .ok (.iadd, 1) := by decide +kernel
theorem dL_law__1064 : decode cL_law_ 1064 = .ok (.iaload, 1) := by decide +kernel
theorem dL_law__1065 : decode cL_law_ 1065 = .ok (.aload_n 0, 1) := by decide +kernel
theorem dL_law__1066 : decode cL_law_ 1066 = .ok (.iload 5, 2) := by decide +kernel
theorem dL_law__1068 : decode cL_law_ 1068 = .ok (.iconst 2, 1) := by decide +kernel
theorem dL_law__1069 : decode cL_law_ 1069 = .ok (.iadd, 1) := by decide +kernel
theorem dL_law__1070 : decode cL_law_ 1070 = .ok (.iaload, 1) := by decide +kernel
theorem dL_law__1071 : decode cL_law_ 1071 = .ok (.aload_n 0, 1) := by decide +kernel
theorem dL_law__1072 : decode cL_law_ 1072 = .ok (.iload 5, 2) := by decide +kernel
theorem dL_law__1074 : decode cL_law_ 1074 = .ok (.iconst 3, 1) := by decide +kernel
theorem dL_law__1075 : decode cL_law_ 1075 = .ok (.iadd, 1) := by decide +kernel
theorem dL_law__1076 : decode cL_law_ 1076 = .ok (.iaload, 1) := by decide +kernel
theorem dL_law__1077 : decode cL_law_ 1077 = .ok (.aload_n 3, 1) := by decide +kernel
theorem dL_law__1078 : decode cL_law_ 1078 = .ok (.invokestatic 151, 3) := by decide +kernel
theorem dL_law__1081 : decode cL_law_ 1081 = .ok (.istore 6, 2) := by decide +kernel
theorem dL_law__1083 : decode cL_law_ 1083 = .ok (.aload_n 2, 1) := by decide +kernel
theorem dL_law__1084 : decode cL_law_ 1084 = .ok (.aload_n 0, 1) := by decide +kernel
theorem dL_law__1085 : decode cL_law_ 1085 = .ok (.iload 5, 2) := by decide +kernel
theorem dL_law__1087 : decode cL_law_ 1087 = .ok (.iconst 1, 1) := by decide +kernel
theorem dL_law__1088 : decode cL_law_ 1088 = .ok (.iadd, 1) := by decide +kernel
theorem dL_law__1089 : decode cL_law_ 1089 = .ok (.iaload, 1) := by decide +kernel
theorem dL_law__1090 : decode cL_law_ 1090 = .ok (.aload_n 0, 1) := by decide +kernel
theorem dL_law__1091 : decode cL_law_ 1091 = .ok (.iload 5, 2) := by decide +kernel
theorem dL_law__1093 : decode cL_law_ 1093 = .ok (.iconst 2, 1) := by decide +kernel
theorem dL_law__1094 : decode cL_law_ 1094 = .ok (.iadd, 1) := by decide +kernel
theorem dL_law__1095 : decode cL_law_ 1095 = .ok (.iaload, 1) := by decide +kernel
theorem dL_law__1096 : decode cL_law_ 1096 = .ok (.aload_n 0, 1) := by decide +kernel
theorem dL_law__1097 : decode cL_law_ 1097 = .ok (.iload 5, 2) := by decide +kernel
theorem dL_law__1099 : decode cL_law_ 1099 = .ok (.iconst 3, 1) := by decide +kernel
theorem dL_law__1100 : decode cL_law_ 1100 = .ok (.iadd, 1) := by decide +kernel
theorem dL_law__1101 : decode cL_law_ 1101 = .ok (.iaload, 1) := by decide +kernel
theorem dL_law__1102 : decode cL_law_ 1102 = .ok (.invokevirtual 153, 3) := by decide +kernel
theorem dL_law__1105 : decode cL_law_ 1105 = .ok (.lstore 7, 2) := by decide +kernel
theorem dL_law__1107 : decode cL_law_ 1107 = .ok (.aload_n 2, 1) := by decide +kernel
theorem dL_law__1108 : decode cL_law_ 1108 = .ok (.invokevirtual 107, 3) := by decide +kernel
theorem dL_law__1111 : decode cL_law_ 1111 = .ok (.iload 6, 2) := by decide +kernel
theorem dL_law__1113 : decode cL_law_ 1113 = .ok (.if_icmp .eq 5, 3) := by decide +kernel
theorem dL_law__1116 : decode cL_law_ 1116 = .ok (.iconst 0, 1) := by decide +kernel
theorem dL_law__1117 : decode cL_law_ 1117 = .ok (.ireturn, 1) := by decide +kernel
theorem dL_law__1118 : decode cL_law_ 1118 = .ok (.iload 6, 2) := by decide +kernel
theorem dL_law__1120 : decode cL_law_ 1120 = .ok (.ifCond .ne 14, 3) := by decide +kernel
theorem dL_law__1123 : decode cL_law_ 1123 = .ok (.aload_n 3, 1) := by decide +kernel
theorem dL_law__1124 : decode cL_law_ 1124 = .ok (.iconst 0, 1) := by decide +kernel
theorem dL_law__1125 : decode cL_law_ 1125 = .ok (.laload, 1) := by decide +kernel
theorem dL_law__1126 : decode cL_law_ 1126 = .ok (.lload 7, 2) := by decide +kernel
theorem dL_law__1128 : decode cL_law_ 1128 = .ok (.lcmp, 1) := by decide +kernel
theorem dL_law__1129 : decode cL_law_ 1129 = .ok (.ifCond .eq 5, 3) := by decide +kernel
theorem dL_law__1132 : decode cL_law_ 1132 = .ok (.iconst 0, 1) := by decide +kernel
theorem dL_law__1133 : decode cL_law_ 1133 = .ok (.ireturn, 1) := by decide +kernel
theorem dL_law__1134 : decode cL_law_ 1134 = .ok (.goto 689, 3) := by decide +kernel
theorem dL_law__1137 : decode cL_law_ 1137 = .ok (.aload_n 1, 1) := by decide +kernel
theorem dL_law__1138 : decode cL_law_ 1138 = .ok (.aload_n 0, 1) := by decide +kernel
theorem dL_law__1139 : decode cL_law_ 1139 = .ok (.iload 5, 2) := by decide +kernel
theorem dL_law__1141 : decode cL_law_ 1141 = .ok (.iconst 1, 1) := by decide +kernel
theorem dL_law__1142 : decode cL_law_ 1142 = .ok (.iadd, 1) := by decide +kernel
theorem dL_law__1143 : decode cL_law_ 1143 = .ok (.iaload, 1) := by decide +kernel
theorem dL_law__1144 : decode cL_law_ 1144 = .ok (.aload_n 3, 1) := by decide +kernel
theorem dL_law__1145 : decode cL_law_ 1145 = .ok (.invokestatic 154, 3) := by decide +kernel
theorem dL_law__1148 : decode cL_law_ 1148 = .ok (.istore 6, 2) := by decide +kernel
theorem dL_law__1150 : decode cL_law_ 1150 = .ok (.aload_n 2, 1) := by decide +kernel
theorem dL_law__1151 : decode cL_law_ 1151 = .ok (.aload_n 0, 1) := by decide +kernel
theorem dL_law__1152 : decode cL_law_ 1152 = .ok (.iload 5, 2) := by decide +kernel
theorem dL_law__1154 : decode cL_law_ 1154 = .ok (.iconst 1, 1) := by decide +kernel
theorem dL_law__1155 : decode cL_law_ 1155 = .ok (.iadd, 1) := by decide +kernel
theorem dL_law__1156 : decode cL_law_ 1156 = .ok (.iaload, 1) := by decide +kernel
theorem dL_law__1157 : decode cL_law_ 1157 = .ok (.invokevirtual 156, 3) := by decide +kernel
theorem dL_law__1160 : decode cL_law_ 1160 = .ok (.istore 7, 2) := by decide +kernel
theorem dL_law__1162 : decode cL_law_ 1162 = .ok (.aload_n 2, 1) := by decide +kernel
theorem dL_law__1163 : decode cL_law_ 1163 = .ok (.invokevirtual 107, 3) := by decide +kernel
theorem dL_law__1166 : decode cL_law_ 1166 = .ok (.iload 6, 2) := by decide +kernel
theorem dL_law__1168 : decode cL_law_ 1168 = .ok (.if_icmp .eq 5, 3) := by decide +kernel
theorem dL_law__1171 : decode cL_law_ 1171 = .ok (.iconst 0, 1) := by decide +kernel
theorem dL_law__1172 : decode cL_law_ 1172 = .ok (.ireturn, 1) := by decide +kernel
theorem dL_law__1173 : decode cL_law_ 1173 = .ok (.iload 6, 2) := by decide +kernel
theorem dL_law__1175 : decode cL_law_ 1175 = .ok (.ifCond .ne 15, 3) := by decide +kernel
theorem dL_law__1178 : decode cL_law_ 1178 = .ok (.aload_n 3, 1) := by decide +kernel
theorem dL_law__1179 : decode cL_law_ 1179 = .ok (.iconst 0, 1) := by decide +kernel
theorem dL_law__1180 : decode cL_law_ 1180 = .ok (.laload, 1) := by decide +kernel
theorem dL_law__1181 : decode cL_law_ 1181 = .ok (.iload 7, 2) := by decide +kernel
theorem dL_law__1183 : decode cL_law_ 1183 = .ok (.i2l, 1) := by decide +kernel
theorem dL_law__1184 : decode cL_law_ 1184 = .ok (.lcmp, 1) := by decide +kernel
theorem dL_law__1185 : decode cL_law_ 1185 = .ok (.ifCond .eq 5, 3) := by decide +kernel
theorem dL_law__1188 : decode cL_law_ 1188 = .ok (.iconst 0, 1) := by decide +kernel
theorem dL_law__1189 : decode cL_law_ 1189 = .ok (.ireturn, 1) := by decide +kernel
theorem dL_law__1190 : decode cL_law_ 1190 = .ok (.goto 633, 3) := by decide +kernel
theorem dL_law__1193 : decode cL_law_ 1193 = .ok (.aload_n 1, 1) := by decide +kernel
theorem dL_law__1194 : decode cL_law_ 1194 = .ok (.invokevirtual 157, 3) := by decide +kernel
theorem dL_law__1197 : decode cL_law_ 1197 = .ok (.aload_n 2, 1) := by decide +kernel
theorem dL_law__1198 : decode cL_law_ 1198 = .ok (.invokevirtual 160, 3) := by decide +kernel
theorem dL_law__1201 : decode cL_law_ 1201 = .ok (.if_icmp .eq 622, 3) := by decide +kernel
theorem dL_law__1204 : decode cL_law_ 1204 = .ok (.iconst 0, 1) := by decide +kernel
theorem dL_law__1205 : decode cL_law_ 1205 = .ok (.ireturn, 1) := by decide +kernel
theorem dL_law__1206 : decode cL_law_ 1206 = .ok (.aload_n 1, 1) := by decide +kernel
theorem dL_law__1207 : decode cL_law_ 1207 = .ok (.aload_n 0, 1) := by decide +kernel
theorem dL_law__1208 : decode cL_law_ 1208 = .ok (.iload 5, 2) := by decide +kernel
theorem dL_law__1210 : decode cL_law_ 1210 = .ok (.iconst 1, 1) := by decide +kernel
theorem dL_law__1211 : decode cL_law_ 1211 = .ok (.iadd, 1) := by decide +kernel
theorem dL_law__1212 : decode cL_law_ 1212 = .ok (.iaload, 1) := by decide +kernel
theorem dL_law__1213 : decode cL_law_ 1213 = .ok (.aload_n 3, 1) := by decide +kernel
theorem dL_law__1214 : decode cL_law_ 1214 = .ok (.invokestatic 161, 3) := by decide +kernel
theorem dL_law__1217 : decode cL_law_ 1217 = .ok (.istore 6, 2) := by decide +kernel
theorem dL_law__1219 : decode cL_law_ 1219 = .ok (.aload_n 2, 1) := by decide +kernel
theorem dL_law__1220 : decode cL_law_ 1220 = .ok (.aload_n 0, 1) := by decide +kernel
theorem dL_law__1221 : decode cL_law_ 1221 = .ok (.iload 5, 2) := by decide +kernel
theorem dL_law__1223 : decode cL_law_ 1223 = .ok (.iconst 1, 1) := by decide +kernel
theorem dL_law__1224 : decode cL_law_ 1224 = .ok (.iadd, 1) := by decide +kernel
theorem dL_law__1225 : decode cL_law_ 1225 = .ok (.iaload, 1) := by decide +kernel
theorem dL_law__1226 : decode cL_law_ 1226 = .ok (.invokevirtual 163, 3) := by decide +kernel
theorem dL_law__1229 : decode cL_law_ 1229 = .ok (.istore 7, 2) := by decide +kernel
theorem dL_law__1231 : decode cL_law_ 1231 = .ok (.aload_n 2, 1) := by decide +kernel
theorem dL_law__1232 : decode cL_law_ 1232 = .ok (.invokevirtual 107, 3) := by decide +kernel
theorem dL_law__1235 : decode cL_law_ 1235 = .ok (.iload 6, 2) := by decide +kernel
theorem dL_law__1237 : decode cL_law_ 1237 = .ok (.if_icmp .eq 5, 3) := by decide +kernel
theorem dL_law__1240 : decode cL_law_ 1240 = .ok (.iconst 0, 1) := by decide +kernel
theorem dL_law__1241 : decode cL_law_ 1241 = .ok (.ireturn, 1) := by decide +kernel
theorem dL_law__1242 : decode cL_law_ 1242 = .ok (.iload 6, 2) := by decide +kernel
theorem dL_law__1244 : decode cL_law_ 1244 = .ok (.ifCond .ne 15, 3) := by decide +kernel
theorem dL_law__1247 : decode cL_law_ 1247 = .ok (.aload_n 3, 1) := by decide +kernel
theorem dL_law__1248 : decode cL_law_ 1248 = .ok (.iconst 0, 1) := by decide +kernel
theorem dL_law__1249 : decode cL_law_ 1249 = .ok (.laload, 1) := by decide +kernel
theorem dL_law__1250 : decode cL_law_ 1250 = .ok (.iload 7, 2) := by decide +kernel
theorem dL_law__1252 : decode cL_law_ 1252 = .ok (.i2l, 1) := by decide +kernel
theorem dL_law__1253 : decode cL_law_ 1253 = .ok (.lcmp, 1) := by decide +kernel
theorem dL_law__1254 : decode cL_law_ 1254 = .ok (.ifCond .eq 5, 3) := by decide +kernel
theorem dL_law__1257 : decode cL_law_ 1257 = .ok (.iconst 0, 1) := by decide +kernel
theorem dL_law__1258 : decode cL_law_ 1258 = .ok (.ireturn, 1) := by decide +kernel
theorem dL_law__1259 : decode cL_law_ 1259 = .ok (.goto 564, 3) := by decide +kernel
theorem dL_law__1262 : decode cL_law_ 1262 = .ok (.aload_n 1, 1) := by decide +kernel
theorem dL_law__1263 : decode cL_law_ 1263 = .ok (.aload_n 0, 1) := by decide +kernel
theorem dL_law__1264 : decode cL_law_ 1264 = .ok (.iload 5, 2) := by decide +kernel
theorem dL_law__1266 : decode cL_law_ 1266 = .ok (.iconst 1, 1) := by decide +kernel
theorem dL_law__1267 : decode cL_law_ 1267 = .ok (.iadd, 1) := by decide +kernel
theorem dL_law__1268 : decode cL_law_ 1268 = .ok (.iaload, 1) := by decide +kernel
theorem dL_law__1269 : decode cL_law_ 1269 = .ok (.aload_n 3, 1) := by decide +kernel
theorem dL_law__1270 : decode cL_law_ 1270 = .ok (.invokestatic 164, 3) := by decide +kernel
theorem dL_law__1273 : decode cL_law_ 1273 = .ok (.istore 6, 2) := by decide +kernel
theorem dL_law__1275 : decode cL_law_ 1275 = .ok (.aload_n 2, 1) := by decide +kernel
theorem dL_law__1276 : decode cL_law_ 1276 = .ok (.aload_n 0, 1) := by decide +kernel
theorem dL_law__1277 : decode cL_law_ 1277 = .ok (.iload 5, 2) := by decide +kernel
theorem dL_law__1279 : decode cL_law_ 1279 = .ok (.iconst 1, 1) := by decide +kernel
theorem dL_law__1280 : decode cL_law_ 1280 = .ok (.iadd, 1) := by decide +kernel
theorem dL_law__1281 : decode cL_law_ 1281 = .ok (.iaload, 1) := by decide +kernel
theorem dL_law__1282 : decode cL_law_ 1282 = .ok (.invokevirtual 166, 3) := by decide +kernel
theorem dL_law__1285 : decode cL_law_ 1285 = .ok (.lstore 7, 2) := by decide +kernel
theorem dL_law__1287 : decode cL_law_ 1287 = .ok (.aload_n 2, 1) := by decide +kernel
theorem dL_law__1288 : decode cL_law_ 1288 = .ok (.invokevirtual 107, 3) := by decide +kernel
theorem dL_law__1291 : decode cL_law_ 1291 = .ok (.iload 6, 2) := by decide +kernel
theorem dL_law__1293 : decode cL_law_ 1293 = .ok (.if_icmp .eq 5, 3) := by decide +kernel
theorem dL_law__1296 : decode cL_law_ 1296 = .ok (.iconst 0, 1) := by decide +kernel
theorem dL_law__1297 : decode cL_law_ 1297 = .ok (.ireturn, 1) := by decide +kernel
theorem dL_law__1298 : decode cL_law_ 1298 = .ok (.iload 6, 2) := by decide +kernel
theorem dL_law__1300 : decode cL_law_ 1300 = .ok (.ifCond .ne 14, 3) := by decide +kernel
theorem dL_law__1303 : decode cL_law_ 1303 = .ok (.aload_n 3, 1) := by decide +kernel
theorem dL_law__1304 : decode cL_law_ 1304 = .ok (.iconst 0, 1) := by decide +kernel
theorem dL_law__1305 : decode cL_law_ 1305 = .ok (.laload, 1) := by decide +kernel
theorem dL_law__1306 : decode cL_law_ 1306 = .ok (.lload 7, 2) := by decide +kernel
theorem dL_law__1308 : decode cL_law_ 1308 = .ok (.lcmp, 1) := by decide +kernel
theorem dL_law__1309 : decode cL_law_ 1309 = .ok (.ifCond .eq 5, 3) := by decide +kernel
theorem dL_law__1312 : decode cL_law_ 1312 = .ok (.iconst 0, 1) := by decide +kernel
theorem dL_law__1313 : decode cL_law_ 1313 = .ok (.ireturn, 1) := by decide +kernel
theorem dL_law__1314 : decode cL_law_ 1314 = .ok (.goto 509, 3) := by decide +kernel
theorem dL_law__1317 : decode cL_law_ 1317 = .ok (.aload_n 1, 1) := by decide +kernel
theorem dL_law__1318 : decode cL_law_ 1318 = .ok (.aload_n 0, 1) := by decide +kernel
theorem dL_law__1319 : decode cL_law_ 1319 = .ok (.iload 5, 2) := by decide +kernel
theorem dL_law__1321 : decode cL_law_ 1321 = .ok (.iconst 1, 1) := by decide +kernel
theorem dL_law__1322 : decode cL_law_ 1322 = .ok (.iadd, 1) := by decide +kernel
theorem dL_law__1323 : decode cL_law_ 1323 = .ok (.iaload, 1) := by decide +kernel
theorem dL_law__1324 : decode cL_law_ 1324 = .ok (.aload 4, 2) := by decide +kernel
theorem dL_law__1326 : decode cL_law_ 1326 = .ok (.invokestatic 167, 3) := by decide +kernel
theorem dL_law__1329 : decode cL_law_ 1329 = .ok (.istore 6, 2) := by decide +kernel
theorem dL_law__1331 : decode cL_law_ 1331 = .ok (.aload_n 2, 1) := by decide +kernel
theorem dL_law__1332 : decode cL_law_ 1332 = .ok (.aload_n 0, 1) := by decide +kernel
theorem dL_law__1333 : decode cL_law_ 1333 = .ok (.iload 5, 2) := by decide +kernel
theorem dL_law__1335 : decode cL_law_ 1335 = .ok (.iconst 1, 1) := by decide +kernel
theorem dL_law__1336 : decode cL_law_ 1336 = .ok (.iadd, 1) := by decide +kernel
theorem dL_law__1337 : decode cL_law_ 1337 = .ok (.iaload, 1) := by decide +kernel
theorem dL_law__1338 : decode cL_law_ 1338 = .ok (.invokevirtual 170, 3) := by decide +kernel
theorem dL_law__1341 : decode cL_law_ 1341 = .ok (.fstore 7, 2) := by decide +kernel
theorem dL_law__1343 : decode cL_law_ 1343 = .ok (.aload_n 2, 1) := by decide +kernel
theorem dL_law__1344 : decode cL_law_ 1344 = .ok (.invokevirtual 107, 3) := by decide +kernel
theorem dL_law__1347 : decode cL_law_ 1347 = .ok (.iload 6, 2) := by decide +kernel
theorem dL_law__1349 : decode cL_law_ 1349 = .ok (.if_icmp .eq 5, 3) := by decide +kernel
theorem dL_law__1352 : decode cL_law_ 1352 = .ok (.iconst 0, 1) := by decide +kernel
theorem dL_law__1353 : decode cL_law_ 1353 = .ok (.ireturn, 1) := by decide +kernel
theorem dL_law__1354 : decode cL_law_ 1354 = .ok (.iload 6, 2) := by decide +kernel
theorem dL_law__1356 : decode cL_law_ 1356 = .ok (.ifCond .ne 36, 3) := by decide +kernel
theorem dL_law__1359 : decode cL_law_ 1359 = .ok (.aload 4, 2) := by decide +kernel
theorem dL_law__1361 : decode cL_law_ 1361 = .ok (.iconst 0, 1) := by decide +kernel
theorem dL_law__1362 : decode cL_law_ 1362 = .ok (.daload, 1) := by decide +kernel
theorem dL_law__1363 : decode cL_law_ 1363 = .ok (.fload 7, 2) := by decide +kernel
theorem dL_law__1365 : decode cL_law_ 1365 = .ok (.f2d, 1) := by decide +kernel
theorem dL_law__1366 : decode cL_law_ 1366 = .ok (.dcmp .l, 1) := by decide +kernel
theorem dL_law__1367 : decode cL_law_ 1367 = .ok (.ifCond .eq 25, 3) := by decide +kernel
theorem dL_law__1370 : decode cL_law_ 1370 = .ok (.aload 4, 2) := by decide +kernel
theorem dL_law__1372 : decode cL_law_ 1372 = .ok (.iconst 0, 1) := by decide +kernel
theorem dL_law__1373 : decode cL_law_ 1373 = .ok (.daload, 1) := by decide +kernel
theorem dL_law__1374 : decode cL_law_ 1374 = .ok (.aload 4, 2) := by decide +kernel
theorem dL_law__1376 : decode cL_law_ 1376 = .ok (.iconst 0, 1) := by decide +kernel
theorem dL_law__1377 : decode cL_law_ 1377 = .ok (.daload, 1) := by decide +kernel
theorem dL_law__1378 : decode cL_law_ 1378 = .ok (.dcmp .l, 1) := by decide +kernel
theorem dL_law__1379 : decode cL_law_ 1379 = .ok (.ifCond .eq 11, 3) := by decide +kernel
theorem dL_law__1382 : decode cL_law_ 1382 = .ok (.fload 7, 2) := by decide +kernel
theorem dL_law__1384 : decode cL_law_ 1384 = .ok (.fload 7, 2) := by decide +kernel
theorem dL_law__1386 : decode cL_law_ 1386 = .ok (.fcmp .l, 1) := by decide +kernel
theorem dL_law__1387 : decode cL_law_ 1387 = .ok (.ifCond .ne 5, 3) := by decide +kernel
theorem dL_law__1390 : decode cL_law_ 1390 = .ok (.iconst 0, 1) := by decide +kernel
theorem dL_law__1391 : decode cL_law_ 1391 = .ok (.ireturn, 1) := by decide +kernel
theorem dL_law__1392 : decode cL_law_ 1392 = .ok (.goto 431, 3) := by decide +kernel
theorem dL_law__1395 : decode cL_law_ 1395 = .ok (.aload_n 1, 1) := by decide +kernel
theorem dL_law__1396 : decode cL_law_ 1396 = .ok (.aload_n 0, 1) := by decide +kernel
theorem dL_law__1397 : decode cL_law_ 1397 = .ok (.iload 5, 2) := by decide +kernel
theorem dL_law__1399 : decode cL_law_ 1399 = .ok (.iconst 1, 1) := by decide +kernel
theorem dL_law__1400 : decode cL_law_ 1400 = .ok (.iadd, 1) := by decide +kernel
theorem dL_law__1401 : decode cL_law_ 1401 = .ok (.iaload, 1) := by decide +kernel
theorem dL_law__1402 : decode cL_law_ 1402 = .ok (.aload_n 3, 1) := by decide +kernel
theorem dL_law__1403 : decode cL_law_ 1403 = .ok (.invokestatic 171, 3) := by decide +kernel
theorem dL_law__1406 : decode cL_law_ 1406 = .ok (.istore 6, 2) := by decide +kernel
theorem dL_law__1408 : decode cL_law_ 1408 = .ok (.aload_n 2, 1) := by decide +kernel
theorem dL_law__1409 : decode cL_law_ 1409 = .ok (.aload_n 0, 1) := by decide +kernel
theorem dL_law__1410 : decode cL_law_ 1410 = .ok (.iload 5, 2) := by decide +kernel
theorem dL_law__1412 : decode cL_law_ 1412 = .ok (.iconst 1, 1) := by decide +kernel
theorem dL_law__1413 : decode cL_law_ 1413 = .ok (.iadd, 1) := by decide +kernel
theorem dL_law__1414 : decode cL_law_ 1414 = .ok (.iaload, 1) := by decide +kernel
theorem dL_law__1415 : decode cL_law_ 1415 = .ok (.invokevirtual 173, 3) := by decide +kernel
theorem dL_law__1418 : decode cL_law_ 1418 = .ok (.istore 7, 2) := by decide +kernel
theorem dL_law__1420 : decode cL_law_ 1420 = .ok (.aload_n 2, 1) := by decide +kernel
theorem dL_law__1421 : decode cL_law_ 1421 = .ok (.invokevirtual 107, 3) := by decide +kernel
theorem dL_law__1424 : decode cL_law_ 1424 = .ok (.iload 6, 2) := by decide +kernel
theorem dL_law__1426 : decode cL_law_ 1426 = .ok (.if_icmp .eq 5, 3) := by decide +kernel
theorem dL_law__1429 : decode cL_law_ 1429 = .ok (.iconst 0, 1) := by decide +kernel
theorem dL_law__1430 : decode cL_law_ 1430 = .ok (.ireturn, 1) := by decide +kernel
theorem dL_law__1431 : decode cL_law_ 1431 = .ok (.iload 6, 2) := by decide +kernel
theorem dL_law__1433 : decode cL_law_ 1433 = .ok (.ifCond .ne 15, 3) := by decide +kernel
theorem dL_law__1436 : decode cL_law_ 1436 = .ok (.aload_n 3, 1) := by decide +kernel
theorem dL_law__1437 : decode cL_law_ 1437 = .ok (.iconst 0, 1) := by decide +kernel
theorem dL_law__1438 : decode cL_law_ 1438 = .ok (.laload, 1) := by decide +kernel
theorem dL_law__1439 : decode cL_law_ 1439 = .ok (.iload 7, 2) := by decide +kernel
theorem dL_law__1441 : decode cL_law_ 1441 = .ok (.i2l, 1) := by decide +kernel
theorem dL_law__1442 : decode cL_law_ 1442 = .ok (.lcmp, 1) := by decide +kernel
theorem dL_law__1443 : decode cL_law_ 1443 = .ok (.ifCond .eq 5, 3) := by decide +kernel
theorem dL_law__1446 : decode cL_law_ 1446 = .ok (.iconst 0, 1) := by decide +kernel
theorem dL_law__1447 : decode cL_law_ 1447 = .ok (.ireturn, 1) := by decide +kernel
theorem dL_law__1448 : decode cL_law_ 1448 = .ok (.goto 375, 3) := by decide +kernel
theorem dL_law__1451 : decode cL_law_ 1451 = .ok (.aload_n 1, 1) := by decide +kernel
theorem dL_law__1452 : decode cL_law_ 1452 = .ok (.aload_n 0, 1) := by decide +kernel
theorem dL_law__1453 : decode cL_law_ 1453 = .ok (.iload 5, 2) := by decide +kernel
theorem dL_law__1455 : decode cL_law_ 1455 = .ok (.iconst 1, 1) := by decide +kernel
theorem dL_law__1456 : decode cL_law_ 1456 = .ok (.iadd, 1) := by decide +kernel
theorem dL_law__1457 : decode cL_law_ 1457 = .ok (.iaload, 1) := by decide +kernel
theorem dL_law__1458 : decode cL_law_ 1458 = .ok (.aload_n 0, 1) := by decide +kernel
theorem dL_law__1459 : decode cL_law_ 1459 = .ok (.iload 5, 2) := by decide +kernel
theorem dL_law__1461 : decode cL_law_ 1461 = .ok (.iconst 2, 1) := by decide +kernel
theorem dL_law__1462 : decode cL_law_ 1462 = .ok (.iadd, 1) := by decide +kernel
theorem dL_law__1463 : decode cL_law_ 1463 = .ok (.iaload, 1) := by decide +kernel
theorem dL_law__1464 : decode cL_law_ 1464 = .ok (.aload_n 0, 1) := by decide +kernel
theorem dL_law__1465 : decode cL_law_ 1465 = .ok (.iload 5, 2) := by decide +kernel
theorem dL_law__1467 : decode cL_law_ 1467 = .ok (.iconst 3, 1) := by decide +kernel
theorem dL_law__1468 : decode cL_law_ 1468 = .ok (.iadd, 1) := by decide +kernel
theorem dL_law__1469 : decode cL_law_ 1469 = .ok (.iaload, 1) := by decide +kernel
theorem dL_law__1470 : decode cL_law_ 1470 = .ok (.aload_n 3, 1) := by decide +kernel
theorem dL_law__1471 : decode cL_law_ 1471 = .ok (.invokestatic 174, 3) := by decide +kernel
theorem dL_law__1474 : decode cL_law_ 1474 = .ok (.istore 6, 2) := by decide +kernel
theorem dL_law__1476 : decode cL_law_ 1476 = .ok (.aload_n 2, 1) := by decide +kernel
theorem dL_law__1477 : decode cL_law_ 1477 = .ok (.aload_n 0, 1) := by decide +kernel
theorem dL_law__1478 : decode cL_law_ 1478 = .ok (.iload 5, 2) := by decide +kernel
theorem dL_law__1480 : decode cL_law_ 1480 = .ok (.iconst 1, 1) := by decide +kernel
theorem dL_law__1481 : decode cL_law_ 1481 = .ok (.iadd, 1) := by decide +kernel
theorem dL_law__1482 : decode cL_law_ 1482 = .ok (.iaload, 1) := by decide +kernel
theorem dL_law__1483 : decode cL_law_ 1483 = .ok (.aload_n 0, 1) := by decide +kernel
theorem dL_law__1484 : decode cL_law_ 1484 = .ok (.iload 5, 2) := by decide +kernel
theorem dL_law__1486 : decode cL_law_ 1486 = .ok (.iconst 2, 1) := by decide +kernel
theorem dL_law__1487 : decode cL_law_ 1487 = .ok (.iadd, 1) := by decide +kernel
theorem dL_law__1488 : decode cL_law_ 1488 = .ok (.iaload, 1) := by decide +kernel
theorem dL_law__1489 : decode cL_law_ 1489 = .ok (.aload_n 0, 1) := by decide +kernel
theorem dL_law__1490 : decode cL_law_ 1490 = .ok (.iload 5, 2) := by decide +kernel
theorem dL_law__1492 : decode cL_law_ 1492 = .ok (.iconst 3, 1) := by decide +kernel
theorem dL_law__1493 : decode cL_law_ 1493 = .ok (.iadd, 1) := by decide +kernel
theorem dL_law__1494 : decode cL_law_ 1494 = .ok (.iaload, 1) := by decide +kernel
theorem dL_law__1495 : decode cL_law_ 1495 = .ok (.invokevirtual 176, 3) := by decide +kernel
theorem dL_law__1498 : decode cL_law_ 1498 = .ok (.istore 7, 2) := by decide +kernel
theorem dL_law__1500 : decode cL_law_ 1500 = .ok (.aload_n 2, 1) := by decide +kernel
theorem dL_law__1501 : decode cL_law_ 1501 = .ok (.invokevirtual 107, 3) := by decide +kernel
theorem dL_law__1504 : decode cL_law_ 1504 = .ok (.iload 6, 2) := by decide +kernel
theorem dL_law__1506 : decode cL_law_ 1506 = .ok (.if_icmp .eq 5, 3) := by decide +kernel
theorem dL_law__1509 : decode cL_law_ 1509 = .ok (.iconst 0, 1) := by decide +kernel
theorem dL_law__1510 : decode cL_law_ 1510 = .ok (.ireturn, 1) := by decide +kernel
theorem dL_law__1511 : decode cL_law_ 1511 = .ok (.iload 6, 2) := by decide +kernel
theorem dL_law__1513 : decode cL_law_ 1513 = .ok (.ifCond .ne 15, 3) := by decide +kernel
theorem dL_law__1516 : decode cL_law_ 1516 = .ok (.aload_n 3, 1) := by decide +kernel
theorem dL_law__1517 : decode cL_law_ 1517 = .ok (.iconst 0, 1) := by decide +kernel
theorem dL_law__1518 : decode cL_law_ 1518 = .ok (.laload, 1) := by decide +kernel
theorem dL_law__1519 : decode cL_law_ 1519 = .ok (.iload 7, 2) := by decide +kernel
theorem dL_law__1521 : decode cL_law_ 1521 = .ok (.i2l, 1) := by decide +kernel
theorem dL_law__1522 : decode cL_law_ 1522 = .ok (.lcmp, 1) := by decide +kernel
theorem dL_law__1523 : decode cL_law_ 1523 = .ok (.ifCond .eq 5, 3) := by decide +kernel
theorem dL_law__1526 : decode cL_law_ 1526 = .ok (.iconst 0, 1) := by decide +kernel
theorem dL_law__1527 : decode cL_law_ 1527 = .ok (.ireturn, 1) := by decide +kernel
theorem dL_law__1528 : decode cL_law_ 1528 = .ok (.goto 295, 3) := by decide +kernel
theorem dL_law__1531 : decode cL_law_ 1531 = .ok (.aload_n 1, 1) := by decide +kernel
theorem dL_law__1532 : decode cL_law_ 1532 = .ok (.aload_n 0, 1) := by decide +kernel
theorem dL_law__1533 : decode cL_law_ 1533 = .ok (.iload 5, 2) := by decide +kernel
theorem dL_law__1535 : decode cL_law_ 1535 = .ok (.iconst 1, 1) := by decide +kernel
theorem dL_law__1536 : decode cL_law_ 1536 = .ok (.iadd, 1) := by decide +kernel
theorem dL_law__1537 : decode cL_law_ 1537 = .ok (.iaload, 1) := by decide +kernel
theorem dL_law__1538 : decode cL_law_ 1538 = .ok (.aload_n 3, 1) := by decide +kernel
theorem dL_law__1539 : decode cL_law_ 1539 = .ok (.invokestatic 177, 3) := by decide +kernel
theorem dL_law__1542 : decode cL_law_ 1542 = .ok (.istore 6, 2) := by decide +kernel
theorem dL_law__1544 : decode cL_law_ 1544 = .ok (.aload_n 2, 1) := by decide +kernel
theorem dL_law__1545 : decode cL_law_ 1545 = .ok (.aload_n 0, 1) := by decide +kernel
theorem dL_law__1546 : decode cL_law_ 1546 = .ok (.iload 5, 2) := by decide +kernel
theorem dL_law__1548 : decode cL_law_ 1548 = .ok (.iconst 1, 1) := by decide +kernel
theorem dL_law__1549 : decode cL_law_ 1549 = .ok (.iadd, 1) := by decide +kernel
theorem dL_law__1550 : decode cL_law_ 1550 = .ok (.iaload, 1) := by decide +kernel
theorem dL_law__1551 : decode cL_law_ 1551 = .ok (.invokevirtual 179, 3) := by decide +kernel
theorem dL_law__1554 : decode cL_law_ 1554 = .ok (.istore 7, 2) := by decide +kernel
theorem dL_law__1556 : decode cL_law_ 1556 = .ok (.aload_n 2, 1) := by decide +kernel
theorem dL_law__1557 : decode cL_law_ 1557 = .ok (.invokevirtual 107, 3) := by decide +kernel
theorem dL_law__1560 : decode cL_law_ 1560 = .ok (.iload 6, 2) := by decide +kernel
theorem dL_law__1562 : decode cL_law_ 1562 = .ok (.if_icmp .eq 5, 3) := by decide +kernel
theorem dL_law__1565 : decode cL_law_ 1565 = .ok (.iconst 0, 1) := by decide +kernel
theorem dL_law__1566 : decode cL_law_ 1566 = .ok (.ireturn, 1) := by decide +kernel
theorem dL_law__1567 : decode cL_law_ 1567 = .ok (.iload 6, 2) := by decide +kernel
theorem dL_law__1569 : decode cL_law_ 1569 = .ok (.ifCond .ne 15, 3) := by decide +kernel
theorem dL_law__1572 : decode cL_law_ 1572 = .ok (.aload_n 3, 1) := by decide +kernel
theorem dL_law__1573 : decode cL_law_ 1573 = .ok (.iconst 0, 1) := by decide +kernel
theorem dL_law__1574 : decode cL_law_ 1574 = .ok (.laload, 1) := by decide +kernel
theorem dL_law__1575 : decode cL_law_ 1575 = .ok (.iload 7, 2) := by decide +kernel
theorem dL_law__1577 : decode cL_law_ 1577 = .ok (.i2l, 1) := by decide +kernel
theorem dL_law__1578 : decode cL_law_ 1578 = .ok (.lcmp, 1) := by decide +kernel
theorem dL_law__1579 : decode cL_law_ 1579 = .ok (.ifCond .eq 5, 3) := by decide +kernel
theorem dL_law__1582 : decode cL_law_ 1582 = .ok (.iconst 0, 1) := by decide +kernel
theorem dL_law__1583 : decode cL_law_ 1583 = .ok (.ireturn, 1) := by decide +kernel
theorem dL_law__1584 : decode cL_law_ 1584 = .ok (.goto 239, 3) := by decide +kernel
theorem dL_law__1587 : decode cL_law_ 1587 = .ok (.aload_n 1, 1) := by decide +kernel
theorem dL_law__1588 : decode cL_law_ 1588 = .ok (.aload_n 0, 1) := by decide +kernel
theorem dL_law__1589 : decode cL_law_ 1589 = .ok (.iload 5, 2) := by decide +kernel
theorem dL_law__1591 : decode cL_law_ 1591 = .ok (.iconst 1, 1) := by decide +kernel
theorem dL_law__1592 : decode cL_law_ 1592 = .ok (.iadd, 1) := by decide +kernel
theorem dL_law__1593 : decode cL_law_ 1593 = .ok (.iaload, 1) := by decide +kernel
theorem dL_law__1594 : decode cL_law_ 1594 = .ok (.aload_n 3, 1) := by decide +kernel
theorem dL_law__1595 : decode cL_law_ 1595 = .ok (.invokestatic 180, 3) := by decide +kernel
theorem dL_law__1598 : decode cL_law_ 1598 = .ok (.istore 6, 2) := by decide +kernel
theorem dL_law__1600 : decode cL_law_ 1600 = .ok (.aload_n 2, 1) := by decide +kernel
theorem dL_law__1601 : decode cL_law_ 1601 = .ok (.aload_n 0, 1) := by decide +kernel
theorem dL_law__1602 : decode cL_law_ 1602 = .ok (.iload 5, 2) := by decide +kernel
theorem dL_law__1604 : decode cL_law_ 1604 = .ok (.iconst 1, 1) := by decide +kernel
theorem dL_law__1605 : decode cL_law_ 1605 = .ok (.iadd, 1) := by decide +kernel
theorem dL_law__1606 : decode cL_law_ 1606 = .ok (.iaload, 1) := by decide +kernel
theorem dL_law__1607 : decode cL_law_ 1607 = .ok (.invokevirtual 182, 3) := by decide +kernel
theorem dL_law__1610 : decode cL_law_ 1610 = .ok (.lstore 7, 2) := by decide +kernel
theorem dL_law__1612 : decode cL_law_ 1612 = .ok (.aload_n 2, 1) := by decide +kernel
theorem dL_law__1613 : decode cL_law_ 1613 = .ok (.invokevirtual 107, 3) := by decide +kernel
theorem dL_law__1616 : decode cL_law_ 1616 = .ok (.iload 6, 2) := by decide +kernel
theorem dL_law__1618 : decode cL_law_ 1618 = .ok (.if_icmp .eq 5, 3) := by decide +kernel
theorem dL_law__1621 : decode cL_law_ 1621 = .ok (.iconst 0, 1) := by decide +kernel
theorem dL_law__1622 : decode cL_law_ 1622 = .ok (.ireturn, 1) := by decide +kernel
theorem dL_law__1623 : decode cL_law_ 1623 = .ok (.iload 6, 2) := by decide +kernel
theorem dL_law__1625 : decode cL_law_ 1625 = .ok (.ifCond .ne 14, 3) := by decide +kernel
theorem dL_law__1628 : decode cL_law_ 1628 = .ok (.aload_n 3, 1) := by decide +kernel
theorem dL_law__1629 : decode cL_law_ 1629 = .ok (.iconst 0, 1) := by decide +kernel
theorem dL_law__1630 : decode cL_law_ 1630 = .ok (.laload, 1) := by decide +kernel
theorem dL_law__1631 : decode cL_law_ 1631 = .ok (.lload 7, 2) := by decide +kernel
theorem dL_law__1633 : decode cL_law_ 1633 = .ok (.lcmp, 1) := by decide +kernel
theorem dL_law__1634 : decode cL_law_ 1634 = .ok (.ifCond .eq 5, 3) := by decide +kernel
theorem dL_law__1637 : decode cL_law_ 1637 = .ok (.iconst 0, 1) := by decide +kernel
theorem dL_law__1638 : decode cL_law_ 1638 = .ok (.ireturn, 1) := by decide +kernel
theorem dL_law__1639 : decode cL_law_ 1639 = .ok (.goto 184, 3) := by decide +kernel
theorem dL_law__1642 : decode cL_law_ 1642 = .ok (.aload_n 1, 1) := by decide +kernel
theorem dL_law__1643 : decode cL_law_ 1643 = .ok (.invokevirtual 183, 3) := by decide +kernel
theorem dL_law__1646 : decode cL_law_ 1646 = .ok (.aload_n 2, 1) := by decide +kernel
theorem dL_law__1647 : decode cL_law_ 1647 = .ok (.invokevirtual 187, 3) := by decide +kernel
theorem dL_law__1650 : decode cL_law_ 1650 = .ok (.if_icmp .eq 173, 3) := by decide +kernel
theorem dL_law__1653 : decode cL_law_ 1653 = .ok (.iconst 0, 1) := by decide +kernel
theorem dL_law__1654 : decode cL_law_ 1654 = .ok (.ireturn, 1) := by decide +kernel
theorem dL_law__1655 : decode cL_law_ 1655 = .ok (.aload_n 1, 1) := by decide +kernel
theorem dL_law__1656 : decode cL_law_ 1656 = .ok (.aload_n 0, 1) := by decide +kernel
theorem dL_law__1657 : decode cL_law_ 1657 = .ok (.iload 5, 2) := by decide +kernel
theorem dL_law__1659 : decode cL_law_ 1659 = .ok (.iconst 1, 1) := by decide +kernel
theorem dL_law__1660 : decode cL_law_ 1660 = .ok (.iadd, 1) := by decide +kernel
theorem dL_law__1661 : decode cL_law_ 1661 = .ok (.iaload, 1) := by decide +kernel
theorem dL_law__1662 : decode cL_law_ 1662 = .ok (.aload_n 0, 1) := by decide +kernel
theorem dL_law__1663 : decode cL_law_ 1663 = .ok (.iload 5, 2) := by decide +kernel
theorem dL_law__1665 : decode cL_law_ 1665 = .ok (.iconst 2, 1) := by decide +kernel
theorem dL_law__1666 : decode cL_law_ 1666 = .ok (.iadd, 1) := by decide +kernel
theorem dL_law__1667 : decode cL_law_ 1667 = .ok (.iaload, 1) := by decide +kernel
theorem dL_law__1668 : decode cL_law_ 1668 = .ok (.aload_n 3, 1) := by decide +kernel
theorem dL_law__1669 : decode cL_law_ 1669 = .ok (.invokestatic 188, 3) := by decide +kernel
theorem dL_law__1672 : decode cL_law_ 1672 = .ok (.istore 6, 2) := by decide +kernel
theorem dL_law__1674 : decode cL_law_ 1674 = .ok (.aload_n 2, 1) := by decide +kernel
theorem dL_law__1675 : decode cL_law_ 1675 = .ok (.aload_n 0, 1) := by decide +kernel
theorem dL_law__1676 : decode cL_law_ 1676 = .ok (.iload 5, 2) := by decide +kernel
theorem dL_law__1678 : decode cL_law_ 1678 = .ok (.iconst 1, 1) := by decide +kernel
theorem dL_law__1679 : decode cL_law_ 1679 = .ok (.iadd, 1) := by decide +kernel
theorem dL_law__1680 : decode cL_law_ 1680 = .ok (.iaload, 1) := by decide +kernel
theorem dL_law__1681 : decode cL_law_ 1681 = .ok (.aload_n 0, 1) := by decide +kernel
theorem dL_law__1682 : decode cL_law_ 1682 = .ok (.iload 5, 2) := by decide +kernel
theorem dL_law__1684 : decode cL_law_ 1684 = .ok (.iconst 2, 1) := by decide +kernel
theorem dL_law__1685 : decode cL_law_ 1685 = .ok (.iadd, 1) := by decide +kernel
theorem dL_law__1686 : decode cL_law_ 1686 = .ok (.iaload, 1) := by decide +kernel
theorem dL_law__1687 : decode cL_law_ 1687 = .ok (.invokevirtual 190, 3) := by decide +kernel
theorem dL_law__1690 : decode cL_law_ 1690 = .ok (.lstore 7, 2) := by decide +kernel
theorem dL_law__1692 : decode cL_law_ 1692 = .ok (.aload_n 2, 1) := by decide +kernel
theorem dL_law__1693 : decode cL_law_ 1693 = .ok (.invokevirtual 107, 3) := by decide +kernel
theorem dL_law__1696 : decode cL_law_ 1696 = .ok (.iload 6, 2) := by decide +kernel
theorem dL_law__1698 : decode cL_law_ 1698 = .ok (.if_icmp .eq 5, 3) := by decide +kernel
theorem dL_law__1701 : decode cL_law_ 1701 = .ok (.iconst 0, 1) := by decide +kernel
theorem dL_law__1702 : decode cL_law_ 1702 = .ok (.ireturn, 1) := by decide +kernel
theorem dL_law__1703 : decode cL_law_ 1703 = .ok (.iload 6, 2) := by decide +kernel
theorem dL_law__1705 : decode cL_law_ 1705 = .ok (.ifCond .ne 14, 3) := by decide +kernel
theorem dL_law__1708 : decode cL_law_ 1708 = .ok (.aload_n 3, 1) := by decide +kernel
theorem dL_law__1709 : decode cL_law_ 1709 = .ok (.iconst 0, 1) := by decide +kernel
theorem dL_law__1710 : decode cL_law_ 1710 = .ok (.laload, 1) := by decide +kernel
theorem dL_law__1711 : decode cL_law_ 1711 = .ok (.lload 7, 2) := by decide +kernel
theorem dL_law__1713 : decode cL_law_ 1713 = .ok (.lcmp, 1) := by decide +kernel
theorem dL_law__1714 : decode cL_law_ 1714 = .ok (.ifCond .eq 5, 3) := by decide +kernel
theorem dL_law__1717 : decode cL_law_ 1717 = .ok (.iconst 0, 1) := by decide +kernel
theorem dL_law__1718 : decode cL_law_ 1718 = .ok (.ireturn, 1) := by decide +kernel
theorem dL_law__1719 : decode cL_law_ 1719 = .ok (.goto 104, 3) := by decide +kernel
theorem dL_law__1722 : decode cL_law_ 1722 = .ok (.aload_n 1, 1) := by decide +kernel
theorem dL_law__1723 : decode cL_law_ 1723 = .ok (.aload_n 0, 1) := by decide +kernel
theorem dL_law__1724 : decode cL_law_ 1724 = .ok (.iload 5, 2) := by decide +kernel
theorem dL_law__1726 : decode cL_law_ 1726 = .ok (.iconst 1, 1) := by decide +kernel
theorem dL_law__1727 : decode cL_law_ 1727 = .ok (.iadd, 1) := by decide +kernel
theorem dL_law__1728 : decode cL_law_ 1728 = .ok (.iaload, 1) := by decide +kernel
theorem dL_law__1729 : decode cL_law_ 1729 = .ok (.aload_n 0, 1) := by decide +kernel
theorem dL_law__1730 : decode cL_law_ 1730 = .ok (.iload 5, 2) := by decide +kernel
theorem dL_law__1732 : decode cL_law_ 1732 = .ok (.iconst 2, 1) := by decide +kernel
theorem dL_law__1733 : decode cL_law_ 1733 = .ok (.iadd, 1) := by decide +kernel
theorem dL_law__1734 : decode cL_law_ 1734 = .ok (.iaload, 1) := by decide +kernel
theorem dL_law__1735 : decode cL_law_ 1735 = .ok (.aload_n 3, 1) := by decide +kernel
theorem dL_law__1736 : decode cL_law_ 1736 = .ok (.invokestatic 191, 3) := by decide +kernel
theorem dL_law__1739 : decode cL_law_ 1739 = .ok (.istore 6, 2) := by decide +kernel
theorem dL_law__1741 : decode cL_law_ 1741 = .ok (.aload_n 2, 1) := by decide +kernel
theorem dL_law__1742 : decode cL_law_ 1742 = .ok (.aload_n 0, 1) := by decide +kernel
theorem dL_law__1743 : decode cL_law_ 1743 = .ok (.iload 5, 2) := by decide +kernel
theorem dL_law__1745 : decode cL_law_ 1745 = .ok (.iconst 1, 1) := by decide +kernel
theorem dL_law__1746 : decode cL_law_ 1746 = .ok (.iadd, 1) := by decide +kernel
theorem dL_law__1747 : decode cL_law_ 1747 = .ok (.iaload, 1) := by decide +kernel
theorem dL_law__1748 : decode cL_law_ 1748 = .ok (.aload_n 0, 1) := by decide +kernel
theorem dL_law__1749 : decode cL_law_ 1749 = .ok (.iload 5, 2) := by decide +kernel
theorem dL_law__1751 : decode cL_law_ 1751 = .ok (.iconst 2, 1) := by decide +kernel
theorem dL_law__1752 : decode cL_law_ 1752 = .ok (.iadd, 1) := by decide +kernel
theorem dL_law__1753 : decode cL_law_ 1753 = .ok (.iaload, 1) := by decide +kernel
theorem dL_law__1754 : decode cL_law_ 1754 = .ok (.invokevirtual 193, 3) := by decide +kernel
theorem dL_law__1757 : decode cL_law_ 1757 = .ok (.istore 7, 2) := by decide +kernel
theorem dL_law__1759 : decode cL_law_ 1759 = .ok (.aload_n 2, 1) := by decide +kernel
theorem dL_law__1760 : decode cL_law_ 1760 = .ok (.invokevirtual 107, 3) := by decide +kernel
theorem dL_law__1763 : decode cL_law_ 1763 = .ok (.iload 6, 2) := by decide +kernel
theorem dL_law__1765 : decode cL_law_ 1765 = .ok (.if_icmp .eq 5, 3) := by decide +kernel
theorem dL_law__1768 : decode cL_law_ 1768 = .ok (.iconst 0, 1) := by decide +kernel
theorem dL_law__1769 : decode cL_law_ 1769 = .ok (.ireturn, 1) := by decide +kernel
theorem dL_law__1770 : decode cL_law_ 1770 = .ok (.iload 6, 2) := by decide +kernel
theorem dL_law__1772 : decode cL_law_ 1772 = .ok (.ifCond .ne 22, 3) := by decide +kernel
theorem dL_law__1775 : decode cL_law_ 1775 = .ok (.aload_n 3, 1) := by decide +kernel
theorem dL_law__1776 : decode cL_law_ 1776 = .ok (.iconst 0, 1) := by decide +kernel
theorem dL_law__1777 : decode cL_law_ 1777 = .ok (.laload, 1) := by decide +kernel
theorem dL_law__1778 : decode cL_law_ 1778 = .ok (.iload 7, 2) := by decide +kernel
theorem dL_law__1780 : decode cL_law_ 1780 = .ok (.ifCond .eq 7, 3) := by decide +kernel
theorem dL_law__1783 : decode cL_law_ 1783 = .ok (.lconst 1, 1) := by decide +kernel
theorem dL_law__1784 : decode cL_law_ 1784 = .ok (.goto 4, 3) := by decide +kernel
theorem dL_law__1787 : decode cL_law_ 1787 = .ok (.lconst 0, 1) := by decide +kernel
theorem dL_law__1788 : decode cL_law_ 1788 = .ok (.lcmp, 1) := by decide +kernel
theorem dL_law__1789 : decode cL_law_ 1789 = .ok (.ifCond .eq 5, 3) := by decide +kernel
theorem dL_law__1792 : decode cL_law_ 1792 = .ok (.iconst 0, 1) := by decide +kernel
theorem dL_law__1793 : decode cL_law_ 1793 = .ok (.ireturn, 1) := by decide +kernel
theorem dL_law__1794 : decode cL_law_ 1794 = .ok (.goto 29, 3) := by decide +kernel
theorem dL_law__1797 : decode cL_law_ 1797 = .ok (.aload_n 1, 1) := by decide +kernel
theorem dL_law__1798 : decode cL_law_ 1798 = .ok (.invokevirtual 194, 3) := by decide +kernel
theorem dL_law__1801 : decode cL_law_ 1801 = .ok (.aload_n 2, 1) := by decide +kernel
theorem dL_law__1802 : decode cL_law_ 1802 = .ok (.invokevirtual 197, 3) := by decide +kernel
theorem dL_law__1805 : decode cL_law_ 1805 = .ok (.if_icmp .eq 18, 3) := by decide +kernel
theorem dL_law__1808 : decode cL_law_ 1808 = .ok (.iconst 0, 1) := by decide +kernel
theorem dL_law__1809 : decode cL_law_ 1809 = .ok (.ireturn, 1) := by decide +kernel
theorem dL_law__1810 : decode cL_law_ 1810 = .ok (.aload_n 1, 1) := by decide +kernel
theorem dL_law__1811 : decode cL_law_ 1811 = .ok (.invokevirtual 198, 3) := by decide +kernel
theorem dL_law__1814 : decode cL_law_ 1814 = .ok (.aload_n 2, 1) := by decide +kernel
theorem dL_law__1815 : decode cL_law_ 1815 = .ok (.invokevirtual 201, 3) := by decide +kernel
theorem dL_law__1818 : decode cL_law_ 1818 = .ok (.if_icmp .eq 5, 3) := by decide +kernel
theorem dL_law__1821 : decode cL_law_ 1821 = .ok (.iconst 0, 1) := by decide +kernel
theorem dL_law__1822 : decode cL_law_ 1822 = .ok (.ireturn, 1) := by decide +kernel
theorem dL_law__1823 : decode cL_law_ 1823 = .ok (.iinc 5 4, 3) := by decide +kernel
theorem dL_law__1826 : decode cL_law_ 1826 = .ok (.goto (-1798), 3) := by decide +kernel
theorem dL_law__1829 : decode cL_law_ 1829 = .ok (.iconst 1, 1) := by decide +kernel
theorem dL_law__1830 : decode cL_law_ 1830 = .ok (.ireturn, 1) := by decide +kernel
