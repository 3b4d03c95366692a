/-! ===== the law, instruction by instruction ===== -/
theorem dW740 : decode code 740 = .ok (.iconst 1, 1) := by decide +kernel
theorem dW741 : decode code 741 = .ok (.iadd, 1) := by decide +kernel
theorem dW742 : decode code 742 = .ok (.iaload, 1) := by decide +kernel
theorem dW743 : decode code 743 = .ok (.aload_n 0, 1) := by decide +kernel
theorem dW744 : decode code 744 = .ok (.iload_n 3, 1) := by decide +kernel
theorem dW745 : decode code 745 = .ok (.iconst 2, 1) := by decide +kernel
theorem dW746 : decode code 746 = .ok (.iadd, 1) := by decide +kernel
theorem dW747 : decode code 747 = .ok (.iaload, 1) := by decide +kernel
theorem dW748 : decode code 748 = .ok (.aload_n 0, 1) := by decide +kernel
theorem dW749 : decode code 749 = .ok (.iload_n 3, 1) := by decide +kernel
theorem dW750 : decode code 750 = .ok (.iconst 3, 1) := by decide +kernel
theorem dW751 : decode code 751 = .ok (.iadd, 1) := by decide +kernel
theorem dW752 : decode code 752 = .ok (.iaload, 1) := by decide +kernel
theorem dW753 : decode code 753 = .ok (.aload_n 0, 1) := by decide +kernel
theorem dW754 : decode code 754 = .ok (.iload_n 3, 1) := by decide +kernel
theorem dW755 : decode code 755 = .ok (.iconst 4, 1) := by decide +kernel
theorem dW756 : decode code 756 = .ok (.iadd, 1) := by decide +kernel
theorem dW757 : decode code 757 = .ok (.iaload, 1) := by decide +kernel
theorem dW758 : decode code 758 = .ok (.ifCond .eq 7, 3) := by decide +kernel
theorem dW761 : decode code 761 = .ok (.iconst 1, 1) := by decide +kernel
theorem dW762 : decode code 762 = .ok (.goto 4, 3) := by decide +kernel
theorem dW765 : decode code 765 = .ok (.iconst 0, 1) := by decide +kernel
theorem dW766 : decode code 766 = .ok (.invokevirtual 109, 3) := by decide +kernel
theorem dW769 : decode code 769 = .ok (.if_icmp .eq 251, 3) := by decide +kernel
theorem dW772 : decode code 772 = .ok (.iconst 0, 1) := by decide +kernel
theorem dW773 : decode code 773 = .ok (.ireturn, 1) := by decide +kernel
theorem dW774 : decode code 774 = .ok (.aload_n 1, 1) := by decide +kernel
theorem dW775 : decode code 775 = .ok (.aload_n 0, 1) := by decide +kernel
theorem dW776 : decode code 776 = .ok (.iload_n 3, 1) := by decide +kernel
theorem dW777 : decode code 777 = .ok (.iconst 1, 1) := by decide +kernel
theorem dW778 : decode code 778 = .ok (.iadd, 1) := by decide +kernel
theorem dW779 : decode code 779 = .ok (.iaload, 1) := by decide +kernel
theorem dW780 : decode code 780 = .ok (.aload_n 0, 1) := by decide +kernel
theorem dW781 : decode code 781 = .ok (.iload_n 3, 1) := by decide +kernel
theorem dW782 : decode code 782 = .ok (.iconst 2, 1) := by decide +kernel
theorem dW783 : decode code 783 = .ok (.iadd, 1) := by decide +kernel
theorem dW784 : decode code 784 = .ok (.iaload, 1) := by decide +kernel
theorem dW785 : decode code 785 = .ok (.aload_n 0, 1) := by decide +kernel
theorem dW786 : decode code 786 = .ok (.iload_n 3, 1) := by decide +kernel
theorem dW787 : decode code 787 = .ok (.iconst 3, 1) := by decide +kernel
theorem dW788 : decode code 788 = .ok (.iadd, 1) := by decide +kernel
theorem dW789 : decode code 789 = .ok (.iaload, 1) := by decide +kernel
theorem dW790 : decode code 790 = .ok (.aload_n 0, 1) := by decide +kernel
theorem dW791 : decode code 791 = .ok (.iload_n 3, 1) := by decide +kernel
theorem dW792 : decode code 792 = .ok (.iconst 4, 1) := by decide +kernel
theorem dW793 : decode code 793 = .ok (.iadd, 1) := by decide +kernel
theorem dW794 : decode code 794 = .ok (.iaload, 1) := by decide +kernel
theorem dW795 : decode code 795 = .ok (.invokevirtual 110, 3) := by decide +kernel
theorem dW798 : decode code 798 = .ok (.aload_n 2, 1) := by decide +kernel
theorem dW799 : decode code 799 = .ok (.aload_n 0, 1) := by decide +kernel
theorem dW800 : decode code 800 = .ok (.iload_n 3, 1) := by decide +kernel
theorem dW801 : decode code 801 = .ok (.iconst 1, 1) := by decide +kernel
theorem dW802 : decode code 802 = .ok (.iadd, 1) := by decide +kernel
theorem dW803 : decode code 803 = .ok (.iaload, 1) := by decide +kernel
theorem dW804 : decode code 804 = .ok (.aload_n 0, 1) := by decide +kernel
theorem dW805 : decode code 805 = .ok (.iload_n 3, 1) := by decide +kernel
theorem dW806 : decode code 806 = .ok (.iconst 2, 1) := by decide +kernel
theorem dW807 : decode code 807 = .ok (.iadd, 1) := by decide +kernel
theorem dW808 : decode code 808 = .ok (.iaload, 1) := by decide +kernel
theorem dW809 : decode code 809 = .ok (.aload_n 0, 1) := by decide +kernel
theorem dW810 : decode code 810 = .ok (.iload_n 3, 1) := by decide +kernel
theorem dW811 : decode code 811 = .ok (.iconst 3, 1) := by decide +kernel
theorem dW812 : decode code 812 = .ok (.iadd, 1) := by decide +kernel
theorem dW813 : decode code 813 = .ok (.iaload, 1) := by decide +kernel
theorem dW814 : decode code 814 = .ok (.aload_n 0, 1) := by decide +kernel
theorem dW815 : decode code 815 = .ok (.iload_n 3, 1) := by decide +kernel
theorem dW816 : decode code 816 = .ok (.iconst 4, 1) := by decide +kernel
theorem dW817 : decode code 817 = .ok (.iadd, 1) := by decide +kernel
theorem dW818 : decode code 818 = .ok (.iaload, 1) := by decide +kernel
theorem dW819 : decode code 819 = .ok (.invokevirtual 114, 3) := by decide +kernel
theorem dW822 : decode code 822 = .ok (.if_icmp .eq 198, 3) := by decide +kernel
theorem dW825 : decode code 825 = .ok (.iconst 0, 1) := by decide +kernel
theorem dW826 : decode code 826 = .ok (.ireturn, 1) := by decide +kernel
theorem dW827 : decode code 827 = .ok (.aload_n 1, 1) := by decide +kernel
theorem dW828 : decode code 828 = .ok (.aload_n 0, 1) := by decide +kernel
theorem dW829 : decode code 829 = .ok (.iload_n 3, 1) := by decide +kernel
theorem dW830 : decode code 830 = .ok (.iconst 1, 1) := by decide +kernel
theorem dW831 : decode code 831 = .ok (.iadd, 1) := by decide +kernel
theorem dW832 : decode code 832 = .ok (.iaload, 1) := by decide +kernel
theorem dW833 : decode code 833 = .ok (.invokevirtual 115, 3) := by decide +kernel
theorem dW836 : decode code 836 = .ok (.aload_n 2, 1) := by decide +kernel
theorem dW837 : decode code 837 = .ok (.aload_n 0, 1) := by decide +kernel
theorem dW838 : decode code 838 = .ok (.iload_n 3, 1) := by decide +kernel
theorem dW839 : decode code 839 = .ok (.iconst 1, 1) := by decide +kernel
theorem dW840 : decode code 840 = .ok (.iadd, 1) := by decide +kernel
theorem dW841 : decode code 841 = .ok (.iaload, 1) := by decide +kernel
theorem dW842 : decode code 842 = .ok (.invokevirtual 118, 3) := by decide +kernel
theorem dW845 : decode code 845 = .ok (.if_icmp .eq 175, 3) := by decide +kernel
theorem dW848 : decode code 848 = .ok (.iconst 0, 1) := by decide +kernel
theorem dW849 : decode code 849 = .ok (.ireturn, 1) := by decide +kernel
theorem dW850 : decode code 850 = .ok (.aload_n 1, 1) := by decide +kernel
theorem dW851 : decode code 851 = .ok (.aload_n 0, 1) := by decide +kernel
theorem dW852 : decode code 852 = .ok (.iload_n 3, 1) := by decide +kernel
theorem dW853 : decode code 853 = .ok (.iconst 1, 1) := by decide +kernel
theorem dW854 : decode code 854 = .ok (.iadd, 1) := by decide +kernel
theorem dW855 : decode code 855 = .ok (.iaload, 1) := by decide +kernel
theorem dW856 : decode code 856 = .ok (.invokevirtual 119, 3) := by decide +kernel
theorem dW859 : decode code 859 = .ok (.aload_n 2, 1) := by decide +kernel
theorem dW860 : decode code 860 = .ok (.aload_n 0, 1) := by decide +kernel
theorem dW861 : decode code 861 = .ok (.iload_n 3, 1) := by decide +kernel
theorem dW862 : decode code 862 = .ok (.iconst 1, 1) := by decide +kernel
theorem dW863 : decode code 863 = .ok (.iadd, 1) := by decide +kernel
theorem dW864 : decode code 864 = .ok (.iaload, 1) := by decide +kernel
theorem dW865 : decode code 865 = .ok (.invokevirtual 122, 3) := by decide +kernel
theorem dW868 : decode code 868 = .ok (.if_icmp .eq 152, 3) := by decide +kernel
theorem dW871 : decode code 871 = .ok (.iconst 0, 1) := by decide +kernel
theorem dW872 : decode code 872 = .ok (.ireturn, 1) := by decide +kernel
theorem dW873 : decode code 873 = .ok (.aload_n 1, 1) := by decide +kernel
theorem dW874 : decode code 874 = .ok (.aload_n 0, 1) := by decide +kernel
theorem dW875 : decode code 875 = .ok (.iload_n 3, 1) := by decide +kernel
theorem dW876 : decode code 876 = .ok (.iconst 1, 1) := by decide +kernel
theorem dW877 : decode code 877 = .ok (.iadd, 1) := by decide +kernel
theorem dW878 : decode code 878 = .ok (.iaload, 1) := by decide +kernel
theorem dW879 : decode code 879 = .ok (.aload_n 0, 1) := by decide +kernel
theorem dW880 : decode code 880 = .ok (.iload_n 3, 1) := by decide +kernel
theorem dW881 : decode code 881 = .ok (.iconst 2, 1) := by decide +kernel
theorem dW882 : decode code 882 = .ok (.iadd, 1) := by decide +kernel
theorem dW883 : decode code 883 = .ok (.iaload, 1) := by decide +kernel
theorem dW884 : decode code 884 = .ok (.ifCond .eq 7, 3) := by decide +kernel
theorem dW887 : decode code 887 = .ok (.iconst 1, 1) := by decide +kernel
