theorem dL_751 : decode code 751 = .ok (.iaload, 1) := by decide +kernel
theorem dL_752 : decode code 752 = .ok (.invokevirtual 88, 3) := by decide +kernel
theorem dL_755 : decode code 755 = .ok (.if_icmp .eq 375, 3) := by decide +kernel
theorem dL_758 : decode code 758 = .ok (.iconst 0, 1) := by decide +kernel
theorem dL_759 : decode code 759 = .ok (.ireturn, 1) := by decide +kernel
theorem dL_760 : decode code 760 = .ok (.aload_n 1, 1) := by decide +kernel
theorem dL_761 : decode code 761 = .ok (.invokevirtual 89, 3) := by decide +kernel
theorem dL_764 : decode code 764 = .ok (.aload_n 2, 1) := by decide +kernel
theorem dL_765 : decode code 765 = .ok (.invokevirtual 92, 3) := by decide +kernel
theorem dL_768 : decode code 768 = .ok (.if_icmp .eq 362, 3) := by decide +kernel
theorem dL_771 : decode code 771 = .ok (.iconst 0, 1) := by decide +kernel
theorem dL_772 : decode code 772 = .ok (.ireturn, 1) := by decide +kernel
theorem dL_773 : decode code 773 = .ok (.aload_n 1, 1) := by decide +kernel
theorem dL_774 : decode code 774 = .ok (.invokevirtual 93, 3) := by decide +kernel
theorem dL_777 : decode code 777 = .ok (.aload_n 2, 1) := by decide +kernel
theorem dL_778 : decode code 778 = .ok (.invokevirtual 96, 3) := by decide +kernel
theorem dL_781 : decode code 781 = .ok (.if_icmp .eq 349, 3) := by decide +kernel
theorem dL_784 : decode code 784 = .ok (.iconst 0, 1) := by decide +kernel
theorem dL_785 : decode code 785 = .ok (.ireturn, 1) := by decide +kernel
theorem dL_786 : decode code 786 = .ok (.aload_n 1, 1) := by decide +kernel
theorem dL_787 : decode code 787 = .ok (.aload_n 0, 1) := by decide +kernel
theorem dL_788 : decode code 788 = .ok (.iload_n 3, 1) := by decide +kernel
theorem dL_789 : decode code 789 = .ok (.iconst 1, 1) := by decide +kernel
theorem dL_790 : decode code 790 = .ok (.iadd, 1) := by decide +kernel
theorem dL_791 : decode code 791 = .ok (.iaload, 1) := by decide +kernel
theorem dL_792 : decode code 792 = .ok (.invokevirtual 97, 3) := by decide +kernel
theorem dL_795 : decode code 795 = .ok (.aload_n 2, 1) := by decide +kernel
theorem dL_796 : decode code 796 = .ok (.aload_n 0, 1) := by decide +kernel
theorem dL_797 : decode code 797 = .ok (.iload_n 3, 1) := by decide +kernel
theorem dL_798 : decode code 798 = .ok (.iconst 1, 1) := by decide +kernel
theorem dL_799 : decode code 799 = .ok (.iadd, 1) := by decide +kernel
theorem dL_800 : decode code 800 = .ok (.iaload, 1) := by decide +kernel
theorem dL_801 : decode code 801 = .ok (.invokevirtual 100, 3) := by decide +kernel
theorem dL_804 : decode code 804 = .ok (.if_icmp .eq 326, 3) := by decide +kernel
theorem dL_807 : decode code 807 = .ok (.iconst 0, 1) := by decide +kernel
theorem dL_808 : decode code 808 = .ok (.ireturn, 1) := by decide +kernel
theorem dL_809 : decode code 809 = .ok (.aload_n 1, 1) := by decide +kernel
theorem dL_810 : decode code 810 = .ok (.aload_n 0, 1) := by decide +kernel
theorem dL_811 : decode code 811 = .ok (.iload_n 3, 1) := by decide +kernel
theorem dL_812 : decode code 812 = .ok (.iconst 1, 1) := by decide +kernel
theorem dL_813 : decode code 813 = .ok (.iadd, 1) := by decide +kernel
theorem dL_814 : decode code 814 = .ok (.iaload, 1) := by decide +kernel
theorem dL_815 : decode code 815 = .ok (.aload_n 0, 1) := by decide +kernel
theorem dL_816 : decode code 816 = .ok (.iload_n 3, 1) := by decide +kernel
theorem dL_817 : decode code 817 = .ok (.iconst 2, 1) := by decide +kernel
theorem dL_818 : decode code 818 = .ok (.iadd, 1) := by decide +kernel
theorem dL_819 : decode code 819 = .ok (.iaload, 1) := by decide +kernel
theorem dL_820 : decode code 820 = .ok (.invokevirtual 101, 3) := by decide +kernel
theorem dL_823 : decode code 823 = .ok (.aload_n 2, 1) := by decide +kernel
theorem dL_824 : decode code 824 = .ok (.aload_n 0, 1) := by decide +kernel
theorem dL_825 : decode code 825 = .ok (.iload_n 3, 1) := by decide +kernel
theorem dL_826 : decode code 826 = .ok (.iconst 1, 1) := by decide +kernel
theorem dL_827 : decode code 827 = .ok (.iadd, 1) := by decide +kernel
theorem dL_828 : decode code 828 = .ok (.iaload, 1) := by decide +kernel
theorem dL_829 : decode code 829 = .ok (.aload_n 0, 1) := by decide +kernel
theorem dL_830 : decode code 830 = .ok (.iload_n 3, 1) := by decide +kernel
theorem dL_831 : decode code 831 = .ok (.iconst 2, 1) := by decide +kernel
theorem dL_832 : decode code 832 = .ok (.iadd, 1) := by decide +kernel
theorem dL_833 : decode code 833 = .ok (.iaload, 1) := by decide +kernel
theorem dL_834 : decode code 834 = .ok (.invokevirtual 104, 3) := by decide +kernel
theorem dL_837 : decode code 837 = .ok (.if_icmp .eq 293, 3) := by decide +kernel
theorem dL_840 : decode code 840 = .ok (.iconst 0, 1) := by decide +kernel
theorem dL_841 : decode code 841 = .ok (.ireturn, 1) := by decide +kernel
theorem dL_842 : decode code 842 = .ok (.aload_n 1, 1) := by decide +kernel
theorem dL_843 : decode code 843 = .ok (.aload_n 0, 1) := by decide +kernel
theorem dL_844 : decode code 844 = .ok (.iload_n 3, 1) := by decide +kernel
theorem dL_845 : decode code 845 = .ok (.iconst 1, 1) := by decide +kernel
theorem dL_846 : decode code 846 = .ok (.iadd, 1) := by decide +kernel
theorem dL_847 : decode code 847 = .ok (.iaload, 1) := by decide +kernel
theorem dL_848 : decode code 848 = .ok (.aload_n 0, 1) := by decide +kernel
theorem dL_849 : decode code 849 = .ok (.iload_n 3, 1) := by decide +kernel
theorem dL_850 : decode code 850 = .ok (.iconst 2, 1) := by decide +kernel
theorem dL_851 : decode code 851 = .ok (.iadd, 1) := by decide +kernel
theorem dL_852 : decode code 852 = .ok (.iaload, 1) := by decide +kernel
theorem dL_853 : decode code 853 = .ok (.invokevirtual 105, 3) := by decide +kernel
theorem dL_856 : decode code 856 = .ok (.aload_n 2, 1) := by decide +kernel
theorem dL_857 : decode code 857 = .ok (.aload_n 0, 1) := by decide +kernel
theorem dL_858 : decode code 858 = .ok (.iload_n 3, 1) := by decide +kernel
theorem dL_859 : decode code 859 = .ok (.iconst 1, 1) := by decide +kernel
theorem dL_860 : decode code 860 = .ok (.iadd, 1) := by decide +kernel
theorem dL_861 : decode code 861 = .ok (.iaload, 1) := by decide +kernel
theorem dL_862 : decode code 862 = .ok (.aload_n 0, 1) := by decide +kernel
theorem dL_863 : decode code 863 = .ok (.iload_n 3, 1) := by decide +kernel
theorem dL_864 : decode code 864 = .ok (.iconst 2, 1) := by decide +kernel
theorem dL_865 : decode code 865 = .ok (.iadd, 1) := by decide +kernel
theorem dL_866 : decode code 866 = .ok (.iaload, 1) := by decide +kernel
theorem dL_867 : decode code 867 = .ok (.invokevirtual 109, 3) := by decide +kernel
theorem dL_870 : decode code 870 = .ok (.lcmp, 1) := by decide +kernel
theorem dL_871 : decode code 871 = .ok (.ifCond .eq 259, 3) := by decide +kernel
theorem dL_874 : decode code 874 = .ok (.iconst 0, 1) := by decide +kernel
theorem dL_875 : decode code 875 = .ok (.ireturn, 1) := by decide +kernel
theorem dL_876 : decode code 876 = .ok (.aload_n 1, 1) := by decide +kernel
theorem dL_877 : decode code 877 = .ok (.aload_n 0, 1) := by decide +kernel
theorem dL_878 : decode code 878 = .ok (.iload_n 3, 1) := by decide +kernel
theorem dL_879 : decode code 879 = .ok (.iconst 1, 1) := by decide +kernel
theorem dL_880 : decode code 880 = .ok (.iadd, 1) := by decide +kernel
theorem dL_881 : decode code 881 = .ok (.iaload, 1) := by decide +kernel
theorem dL_882 : decode code 882 = .ok (.aload_n 0, 1) := by decide +kernel
theorem dL_883 : decode code 883 = .ok (.iload_n 3, 1) := by decide +kernel
