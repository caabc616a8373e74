theorem dL_884 : decode code 884 = .ok (.iconst 2, 1) := by decide +kernel
theorem dL_885 : decode code 885 = .ok (.iadd, 1) := by decide +kernel
theorem dL_886 : decode code 886 = .ok (.iaload, 1) := by decide +kernel
theorem dL_887 : decode code 887 = .ok (.aload_n 0, 1) := by decide +kernel
theorem dL_888 : decode code 888 = .ok (.iload_n 3, 1) := by decide +kernel
theorem dL_889 : decode code 889 = .ok (.iconst 3, 1) := by decide +kernel
theorem dL_890 : decode code 890 = .ok (.iadd, 1) := by decide +kernel
theorem dL_891 : decode code 891 = .ok (.iaload, 1) := by decide +kernel
theorem dL_892 : decode code 892 = .ok (.invokevirtual 110, 3) := by decide +kernel
theorem dL_895 : decode code 895 = .ok (.aload_n 2, 1) := by decide +kernel
theorem dL_896 : decode code 896 = .ok (.aload_n 0, 1) := by decide +kernel
theorem dL_897 : decode code 897 = .ok (.iload_n 3, 1) := by decide +kernel
theorem dL_898 : decode code 898 = .ok (.iconst 1, 1) := by decide +kernel
theorem dL_899 : decode code 899 = .ok (.iadd, 1) := by decide +kernel
theorem dL_900 : decode code 900 = .ok (.iaload, 1) := by decide +kernel
theorem dL_901 : decode code 901 = .ok (.aload_n 0, 1) := by decide +kernel
theorem dL_902 : decode code 902 = .ok (.iload_n 3, 1) := by decide +kernel
theorem dL_903 : decode code 903 = .ok (.iconst 2, 1) := by decide +kernel
theorem dL_904 : decode code 904 = .ok (.iadd, 1) := by decide +kernel
theorem dL_905 : decode code 905 = .ok (.iaload, 1) := by decide +kernel
theorem dL_906 : decode code 906 = .ok (.aload_n 0, 1) := by decide +kernel
theorem dL_907 : decode code 907 = .ok (.iload_n 3, 1) := by decide +kernel
theorem dL_908 : decode code 908 = .ok (.iconst 3, 1) := by decide +kernel
theorem dL_909 : decode code 909 = .ok (.iadd, 1) := by decide +kernel
theorem dL_910 : decode code 910 = .ok (.iaload, 1) := by decide +kernel
theorem dL_911 : decode code 911 = .ok (.invokevirtual 114, 3) := by decide +kernel
theorem dL_914 : decode code 914 = .ok (.if_icmp .eq 216, 3) := by decide +kernel
theorem dL_917 : decode code 917 = .ok (.iconst 0, 1) := by decide +kernel
theorem dL_918 : decode code 918 = .ok (.ireturn, 1) := by decide +kernel
theorem dL_919 : decode code 919 = .ok (.aload_n 1, 1) := by decide +kernel
theorem dL_920 : decode code 920 = .ok (.aload_n 0, 1) := by decide +kernel
theorem dL_921 : decode code 921 = .ok (.iload_n 3, 1) := by decide +kernel
theorem dL_922 : decode code 922 = .ok (.iconst 1, 1) := by decide +kernel
theorem dL_923 : decode code 923 = .ok (.iadd, 1) := by decide +kernel
theorem dL_924 : decode code 924 = .ok (.iaload, 1) := by decide +kernel
theorem dL_925 : decode code 925 = .ok (.i2l, 1) := by decide +kernel
theorem dL_926 : decode code 926 = .ok (.bipush 32, 2) := by decide +kernel
theorem dL_928 : decode code 928 = .ok (.lshl, 1) := by decide +kernel
theorem dL_929 : decode code 929 = .ok (.aload_n 0, 1) := by decide +kernel
theorem dL_930 : decode code 930 = .ok (.iload_n 3, 1) := by decide +kernel
theorem dL_931 : decode code 931 = .ok (.iconst 2, 1) := by decide +kernel
theorem dL_932 : decode code 932 = .ok (.iadd, 1) := by decide +kernel
theorem dL_933 : decode code 933 = .ok (.iaload, 1) := by decide +kernel
theorem dL_934 : decode code 934 = .ok (.i2l, 1) := by decide +kernel
theorem dL_935 : decode code 935 = .ok (.ldc2_w 18, 3) := by decide +kernel
theorem dL_938 : decode code 938 = .ok (.land, 1) := by decide +kernel
theorem dL_939 : decode code 939 = .ok (.lor, 1) := by decide +kernel
theorem dL_940 : decode code 940 = .ok (.invokevirtual 115, 3) := by decide +kernel
theorem dL_943 : decode code 943 = .ok (.aload_n 2, 1) := by decide +kernel
theorem dL_944 : decode code 944 = .ok (.aload_n 0, 1) := by decide +kernel
theorem dL_945 : decode code 945 = .ok (.iload_n 3, 1) := by decide +kernel
theorem dL_946 : decode code 946 = .ok (.iconst 1, 1) := by decide +kernel
theorem dL_947 : decode code 947 = .ok (.iadd, 1) := by decide +kernel
theorem dL_948 : decode code 948 = .ok (.iaload, 1) := by decide +kernel
theorem dL_949 : decode code 949 = .ok (.i2l, 1) := by decide +kernel
theorem dL_950 : decode code 950 = .ok (.bipush 32, 2) := by decide +kernel
theorem dL_952 : decode code 952 = .ok (.lshl, 1) := by decide +kernel
theorem dL_953 : decode code 953 = .ok (.aload_n 0, 1) := by decide +kernel
theorem dL_954 : decode code 954 = .ok (.iload_n 3, 1) := by decide +kernel
theorem dL_955 : decode code 955 = .ok (.iconst 2, 1) := by decide +kernel
theorem dL_956 : decode code 956 = .ok (.iadd, 1) := by decide +kernel
theorem dL_957 : decode code 957 = .ok (.iaload, 1) := by decide +kernel
theorem dL_958 : decode code 958 = .ok (.i2l, 1) := by decide +kernel
theorem dL_959 : decode code 959 = .ok (.ldc2_w 18, 3) := by decide +kernel
theorem dL_962 : decode code 962 = .ok (.land, 1) := by decide +kernel
theorem dL_963 : decode code 963 = .ok (.lor, 1) := by decide +kernel
theorem dL_964 : decode code 964 = .ok (.invokevirtual 119, 3) := by decide +kernel
theorem dL_967 : decode code 967 = .ok (.if_icmp .eq 163, 3) := by decide +kernel
theorem dL_970 : decode code 970 = .ok (.iconst 0, 1) := by decide +kernel
theorem dL_971 : decode code 971 = .ok (.ireturn, 1) := by decide +kernel
theorem dL_972 : decode code 972 = .ok (.aload_n 1, 1) := by decide +kernel
theorem dL_973 : decode code 973 = .ok (.aload_n 0, 1) := by decide +kernel
theorem dL_974 : decode code 974 = .ok (.iload_n 3, 1) := by decide +kernel
theorem dL_975 : decode code 975 = .ok (.iconst 1, 1) := by decide +kernel
theorem dL_976 : decode code 976 = .ok (.iadd, 1) := by decide +kernel
theorem dL_977 : decode code 977 = .ok (.iaload, 1) := by decide +kernel
theorem dL_978 : decode code 978 = .ok (.invokevirtual 120, 3) := by decide +kernel
theorem dL_981 : decode code 981 = .ok (.aload_n 2, 1) := by decide +kernel
theorem dL_982 : decode code 982 = .ok (.aload_n 0, 1) := by decide +kernel
theorem dL_983 : decode code 983 = .ok (.iload_n 3, 1) := by decide +kernel
theorem dL_984 : decode code 984 = .ok (.iconst 1, 1) := by decide +kernel
theorem dL_985 : decode code 985 = .ok (.iadd, 1) := by decide +kernel
theorem dL_986 : decode code 986 = .ok (.iaload, 1) := by decide +kernel
theorem dL_987 : decode code 987 = .ok (.invokevirtual 123, 3) := by decide +kernel
theorem dL_990 : decode code 990 = .ok (.if_icmp .eq 140, 3) := by decide +kernel
theorem dL_993 : decode code 993 = .ok (.iconst 0, 1) := by decide +kernel
theorem dL_994 : decode code 994 = .ok (.ireturn, 1) := by decide +kernel
theorem dL_995 : decode code 995 = .ok (.aload_n 1, 1) := by decide +kernel
theorem dL_996 : decode code 996 = .ok (.aload_n 0, 1) := by decide +kernel
theorem dL_997 : decode code 997 = .ok (.iload_n 3, 1) := by decide +kernel
theorem dL_998 : decode code 998 = .ok (.iconst 1, 1) := by decide +kernel
theorem dL_999 : decode code 999 = .ok (.iadd, 1) := by decide +kernel
theorem dL_1000 : decode code 1000 = .ok (.iaload, 1) := by decide +kernel
theorem dL_1001 : decode code 1001 = .ok (.invokevirtual 124, 3) := by decide +kernel
theorem dL_1004 : decode code 1004 = .ok (.aload_n 2, 1) := by decide +kernel
theorem dL_1005 : decode code 1005 = .ok (.aload_n 0, 1) := by decide +kernel
theorem dL_1006 : decode code 1006 = .ok (.iload_n 3, 1) := by decide +kernel
theorem dL_1007 : decode code 1007 = .ok (.iconst 1, 1) := by decide +kernel
theorem dL_1008 : decode code 1008 = .ok (.iadd, 1) := by decide +kernel
