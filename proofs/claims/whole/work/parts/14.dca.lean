theorem dX0_init_0 : decode cX0_init 0 = .ok (.aload_n 0, 1) := by decide +kernel
theorem dX0_init_1 : decode cX0_init 1 = .ok (.invokespecial 3, 3) := by decide +kernel
theorem dX0_init_4 : decode cX0_init 4 = .ok (.aload_n 0, 1) := by decide +kernel
theorem dX0_init_5 : decode cX0_init 5 = .ok (.iconst 3, 1) := by decide +kernel
theorem dX0_init_6 : decode cX0_init 6 = .ok (.iload_n 1, 1) := by decide +kernel
theorem dX0_init_7 : decode cX0_init 7 = .ok (.invokestatic 9, 3) := by decide +kernel
theorem dX0_init_10 : decode cX0_init 10 = .ok (.i2l, 1) := by decide +kernel
theorem dX0_init_11 : decode cX0_init 11 = .ok (.putfield 15, 3) := by decide +kernel
theorem dX0_init_14 : decode cX0_init 14 = .ok (.return_, 1) := by decide +kernel
theorem dX0_isOddPrime_0 : decode cX0_isOddPrime 0 = .ok (.iload_n 0, 1) := by decide +kernel
theorem dX0_isOddPrime_1 : decode cX0_isOddPrime 1 = .ok (.iconst 3, 1) := by decide +kernel
theorem dX0_isOddPrime_2 : decode cX0_isOddPrime 2 = .ok (.if_icmp .lt 9, 3) := by decide +kernel
theorem dX0_isOddPrime_5 : decode cX0_isOddPrime 5 = .ok (.iload_n 0, 1) := by decide +kernel
theorem dX0_isOddPrime_6 : decode cX0_isOddPrime 6 = .ok (.iconst 2, 1) := by decide +kernel
theorem dX0_isOddPrime_7 : decode cX0_isOddPrime 7 = .ok (.irem, 1) := by decide +kernel
theorem dX0_isOddPrime_8 : decode cX0_isOddPrime 8 = .ok (.ifCond .ne 5, 3) := by decide +kernel
theorem dX0_isOddPrime_11 : decode cX0_isOddPrime 11 = .ok (.iconst 0, 1) := by decide +kernel
theorem dX0_isOddPrime_12 : decode cX0_isOddPrime 12 = .ok (.ireturn, 1) := by decide +kernel
theorem dX0_isOddPrime_13 : decode cX0_isOddPrime 13 = .ok (.iconst 3, 1) := by decide +kernel
theorem dX0_isOddPrime_14 : decode cX0_isOddPrime 14 = .ok (.istore_n 1, 1) := by decide +kernel
theorem dX0_isOddPrime_15 : decode cX0_isOddPrime 15 = .ok (.iload_n 1, 1) := by decide +kernel
theorem dX0_isOddPrime_16 : decode cX0_isOddPrime 16 = .ok (.iload_n 0, 1) := by decide +kernel
theorem dX0_isOddPrime_17 : decode cX0_isOddPrime 17 = .ok (.iload_n 1, 1) := by decide +kernel
theorem dX0_isOddPrime_18 : decode cX0_isOddPrime 18 = .ok (.idiv, 1) := by decide +kernel
theorem dX0_isOddPrime_19 : decode cX0_isOddPrime 19 = .ok (.if_icmp .gt 17, 3) := by decide +kernel
theorem dX0_isOddPrime_22 : decode cX0_isOddPrime 22 = .ok (.iload_n 0, 1) := by decide +kernel
theorem dX0_isOddPrime_23 : decode cX0_isOddPrime 23 = .ok (.iload_n 1, 1) := by decide +kernel
theorem dX0_isOddPrime_24 : decode cX0_isOddPrime 24 = .ok (.irem, 1) := by decide +kernel
theorem dX0_isOddPrime_25 : decode cX0_isOddPrime 25 = .ok (.ifCond .ne 5, 3) := by decide +kernel
theorem dX0_isOddPrime_28 : decode cX0_isOddPrime 28 = .ok (.iconst 0, 1) := by decide +kernel
theorem dX0_isOddPrime_29 : decode cX0_isOddPrime 29 = .ok (.ireturn, 1) := by decide +kernel
theorem dX0_isOddPrime_30 : decode cX0_isOddPrime 30 = .ok (.iinc 1 2, 3) := by decide +kernel
theorem dX0_isOddPrime_33 : decode cX0_isOddPrime 33 = .ok (.goto (-18), 3) := by decide +kernel
theorem dX0_isOddPrime_36 : decode cX0_isOddPrime 36 = .ok (.iconst 1, 1) := by decide +kernel
theorem dX0_isOddPrime_37 : decode cX0_isOddPrime 37 = .ok (.ireturn, 1) := by decide +kernel
theorem dX0_reduced_0 : decode cX0_reduced 0 = .ok (.lload_n 1, 1) := by decide +kernel
theorem dX0_reduced_1 : decode cX0_reduced 1 = .ok (.aload_n 0, 1) := by decide +kernel
theorem dX0_reduced_2 : decode cX0_reduced 2 = .ok (.getfield 15, 3) := by decide +kernel
theorem dX0_reduced_5 : decode cX0_reduced 5 = .ok (.invokestatic 21, 3) := by decide +kernel
theorem dX0_reduced_8 : decode cX0_reduced 8 = .ok (.lreturn, 1) := by decide +kernel
theorem dX0_plus_0 : decode cX0_plus 0 = .ok (.lload_n 1, 1) := by decide +kernel
theorem dX0_plus_1 : decode cX0_plus 1 = .ok (.lload_n 3, 1) := by decide +kernel
theorem dX0_plus_2 : decode cX0_plus 2 = .ok (.ladd, 1) := by decide +kernel
theorem dX0_plus_3 : decode cX0_plus 3 = .ok (.aload_n 0, 1) := by decide +kernel
theorem dX0_plus_4 : decode cX0_plus 4 = .ok (.getfield 15, 3) := by decide +kernel
theorem dX0_plus_7 : decode cX0_plus 7 = .ok (.lrem, 1) := by decide +kernel
theorem dX0_plus_8 : decode cX0_plus 8 = .ok (.lreturn, 1) := by decide +kernel
theorem dX0_minus_0 : decode cX0_minus 0 = .ok (.lload_n 1, 1) := by decide +kernel
theorem dX0_minus_1 : decode cX0_minus 1 = .ok (.aload_n 0, 1) := by decide +kernel
theorem dX0_minus_2 : decode cX0_minus 2 = .ok (.getfield 15, 3) := by decide +kernel
theorem dX0_minus_5 : decode cX0_minus 5 = .ok (.ladd, 1) := by decide +kernel
theorem dX0_minus_6 : decode cX0_minus 6 = .ok (.lload_n 3, 1) := by decide +kernel
theorem dX0_minus_7 : decode cX0_minus 7 = .ok (.lsub, 1) := by decide +kernel
theorem dX0_minus_8 : decode cX0_minus 8 = .ok (.aload_n 0, 1) := by decide +kernel
theorem dX0_minus_9 : decode cX0_minus 9 = .ok (.getfield 15, 3) := by decide +kernel
theorem dX0_minus_12 : decode cX0_minus 12 = .ok (.lrem, 1) := by decide +kernel
theorem dX0_minus_13 : decode cX0_minus 13 = .ok (.lreturn, 1) := by decide +kernel
theorem dX0_negative_0 : decode cX0_negative 0 = .ok (.lload_n 1, 1) := by decide +kernel
theorem dX0_negative_1 : decode cX0_negative 1 = .ok (.lconst 0, 1) := by decide +kernel
theorem dX0_negative_2 : decode cX0_negative 2 = .ok (.lcmp, 1) := by decide +kernel
theorem dX0_negative_3 : decode cX0_negative 3 = .ok (.ifCond .ne 7, 3) := by decide +kernel
theorem dX0_negative_6 : decode cX0_negative 6 = .ok (.lconst 0, 1) := by decide +kernel
theorem dX0_negative_7 : decode cX0_negative 7 = .ok (.goto 9, 3) := by decide +kernel
theorem dX0_negative_10 : decode cX0_negative 10 = .ok (.aload_n 0, 1) := by decide +kernel
theorem dX0_negative_11 : decode cX0_negative 11 = .ok (.getfield 15, 3) := by decide +kernel
theorem dX0_negative_14 : decode cX0_negative 14 = .ok (.lload_n 1, 1) := by decide +kernel
theorem dX0_negative_15 : decode cX0_negative 15 = .ok (.lsub, 1) := by decide +kernel
theorem dX0_negative_16 : decode cX0_negative 16 = .ok (.lreturn, 1) := by decide +kernel
theorem dX0_times_0 : decode cX0_times 0 = .ok (.lload_n 1, 1) := by decide +kernel
theorem dX0_times_1 : decode cX0_times 1 = .ok (.lload_n 3, 1) := by decide +kernel
theorem dX0_times_2 : decode cX0_times 2 = .ok (.lmul, 1) := by decide +kernel
theorem dX0_times_3 : decode cX0_times 3 = .ok (.aload_n 0, 1) := by decide +kernel
theorem dX0_times_4 : decode cX0_times 4 = .ok (.getfield 15, 3) := by decide +kernel
theorem dX0_times_7 : decode cX0_times 7 = .ok (.lrem, 1) := by decide +kernel
theorem dX0_times_8 : decode cX0_times 8 = .ok (.lreturn, 1) := by decide +kernel
theorem dX0_power_0 : decode cX0_power 0 = .ok (.lconst 1, 1) := by decide +kernel
theorem dX0_power_1 : decode cX0_power 1 = .ok (.lstore 5, 2) := by decide +kernel
theorem dX0_power_3 : decode cX0_power 3 = .ok (.lload_n 1, 1) := by decide +kernel
theorem dX0_power_4 : decode cX0_power 4 = .ok (.lstore 7, 2) := by decide +kernel
theorem dX0_power_6 : decode cX0_power 6 = .ok (.lload_n 3, 1) := by decide +kernel
theorem dX0_power_7 : decode cX0_power 7 = .ok (.lstore 9, 2) := by decide +kernel
theorem dX0_power_9 : decode cX0_power 9 = .ok (.lload 9, 2) := by decide +kernel
theorem dX0_power_11 : decode cX0_power 11 = .ok (.lconst 0, 1) := by decide +kernel
theorem dX0_power_12 : decode cX0_power 12 = .ok (.lcmp, 1) := by decide +kernel
theorem dX0_power_13 : decode cX0_power 13 = .ok (.ifCond .le 45, 3) := by decide +kernel
theorem dX0_power_16 : decode cX0_power 16 = .ok (.lload 9, 2) := by decide +kernel
theorem dX0_power_18 : decode cX0_power 18 = .ok (.lconst 1, 1) := by decide +kernel
theorem dX0_power_19 : decode cX0_power 19 = .ok (.land, 1) := by decide +kernel
theorem dX0_power_20 : decode cX0_power 20 = .ok (.lconst 1, 1) := by decide +kernel
theorem dX0_power_21 : decode cX0_power 21 = .ok (.lcmp, 1) := by decide +kernel
theorem dX0_power_22 : decode cX0_power 22 = .ok (.ifCond .ne 15, 3) := by decide +kernel
theorem dX0_power_25 : decode cX0_power 25 = .ok (.lload 5, 2) := by decide +kernel
theorem dX0_power_27 : decode cX0_power 27 = .ok (.lload 7, 2) := by decide +kernel
theorem dX0_power_29 : decode cX0_power 29 = .ok (.lmul, 1) := by decide +kernel
theorem dX0_power_30 : decode cX0_power 30 = .ok (.aload_n 0, 1) := by decide +kernel
theorem dX0_power_31 : decode cX0_power 31 = .ok (.getfield 15, 3) := by decide +kernel
theorem dX0_power_34 : decode cX0_power 34 = .ok (.lrem, 1) := by decide +kernel
theorem dX0_power_35 : decode cX0_power 35 = .ok (.lstore 5, 2) := by decide +kernel
theorem dX0_power_37 : decode cX0_power 37 = .ok (.lload 7, 2) := by decide +kernel
theorem dX0_power_39 : decode cX0_power 39 = .ok (.lload 7, 2) := by decide +kernel
theorem dX0_power_41 : decode cX0_power 41 = .ok (.lmul, 1) := by decide +kernel
theorem dX0_power_42 : decode cX0_power 42 = .ok (.aload_n 0, 1) := by decide +kernel
theorem dX0_power_43 : decode cX0_power 43 = .ok (.getfield 15, 3) := by decide +kernel
theorem dX0_power_46 : decode cX0_power 46 = .ok (.lrem, 1) := by decide +kernel
theorem dX0_power_47 : decode cX0_power 47 = .ok (.lstore 7, 2) := by decide +kernel
theorem dX0_power_49 : decode cX0_power 49 = .ok (.lload 9, 2) := by decide +kernel
theorem dX0_power_51 : decode cX0_power 51 = .ok (.iconst 1, 1) := by decide +kernel
theorem dX0_power_52 : decode cX0_power 52 = .ok (.lshr, 1) := by decide +kernel
theorem dX0_power_53 : decode cX0_power 53 = .ok (.lstore 9, 2) := by decide +kernel
theorem dX0_power_55 : decode cX0_power 55 = .ok (.goto (-46), 3) := by decide +kernel
theorem dX0_power_58 : decode cX0_power 58 = .ok (.lload 5, 2) := by decide +kernel
theorem dX0_power_60 : decode cX0_power 60 = .ok (.lreturn, 1) := by decide +kernel
theorem dX0_reciprocal_0 : decode cX0_reciprocal 0 = .ok (.aload_n 0, 1) := by decide +kernel
theorem dX0_reciprocal_1 : decode cX0_reciprocal 1 = .ok (.lload_n 1, 1) := by decide +kernel
theorem dX0_reciprocal_2 : decode cX0_reciprocal 2 = .ok (.aload_n 0, 1) := by decide +kernel
theorem dX0_reciprocal_3 : decode cX0_reciprocal 3 = .ok (.getfield 15, 3) := by decide +kernel
theorem dX0_reciprocal_6 : decode cX0_reciprocal 6 = .ok (.ldc2_w 25, 3) := by decide +kernel
theorem dX0_reciprocal_9 : decode cX0_reciprocal 9 = .ok (.lsub, 1) := by decide +kernel
theorem dX0_reciprocal_10 : decode cX0_reciprocal 10 = .ok (.invokevirtual 27, 3) := by decide +kernel
theorem dX0_reciprocal_13 : decode cX0_reciprocal 13 = .ok (.lreturn, 1) := by decide +kernel
theorem dX0_squareRoot_0 : decode cX0_squareRoot 0 = .ok (.lload_n 1, 1) := by decide +kernel
theorem dX0_squareRoot_1 : decode cX0_squareRoot 1 = .ok (.lconst 0, 1) := by decide +kernel
theorem dX0_squareRoot_2 : decode cX0_squareRoot 2 = .ok (.lcmp, 1) := by decide +kernel
theorem dX0_squareRoot_3 : decode cX0_squareRoot 3 = .ok (.ifCond .ne 5, 3) := by decide +kernel
theorem dX0_squareRoot_6 : decode cX0_squareRoot 6 = .ok (.lconst 0, 1) := by decide +kernel
theorem dX0_squareRoot_7 : decode cX0_squareRoot 7 = .ok (.lreturn, 1) := by decide +kernel
theorem dX0_squareRoot_8 : decode cX0_squareRoot 8 = .ok (.aload_n 0, 1) := by decide +kernel
theorem dX0_squareRoot_9 : decode cX0_squareRoot 9 = .ok (.lload_n 1, 1) := by decide +kernel
theorem dX0_squareRoot_10 : decode cX0_squareRoot 10 = .ok (.aload_n 0, 1) := by decide +kernel
theorem dX0_squareRoot_11 : decode cX0_squareRoot 11 = .ok (.getfield 15, 3) := by decide +kernel
theorem dX0_squareRoot_14 : decode cX0_squareRoot 14 = .ok (.lconst 1, 1) := by decide +kernel
theorem dX0_squareRoot_15 : decode cX0_squareRoot 15 = .ok (.lsub, 1) := by decide +kernel
theorem dX0_squareRoot_16 : decode cX0_squareRoot 16 = .ok (.ldc2_w 25, 3) := by decide +kernel
theorem dX0_squareRoot_19 : decode cX0_squareRoot 19 = .ok (.ldiv, 1) := by decide +kernel
theorem dX0_squareRoot_20 : decode cX0_squareRoot 20 = .ok (.invokevirtual 27, 3) := by decide +kernel
theorem dX0_squareRoot_23 : decode cX0_squareRoot 23 = .ok (.lconst 1, 1) := by decide +kernel
theorem dX0_squareRoot_24 : decode cX0_squareRoot 24 = .ok (.lcmp, 1) := by decide +kernel
theorem dX0_squareRoot_25 : decode cX0_squareRoot 25 = .ok (.ifCond .eq 7, 3) := by decide +kernel
theorem dX0_squareRoot_28 : decode cX0_squareRoot 28 = .ok (.ldc2_w 30, 3) := by decide +kernel
theorem dX0_squareRoot_31 : decode cX0_squareRoot 31 = .ok (.lreturn, 1) := by decide +kernel
theorem dX0_squareRoot_32 : decode cX0_squareRoot 32 = .ok (.iconst 0, 1) := by decide +kernel
theorem dX0_squareRoot_33 : decode cX0_squareRoot 33 = .ok (.istore_n 3, 1) := by decide +kernel
theorem dX0_squareRoot_34 : decode cX0_squareRoot 34 = .ok (.aload_n 0, 1) := by decide +kernel
theorem dX0_squareRoot_35 : decode cX0_squareRoot 35 = .ok (.getfield 15, 3) := by decide +kernel
theorem dX0_squareRoot_38 : decode cX0_squareRoot 38 = .ok (.lconst 1, 1) := by decide +kernel
theorem dX0_squareRoot_39 : decode cX0_squareRoot 39 = .ok (.lsub, 1) := by decide +kernel
theorem dX0_squareRoot_40 : decode cX0_squareRoot 40 = .ok (.lstore 4, 2) := by decide +kernel
theorem dX0_squareRoot_42 : decode cX0_squareRoot 42 = .ok (.iload_n 3, 1) := by decide +kernel
theorem dX0_squareRoot_43 : decode cX0_squareRoot 43 = .ok (.bipush 32, 2) := by decide +kernel
theorem dX0_squareRoot_45 : decode cX0_squareRoot 45 = .ok (.if_icmp .ge 28, 3) := by decide +kernel
theorem dX0_squareRoot_48 : decode cX0_squareRoot 48 = .ok (.lload 4, 2) := by decide +kernel
theorem dX0_squareRoot_50 : decode cX0_squareRoot 50 = .ok (.ldc2_w 25, 3) := by decide +kernel
theorem dX0_squareRoot_53 : decode cX0_squareRoot 53 = .ok (.lrem, 1) := by decide +kernel
theorem dX0_squareRoot_54 : decode cX0_squareRoot 54 = .ok (.lconst 0, 1) := by decide +kernel
theorem dX0_squareRoot_55 : decode cX0_squareRoot 55 = .ok (.lcmp, 1) := by decide +kernel
theorem dX0_squareRoot_56 : decode cX0_squareRoot 56 = .ok (.ifCond .ne 17, 3) := by decide +kernel
theorem dX0_squareRoot_59 : decode cX0_squareRoot 59 = .ok (.lload 4, 2) := by decide +kernel
theorem dX0_squareRoot_61 : decode cX0_squareRoot 61 = .ok (.ldc2_w 25, 3) := by decide +kernel
theorem dX0_squareRoot_64 : decode cX0_squareRoot 64 = .ok (.ldiv, 1) := by decide +kernel
theorem dX0_squareRoot_65 : decode cX0_squareRoot 65 = .ok (.lstore 4, 2) := by decide +kernel
theorem dX0_squareRoot_67 : decode cX0_squareRoot 67 = .ok (.iinc 3 1, 3) := by decide +kernel
theorem dX0_squareRoot_70 : decode cX0_squareRoot 70 = .ok (.goto (-28), 3) := by decide +kernel
theorem dX0_squareRoot_73 : decode cX0_squareRoot 73 = .ok (.aload_n 0, 1) := by decide +kernel
theorem dX0_squareRoot_74 : decode cX0_squareRoot 74 = .ok (.lload_n 1, 1) := by decide +kernel
theorem dX0_squareRoot_75 : decode cX0_squareRoot 75 = .ok (.lload 4, 2) := by decide +kernel
theorem dX0_squareRoot_77 : decode cX0_squareRoot 77 = .ok (.lconst 1, 1) := by decide +kernel
theorem dX0_squareRoot_78 : decode cX0_squareRoot 78 = .ok (.ladd, 1) := by decide +kernel
theorem dX0_squareRoot_79 : decode cX0_squareRoot 79 = .ok (.ldc2_w 25, 3) := by decide +kernel
theorem dX0_squareRoot_82 : decode cX0_squareRoot 82 = .ok (.ldiv, 1) := by decide +kernel
theorem dX0_squareRoot_83 : decode cX0_squareRoot 83 = .ok (.invokevirtual 27, 3) := by decide +kernel
theorem dX0_squareRoot_86 : decode cX0_squareRoot 86 = .ok (.lstore 6, 2) := by decide +kernel
theorem dX0_squareRoot_88 : decode cX0_squareRoot 88 = .ok (.aload_n 0, 1) := by decide +kernel
theorem dX0_squareRoot_89 : decode cX0_squareRoot 89 = .ok (.lload_n 1, 1) := by decide +kernel
theorem dX0_squareRoot_90 : decode cX0_squareRoot 90 = .ok (.lload 4, 2) := by decide +kernel
theorem dX0_squareRoot_92 : decode cX0_squareRoot 92 = .ok (.invokevirtual 27, 3) := by decide +kernel
theorem dX0_squareRoot_95 : decode cX0_squareRoot 95 = .ok (.lstore 8, 2) := by decide +kernel
theorem dX0_squareRoot_97 : decode cX0_squareRoot 97 = .ok (.aload_n 0, 1) := by decide +kernel
theorem dX0_squareRoot_98 : decode cX0_squareRoot 98 = .ok (.aload_n 0, 1) := by decide +kernel
theorem dX0_squareRoot_99 : decode cX0_squareRoot 99 = .ok (.invokevirtual 32, 3) := by decide +kernel
theorem dX0_squareRoot_102 : decode cX0_squareRoot 102 = .ok (.lload 4, 2) := by decide +kernel
theorem dX0_squareRoot_104 : decode cX0_squareRoot 104 = .ok (.invokevirtual 27, 3) := by decide +kernel
theorem dX0_squareRoot_107 : decode cX0_squareRoot 107 = .ok (.lstore 10, 2) := by decide +kernel
theorem dX0_squareRoot_109 : decode cX0_squareRoot 109 = .ok (.iload_n 3, 1) := by decide +kernel
theorem dX0_squareRoot_110 : decode cX0_squareRoot 110 = .ok (.iconst 1, 1) := by decide +kernel
theorem dX0_squareRoot_111 : decode cX0_squareRoot 111 = .ok (.isub, 1) := by decide +kernel
theorem dX0_squareRoot_112 : decode cX0_squareRoot 112 = .ok (.istore 12, 2) := by decide +kernel
theorem dX0_squareRoot_114 : decode cX0_squareRoot 114 = .ok (.iload 12, 2) := by decide +kernel
theorem dX0_squareRoot_116 : decode cX0_squareRoot 116 = .ok (.ifCond .le 60, 3) := by decide +kernel
theorem dX0_squareRoot_119 : decode cX0_squareRoot 119 = .ok (.aload_n 0, 1) := by decide +kernel
theorem dX0_squareRoot_120 : decode cX0_squareRoot 120 = .ok (.lload 10, 2) := by decide +kernel
theorem dX0_squareRoot_122 : decode cX0_squareRoot 122 = .ok (.lload 10, 2) := by decide +kernel
theorem dX0_squareRoot_124 : decode cX0_squareRoot 124 = .ok (.invokevirtual 36, 3) := by decide +kernel
theorem dX0_squareRoot_127 : decode cX0_squareRoot 127 = .ok (.lstore 13, 2) := by decide +kernel
theorem dX0_squareRoot_129 : decode cX0_squareRoot 129 = .ok (.aload_n 0, 1) := by decide +kernel
theorem dX0_squareRoot_130 : decode cX0_squareRoot 130 = .ok (.lload 8, 2) := by decide +kernel
theorem dX0_squareRoot_132 : decode cX0_squareRoot 132 = .ok (.lconst 1, 1) := by decide +kernel
theorem dX0_squareRoot_133 : decode cX0_squareRoot 133 = .ok (.iload 12, 2) := by decide +kernel
theorem dX0_squareRoot_135 : decode cX0_squareRoot 135 = .ok (.iconst 1, 1) := by decide +kernel
theorem dX0_squareRoot_136 : decode cX0_squareRoot 136 = .ok (.isub, 1) := by decide +kernel
theorem dX0_squareRoot_137 : decode cX0_squareRoot 137 = .ok (.lshl, 1) := by decide +kernel
theorem dX0_squareRoot_138 : decode cX0_squareRoot 138 = .ok (.invokevirtual 27, 3) := by decide +kernel
theorem dX0_squareRoot_141 : decode cX0_squareRoot 141 = .ok (.lconst 1, 1) := by decide +kernel
theorem dX0_squareRoot_142 : decode cX0_squareRoot 142 = .ok (.lcmp, 1) := by decide +kernel
theorem dX0_squareRoot_143 : decode cX0_squareRoot 143 = .ok (.ifCond .eq 23, 3) := by decide +kernel
theorem dX0_squareRoot_146 : decode cX0_squareRoot 146 = .ok (.aload_n 0, 1) := by decide +kernel
theorem dX0_squareRoot_147 : decode cX0_squareRoot 147 = .ok (.lload 6, 2) := by decide +kernel
theorem dX0_squareRoot_149 : decode cX0_squareRoot 149 = .ok (.lload 10, 2) := by decide +kernel
theorem dX0_squareRoot_151 : decode cX0_squareRoot 151 = .ok (.invokevirtual 36, 3) := by decide +kernel
theorem dX0_squareRoot_154 : decode cX0_squareRoot 154 = .ok (.lstore 6, 2) := by decide +kernel
theorem dX0_squareRoot_156 : decode cX0_squareRoot 156 = .ok (.aload_n 0, 1) := by decide +kernel
theorem dX0_squareRoot_157 : decode cX0_squareRoot 157 = .ok (.lload 8, 2) := by decide +kernel
theorem dX0_squareRoot_159 : decode cX0_squareRoot 159 = .ok (.lload 13, 2) := by decide +kernel
theorem dX0_squareRoot_161 : decode cX0_squareRoot 161 = .ok (.invokevirtual 36, 3) := by decide +kernel
theorem dX0_squareRoot_164 : decode cX0_squareRoot 164 = .ok (.lstore 8, 2) := by decide +kernel
theorem dX0_squareRoot_166 : decode cX0_squareRoot 166 = .ok (.lload 13, 2) := by decide +kernel
theorem dX0_squareRoot_168 : decode cX0_squareRoot 168 = .ok (.lstore 10, 2) := by decide +kernel
theorem dX0_squareRoot_170 : decode cX0_squareRoot 170 = .ok (.iinc 12 (-1), 3) := by decide +kernel
theorem dX0_squareRoot_173 : decode cX0_squareRoot 173 = .ok (.goto (-59), 3) := by decide +kernel
theorem dX0_squareRoot_176 : decode cX0_squareRoot 176 = .ok (.lload 6, 2) := by decide +kernel
theorem dX0_squareRoot_178 : decode cX0_squareRoot 178 = .ok (.aload_n 0, 1) := by decide +kernel
theorem dX0_squareRoot_179 : decode cX0_squareRoot 179 = .ok (.getfield 15, 3) := by decide +kernel
theorem dX0_squareRoot_182 : decode cX0_squareRoot 182 = .ok (.lload 6, 2) := by decide +kernel
theorem dX0_squareRoot_184 : decode cX0_squareRoot 184 = .ok (.lsub, 1) := by decide +kernel
theorem dX0_squareRoot_185 : decode cX0_squareRoot 185 = .ok (.invokestatic 39, 3) := by decide +kernel
theorem dX0_squareRoot_188 : decode cX0_squareRoot 188 = .ok (.lreturn, 1) := by decide +kernel
theorem dX0_leastNonSquare_0 : decode cX0_leastNonSquare 0 = .ok (.ldc2_w 25, 3) := by decide +kernel
theorem dX0_leastNonSquare_3 : decode cX0_leastNonSquare 3 = .ok (.lstore_n 1, 1) := by decide +kernel
theorem dX0_leastNonSquare_4 : decode cX0_leastNonSquare 4 = .ok (.lload_n 1, 1) := by decide +kernel
theorem dX0_leastNonSquare_5 : decode cX0_leastNonSquare 5 = .ok (.aload_n 0, 1) := by decide +kernel
theorem dX0_leastNonSquare_6 : decode cX0_leastNonSquare 6 = .ok (.getfield 15, 3) := by decide +kernel
theorem dX0_leastNonSquare_9 : decode cX0_leastNonSquare 9 = .ok (.lcmp, 1) := by decide +kernel
theorem dX0_leastNonSquare_10 : decode cX0_leastNonSquare 10 = .ok (.ifCond .ge 32, 3) := by decide +kernel
theorem dX0_leastNonSquare_13 : decode cX0_leastNonSquare 13 = .ok (.aload_n 0, 1) := by decide +kernel
theorem dX0_leastNonSquare_14 : decode cX0_leastNonSquare 14 = .ok (.lload_n 1, 1) := by decide +kernel
theorem dX0_leastNonSquare_15 : decode cX0_leastNonSquare 15 = .ok (.aload_n 0, 1) := by decide +kernel
theorem dX0_leastNonSquare_16 : decode cX0_leastNonSquare 16 = .ok (.getfield 15, 3) := by decide +kernel
theorem dX0_leastNonSquare_19 : decode cX0_leastNonSquare 19 = .ok (.lconst 1, 1) := by decide +kernel
theorem dX0_leastNonSquare_20 : decode cX0_leastNonSquare 20 = .ok (.lsub, 1) := by decide +kernel
theorem dX0_leastNonSquare_21 : decode cX0_leastNonSquare 21 = .ok (.ldc2_w 25, 3) := by decide +kernel
theorem dX0_leastNonSquare_24 : decode cX0_leastNonSquare 24 = .ok (.ldiv, 1) := by decide +kernel
theorem dX0_leastNonSquare_25 : decode cX0_leastNonSquare 25 = .ok (.invokevirtual 27, 3) := by decide +kernel
theorem dX0_leastNonSquare_28 : decode cX0_leastNonSquare 28 = .ok (.lconst 1, 1) := by decide +kernel
theorem dX0_leastNonSquare_29 : decode cX0_leastNonSquare 29 = .ok (.lcmp, 1) := by decide +kernel
theorem dX0_leastNonSquare_30 : decode cX0_leastNonSquare 30 = .ok (.ifCond .eq 5, 3) := by decide +kernel
theorem dX0_leastNonSquare_33 : decode cX0_leastNonSquare 33 = .ok (.lload_n 1, 1) := by decide +kernel
theorem dX0_leastNonSquare_34 : decode cX0_leastNonSquare 34 = .ok (.lreturn, 1) := by decide +kernel
theorem dX0_leastNonSquare_35 : decode cX0_leastNonSquare 35 = .ok (.lload_n 1, 1) := by decide +kernel
theorem dX0_leastNonSquare_36 : decode cX0_leastNonSquare 36 = .ok (.lconst 1, 1) := by decide +kernel
theorem dX0_leastNonSquare_37 : decode cX0_leastNonSquare 37 = .ok (.ladd, 1) := by decide +kernel
theorem dX0_leastNonSquare_38 : decode cX0_leastNonSquare 38 = .ok (.lstore_n 1, 1) := by decide +kernel
theorem dX0_leastNonSquare_39 : decode cX0_leastNonSquare 39 = .ok (.goto (-35), 3) := by decide +kernel
theorem dX0_leastNonSquare_42 : decode cX0_leastNonSquare 42 = .ok (.lconst 1, 1) := by decide +kernel
theorem dX0_leastNonSquare_43 : decode cX0_leastNonSquare 43 = .ok (.lreturn, 1) := by decide +kernel
theorem dX1_init_0 : decode cX1_init 0 = .ok (.aload_n 0, 1) := by decide +kernel
theorem dX1_init_1 : decode cX1_init 1 = .ok (.invokespecial 1, 3) := by decide +kernel
theorem dX1_init_4 : decode cX1_init 4 = .ok (.aload_n 0, 1) := by decide +kernel
theorem dX1_init_5 : decode cX1_init 5 = .ok (.iload_n 1, 1) := by decide +kernel
theorem dX1_init_6 : decode cX1_init 6 = .ok (.putfield 7, 3) := by decide +kernel
theorem dX1_init_9 : decode cX1_init 9 = .ok (.aload_n 0, 1) := by decide +kernel
theorem dX1_init_10 : decode cX1_init 10 = .ok (.aload_n 2, 1) := by decide +kernel
theorem dX1_init_11 : decode cX1_init 11 = .ok (.putfield 13, 3) := by decide +kernel
theorem dX1_init_14 : decode cX1_init 14 = .ok (.return_, 1) := by decide +kernel
theorem dX2_init_0 : decode cX2_init 0 = .ok (.aload_n 0, 1) := by decide +kernel
theorem dX2_init_1 : decode cX2_init 1 = .ok (.invokespecial 1, 3) := by decide +kernel
theorem dX2_init_4 : decode cX2_init 4 = .ok (.aload_n 0, 1) := by decide +kernel
theorem dX2_init_5 : decode cX2_init 5 = .ok (.aload_n 1, 1) := by decide +kernel
theorem dX2_init_6 : decode cX2_init 6 = .ok (.putfield 7, 3) := by decide +kernel
theorem dX2_init_9 : decode cX2_init 9 = .ok (.aload_n 0, 1) := by decide +kernel
theorem dX2_init_10 : decode cX2_init 10 = .ok (.iload_n 2, 1) := by decide +kernel
theorem dX2_init_11 : decode cX2_init 11 = .ok (.putfield 13, 3) := by decide +kernel
theorem dX2_init_14 : decode cX2_init 14 = .ok (.return_, 1) := by decide +kernel
theorem dX2_lead_0 : decode cX2_lead 0 = .ok (.iconst 0, 1) := by decide +kernel
theorem dX2_lead_1 : decode cX2_lead 1 = .ok (.istore_n 1, 1) := by decide +kernel
theorem dX2_lead_2 : decode cX2_lead 2 = .ok (.iload_n 1, 1) := by decide +kernel
theorem dX2_lead_3 : decode cX2_lead 3 = .ok (.aload_n 0, 1) := by decide +kernel
theorem dX2_lead_4 : decode cX2_lead 4 = .ok (.arraylength, 1) := by decide +kernel
theorem dX2_lead_5 : decode cX2_lead 5 = .ok (.if_icmp .ge 17, 3) := by decide +kernel
theorem dX2_lead_8 : decode cX2_lead 8 = .ok (.aload_n 0, 1) := by decide +kernel
theorem dX2_lead_9 : decode cX2_lead 9 = .ok (.iload_n 1, 1) := by decide +kernel
theorem dX2_lead_10 : decode cX2_lead 10 = .ok (.laload, 1) := by decide +kernel
theorem dX2_lead_11 : decode cX2_lead 11 = .ok (.lconst 0, 1) := by decide +kernel
theorem dX2_lead_12 : decode cX2_lead 12 = .ok (.lcmp, 1) := by decide +kernel
theorem dX2_lead_13 : decode cX2_lead 13 = .ok (.ifCond .ne 9, 3) := by decide +kernel
theorem dX2_lead_16 : decode cX2_lead 16 = .ok (.iinc 1 1, 3) := by decide +kernel
theorem dX2_lead_19 : decode cX2_lead 19 = .ok (.goto (-17), 3) := by decide +kernel
theorem dX2_lead_22 : decode cX2_lead 22 = .ok (.iload_n 1, 1) := by decide +kernel
theorem dX2_lead_23 : decode cX2_lead 23 = .ok (.ireturn, 1) := by decide +kernel
theorem dX2_isZero_0 : decode cX2_isZero 0 = .ok (.aload_n 0, 1) := by decide +kernel
theorem dX2_isZero_1 : decode cX2_isZero 1 = .ok (.invokestatic 17, 3) := by decide +kernel
theorem dX2_isZero_4 : decode cX2_isZero 4 = .ok (.aload_n 0, 1) := by decide +kernel
theorem dX2_isZero_5 : decode cX2_isZero 5 = .ok (.arraylength, 1) := by decide +kernel
theorem dX2_isZero_6 : decode cX2_isZero 6 = .ok (.if_icmp .ne 7, 3) := by decide +kernel
theorem dX2_isZero_9 : decode cX2_isZero 9 = .ok (.iconst 1, 1) := by decide +kernel
theorem dX2_isZero_10 : decode cX2_isZero 10 = .ok (.goto 4, 3) := by decide +kernel
theorem dX2_isZero_13 : decode cX2_isZero 13 = .ok (.iconst 0, 1) := by decide +kernel
theorem dX2_isZero_14 : decode cX2_isZero 14 = .ok (.ireturn, 1) := by decide +kernel
theorem dX2_isSame_0 : decode cX2_isSame 0 = .ok (.aload_n 0, 1) := by decide +kernel
theorem dX2_isSame_1 : decode cX2_isSame 1 = .ok (.arraylength, 1) := by decide +kernel
theorem dX2_isSame_2 : decode cX2_isSame 2 = .ok (.aload_n 1, 1) := by decide +kernel
theorem dX2_isSame_3 : decode cX2_isSame 3 = .ok (.arraylength, 1) := by decide +kernel
theorem dX2_isSame_4 : decode cX2_isSame 4 = .ok (.if_icmp .eq 5, 3) := by decide +kernel
theorem dX2_isSame_7 : decode cX2_isSame 7 = .ok (.iconst 0, 1) := by decide +kernel
theorem dX2_isSame_8 : decode cX2_isSame 8 = .ok (.ireturn, 1) := by decide +kernel
theorem dX2_isSame_9 : decode cX2_isSame 9 = .ok (.iconst 0, 1) := by decide +kernel
theorem dX2_isSame_10 : decode cX2_isSame 10 = .ok (.istore_n 2, 1) := by decide +kernel
theorem dX2_isSame_11 : decode cX2_isSame 11 = .ok (.iload_n 2, 1) := by decide +kernel
theorem dX2_isSame_12 : decode cX2_isSame 12 = .ok (.aload_n 0, 1) := by decide +kernel
theorem dX2_isSame_13 : decode cX2_isSame 13 = .ok (.arraylength, 1) := by decide +kernel
theorem dX2_isSame_14 : decode cX2_isSame 14 = .ok (.if_icmp .ge 21, 3) := by decide +kernel
theorem dX2_isSame_17 : decode cX2_isSame 17 = .ok (.aload_n 0, 1) := by decide +kernel
theorem dX2_isSame_18 : decode cX2_isSame 18 = .ok (.iload_n 2, 1) := by decide +kernel
theorem dX2_isSame_19 : decode cX2_isSame 19 = .ok (.laload, 1) := by decide +kernel
theorem dX2_isSame_20 : decode cX2_isSame 20 = .ok (.aload_n 1, 1) := by decide +kernel
theorem dX2_isSame_21 : decode cX2_isSame 21 = .ok (.iload_n 2, 1) := by decide +kernel
theorem dX2_isSame_22 : decode cX2_isSame 22 = .ok (.laload, 1) := by decide +kernel
theorem dX2_isSame_23 : decode cX2_isSame 23 = .ok (.lcmp, 1) := by decide +kernel
theorem dX2_isSame_24 : decode cX2_isSame 24 = .ok (.ifCond .eq 5, 3) := by decide +kernel
theorem dX2_isSame_27 : decode cX2_isSame 27 = .ok (.iconst 0, 1) := by decide +kernel
theorem dX2_isSame_28 : decode cX2_isSame 28 = .ok (.ireturn, 1) := by decide +kernel
theorem dX2_isSame_29 : decode cX2_isSame 29 = .ok (.iinc 2 1, 3) := by decide +kernel
theorem dX2_isSame_32 : decode cX2_isSame 32 = .ok (.goto (-21), 3) := by decide +kernel
theorem dX2_isSame_35 : decode cX2_isSame 35 = .ok (.iconst 1, 1) := by decide +kernel
theorem dX2_isSame_36 : decode cX2_isSame 36 = .ok (.ireturn, 1) := by decide +kernel
theorem dX2_normal_0 : decode cX2_normal 0 = .ok (.aload_n 1, 1) := by decide +kernel
theorem dX2_normal_1 : decode cX2_normal 1 = .ok (.invokestatic 17, 3) := by decide +kernel
theorem dX2_normal_4 : decode cX2_normal 4 = .ok (.istore_n 2, 1) := by decide +kernel
theorem dX2_normal_5 : decode cX2_normal 5 = .ok (.aload_n 1, 1) := by decide +kernel
theorem dX2_normal_6 : decode cX2_normal 6 = .ok (.invokevirtual 21, 3) := by decide +kernel
theorem dX2_normal_9 : decode cX2_normal 9 = .ok (.checkcast 22, 3) := by decide +kernel
theorem dX2_normal_12 : decode cX2_normal 12 = .ok (.astore_n 3, 1) := by decide +kernel
theorem dX2_normal_13 : decode cX2_normal 13 = .ok (.iload_n 2, 1) := by decide +kernel
theorem dX2_normal_14 : decode cX2_normal 14 = .ok (.aload_n 1, 1) := by decide +kernel
theorem dX2_normal_15 : decode cX2_normal 15 = .ok (.arraylength, 1) := by decide +kernel
theorem dX2_normal_16 : decode cX2_normal 16 = .ok (.if_icmp .ge 26, 3) := by decide +kernel
theorem dX2_normal_19 : decode cX2_normal 19 = .ok (.aload_n 1, 1) := by decide +kernel
theorem dX2_normal_20 : decode cX2_normal 20 = .ok (.iload_n 2, 1) := by decide +kernel
theorem dX2_normal_21 : decode cX2_normal 21 = .ok (.laload, 1) := by decide +kernel
theorem dX2_normal_22 : decode cX2_normal 22 = .ok (.lconst 1, 1) := by decide +kernel
theorem dX2_normal_23 : decode cX2_normal 23 = .ok (.lcmp, 1) := by decide +kernel
theorem dX2_normal_24 : decode cX2_normal 24 = .ok (.ifCond .eq 18, 3) := by decide +kernel
theorem dX2_normal_27 : decode cX2_normal 27 = .ok (.aload_n 0, 1) := by decide +kernel
theorem dX2_normal_28 : decode cX2_normal 28 = .ok (.aload_n 3, 1) := by decide +kernel
theorem dX2_normal_29 : decode cX2_normal 29 = .ok (.aload_n 0, 1) := by decide +kernel
theorem dX2_normal_30 : decode cX2_normal 30 = .ok (.getfield 7, 3) := by decide +kernel
theorem dX2_normal_33 : decode cX2_normal 33 = .ok (.aload_n 1, 1) := by decide +kernel
theorem dX2_normal_34 : decode cX2_normal 34 = .ok (.iload_n 2, 1) := by decide +kernel
theorem dX2_normal_35 : decode cX2_normal 35 = .ok (.laload, 1) := by decide +kernel
theorem dX2_normal_36 : decode cX2_normal 36 = .ok (.invokevirtual 27, 3) := by decide +kernel
theorem dX2_normal_39 : decode cX2_normal 39 = .ok (.invokevirtual 33, 3) := by decide +kernel
theorem dX2_normal_42 : decode cX2_normal 42 = .ok (.aload_n 3, 1) := by decide +kernel
theorem dX2_normal_43 : decode cX2_normal 43 = .ok (.areturn, 1) := by decide +kernel
theorem dX2_scale_0 : decode cX2_scale 0 = .ok (.iconst 0, 1) := by decide +kernel
theorem dX2_scale_1 : decode cX2_scale 1 = .ok (.istore 4, 2) := by decide +kernel
theorem dX2_scale_3 : decode cX2_scale 3 = .ok (.iload 4, 2) := by decide +kernel
theorem dX2_scale_5 : decode cX2_scale 5 = .ok (.aload_n 1, 1) := by decide +kernel
theorem dX2_scale_6 : decode cX2_scale 6 = .ok (.arraylength, 1) := by decide +kernel
theorem dX2_scale_7 : decode cX2_scale 7 = .ok (.if_icmp .ge 25, 3) := by decide +kernel
theorem dX2_scale_10 : decode cX2_scale 10 = .ok (.aload_n 1, 1) := by decide +kernel
theorem dX2_scale_11 : decode cX2_scale 11 = .ok (.iload 4, 2) := by decide +kernel
theorem dX2_scale_13 : decode cX2_scale 13 = .ok (.aload_n 0, 1) := by decide +kernel
theorem dX2_scale_14 : decode cX2_scale 14 = .ok (.getfield 7, 3) := by decide +kernel
theorem dX2_scale_17 : decode cX2_scale 17 = .ok (.aload_n 1, 1) := by decide +kernel
theorem dX2_scale_18 : decode cX2_scale 18 = .ok (.iload 4, 2) := by decide +kernel
theorem dX2_scale_20 : decode cX2_scale 20 = .ok (.laload, 1) := by decide +kernel
theorem dX2_scale_21 : decode cX2_scale 21 = .ok (.lload_n 2, 1) := by decide +kernel
theorem dX2_scale_22 : decode cX2_scale 22 = .ok (.invokevirtual 37, 3) := by decide +kernel
theorem dX2_scale_25 : decode cX2_scale 25 = .ok (.lastore, 1) := by decide +kernel
theorem dX2_scale_26 : decode cX2_scale 26 = .ok (.iinc 4 1, 3) := by decide +kernel
theorem dX2_scale_29 : decode cX2_scale 29 = .ok (.goto (-26), 3) := by decide +kernel
theorem dX2_scale_32 : decode cX2_scale 32 = .ok (.return_, 1) := by decide +kernel
theorem dX2_dot_0 : decode cX2_dot 0 = .ok (.lconst 0, 1) := by decide +kernel
theorem dX2_dot_1 : decode cX2_dot 1 = .ok (.lstore_n 3, 1) := by decide +kernel
theorem dX2_dot_2 : decode cX2_dot 2 = .ok (.iconst 0, 1) := by decide +kernel
theorem dX2_dot_3 : decode cX2_dot 3 = .ok (.istore 5, 2) := by decide +kernel
theorem dX2_dot_5 : decode cX2_dot 5 = .ok (.iload 5, 2) := by decide +kernel
theorem dX2_dot_7 : decode cX2_dot 7 = .ok (.aload_n 1, 1) := by decide +kernel
theorem dX2_dot_8 : decode cX2_dot 8 = .ok (.arraylength, 1) := by decide +kernel
theorem dX2_dot_9 : decode cX2_dot 9 = .ok (.if_icmp .ge 40, 3) := by decide +kernel
theorem dX2_dot_12 : decode cX2_dot 12 = .ok (.iload 5, 2) := by decide +kernel
theorem dX2_dot_14 : decode cX2_dot 14 = .ok (.aload_n 2, 1) := by decide +kernel
theorem dX2_dot_15 : decode cX2_dot 15 = .ok (.arraylength, 1) := by decide +kernel
theorem dX2_dot_16 : decode cX2_dot 16 = .ok (.if_icmp .ge 33, 3) := by decide +kernel
theorem dX2_dot_19 : decode cX2_dot 19 = .ok (.aload_n 0, 1) := by decide +kernel
theorem dX2_dot_20 : decode cX2_dot 20 = .ok (.getfield 7, 3) := by decide +kernel
theorem dX2_dot_23 : decode cX2_dot 23 = .ok (.lload_n 3, 1) := by decide +kernel
theorem dX2_dot_24 : decode cX2_dot 24 = .ok (.aload_n 0, 1) := by decide +kernel
theorem dX2_dot_25 : decode cX2_dot 25 = .ok (.getfield 7, 3) := by decide +kernel
theorem dX2_dot_28 : decode cX2_dot 28 = .ok (.aload_n 1, 1) := by decide +kernel
theorem dX2_dot_29 : decode cX2_dot 29 = .ok (.iload 5, 2) := by decide +kernel
theorem dX2_dot_31 : decode cX2_dot 31 = .ok (.laload, 1) := by decide +kernel
theorem dX2_dot_32 : decode cX2_dot 32 = .ok (.aload_n 2, 1) := by decide +kernel
theorem dX2_dot_33 : decode cX2_dot 33 = .ok (.iload 5, 2) := by decide +kernel
theorem dX2_dot_35 : decode cX2_dot 35 = .ok (.laload, 1) := by decide +kernel
theorem dX2_dot_36 : decode cX2_dot 36 = .ok (.invokevirtual 37, 3) := by decide +kernel
theorem dX2_dot_39 : decode cX2_dot 39 = .ok (.invokevirtual 41, 3) := by decide +kernel
theorem dX2_dot_42 : decode cX2_dot 42 = .ok (.lstore_n 3, 1) := by decide +kernel
theorem dX2_dot_43 : decode cX2_dot 43 = .ok (.iinc 5 1, 3) := by decide +kernel
theorem dX2_dot_46 : decode cX2_dot 46 = .ok (.goto (-41), 3) := by decide +kernel
theorem dX2_dot_49 : decode cX2_dot 49 = .ok (.lload_n 3, 1) := by decide +kernel
theorem dX2_dot_50 : decode cX2_dot 50 = .ok (.lreturn, 1) := by decide +kernel
theorem dX2_sum_0 : decode cX2_sum 0 = .ok (.aload_n 0, 1) := by decide +kernel
theorem dX2_sum_1 : decode cX2_sum 1 = .ok (.getfield 13, 3) := by decide +kernel
theorem dX2_sum_4 : decode cX2_sum 4 = .ok (.newarray .long, 2) := by decide +kernel
theorem dX2_sum_6 : decode cX2_sum 6 = .ok (.astore 7, 2) := by decide +kernel
theorem dX2_sum_8 : decode cX2_sum 8 = .ok (.iconst 0, 1) := by decide +kernel
theorem dX2_sum_9 : decode cX2_sum 9 = .ok (.istore 8, 2) := by decide +kernel
theorem dX2_sum_11 : decode cX2_sum 11 = .ok (.iload 8, 2) := by decide +kernel
theorem dX2_sum_13 : decode cX2_sum 13 = .ok (.aload_n 0, 1) := by decide +kernel
theorem dX2_sum_14 : decode cX2_sum 14 = .ok (.getfield 13, 3) := by decide +kernel
theorem dX2_sum_17 : decode cX2_sum 17 = .ok (.if_icmp .ge 47, 3) := by decide +kernel
theorem dX2_sum_20 : decode cX2_sum 20 = .ok (.aload 7, 2) := by decide +kernel
theorem dX2_sum_22 : decode cX2_sum 22 = .ok (.iload 8, 2) := by decide +kernel
theorem dX2_sum_24 : decode cX2_sum 24 = .ok (.aload_n 0, 1) := by decide +kernel
theorem dX2_sum_25 : decode cX2_sum 25 = .ok (.getfield 7, 3) := by decide +kernel
theorem dX2_sum_28 : decode cX2_sum 28 = .ok (.aload_n 0, 1) := by decide +kernel
theorem dX2_sum_29 : decode cX2_sum 29 = .ok (.getfield 7, 3) := by decide +kernel
theorem dX2_sum_32 : decode cX2_sum 32 = .ok (.lload_n 1, 1) := by decide +kernel
theorem dX2_sum_33 : decode cX2_sum 33 = .ok (.aload_n 3, 1) := by decide +kernel
theorem dX2_sum_34 : decode cX2_sum 34 = .ok (.iload 8, 2) := by decide +kernel
theorem dX2_sum_36 : decode cX2_sum 36 = .ok (.laload, 1) := by decide +kernel
theorem dX2_sum_37 : decode cX2_sum 37 = .ok (.invokevirtual 37, 3) := by decide +kernel
theorem dX2_sum_40 : decode cX2_sum 40 = .ok (.aload_n 0, 1) := by decide +kernel
theorem dX2_sum_41 : decode cX2_sum 41 = .ok (.getfield 7, 3) := by decide +kernel
theorem dX2_sum_44 : decode cX2_sum 44 = .ok (.lload 4, 2) := by decide +kernel
theorem dX2_sum_46 : decode cX2_sum 46 = .ok (.aload 6, 2) := by decide +kernel
theorem dX2_sum_48 : decode cX2_sum 48 = .ok (.iload 8, 2) := by decide +kernel
theorem dX2_sum_50 : decode cX2_sum 50 = .ok (.laload, 1) := by decide +kernel
theorem dX2_sum_51 : decode cX2_sum 51 = .ok (.invokevirtual 37, 3) := by decide +kernel
theorem dX2_sum_54 : decode cX2_sum 54 = .ok (.invokevirtual 41, 3) := by decide +kernel
theorem dX2_sum_57 : decode cX2_sum 57 = .ok (.lastore, 1) := by decide +kernel
theorem dX2_sum_58 : decode cX2_sum 58 = .ok (.iinc 8 1, 3) := by decide +kernel
theorem dX2_sum_61 : decode cX2_sum 61 = .ok (.goto (-50), 3) := by decide +kernel
theorem dX2_sum_64 : decode cX2_sum 64 = .ok (.aload 7, 2) := by decide +kernel
theorem dX2_sum_66 : decode cX2_sum 66 = .ok (.areturn, 1) := by decide +kernel
theorem dX2_image_0 : decode cX2_image 0 = .ok (.aload_n 0, 1) := by decide +kernel
theorem dX2_image_1 : decode cX2_image 1 = .ok (.getfield 13, 3) := by decide +kernel
theorem dX2_image_4 : decode cX2_image 4 = .ok (.newarray .long, 2) := by decide +kernel
theorem dX2_image_6 : decode cX2_image 6 = .ok (.astore_n 3, 1) := by decide +kernel
theorem dX2_image_7 : decode cX2_image 7 = .ok (.aload_n 0, 1) := by decide +kernel
theorem dX2_image_8 : decode cX2_image 8 = .ok (.aload_n 3, 1) := by decide +kernel
theorem dX2_image_9 : decode cX2_image 9 = .ok (.aload_n 1, 1) := by decide +kernel
theorem dX2_image_10 : decode cX2_image 10 = .ok (.aload_n 2, 1) := by decide +kernel
theorem dX2_image_11 : decode cX2_image 11 = .ok (.invokevirtual 44, 3) := by decide +kernel
theorem dX2_image_14 : decode cX2_image 14 = .ok (.aload_n 3, 1) := by decide +kernel
theorem dX2_image_15 : decode cX2_image 15 = .ok (.areturn, 1) := by decide +kernel
theorem dX2_imageInto_0 : decode cX2_imageInto 0 = .ok (.iconst 0, 1) := by decide +kernel
theorem dX2_imageInto_1 : decode cX2_imageInto 1 = .ok (.istore 4, 2) := by decide +kernel
theorem dX2_imageInto_3 : decode cX2_imageInto 3 = .ok (.iload 4, 2) := by decide +kernel
theorem dX2_imageInto_5 : decode cX2_imageInto 5 = .ok (.aload_n 0, 1) := by decide +kernel
theorem dX2_imageInto_6 : decode cX2_imageInto 6 = .ok (.getfield 13, 3) := by decide +kernel
theorem dX2_imageInto_9 : decode cX2_imageInto 9 = .ok (.if_icmp .ge 70, 3) := by decide +kernel
theorem dX2_imageInto_12 : decode cX2_imageInto 12 = .ok (.lconst 0, 1) := by decide +kernel
theorem dX2_imageInto_13 : decode cX2_imageInto 13 = .ok (.lstore 5, 2) := by decide +kernel
theorem dX2_imageInto_15 : decode cX2_imageInto 15 = .ok (.iconst 0, 1) := by decide +kernel
theorem dX2_imageInto_16 : decode cX2_imageInto 16 = .ok (.istore 7, 2) := by decide +kernel
theorem dX2_imageInto_18 : decode cX2_imageInto 18 = .ok (.iload 7, 2) := by decide +kernel
theorem dX2_imageInto_20 : decode cX2_imageInto 20 = .ok (.aload_n 0, 1) := by decide +kernel
theorem dX2_imageInto_21 : decode cX2_imageInto 21 = .ok (.getfield 13, 3) := by decide +kernel
theorem dX2_imageInto_24 : decode cX2_imageInto 24 = .ok (.if_icmp .ge 43, 3) := by decide +kernel
theorem dX2_imageInto_27 : decode cX2_imageInto 27 = .ok (.aload_n 0, 1) := by decide +kernel
theorem dX2_imageInto_28 : decode cX2_imageInto 28 = .ok (.getfield 7, 3) := by decide +kernel
theorem dX2_imageInto_31 : decode cX2_imageInto 31 = .ok (.lload 5, 2) := by decide +kernel
theorem dX2_imageInto_33 : decode cX2_imageInto 33 = .ok (.aload_n 0, 1) := by decide +kernel
theorem dX2_imageInto_34 : decode cX2_imageInto 34 = .ok (.getfield 7, 3) := by decide +kernel
theorem dX2_imageInto_37 : decode cX2_imageInto 37 = .ok (.aload_n 2, 1) := by decide +kernel
theorem dX2_imageInto_38 : decode cX2_imageInto 38 = .ok (.iload 4, 2) := by decide +kernel
theorem dX2_imageInto_40 : decode cX2_imageInto 40 = .ok (.aload_n 0, 1) := by decide +kernel
theorem dX2_imageInto_41 : decode cX2_imageInto 41 = .ok (.getfield 13, 3) := by decide +kernel
theorem dX2_imageInto_44 : decode cX2_imageInto 44 = .ok (.imul, 1) := by decide +kernel
theorem dX2_imageInto_45 : decode cX2_imageInto 45 = .ok (.iload 7, 2) := by decide +kernel
theorem dX2_imageInto_47 : decode cX2_imageInto 47 = .ok (.iadd, 1) := by decide +kernel
theorem dX2_imageInto_48 : decode cX2_imageInto 48 = .ok (.laload, 1) := by decide +kernel
theorem dX2_imageInto_49 : decode cX2_imageInto 49 = .ok (.aload_n 3, 1) := by decide +kernel
theorem dX2_imageInto_50 : decode cX2_imageInto 50 = .ok (.iload 7, 2) := by decide +kernel
theorem dX2_imageInto_52 : decode cX2_imageInto 52 = .ok (.laload, 1) := by decide +kernel
theorem dX2_imageInto_53 : decode cX2_imageInto 53 = .ok (.invokevirtual 37, 3) := by decide +kernel
theorem dX2_imageInto_56 : decode cX2_imageInto 56 = .ok (.invokevirtual 41, 3) := by decide +kernel
theorem dX2_imageInto_59 : decode cX2_imageInto 59 = .ok (.lstore 5, 2) := by decide +kernel
theorem dX2_imageInto_61 : decode cX2_imageInto 61 = .ok (.iinc 7 1, 3) := by decide +kernel
theorem dX2_imageInto_64 : decode cX2_imageInto 64 = .ok (.goto (-46), 3) := by decide +kernel
theorem dX2_imageInto_67 : decode cX2_imageInto 67 = .ok (.aload_n 1, 1) := by decide +kernel
theorem dX2_imageInto_68 : decode cX2_imageInto 68 = .ok (.iload 4, 2) := by decide +kernel
theorem dX2_imageInto_70 : decode cX2_imageInto 70 = .ok (.lload 5, 2) := by decide +kernel
theorem dX2_imageInto_72 : decode cX2_imageInto 72 = .ok (.lastore, 1) := by decide +kernel
theorem dX2_imageInto_73 : decode cX2_imageInto 73 = .ok (.iinc 4 1, 3) := by decide +kernel
theorem dX2_imageInto_76 : decode cX2_imageInto 76 = .ok (.goto (-73), 3) := by decide +kernel
theorem dX2_imageInto_79 : decode cX2_imageInto 79 = .ok (.return_, 1) := by decide +kernel
theorem dX2_form_0 : decode cX2_form 0 = .ok (.aload_n 0, 1) := by decide +kernel
theorem dX2_form_1 : decode cX2_form 1 = .ok (.aload_n 2, 1) := by decide +kernel
theorem dX2_form_2 : decode cX2_form 2 = .ok (.aload_n 0, 1) := by decide +kernel
theorem dX2_form_3 : decode cX2_form 3 = .ok (.aload_n 1, 1) := by decide +kernel
theorem dX2_form_4 : decode cX2_form 4 = .ok (.aload_n 3, 1) := by decide +kernel
theorem dX2_form_5 : decode cX2_form 5 = .ok (.invokevirtual 48, 3) := by decide +kernel
theorem dX2_form_8 : decode cX2_form 8 = .ok (.invokevirtual 52, 3) := by decide +kernel
theorem dX2_form_11 : decode cX2_form 11 = .ok (.lreturn, 1) := by decide +kernel
theorem dX2_turned_0 : decode cX2_turned 0 = .ok (.aload_n 0, 1) := by decide +kernel
theorem dX2_turned_1 : decode cX2_turned 1 = .ok (.getfield 13, 3) := by decide +kernel
theorem dX2_turned_4 : decode cX2_turned 4 = .ok (.aload_n 0, 1) := by decide +kernel
theorem dX2_turned_5 : decode cX2_turned 5 = .ok (.getfield 13, 3) := by decide +kernel
theorem dX2_turned_8 : decode cX2_turned 8 = .ok (.imul, 1) := by decide +kernel
theorem dX2_turned_9 : decode cX2_turned 9 = .ok (.newarray .long, 2) := by decide +kernel
theorem dX2_turned_11 : decode cX2_turned 11 = .ok (.astore_n 2, 1) := by decide +kernel
theorem dX2_turned_12 : decode cX2_turned 12 = .ok (.iconst 0, 1) := by decide +kernel
theorem dX2_turned_13 : decode cX2_turned 13 = .ok (.istore_n 3, 1) := by decide +kernel
theorem dX2_turned_14 : decode cX2_turned 14 = .ok (.iload_n 3, 1) := by decide +kernel
theorem dX2_turned_15 : decode cX2_turned 15 = .ok (.aload_n 0, 1) := by decide +kernel
theorem dX2_turned_16 : decode cX2_turned 16 = .ok (.getfield 13, 3) := by decide +kernel
theorem dX2_turned_19 : decode cX2_turned 19 = .ok (.if_icmp .ge 49, 3) := by decide +kernel
theorem dX2_turned_22 : decode cX2_turned 22 = .ok (.iconst 0, 1) := by decide +kernel
theorem dX2_turned_23 : decode cX2_turned 23 = .ok (.istore 4, 2) := by decide +kernel
theorem dX2_turned_25 : decode cX2_turned 25 = .ok (.iload 4, 2) := by decide +kernel
theorem dX2_turned_27 : decode cX2_turned 27 = .ok (.aload_n 0, 1) := by decide +kernel
theorem dX2_turned_28 : decode cX2_turned 28 = .ok (.getfield 13, 3) := by decide +kernel
theorem dX2_turned_31 : decode cX2_turned 31 = .ok (.if_icmp .ge 31, 3) := by decide +kernel
theorem dX2_turned_34 : decode cX2_turned 34 = .ok (.aload_n 2, 1) := by decide +kernel
theorem dX2_turned_35 : decode cX2_turned 35 = .ok (.iload 4, 2) := by decide +kernel
theorem dX2_turned_37 : decode cX2_turned 37 = .ok (.aload_n 0, 1) := by decide +kernel
theorem dX2_turned_38 : decode cX2_turned 38 = .ok (.getfield 13, 3) := by decide +kernel
theorem dX2_turned_41 : decode cX2_turned 41 = .ok (.imul, 1) := by decide +kernel
theorem dX2_turned_42 : decode cX2_turned 42 = .ok (.iload_n 3, 1) := by decide +kernel
theorem dX2_turned_43 : decode cX2_turned 43 = .ok (.iadd, 1) := by decide +kernel
theorem dX2_turned_44 : decode cX2_turned 44 = .ok (.aload_n 1, 1) := by decide +kernel
theorem dX2_turned_45 : decode cX2_turned 45 = .ok (.iload_n 3, 1) := by decide +kernel
theorem dX2_turned_46 : decode cX2_turned 46 = .ok (.aload_n 0, 1) := by decide +kernel
theorem dX2_turned_47 : decode cX2_turned 47 = .ok (.getfield 13, 3) := by decide +kernel
theorem dX2_turned_50 : decode cX2_turned 50 = .ok (.imul, 1) := by decide +kernel
theorem dX2_turned_51 : decode cX2_turned 51 = .ok (.iload 4, 2) := by decide +kernel
theorem dX2_turned_53 : decode cX2_turned 53 = .ok (.iadd, 1) := by decide +kernel
theorem dX2_turned_54 : decode cX2_turned 54 = .ok (.laload, 1) := by decide +kernel
theorem dX2_turned_55 : decode cX2_turned 55 = .ok (.lastore, 1) := by decide +kernel
theorem dX2_turned_56 : decode cX2_turned 56 = .ok (.iinc 4 1, 3) := by decide +kernel
theorem dX2_turned_59 : decode cX2_turned 59 = .ok (.goto (-34), 3) := by decide +kernel
theorem dX2_turned_62 : decode cX2_turned 62 = .ok (.iinc 3 1, 3) := by decide +kernel
theorem dX2_turned_65 : decode cX2_turned 65 = .ok (.goto (-51), 3) := by decide +kernel
theorem dX2_turned_68 : decode cX2_turned 68 = .ok (.aload_n 2, 1) := by decide +kernel
theorem dX2_turned_69 : decode cX2_turned 69 = .ok (.areturn, 1) := by decide +kernel
theorem dX2_product_0 : decode cX2_product 0 = .ok (.aload_n 0, 1) := by decide +kernel
theorem dX2_product_1 : decode cX2_product 1 = .ok (.getfield 13, 3) := by decide +kernel
theorem dX2_product_4 : decode cX2_product 4 = .ok (.aload_n 0, 1) := by decide +kernel
theorem dX2_product_5 : decode cX2_product 5 = .ok (.getfield 13, 3) := by decide +kernel
theorem dX2_product_8 : decode cX2_product 8 = .ok (.imul, 1) := by decide +kernel
theorem dX2_product_9 : decode cX2_product 9 = .ok (.newarray .long, 2) := by decide +kernel
theorem dX2_product_11 : decode cX2_product 11 = .ok (.astore_n 3, 1) := by decide +kernel
theorem dX2_product_12 : decode cX2_product 12 = .ok (.iconst 0, 1) := by decide +kernel
theorem dX2_product_13 : decode cX2_product 13 = .ok (.istore 4, 2) := by decide +kernel
theorem dX2_product_15 : decode cX2_product 15 = .ok (.iload 4, 2) := by decide +kernel
theorem dX2_product_17 : decode cX2_product 17 = .ok (.aload_n 0, 1) := by decide +kernel
theorem dX2_product_18 : decode cX2_product 18 = .ok (.getfield 13, 3) := by decide +kernel
theorem dX2_product_21 : decode cX2_product 21 = .ok (.if_icmp .ge 104, 3) := by decide +kernel
theorem dX2_product_24 : decode cX2_product 24 = .ok (.iconst 0, 1) := by decide +kernel
theorem dX2_product_25 : decode cX2_product 25 = .ok (.istore 5, 2) := by decide +kernel
theorem dX2_product_27 : decode cX2_product 27 = .ok (.iload 5, 2) := by decide +kernel
theorem dX2_product_29 : decode cX2_product 29 = .ok (.aload_n 0, 1) := by decide +kernel
theorem dX2_product_30 : decode cX2_product 30 = .ok (.getfield 13, 3) := by decide +kernel
theorem dX2_product_33 : decode cX2_product 33 = .ok (.if_icmp .ge 86, 3) := by decide +kernel
theorem dX2_product_36 : decode cX2_product 36 = .ok (.lconst 0, 1) := by decide +kernel
theorem dX2_product_37 : decode cX2_product 37 = .ok (.lstore 6, 2) := by decide +kernel
theorem dX2_product_39 : decode cX2_product 39 = .ok (.iconst 0, 1) := by decide +kernel
theorem dX2_product_40 : decode cX2_product 40 = .ok (.istore 8, 2) := by decide +kernel
theorem dX2_product_42 : decode cX2_product 42 = .ok (.iload 8, 2) := by decide +kernel
theorem dX2_product_44 : decode cX2_product 44 = .ok (.aload_n 0, 1) := by decide +kernel
theorem dX2_product_45 : decode cX2_product 45 = .ok (.getfield 13, 3) := by decide +kernel
theorem dX2_product_48 : decode cX2_product 48 = .ok (.if_icmp .ge 51, 3) := by decide +kernel
theorem dX2_product_51 : decode cX2_product 51 = .ok (.aload_n 0, 1) := by decide +kernel
theorem dX2_product_52 : decode cX2_product 52 = .ok (.getfield 7, 3) := by decide +kernel
theorem dX2_product_55 : decode cX2_product 55 = .ok (.lload 6, 2) := by decide +kernel
theorem dX2_product_57 : decode cX2_product 57 = .ok (.aload_n 0, 1) := by decide +kernel
theorem dX2_product_58 : decode cX2_product 58 = .ok (.getfield 7, 3) := by decide +kernel
theorem dX2_product_61 : decode cX2_product 61 = .ok (.aload_n 1, 1) := by decide +kernel
theorem dX2_product_62 : decode cX2_product 62 = .ok (.iload 4, 2) := by decide +kernel
theorem dX2_product_64 : decode cX2_product 64 = .ok (.aload_n 0, 1) := by decide +kernel
theorem dX2_product_65 : decode cX2_product 65 = .ok (.getfield 13, 3) := by decide +kernel
theorem dX2_product_68 : decode cX2_product 68 = .ok (.imul, 1) := by decide +kernel
theorem dX2_product_69 : decode cX2_product 69 = .ok (.iload 8, 2) := by decide +kernel
theorem dX2_product_71 : decode cX2_product 71 = .ok (.iadd, 1) := by decide +kernel
theorem dX2_product_72 : decode cX2_product 72 = .ok (.laload, 1) := by decide +kernel
theorem dX2_product_73 : decode cX2_product 73 = .ok (.aload_n 2, 1) := by decide +kernel
theorem dX2_product_74 : decode cX2_product 74 = .ok (.iload 8, 2) := by decide +kernel
theorem dX2_product_76 : decode cX2_product 76 = .ok (.aload_n 0, 1) := by decide +kernel
theorem dX2_product_77 : decode cX2_product 77 = .ok (.getfield 13, 3) := by decide +kernel
theorem dX2_product_80 : decode cX2_product 80 = .ok (.imul, 1) := by decide +kernel
theorem dX2_product_81 : decode cX2_product 81 = .ok (.iload 5, 2) := by decide +kernel
theorem dX2_product_83 : decode cX2_product 83 = .ok (.iadd, 1) := by decide +kernel
theorem dX2_product_84 : decode cX2_product 84 = .ok (.laload, 1) := by decide +kernel
theorem dX2_product_85 : decode cX2_product 85 = .ok (.invokevirtual 37, 3) := by decide +kernel
theorem dX2_product_88 : decode cX2_product 88 = .ok (.invokevirtual 41, 3) := by decide +kernel
theorem dX2_product_91 : decode cX2_product 91 = .ok (.lstore 6, 2) := by decide +kernel
theorem dX2_product_93 : decode cX2_product 93 = .ok (.iinc 8 1, 3) := by decide +kernel
theorem dX2_product_96 : decode cX2_product 96 = .ok (.goto (-54), 3) := by decide +kernel
theorem dX2_product_99 : decode cX2_product 99 = .ok (.aload_n 3, 1) := by decide +kernel
theorem dX2_product_100 : decode cX2_product 100 = .ok (.iload 4, 2) := by decide +kernel
theorem dX2_product_102 : decode cX2_product 102 = .ok (.aload_n 0, 1) := by decide +kernel
theorem dX2_product_103 : decode cX2_product 103 = .ok (.getfield 13, 3) := by decide +kernel
theorem dX2_product_106 : decode cX2_product 106 = .ok (.imul, 1) := by decide +kernel
theorem dX2_product_107 : decode cX2_product 107 = .ok (.iload 5, 2) := by decide +kernel
theorem dX2_product_109 : decode cX2_product 109 = .ok (.iadd, 1) := by decide +kernel
theorem dX2_product_110 : decode cX2_product 110 = .ok (.lload 6, 2) := by decide +kernel
theorem dX2_product_112 : decode cX2_product 112 = .ok (.lastore, 1) := by decide +kernel
theorem dX2_product_113 : decode cX2_product 113 = .ok (.iinc 5 1, 3) := by decide +kernel
theorem dX2_product_116 : decode cX2_product 116 = .ok (.goto (-89), 3) := by decide +kernel
theorem dX2_product_119 : decode cX2_product 119 = .ok (.iinc 4 1, 3) := by decide +kernel
theorem dX2_product_122 : decode cX2_product 122 = .ok (.goto (-107), 3) := by decide +kernel
theorem dX2_product_125 : decode cX2_product 125 = .ok (.aload_n 3, 1) := by decide +kernel
theorem dX2_product_126 : decode cX2_product 126 = .ok (.areturn, 1) := by decide +kernel
theorem dX2_power_0 : decode cX2_power 0 = .ok (.aload_n 1, 1) := by decide +kernel
theorem dX2_power_1 : decode cX2_power 1 = .ok (.astore_n 3, 1) := by decide +kernel
theorem dX2_power_2 : decode cX2_power 2 = .ok (.aload_n 1, 1) := by decide +kernel
theorem dX2_power_3 : decode cX2_power 3 = .ok (.astore 4, 2) := by decide +kernel
theorem dX2_power_5 : decode cX2_power 5 = .ok (.iload_n 2, 1) := by decide +kernel
theorem dX2_power_6 : decode cX2_power 6 = .ok (.iconst 1, 1) := by decide +kernel
theorem dX2_power_7 : decode cX2_power 7 = .ok (.isub, 1) := by decide +kernel
theorem dX2_power_8 : decode cX2_power 8 = .ok (.istore 5, 2) := by decide +kernel
theorem dX2_power_10 : decode cX2_power 10 = .ok (.iload 5, 2) := by decide +kernel
theorem dX2_power_12 : decode cX2_power 12 = .ok (.ifCond .le 38, 3) := by decide +kernel
theorem dX2_power_15 : decode cX2_power 15 = .ok (.iload 5, 2) := by decide +kernel
theorem dX2_power_17 : decode cX2_power 17 = .ok (.iconst 1, 1) := by decide +kernel
theorem dX2_power_18 : decode cX2_power 18 = .ok (.iand, 1) := by decide +kernel
theorem dX2_power_19 : decode cX2_power 19 = .ok (.iconst 1, 1) := by decide +kernel
theorem dX2_power_20 : decode cX2_power 20 = .ok (.if_icmp .ne 11, 3) := by decide +kernel
theorem dX2_power_23 : decode cX2_power 23 = .ok (.aload_n 0, 1) := by decide +kernel
theorem dX2_power_24 : decode cX2_power 24 = .ok (.aload_n 3, 1) := by decide +kernel
theorem dX2_power_25 : decode cX2_power 25 = .ok (.aload 4, 2) := by decide +kernel
theorem dX2_power_27 : decode cX2_power 27 = .ok (.invokevirtual 56, 3) := by decide +kernel
theorem dX2_power_30 : decode cX2_power 30 = .ok (.astore_n 3, 1) := by decide +kernel
theorem dX2_power_31 : decode cX2_power 31 = .ok (.aload_n 0, 1) := by decide +kernel
theorem dX2_power_32 : decode cX2_power 32 = .ok (.aload 4, 2) := by decide +kernel
theorem dX2_power_34 : decode cX2_power 34 = .ok (.aload 4, 2) := by decide +kernel
theorem dX2_power_36 : decode cX2_power 36 = .ok (.invokevirtual 56, 3) := by decide +kernel
theorem dX2_power_39 : decode cX2_power 39 = .ok (.astore 4, 2) := by decide +kernel
theorem dX2_power_41 : decode cX2_power 41 = .ok (.iload 5, 2) := by decide +kernel
theorem dX2_power_43 : decode cX2_power 43 = .ok (.iconst 1, 1) := by decide +kernel
theorem dX2_power_44 : decode cX2_power 44 = .ok (.ishr, 1) := by decide +kernel
theorem dX2_power_45 : decode cX2_power 45 = .ok (.istore 5, 2) := by decide +kernel
theorem dX2_power_47 : decode cX2_power 47 = .ok (.goto (-37), 3) := by decide +kernel
theorem dX2_power_50 : decode cX2_power 50 = .ok (.aload_n 3, 1) := by decide +kernel
theorem dX2_power_51 : decode cX2_power 51 = .ok (.areturn, 1) := by decide +kernel
theorem dX2_inverted_0 : decode cX2_inverted 0 = .ok (.aload_n 0, 1) := by decide +kernel
theorem dX2_inverted_1 : decode cX2_inverted 1 = .ok (.aload_n 1, 1) := by decide +kernel
theorem dX2_inverted_2 : decode cX2_inverted 2 = .ok (.iconst 2, 1) := by decide +kernel
theorem dX2_inverted_3 : decode cX2_inverted 3 = .ok (.aload_n 0, 1) := by decide +kernel
theorem dX2_inverted_4 : decode cX2_inverted 4 = .ok (.getfield 13, 3) := by decide +kernel
theorem dX2_inverted_7 : decode cX2_inverted 7 = .ok (.imul, 1) := by decide +kernel
theorem dX2_inverted_8 : decode cX2_inverted 8 = .ok (.invokevirtual 59, 3) := by decide +kernel
theorem dX2_inverted_11 : decode cX2_inverted 11 = .ok (.astore_n 2, 1) := by decide +kernel
theorem dX2_inverted_12 : decode cX2_inverted 12 = .ok (.iconst 0, 1) := by decide +kernel
theorem dX2_inverted_13 : decode cX2_inverted 13 = .ok (.istore_n 3, 1) := by decide +kernel
theorem dX2_inverted_14 : decode cX2_inverted 14 = .ok (.iload_n 3, 1) := by decide +kernel
theorem dX2_inverted_15 : decode cX2_inverted 15 = .ok (.aload_n 0, 1) := by decide +kernel
theorem dX2_inverted_16 : decode cX2_inverted 16 = .ok (.getfield 13, 3) := by decide +kernel
theorem dX2_inverted_19 : decode cX2_inverted 19 = .ok (.if_icmp .ge 20, 3) := by decide +kernel
theorem dX2_inverted_22 : decode cX2_inverted 22 = .ok (.aload_n 2, 1) := by decide +kernel
theorem dX2_inverted_23 : decode cX2_inverted 23 = .ok (.iload_n 3, 1) := by decide +kernel
theorem dX2_inverted_24 : decode cX2_inverted 24 = .ok (.aaload, 1) := by decide +kernel
theorem dX2_inverted_25 : decode cX2_inverted 25 = .ok (.aload_n 0, 1) := by decide +kernel
theorem dX2_inverted_26 : decode cX2_inverted 26 = .ok (.getfield 13, 3) := by decide +kernel
theorem dX2_inverted_29 : decode cX2_inverted 29 = .ok (.iload_n 3, 1) := by decide +kernel
theorem dX2_inverted_30 : decode cX2_inverted 30 = .ok (.iadd, 1) := by decide +kernel
theorem dX2_inverted_31 : decode cX2_inverted 31 = .ok (.lconst 1, 1) := by decide +kernel
theorem dX2_inverted_32 : decode cX2_inverted 32 = .ok (.lastore, 1) := by decide +kernel
theorem dX2_inverted_33 : decode cX2_inverted 33 = .ok (.iinc 3 1, 3) := by decide +kernel
theorem dX2_inverted_36 : decode cX2_inverted 36 = .ok (.goto (-22), 3) := by decide +kernel
theorem dX2_inverted_39 : decode cX2_inverted 39 = .ok (.aload_n 0, 1) := by decide +kernel
theorem dX2_inverted_40 : decode cX2_inverted 40 = .ok (.aload_n 2, 1) := by decide +kernel
theorem dX2_inverted_41 : decode cX2_inverted 41 = .ok (.aload_n 0, 1) := by decide +kernel
theorem dX2_inverted_42 : decode cX2_inverted 42 = .ok (.getfield 13, 3) := by decide +kernel
theorem dX2_inverted_45 : decode cX2_inverted 45 = .ok (.invokevirtual 63, 3) := by decide +kernel
theorem dX2_inverted_48 : decode cX2_inverted 48 = .ok (.aload_n 0, 1) := by decide +kernel
theorem dX2_inverted_49 : decode cX2_inverted 49 = .ok (.getfield 13, 3) := by decide +kernel
theorem dX2_inverted_52 : decode cX2_inverted 52 = .ok (.if_icmp .eq 5, 3) := by decide +kernel
theorem dX2_inverted_55 : decode cX2_inverted 55 = .ok (.aconst_null, 1) := by decide +kernel
theorem dX2_inverted_56 : decode cX2_inverted 56 = .ok (.areturn, 1) := by decide +kernel
theorem dX2_inverted_57 : decode cX2_inverted 57 = .ok (.aload_n 0, 1) := by decide +kernel
theorem dX2_inverted_58 : decode cX2_inverted 58 = .ok (.getfield 13, 3) := by decide +kernel
theorem dX2_inverted_61 : decode cX2_inverted 61 = .ok (.aload_n 0, 1) := by decide +kernel
theorem dX2_inverted_62 : decode cX2_inverted 62 = .ok (.getfield 13, 3) := by decide +kernel
theorem dX2_inverted_65 : decode cX2_inverted 65 = .ok (.imul, 1) := by decide +kernel
theorem dX2_inverted_66 : decode cX2_inverted 66 = .ok (.newarray .long, 2) := by decide +kernel
theorem dX2_inverted_68 : decode cX2_inverted 68 = .ok (.astore_n 3, 1) := by decide +kernel
theorem dX2_inverted_69 : decode cX2_inverted 69 = .ok (.iconst 0, 1) := by decide +kernel
theorem dX2_inverted_70 : decode cX2_inverted 70 = .ok (.istore 4, 2) := by decide +kernel
theorem dX2_inverted_72 : decode cX2_inverted 72 = .ok (.iload 4, 2) := by decide +kernel
theorem dX2_inverted_74 : decode cX2_inverted 74 = .ok (.aload_n 0, 1) := by decide +kernel
theorem dX2_inverted_75 : decode cX2_inverted 75 = .ok (.getfield 13, 3) := by decide +kernel
theorem dX2_inverted_78 : decode cX2_inverted 78 = .ok (.if_icmp .ge 32, 3) := by decide +kernel
theorem dX2_inverted_81 : decode cX2_inverted 81 = .ok (.aload_n 2, 1) := by decide +kernel
theorem dX2_inverted_82 : decode cX2_inverted 82 = .ok (.iload 4, 2) := by decide +kernel
theorem dX2_inverted_84 : decode cX2_inverted 84 = .ok (.aaload, 1) := by decide +kernel
theorem dX2_inverted_85 : decode cX2_inverted 85 = .ok (.aload_n 0, 1) := by decide +kernel
theorem dX2_inverted_86 : decode cX2_inverted 86 = .ok (.getfield 13, 3) := by decide +kernel
theorem dX2_inverted_89 : decode cX2_inverted 89 = .ok (.aload_n 3, 1) := by decide +kernel
theorem dX2_inverted_90 : decode cX2_inverted 90 = .ok (.iload 4, 2) := by decide +kernel
theorem dX2_inverted_92 : decode cX2_inverted 92 = .ok (.aload_n 0, 1) := by decide +kernel
theorem dX2_inverted_93 : decode cX2_inverted 93 = .ok (.getfield 13, 3) := by decide +kernel
theorem dX2_inverted_96 : decode cX2_inverted 96 = .ok (.imul, 1) := by decide +kernel
theorem dX2_inverted_97 : decode cX2_inverted 97 = .ok (.aload_n 0, 1) := by decide +kernel
theorem dX2_inverted_98 : decode cX2_inverted 98 = .ok (.getfield 13, 3) := by decide +kernel
theorem dX2_inverted_101 : decode cX2_inverted 101 = .ok (.invokestatic 67, 3) := by decide +kernel
theorem dX2_inverted_104 : decode cX2_inverted 104 = .ok (.iinc 4 1, 3) := by decide +kernel
theorem dX2_inverted_107 : decode cX2_inverted 107 = .ok (.goto (-35), 3) := by decide +kernel
theorem dX2_inverted_110 : decode cX2_inverted 110 = .ok (.aload_n 3, 1) := by decide +kernel
theorem dX2_inverted_111 : decode cX2_inverted 111 = .ok (.areturn, 1) := by decide +kernel
theorem dX2_rankOfSquare_0 : decode cX2_rankOfSquare 0 = .ok (.aload_n 0, 1) := by decide +kernel
theorem dX2_rankOfSquare_1 : decode cX2_rankOfSquare 1 = .ok (.aload_n 0, 1) := by decide +kernel
theorem dX2_rankOfSquare_2 : decode cX2_rankOfSquare 2 = .ok (.aload_n 1, 1) := by decide +kernel
theorem dX2_rankOfSquare_3 : decode cX2_rankOfSquare 3 = .ok (.aload_n 0, 1) := by decide +kernel
theorem dX2_rankOfSquare_4 : decode cX2_rankOfSquare 4 = .ok (.getfield 13, 3) := by decide +kernel
theorem dX2_rankOfSquare_7 : decode cX2_rankOfSquare 7 = .ok (.invokevirtual 59, 3) := by decide +kernel
theorem dX2_rankOfSquare_10 : decode cX2_rankOfSquare 10 = .ok (.aload_n 0, 1) := by decide +kernel
theorem dX2_rankOfSquare_11 : decode cX2_rankOfSquare 11 = .ok (.getfield 13, 3) := by decide +kernel
theorem dX2_rankOfSquare_14 : decode cX2_rankOfSquare 14 = .ok (.invokevirtual 63, 3) := by decide +kernel
theorem dX2_rankOfSquare_17 : decode cX2_rankOfSquare 17 = .ok (.ireturn, 1) := by decide +kernel
theorem dX2_rankOf_0 : decode cX2_rankOf 0 = .ok (.aload_n 1, 1) := by decide +kernel
theorem dX2_rankOf_1 : decode cX2_rankOf 1 = .ok (.arraylength, 1) := by decide +kernel
theorem dX2_rankOf_2 : decode cX2_rankOf 2 = .ok (.anewarray 22, 3) := by decide +kernel
theorem dX2_rankOf_5 : decode cX2_rankOf 5 = .ok (.astore_n 2, 1) := by decide +kernel
theorem dX2_rankOf_6 : decode cX2_rankOf 6 = .ok (.iconst 0, 1) := by decide +kernel
theorem dX2_rankOf_7 : decode cX2_rankOf 7 = .ok (.istore_n 3, 1) := by decide +kernel
theorem dX2_rankOf_8 : decode cX2_rankOf 8 = .ok (.iload_n 3, 1) := by decide +kernel
theorem dX2_rankOf_9 : decode cX2_rankOf 9 = .ok (.aload_n 1, 1) := by decide +kernel
theorem dX2_rankOf_10 : decode cX2_rankOf 10 = .ok (.arraylength, 1) := by decide +kernel
theorem dX2_rankOf_11 : decode cX2_rankOf 11 = .ok (.if_icmp .ge 21, 3) := by decide +kernel
theorem dX2_rankOf_14 : decode cX2_rankOf 14 = .ok (.aload_n 2, 1) := by decide +kernel
theorem dX2_rankOf_15 : decode cX2_rankOf 15 = .ok (.iload_n 3, 1) := by decide +kernel
theorem dX2_rankOf_16 : decode cX2_rankOf 16 = .ok (.aload_n 1, 1) := by decide +kernel
theorem dX2_rankOf_17 : decode cX2_rankOf 17 = .ok (.iload_n 3, 1) := by decide +kernel
theorem dX2_rankOf_18 : decode cX2_rankOf 18 = .ok (.aaload, 1) := by decide +kernel
theorem dX2_rankOf_19 : decode cX2_rankOf 19 = .ok (.invokevirtual 21, 3) := by decide +kernel
theorem dX2_rankOf_22 : decode cX2_rankOf 22 = .ok (.checkcast 22, 3) := by decide +kernel
theorem dX2_rankOf_25 : decode cX2_rankOf 25 = .ok (.aastore, 1) := by decide +kernel
theorem dX2_rankOf_26 : decode cX2_rankOf 26 = .ok (.iinc 3 1, 3) := by decide +kernel
theorem dX2_rankOf_29 : decode cX2_rankOf 29 = .ok (.goto (-21), 3) := by decide +kernel
theorem dX2_rankOf_32 : decode cX2_rankOf 32 = .ok (.aload_n 1, 1) := by decide +kernel
theorem dX2_rankOf_33 : decode cX2_rankOf 33 = .ok (.arraylength, 1) := by decide +kernel
theorem dX2_rankOf_34 : decode cX2_rankOf 34 = .ok (.ifCond .ne 7, 3) := by decide +kernel
theorem dX2_rankOf_37 : decode cX2_rankOf 37 = .ok (.iconst 0, 1) := by decide +kernel
theorem dX2_rankOf_38 : decode cX2_rankOf 38 = .ok (.goto 12, 3) := by decide +kernel
theorem dX2_rankOf_41 : decode cX2_rankOf 41 = .ok (.aload_n 0, 1) := by decide +kernel
theorem dX2_rankOf_42 : decode cX2_rankOf 42 = .ok (.aload_n 2, 1) := by decide +kernel
theorem dX2_rankOf_43 : decode cX2_rankOf 43 = .ok (.aload_n 2, 1) := by decide +kernel
theorem dX2_rankOf_44 : decode cX2_rankOf 44 = .ok (.iconst 0, 1) := by decide +kernel
theorem dX2_rankOf_45 : decode cX2_rankOf 45 = .ok (.aaload, 1) := by decide +kernel
theorem dX2_rankOf_46 : decode cX2_rankOf 46 = .ok (.arraylength, 1) := by decide +kernel
theorem dX2_rankOf_47 : decode cX2_rankOf 47 = .ok (.invokevirtual 63, 3) := by decide +kernel
theorem dX2_rankOf_50 : decode cX2_rankOf 50 = .ok (.ireturn, 1) := by decide +kernel
theorem dX2_linesOf_0 : decode cX2_linesOf 0 = .ok (.aload_n 0, 1) := by decide +kernel
theorem dX2_linesOf_1 : decode cX2_linesOf 1 = .ok (.getfield 13, 3) := by decide +kernel
theorem dX2_linesOf_4 : decode cX2_linesOf 4 = .ok (.iload_n 2, 1) := by decide +kernel
theorem dX2_linesOf_5 : decode cX2_linesOf 5 = .ok (.multianewarray 73 2, 4) := by decide +kernel
theorem dX2_linesOf_9 : decode cX2_linesOf 9 = .ok (.astore_n 3, 1) := by decide +kernel
theorem dX2_linesOf_10 : decode cX2_linesOf 10 = .ok (.iconst 0, 1) := by decide +kernel
theorem dX2_linesOf_11 : decode cX2_linesOf 11 = .ok (.istore 4, 2) := by decide +kernel
theorem dX2_linesOf_13 : decode cX2_linesOf 13 = .ok (.iload 4, 2) := by decide +kernel
theorem dX2_linesOf_15 : decode cX2_linesOf 15 = .ok (.aload_n 0, 1) := by decide +kernel
theorem dX2_linesOf_16 : decode cX2_linesOf 16 = .ok (.getfield 13, 3) := by decide +kernel
theorem dX2_linesOf_19 : decode cX2_linesOf 19 = .ok (.if_icmp .ge 29, 3) := by decide +kernel
theorem dX2_linesOf_22 : decode cX2_linesOf 22 = .ok (.aload_n 1, 1) := by decide +kernel
theorem dX2_linesOf_23 : decode cX2_linesOf 23 = .ok (.iload 4, 2) := by decide +kernel
theorem dX2_linesOf_25 : decode cX2_linesOf 25 = .ok (.aload_n 0, 1) := by decide +kernel
theorem dX2_linesOf_26 : decode cX2_linesOf 26 = .ok (.getfield 13, 3) := by decide +kernel
theorem dX2_linesOf_29 : decode cX2_linesOf 29 = .ok (.imul, 1) := by decide +kernel
theorem dX2_linesOf_30 : decode cX2_linesOf 30 = .ok (.aload_n 3, 1) := by decide +kernel
theorem dX2_linesOf_31 : decode cX2_linesOf 31 = .ok (.iload 4, 2) := by decide +kernel
theorem dX2_linesOf_33 : decode cX2_linesOf 33 = .ok (.aaload, 1) := by decide +kernel
theorem dX2_linesOf_34 : decode cX2_linesOf 34 = .ok (.iconst 0, 1) := by decide +kernel
theorem dX2_linesOf_35 : decode cX2_linesOf 35 = .ok (.aload_n 0, 1) := by decide +kernel
theorem dX2_linesOf_36 : decode cX2_linesOf 36 = .ok (.getfield 13, 3) := by decide +kernel
theorem dX2_linesOf_39 : decode cX2_linesOf 39 = .ok (.invokestatic 67, 3) := by decide +kernel
theorem dX2_linesOf_42 : decode cX2_linesOf 42 = .ok (.iinc 4 1, 3) := by decide +kernel
theorem dX2_linesOf_45 : decode cX2_linesOf 45 = .ok (.goto (-32), 3) := by decide +kernel
theorem dX2_linesOf_48 : decode cX2_linesOf 48 = .ok (.aload_n 3, 1) := by decide +kernel
theorem dX2_linesOf_49 : decode cX2_linesOf 49 = .ok (.areturn, 1) := by decide +kernel
theorem dX2_eliminate_0 : decode cX2_eliminate 0 = .ok (.iconst 0, 1) := by decide +kernel
theorem dX2_eliminate_1 : decode cX2_eliminate 1 = .ok (.istore_n 3, 1) := by decide +kernel
theorem dX2_eliminate_2 : decode cX2_eliminate 2 = .ok (.iconst 0, 1) := by decide +kernel
theorem dX2_eliminate_3 : decode cX2_eliminate 3 = .ok (.istore 4, 2) := by decide +kernel
theorem dX2_eliminate_5 : decode cX2_eliminate 5 = .ok (.iload 4, 2) := by decide +kernel
theorem dX2_eliminate_7 : decode cX2_eliminate 7 = .ok (.iload_n 2, 1) := by decide +kernel
theorem dX2_eliminate_8 : decode cX2_eliminate 8 = .ok (.if_icmp .ge 100, 3) := by decide +kernel
theorem dX2_eliminate_11 : decode cX2_eliminate 11 = .ok (.iload_n 3, 1) := by decide +kernel
theorem dX2_eliminate_12 : decode cX2_eliminate 12 = .ok (.aload_n 1, 1) := by decide +kernel
theorem dX2_eliminate_13 : decode cX2_eliminate 13 = .ok (.arraylength, 1) := by decide +kernel
theorem dX2_eliminate_14 : decode cX2_eliminate 14 = .ok (.if_icmp .ge 94, 3) := by decide +kernel
theorem dX2_eliminate_17 : decode cX2_eliminate 17 = .ok (.iload_n 3, 1) := by decide +kernel
theorem dX2_eliminate_18 : decode cX2_eliminate 18 = .ok (.istore 5, 2) := by decide +kernel
theorem dX2_eliminate_20 : decode cX2_eliminate 20 = .ok (.iload 5, 2) := by decide +kernel
theorem dX2_eliminate_22 : decode cX2_eliminate 22 = .ok (.aload_n 1, 1) := by decide +kernel
theorem dX2_eliminate_23 : decode cX2_eliminate 23 = .ok (.arraylength, 1) := by decide +kernel
theorem dX2_eliminate_24 : decode cX2_eliminate 24 = .ok (.if_icmp .ge 21, 3) := by decide +kernel
theorem dX2_eliminate_27 : decode cX2_eliminate 27 = .ok (.aload_n 1, 1) := by decide +kernel
theorem dX2_eliminate_28 : decode cX2_eliminate 28 = .ok (.iload 5, 2) := by decide +kernel
theorem dX2_eliminate_30 : decode cX2_eliminate 30 = .ok (.aaload, 1) := by decide +kernel
theorem dX2_eliminate_31 : decode cX2_eliminate 31 = .ok (.iload 4, 2) := by decide +kernel
theorem dX2_eliminate_33 : decode cX2_eliminate 33 = .ok (.laload, 1) := by decide +kernel
theorem dX2_eliminate_34 : decode cX2_eliminate 34 = .ok (.lconst 0, 1) := by decide +kernel
theorem dX2_eliminate_35 : decode cX2_eliminate 35 = .ok (.lcmp, 1) := by decide +kernel
theorem dX2_eliminate_36 : decode cX2_eliminate 36 = .ok (.ifCond .ne 9, 3) := by decide +kernel
theorem dX2_eliminate_39 : decode cX2_eliminate 39 = .ok (.iinc 5 1, 3) := by decide +kernel
theorem dX2_eliminate_42 : decode cX2_eliminate 42 = .ok (.goto (-22), 3) := by decide +kernel
theorem dX2_eliminate_45 : decode cX2_eliminate 45 = .ok (.iload 5, 2) := by decide +kernel
theorem dX2_eliminate_47 : decode cX2_eliminate 47 = .ok (.aload_n 1, 1) := by decide +kernel
theorem dX2_eliminate_48 : decode cX2_eliminate 48 = .ok (.arraylength, 1) := by decide +kernel
theorem dX2_eliminate_49 : decode cX2_eliminate 49 = .ok (.if_icmp .ne 6, 3) := by decide +kernel
theorem dX2_eliminate_52 : decode cX2_eliminate 52 = .ok (.goto 50, 3) := by decide +kernel
theorem dX2_eliminate_55 : decode cX2_eliminate 55 = .ok (.aload_n 1, 1) := by decide +kernel
theorem dX2_eliminate_56 : decode cX2_eliminate 56 = .ok (.iload 5, 2) := by decide +kernel
theorem dX2_eliminate_58 : decode cX2_eliminate 58 = .ok (.aaload, 1) := by decide +kernel
theorem dX2_eliminate_59 : decode cX2_eliminate 59 = .ok (.astore 6, 2) := by decide +kernel
theorem dX2_eliminate_61 : decode cX2_eliminate 61 = .ok (.aload_n 1, 1) := by decide +kernel
theorem dX2_eliminate_62 : decode cX2_eliminate 62 = .ok (.iload 5, 2) := by decide +kernel
theorem dX2_eliminate_64 : decode cX2_eliminate 64 = .ok (.aload_n 1, 1) := by decide +kernel
theorem dX2_eliminate_65 : decode cX2_eliminate 65 = .ok (.iload_n 3, 1) := by decide +kernel
theorem dX2_eliminate_66 : decode cX2_eliminate 66 = .ok (.aaload, 1) := by decide +kernel
theorem dX2_eliminate_67 : decode cX2_eliminate 67 = .ok (.aastore, 1) := by decide +kernel
theorem dX2_eliminate_68 : decode cX2_eliminate 68 = .ok (.aload_n 1, 1) := by decide +kernel
theorem dX2_eliminate_69 : decode cX2_eliminate 69 = .ok (.iload_n 3, 1) := by decide +kernel
theorem dX2_eliminate_70 : decode cX2_eliminate 70 = .ok (.aload 6, 2) := by decide +kernel
theorem dX2_eliminate_72 : decode cX2_eliminate 72 = .ok (.aastore, 1) := by decide +kernel
theorem dX2_eliminate_73 : decode cX2_eliminate 73 = .ok (.aload_n 0, 1) := by decide +kernel
theorem dX2_eliminate_74 : decode cX2_eliminate 74 = .ok (.aload 6, 2) := by decide +kernel
theorem dX2_eliminate_76 : decode cX2_eliminate 76 = .ok (.aload_n 0, 1) := by decide +kernel
theorem dX2_eliminate_77 : decode cX2_eliminate 77 = .ok (.getfield 7, 3) := by decide +kernel
theorem dX2_eliminate_80 : decode cX2_eliminate 80 = .ok (.aload 6, 2) := by decide +kernel
theorem dX2_eliminate_82 : decode cX2_eliminate 82 = .ok (.iload 4, 2) := by decide +kernel
theorem dX2_eliminate_84 : decode cX2_eliminate 84 = .ok (.laload, 1) := by decide +kernel
theorem dX2_eliminate_85 : decode cX2_eliminate 85 = .ok (.invokevirtual 27, 3) := by decide +kernel
theorem dX2_eliminate_88 : decode cX2_eliminate 88 = .ok (.invokevirtual 33, 3) := by decide +kernel
theorem dX2_eliminate_91 : decode cX2_eliminate 91 = .ok (.aload_n 0, 1) := by decide +kernel
theorem dX2_eliminate_92 : decode cX2_eliminate 92 = .ok (.aload_n 1, 1) := by decide +kernel
theorem dX2_eliminate_93 : decode cX2_eliminate 93 = .ok (.iload_n 3, 1) := by decide +kernel
theorem dX2_eliminate_94 : decode cX2_eliminate 94 = .ok (.iload 4, 2) := by decide +kernel
theorem dX2_eliminate_96 : decode cX2_eliminate 96 = .ok (.invokevirtual 75, 3) := by decide +kernel
theorem dX2_eliminate_99 : decode cX2_eliminate 99 = .ok (.iinc 3 1, 3) := by decide +kernel
theorem dX2_eliminate_102 : decode cX2_eliminate 102 = .ok (.iinc 4 1, 3) := by decide +kernel
theorem dX2_eliminate_105 : decode cX2_eliminate 105 = .ok (.goto (-100), 3) := by decide +kernel
theorem dX2_eliminate_108 : decode cX2_eliminate 108 = .ok (.iload_n 3, 1) := by decide +kernel
theorem dX2_eliminate_109 : decode cX2_eliminate 109 = .ok (.ireturn, 1) := by decide +kernel
theorem dX2_clearColumn_0 : decode cX2_clearColumn 0 = .ok (.iconst 0, 1) := by decide +kernel
theorem dX2_clearColumn_1 : decode cX2_clearColumn 1 = .ok (.istore 4, 2) := by decide +kernel
theorem dX2_clearColumn_3 : decode cX2_clearColumn 3 = .ok (.iload 4, 2) := by decide +kernel
theorem dX2_clearColumn_5 : decode cX2_clearColumn 5 = .ok (.aload_n 1, 1) := by decide +kernel
theorem dX2_clearColumn_6 : decode cX2_clearColumn 6 = .ok (.arraylength, 1) := by decide +kernel
theorem dX2_clearColumn_7 : decode cX2_clearColumn 7 = .ok (.if_icmp .ge 92, 3) := by decide +kernel
theorem dX2_clearColumn_10 : decode cX2_clearColumn 10 = .ok (.aload_n 1, 1) := by decide +kernel
theorem dX2_clearColumn_11 : decode cX2_clearColumn 11 = .ok (.iload 4, 2) := by decide +kernel
theorem dX2_clearColumn_13 : decode cX2_clearColumn 13 = .ok (.aaload, 1) := by decide +kernel
theorem dX2_clearColumn_14 : decode cX2_clearColumn 14 = .ok (.iload_n 3, 1) := by decide +kernel
theorem dX2_clearColumn_15 : decode cX2_clearColumn 15 = .ok (.laload, 1) := by decide +kernel
theorem dX2_clearColumn_16 : decode cX2_clearColumn 16 = .ok (.lstore 5, 2) := by decide +kernel
theorem dX2_clearColumn_18 : decode cX2_clearColumn 18 = .ok (.iload 4, 2) := by decide +kernel
theorem dX2_clearColumn_20 : decode cX2_clearColumn 20 = .ok (.iload_n 2, 1) := by decide +kernel
theorem dX2_clearColumn_21 : decode cX2_clearColumn 21 = .ok (.if_icmp .eq 72, 3) := by decide +kernel
theorem dX2_clearColumn_24 : decode cX2_clearColumn 24 = .ok (.lload 5, 2) := by decide +kernel
theorem dX2_clearColumn_26 : decode cX2_clearColumn 26 = .ok (.lconst 0, 1) := by decide +kernel
theorem dX2_clearColumn_27 : decode cX2_clearColumn 27 = .ok (.lcmp, 1) := by decide +kernel
theorem dX2_clearColumn_28 : decode cX2_clearColumn 28 = .ok (.ifCond .ne 6, 3) := by decide +kernel
theorem dX2_clearColumn_31 : decode cX2_clearColumn 31 = .ok (.goto 62, 3) := by decide +kernel
theorem dX2_clearColumn_34 : decode cX2_clearColumn 34 = .ok (.iconst 0, 1) := by decide +kernel
theorem dX2_clearColumn_35 : decode cX2_clearColumn 35 = .ok (.istore 7, 2) := by decide +kernel
theorem dX2_clearColumn_37 : decode cX2_clearColumn 37 = .ok (.iload 7, 2) := by decide +kernel
theorem dX2_clearColumn_39 : decode cX2_clearColumn 39 = .ok (.aload_n 1, 1) := by decide +kernel
theorem dX2_clearColumn_40 : decode cX2_clearColumn 40 = .ok (.iload 4, 2) := by decide +kernel
theorem dX2_clearColumn_42 : decode cX2_clearColumn 42 = .ok (.aaload, 1) := by decide +kernel
theorem dX2_clearColumn_43 : decode cX2_clearColumn 43 = .ok (.arraylength, 1) := by decide +kernel
theorem dX2_clearColumn_44 : decode cX2_clearColumn 44 = .ok (.if_icmp .ge 49, 3) := by decide +kernel
theorem dX2_clearColumn_47 : decode cX2_clearColumn 47 = .ok (.aload_n 0, 1) := by decide +kernel
theorem dX2_clearColumn_48 : decode cX2_clearColumn 48 = .ok (.getfield 7, 3) := by decide +kernel
theorem dX2_clearColumn_51 : decode cX2_clearColumn 51 = .ok (.lload 5, 2) := by decide +kernel
theorem dX2_clearColumn_53 : decode cX2_clearColumn 53 = .ok (.aload_n 1, 1) := by decide +kernel
theorem dX2_clearColumn_54 : decode cX2_clearColumn 54 = .ok (.iload_n 2, 1) := by decide +kernel
theorem dX2_clearColumn_55 : decode cX2_clearColumn 55 = .ok (.aaload, 1) := by decide +kernel
theorem dX2_clearColumn_56 : decode cX2_clearColumn 56 = .ok (.iload 7, 2) := by decide +kernel
theorem dX2_clearColumn_58 : decode cX2_clearColumn 58 = .ok (.laload, 1) := by decide +kernel
theorem dX2_clearColumn_59 : decode cX2_clearColumn 59 = .ok (.invokevirtual 37, 3) := by decide +kernel
theorem dX2_clearColumn_62 : decode cX2_clearColumn 62 = .ok (.lstore 8, 2) := by decide +kernel
theorem dX2_clearColumn_64 : decode cX2_clearColumn 64 = .ok (.aload_n 1, 1) := by decide +kernel
theorem dX2_clearColumn_65 : decode cX2_clearColumn 65 = .ok (.iload 4, 2) := by decide +kernel
theorem dX2_clearColumn_67 : decode cX2_clearColumn 67 = .ok (.aaload, 1) := by decide +kernel
theorem dX2_clearColumn_68 : decode cX2_clearColumn 68 = .ok (.iload 7, 2) := by decide +kernel
theorem dX2_clearColumn_70 : decode cX2_clearColumn 70 = .ok (.aload_n 0, 1) := by decide +kernel
theorem dX2_clearColumn_71 : decode cX2_clearColumn 71 = .ok (.getfield 7, 3) := by decide +kernel
theorem dX2_clearColumn_74 : decode cX2_clearColumn 74 = .ok (.aload_n 1, 1) := by decide +kernel
theorem dX2_clearColumn_75 : decode cX2_clearColumn 75 = .ok (.iload 4, 2) := by decide +kernel
theorem dX2_clearColumn_77 : decode cX2_clearColumn 77 = .ok (.aaload, 1) := by decide +kernel
theorem dX2_clearColumn_78 : decode cX2_clearColumn 78 = .ok (.iload 7, 2) := by decide +kernel
theorem dX2_clearColumn_80 : decode cX2_clearColumn 80 = .ok (.laload, 1) := by decide +kernel
theorem dX2_clearColumn_81 : decode cX2_clearColumn 81 = .ok (.lload 8, 2) := by decide +kernel
theorem dX2_clearColumn_83 : decode cX2_clearColumn 83 = .ok (.invokevirtual 79, 3) := by decide +kernel
theorem dX2_clearColumn_86 : decode cX2_clearColumn 86 = .ok (.lastore, 1) := by decide +kernel
theorem dX2_clearColumn_87 : decode cX2_clearColumn 87 = .ok (.iinc 7 1, 3) := by decide +kernel
theorem dX2_clearColumn_90 : decode cX2_clearColumn 90 = .ok (.goto (-53), 3) := by decide +kernel
theorem dX2_clearColumn_93 : decode cX2_clearColumn 93 = .ok (.iinc 4 1, 3) := by decide +kernel
theorem dX2_clearColumn_96 : decode cX2_clearColumn 96 = .ok (.goto (-93), 3) := by decide +kernel
theorem dX2_clearColumn_99 : decode cX2_clearColumn 99 = .ok (.return_, 1) := by decide +kernel
theorem dX2_onlySolution_0 : decode cX2_onlySolution 0 = .ok (.aload_n 0, 1) := by decide +kernel
theorem dX2_onlySolution_1 : decode cX2_onlySolution 1 = .ok (.aload_n 1, 1) := by decide +kernel
theorem dX2_onlySolution_2 : decode cX2_onlySolution 2 = .ok (.iload_n 2, 1) := by decide +kernel
theorem dX2_onlySolution_3 : decode cX2_onlySolution 3 = .ok (.invokevirtual 63, 3) := by decide +kernel
theorem dX2_onlySolution_6 : decode cX2_onlySolution 6 = .ok (.iload_n 2, 1) := by decide +kernel
theorem dX2_onlySolution_7 : decode cX2_onlySolution 7 = .ok (.iconst 1, 1) := by decide +kernel
theorem dX2_onlySolution_8 : decode cX2_onlySolution 8 = .ok (.isub, 1) := by decide +kernel
theorem dX2_onlySolution_9 : decode cX2_onlySolution 9 = .ok (.if_icmp .eq 5, 3) := by decide +kernel
theorem dX2_onlySolution_12 : decode cX2_onlySolution 12 = .ok (.aconst_null, 1) := by decide +kernel
theorem dX2_onlySolution_13 : decode cX2_onlySolution 13 = .ok (.areturn, 1) := by decide +kernel
theorem dX2_onlySolution_14 : decode cX2_onlySolution 14 = .ok (.iconst 0, 1) := by decide +kernel
theorem dX2_onlySolution_15 : decode cX2_onlySolution 15 = .ok (.istore_n 3, 1) := by decide +kernel
theorem dX2_onlySolution_16 : decode cX2_onlySolution 16 = .ok (.iload_n 3, 1) := by decide +kernel
theorem dX2_onlySolution_17 : decode cX2_onlySolution 17 = .ok (.iload_n 2, 1) := by decide +kernel
theorem dX2_onlySolution_18 : decode cX2_onlySolution 18 = .ok (.iconst 1, 1) := by decide +kernel
theorem dX2_onlySolution_19 : decode cX2_onlySolution 19 = .ok (.isub, 1) := by decide +kernel
theorem dX2_onlySolution_20 : decode cX2_onlySolution 20 = .ok (.if_icmp .ge 19, 3) := by decide +kernel
theorem dX2_onlySolution_23 : decode cX2_onlySolution 23 = .ok (.aload_n 1, 1) := by decide +kernel
theorem dX2_onlySolution_24 : decode cX2_onlySolution 24 = .ok (.iload_n 3, 1) := by decide +kernel
theorem dX2_onlySolution_25 : decode cX2_onlySolution 25 = .ok (.aaload, 1) := by decide +kernel
theorem dX2_onlySolution_26 : decode cX2_onlySolution 26 = .ok (.invokestatic 17, 3) := by decide +kernel
theorem dX2_onlySolution_29 : decode cX2_onlySolution 29 = .ok (.iload_n 3, 1) := by decide +kernel
theorem dX2_onlySolution_30 : decode cX2_onlySolution 30 = .ok (.if_icmp .ne 9, 3) := by decide +kernel
theorem dX2_onlySolution_33 : decode cX2_onlySolution 33 = .ok (.iinc 3 1, 3) := by decide +kernel
theorem dX2_onlySolution_36 : decode cX2_onlySolution 36 = .ok (.goto (-20), 3) := by decide +kernel
theorem dX2_onlySolution_39 : decode cX2_onlySolution 39 = .ok (.iload_n 2, 1) := by decide +kernel
theorem dX2_onlySolution_40 : decode cX2_onlySolution 40 = .ok (.newarray .long, 2) := by decide +kernel
theorem dX2_onlySolution_42 : decode cX2_onlySolution 42 = .ok (.astore 4, 2) := by decide +kernel
theorem dX2_onlySolution_44 : decode cX2_onlySolution 44 = .ok (.aload 4, 2) := by decide +kernel
theorem dX2_onlySolution_46 : decode cX2_onlySolution 46 = .ok (.iload_n 3, 1) := by decide +kernel
theorem dX2_onlySolution_47 : decode cX2_onlySolution 47 = .ok (.lconst 1, 1) := by decide +kernel
theorem dX2_onlySolution_48 : decode cX2_onlySolution 48 = .ok (.lastore, 1) := by decide +kernel
theorem dX2_onlySolution_49 : decode cX2_onlySolution 49 = .ok (.iconst 0, 1) := by decide +kernel
theorem dX2_onlySolution_50 : decode cX2_onlySolution 50 = .ok (.istore 5, 2) := by decide +kernel
theorem dX2_onlySolution_52 : decode cX2_onlySolution 52 = .ok (.iload 5, 2) := by decide +kernel
theorem dX2_onlySolution_54 : decode cX2_onlySolution 54 = .ok (.iload_n 2, 1) := by decide +kernel
theorem dX2_onlySolution_55 : decode cX2_onlySolution 55 = .ok (.iconst 1, 1) := by decide +kernel
theorem dX2_onlySolution_56 : decode cX2_onlySolution 56 = .ok (.isub, 1) := by decide +kernel
theorem dX2_onlySolution_57 : decode cX2_onlySolution 57 = .ok (.if_icmp .ge 40, 3) := by decide +kernel
theorem dX2_onlySolution_60 : decode cX2_onlySolution 60 = .ok (.aload 4, 2) := by decide +kernel
theorem dX2_onlySolution_62 : decode cX2_onlySolution 62 = .ok (.iload 5, 2) := by decide +kernel
theorem dX2_onlySolution_64 : decode cX2_onlySolution 64 = .ok (.iload_n 3, 1) := by decide +kernel
theorem dX2_onlySolution_65 : decode cX2_onlySolution 65 = .ok (.if_icmp .ge 8, 3) := by decide +kernel
theorem dX2_onlySolution_68 : decode cX2_onlySolution 68 = .ok (.iload 5, 2) := by decide +kernel
theorem dX2_onlySolution_70 : decode cX2_onlySolution 70 = .ok (.goto 7, 3) := by decide +kernel
theorem dX2_onlySolution_73 : decode cX2_onlySolution 73 = .ok (.iload 5, 2) := by decide +kernel
theorem dX2_onlySolution_75 : decode cX2_onlySolution 75 = .ok (.iconst 1, 1) := by decide +kernel
theorem dX2_onlySolution_76 : decode cX2_onlySolution 76 = .ok (.iadd, 1) := by decide +kernel
theorem dX2_onlySolution_77 : decode cX2_onlySolution 77 = .ok (.aload_n 0, 1) := by decide +kernel
theorem dX2_onlySolution_78 : decode cX2_onlySolution 78 = .ok (.getfield 7, 3) := by decide +kernel
theorem dX2_onlySolution_81 : decode cX2_onlySolution 81 = .ok (.aload_n 1, 1) := by decide +kernel
theorem dX2_onlySolution_82 : decode cX2_onlySolution 82 = .ok (.iload 5, 2) := by decide +kernel
theorem dX2_onlySolution_84 : decode cX2_onlySolution 84 = .ok (.aaload, 1) := by decide +kernel
theorem dX2_onlySolution_85 : decode cX2_onlySolution 85 = .ok (.iload_n 3, 1) := by decide +kernel
theorem dX2_onlySolution_86 : decode cX2_onlySolution 86 = .ok (.laload, 1) := by decide +kernel
theorem dX2_onlySolution_87 : decode cX2_onlySolution 87 = .ok (.invokevirtual 82, 3) := by decide +kernel
theorem dX2_onlySolution_90 : decode cX2_onlySolution 90 = .ok (.lastore, 1) := by decide +kernel
theorem dX2_onlySolution_91 : decode cX2_onlySolution 91 = .ok (.iinc 5 1, 3) := by decide +kernel
theorem dX2_onlySolution_94 : decode cX2_onlySolution 94 = .ok (.goto (-42), 3) := by decide +kernel
theorem dX2_onlySolution_97 : decode cX2_onlySolution 97 = .ok (.aload 4, 2) := by decide +kernel
theorem dX2_onlySolution_99 : decode cX2_onlySolution 99 = .ok (.areturn, 1) := by decide +kernel
theorem dX2_framePoint_0 : decode cX2_framePoint 0 = .ok (.aload_n 0, 1) := by decide +kernel
theorem dX2_framePoint_1 : decode cX2_framePoint 1 = .ok (.getfield 13, 3) := by decide +kernel
theorem dX2_framePoint_4 : decode cX2_framePoint 4 = .ok (.newarray .long, 2) := by decide +kernel
theorem dX2_framePoint_6 : decode cX2_framePoint 6 = .ok (.astore_n 2, 1) := by decide +kernel
theorem dX2_framePoint_7 : decode cX2_framePoint 7 = .ok (.iload_n 1, 1) := by decide +kernel
theorem dX2_framePoint_8 : decode cX2_framePoint 8 = .ok (.ifCond .lt 18, 3) := by decide +kernel
theorem dX2_framePoint_11 : decode cX2_framePoint 11 = .ok (.iload_n 1, 1) := by decide +kernel
theorem dX2_framePoint_12 : decode cX2_framePoint 12 = .ok (.aload_n 0, 1) := by decide +kernel
theorem dX2_framePoint_13 : decode cX2_framePoint 13 = .ok (.getfield 13, 3) := by decide +kernel
theorem dX2_framePoint_16 : decode cX2_framePoint 16 = .ok (.if_icmp .ge 10, 3) := by decide +kernel
theorem dX2_framePoint_19 : decode cX2_framePoint 19 = .ok (.aload_n 2, 1) := by decide +kernel
theorem dX2_framePoint_20 : decode cX2_framePoint 20 = .ok (.iload_n 1, 1) := by decide +kernel
theorem dX2_framePoint_21 : decode cX2_framePoint 21 = .ok (.lconst 1, 1) := by decide +kernel
theorem dX2_framePoint_22 : decode cX2_framePoint 22 = .ok (.lastore, 1) := by decide +kernel
theorem dX2_framePoint_23 : decode cX2_framePoint 23 = .ok (.goto 8, 3) := by decide +kernel
theorem dX2_framePoint_26 : decode cX2_framePoint 26 = .ok (.aload_n 2, 1) := by decide +kernel
theorem dX2_framePoint_27 : decode cX2_framePoint 27 = .ok (.lconst 1, 1) := by decide +kernel
theorem dX2_framePoint_28 : decode cX2_framePoint 28 = .ok (.invokestatic 85, 3) := by decide +kernel
theorem dX2_framePoint_31 : decode cX2_framePoint 31 = .ok (.aload_n 2, 1) := by decide +kernel
theorem dX2_framePoint_32 : decode cX2_framePoint 32 = .ok (.areturn, 1) := by decide +kernel
theorem dX2_frameOf_0 : decode cX2_frameOf 0 = .ok (.aload_n 0, 1) := by decide +kernel
theorem dX2_frameOf_1 : decode cX2_frameOf 1 = .ok (.getfield 13, 3) := by decide +kernel
theorem dX2_frameOf_4 : decode cX2_frameOf 4 = .ok (.aload_n 0, 1) := by decide +kernel
theorem dX2_frameOf_5 : decode cX2_frameOf 5 = .ok (.getfield 13, 3) := by decide +kernel
theorem dX2_frameOf_8 : decode cX2_frameOf 8 = .ok (.iconst 1, 1) := by decide +kernel
theorem dX2_frameOf_9 : decode cX2_frameOf 9 = .ok (.iadd, 1) := by decide +kernel
theorem dX2_frameOf_10 : decode cX2_frameOf 10 = .ok (.multianewarray 73 2, 4) := by decide +kernel
theorem dX2_frameOf_14 : decode cX2_frameOf 14 = .ok (.astore_n 2, 1) := by decide +kernel
theorem dX2_frameOf_15 : decode cX2_frameOf 15 = .ok (.iconst 0, 1) := by decide +kernel
theorem dX2_frameOf_16 : decode cX2_frameOf 16 = .ok (.istore_n 3, 1) := by decide +kernel
theorem dX2_frameOf_17 : decode cX2_frameOf 17 = .ok (.iload_n 3, 1) := by decide +kernel
theorem dX2_frameOf_18 : decode cX2_frameOf 18 = .ok (.aload_n 0, 1) := by decide +kernel
theorem dX2_frameOf_19 : decode cX2_frameOf 19 = .ok (.getfield 13, 3) := by decide +kernel
theorem dX2_frameOf_22 : decode cX2_frameOf 22 = .ok (.if_icmp .ge 39, 3) := by decide +kernel
theorem dX2_frameOf_25 : decode cX2_frameOf 25 = .ok (.iconst 0, 1) := by decide +kernel
theorem dX2_frameOf_26 : decode cX2_frameOf 26 = .ok (.istore 4, 2) := by decide +kernel
theorem dX2_frameOf_28 : decode cX2_frameOf 28 = .ok (.iload 4, 2) := by decide +kernel
theorem dX2_frameOf_30 : decode cX2_frameOf 30 = .ok (.aload_n 0, 1) := by decide +kernel
theorem dX2_frameOf_31 : decode cX2_frameOf 31 = .ok (.getfield 13, 3) := by decide +kernel
theorem dX2_frameOf_34 : decode cX2_frameOf 34 = .ok (.if_icmp .gt 21, 3) := by decide +kernel
theorem dX2_frameOf_37 : decode cX2_frameOf 37 = .ok (.aload_n 2, 1) := by decide +kernel
theorem dX2_frameOf_38 : decode cX2_frameOf 38 = .ok (.iload_n 3, 1) := by decide +kernel
theorem dX2_frameOf_39 : decode cX2_frameOf 39 = .ok (.aaload, 1) := by decide +kernel
theorem dX2_frameOf_40 : decode cX2_frameOf 40 = .ok (.iload 4, 2) := by decide +kernel
theorem dX2_frameOf_42 : decode cX2_frameOf 42 = .ok (.aload_n 1, 1) := by decide +kernel
theorem dX2_frameOf_43 : decode cX2_frameOf 43 = .ok (.iload 4, 2) := by decide +kernel
theorem dX2_frameOf_45 : decode cX2_frameOf 45 = .ok (.aaload, 1) := by decide +kernel
theorem dX2_frameOf_46 : decode cX2_frameOf 46 = .ok (.iload_n 3, 1) := by decide +kernel
theorem dX2_frameOf_47 : decode cX2_frameOf 47 = .ok (.laload, 1) := by decide +kernel
theorem dX2_frameOf_48 : decode cX2_frameOf 48 = .ok (.lastore, 1) := by decide +kernel
theorem dX2_frameOf_49 : decode cX2_frameOf 49 = .ok (.iinc 4 1, 3) := by decide +kernel
theorem dX2_frameOf_52 : decode cX2_frameOf 52 = .ok (.goto (-24), 3) := by decide +kernel
theorem dX2_frameOf_55 : decode cX2_frameOf 55 = .ok (.iinc 3 1, 3) := by decide +kernel
theorem dX2_frameOf_58 : decode cX2_frameOf 58 = .ok (.goto (-41), 3) := by decide +kernel
theorem dX2_frameOf_61 : decode cX2_frameOf 61 = .ok (.aload_n 0, 1) := by decide +kernel
theorem dX2_frameOf_62 : decode cX2_frameOf 62 = .ok (.aload_n 2, 1) := by decide +kernel
theorem dX2_frameOf_63 : decode cX2_frameOf 63 = .ok (.aload_n 0, 1) := by decide +kernel
theorem dX2_frameOf_64 : decode cX2_frameOf 64 = .ok (.getfield 13, 3) := by decide +kernel
theorem dX2_frameOf_67 : decode cX2_frameOf 67 = .ok (.invokevirtual 63, 3) := by decide +kernel
theorem dX2_frameOf_70 : decode cX2_frameOf 70 = .ok (.aload_n 0, 1) := by decide +kernel
theorem dX2_frameOf_71 : decode cX2_frameOf 71 = .ok (.getfield 13, 3) := by decide +kernel
theorem dX2_frameOf_74 : decode cX2_frameOf 74 = .ok (.if_icmp .eq 5, 3) := by decide +kernel
theorem dX2_frameOf_77 : decode cX2_frameOf 77 = .ok (.aconst_null, 1) := by decide +kernel
theorem dX2_frameOf_78 : decode cX2_frameOf 78 = .ok (.areturn, 1) := by decide +kernel
theorem dX2_frameOf_79 : decode cX2_frameOf 79 = .ok (.aload_n 0, 1) := by decide +kernel
theorem dX2_frameOf_80 : decode cX2_frameOf 80 = .ok (.getfield 13, 3) := by decide +kernel
theorem dX2_frameOf_83 : decode cX2_frameOf 83 = .ok (.aload_n 0, 1) := by decide +kernel
theorem dX2_frameOf_84 : decode cX2_frameOf 84 = .ok (.getfield 13, 3) := by decide +kernel
theorem dX2_frameOf_87 : decode cX2_frameOf 87 = .ok (.imul, 1) := by decide +kernel
theorem dX2_frameOf_88 : decode cX2_frameOf 88 = .ok (.newarray .long, 2) := by decide +kernel
theorem dX2_frameOf_90 : decode cX2_frameOf 90 = .ok (.astore_n 3, 1) := by decide +kernel
theorem dX2_frameOf_91 : decode cX2_frameOf 91 = .ok (.iconst 0, 1) := by decide +kernel
theorem dX2_frameOf_92 : decode cX2_frameOf 92 = .ok (.istore 4, 2) := by decide +kernel
theorem dX2_frameOf_94 : decode cX2_frameOf 94 = .ok (.iload 4, 2) := by decide +kernel
theorem dX2_frameOf_96 : decode cX2_frameOf 96 = .ok (.aload_n 0, 1) := by decide +kernel
theorem dX2_frameOf_97 : decode cX2_frameOf 97 = .ok (.getfield 13, 3) := by decide +kernel
theorem dX2_frameOf_100 : decode cX2_frameOf 100 = .ok (.if_icmp .ge 75, 3) := by decide +kernel
theorem dX2_frameOf_103 : decode cX2_frameOf 103 = .ok (.aload_n 2, 1) := by decide +kernel
theorem dX2_frameOf_104 : decode cX2_frameOf 104 = .ok (.iload 4, 2) := by decide +kernel
theorem dX2_frameOf_106 : decode cX2_frameOf 106 = .ok (.aaload, 1) := by decide +kernel
theorem dX2_frameOf_107 : decode cX2_frameOf 107 = .ok (.aload_n 0, 1) := by decide +kernel
theorem dX2_frameOf_108 : decode cX2_frameOf 108 = .ok (.getfield 13, 3) := by decide +kernel
theorem dX2_frameOf_111 : decode cX2_frameOf 111 = .ok (.laload, 1) := by decide +kernel
theorem dX2_frameOf_112 : decode cX2_frameOf 112 = .ok (.lstore 5, 2) := by decide +kernel
theorem dX2_frameOf_114 : decode cX2_frameOf 114 = .ok (.lload 5, 2) := by decide +kernel
theorem dX2_frameOf_116 : decode cX2_frameOf 116 = .ok (.lconst 0, 1) := by decide +kernel
theorem dX2_frameOf_117 : decode cX2_frameOf 117 = .ok (.lcmp, 1) := by decide +kernel
theorem dX2_frameOf_118 : decode cX2_frameOf 118 = .ok (.ifCond .ne 5, 3) := by decide +kernel
theorem dX2_frameOf_121 : decode cX2_frameOf 121 = .ok (.aconst_null, 1) := by decide +kernel
theorem dX2_frameOf_122 : decode cX2_frameOf 122 = .ok (.areturn, 1) := by decide +kernel
theorem dX2_frameOf_123 : decode cX2_frameOf 123 = .ok (.iconst 0, 1) := by decide +kernel
theorem dX2_frameOf_124 : decode cX2_frameOf 124 = .ok (.istore 7, 2) := by decide +kernel
theorem dX2_frameOf_126 : decode cX2_frameOf 126 = .ok (.iload 7, 2) := by decide +kernel
theorem dX2_frameOf_128 : decode cX2_frameOf 128 = .ok (.aload_n 0, 1) := by decide +kernel
theorem dX2_frameOf_129 : decode cX2_frameOf 129 = .ok (.getfield 13, 3) := by decide +kernel
theorem dX2_frameOf_132 : decode cX2_frameOf 132 = .ok (.if_icmp .ge 37, 3) := by decide +kernel
theorem dX2_frameOf_135 : decode cX2_frameOf 135 = .ok (.aload_n 3, 1) := by decide +kernel
theorem dX2_frameOf_136 : decode cX2_frameOf 136 = .ok (.iload 7, 2) := by decide +kernel
theorem dX2_frameOf_138 : decode cX2_frameOf 138 = .ok (.aload_n 0, 1) := by decide +kernel
theorem dX2_frameOf_139 : decode cX2_frameOf 139 = .ok (.getfield 13, 3) := by decide +kernel
theorem dX2_frameOf_142 : decode cX2_frameOf 142 = .ok (.imul, 1) := by decide +kernel
theorem dX2_frameOf_143 : decode cX2_frameOf 143 = .ok (.iload 4, 2) := by decide +kernel
theorem dX2_frameOf_145 : decode cX2_frameOf 145 = .ok (.iadd, 1) := by decide +kernel
theorem dX2_frameOf_146 : decode cX2_frameOf 146 = .ok (.aload_n 0, 1) := by decide +kernel
theorem dX2_frameOf_147 : decode cX2_frameOf 147 = .ok (.getfield 7, 3) := by decide +kernel
theorem dX2_frameOf_150 : decode cX2_frameOf 150 = .ok (.lload 5, 2) := by decide +kernel
theorem dX2_frameOf_152 : decode cX2_frameOf 152 = .ok (.aload_n 1, 1) := by decide +kernel
theorem dX2_frameOf_153 : decode cX2_frameOf 153 = .ok (.iload 4, 2) := by decide +kernel
theorem dX2_frameOf_155 : decode cX2_frameOf 155 = .ok (.aaload, 1) := by decide +kernel
theorem dX2_frameOf_156 : decode cX2_frameOf 156 = .ok (.iload 7, 2) := by decide +kernel
theorem dX2_frameOf_158 : decode cX2_frameOf 158 = .ok (.laload, 1) := by decide +kernel
theorem dX2_frameOf_159 : decode cX2_frameOf 159 = .ok (.invokevirtual 37, 3) := by decide +kernel
theorem dX2_frameOf_162 : decode cX2_frameOf 162 = .ok (.lastore, 1) := by decide +kernel
theorem dX2_frameOf_163 : decode cX2_frameOf 163 = .ok (.iinc 7 1, 3) := by decide +kernel
theorem dX2_frameOf_166 : decode cX2_frameOf 166 = .ok (.goto (-40), 3) := by decide +kernel
theorem dX2_frameOf_169 : decode cX2_frameOf 169 = .ok (.iinc 4 1, 3) := by decide +kernel
theorem dX2_frameOf_172 : decode cX2_frameOf 172 = .ok (.goto (-78), 3) := by decide +kernel
theorem dX2_frameOf_175 : decode cX2_frameOf 175 = .ok (.aload_n 3, 1) := by decide +kernel
theorem dX2_frameOf_176 : decode cX2_frameOf 176 = .ok (.areturn, 1) := by decide +kernel
theorem dX2_timesUntilBack_0 : decode cX2_timesUntilBack 0 = .ok (.aload_n 2, 1) := by decide +kernel
theorem dX2_timesUntilBack_1 : decode cX2_timesUntilBack 1 = .ok (.invokevirtual 21, 3) := by decide +kernel
theorem dX2_timesUntilBack_4 : decode cX2_timesUntilBack 4 = .ok (.checkcast 22, 3) := by decide +kernel
theorem dX2_timesUntilBack_7 : decode cX2_timesUntilBack 7 = .ok (.astore 4, 2) := by decide +kernel
theorem dX2_timesUntilBack_9 : decode cX2_timesUntilBack 9 = .ok (.aload_n 0, 1) := by decide +kernel
theorem dX2_timesUntilBack_10 : decode cX2_timesUntilBack 10 = .ok (.getfield 13, 3) := by decide +kernel
theorem dX2_timesUntilBack_13 : decode cX2_timesUntilBack 13 = .ok (.newarray .long, 2) := by decide +kernel
theorem dX2_timesUntilBack_15 : decode cX2_timesUntilBack 15 = .ok (.astore 5, 2) := by decide +kernel
theorem dX2_timesUntilBack_17 : decode cX2_timesUntilBack 17 = .ok (.iconst 1, 1) := by decide +kernel
theorem dX2_timesUntilBack_18 : decode cX2_timesUntilBack 18 = .ok (.istore 6, 2) := by decide +kernel
theorem dX2_timesUntilBack_20 : decode cX2_timesUntilBack 20 = .ok (.iload 6, 2) := by decide +kernel
theorem dX2_timesUntilBack_22 : decode cX2_timesUntilBack 22 = .ok (.iload_n 3, 1) := by decide +kernel
theorem dX2_timesUntilBack_23 : decode cX2_timesUntilBack 23 = .ok (.if_icmp .gt 43, 3) := by decide +kernel
theorem dX2_timesUntilBack_26 : decode cX2_timesUntilBack 26 = .ok (.aload_n 0, 1) := by decide +kernel
theorem dX2_timesUntilBack_27 : decode cX2_timesUntilBack 27 = .ok (.aload 5, 2) := by decide +kernel
theorem dX2_timesUntilBack_29 : decode cX2_timesUntilBack 29 = .ok (.aload_n 1, 1) := by decide +kernel
theorem dX2_timesUntilBack_30 : decode cX2_timesUntilBack 30 = .ok (.aload 4, 2) := by decide +kernel
theorem dX2_timesUntilBack_32 : decode cX2_timesUntilBack 32 = .ok (.invokevirtual 44, 3) := by decide +kernel
theorem dX2_timesUntilBack_35 : decode cX2_timesUntilBack 35 = .ok (.aload_n 0, 1) := by decide +kernel
theorem dX2_timesUntilBack_36 : decode cX2_timesUntilBack 36 = .ok (.aload 5, 2) := by decide +kernel
theorem dX2_timesUntilBack_38 : decode cX2_timesUntilBack 38 = .ok (.aload_n 2, 1) := by decide +kernel
theorem dX2_timesUntilBack_39 : decode cX2_timesUntilBack 39 = .ok (.invokevirtual 90, 3) := by decide +kernel
theorem dX2_timesUntilBack_42 : decode cX2_timesUntilBack 42 = .ok (.ifCond .eq 6, 3) := by decide +kernel
theorem dX2_timesUntilBack_45 : decode cX2_timesUntilBack 45 = .ok (.iload 6, 2) := by decide +kernel
theorem dX2_timesUntilBack_47 : decode cX2_timesUntilBack 47 = .ok (.ireturn, 1) := by decide +kernel
theorem dX2_timesUntilBack_48 : decode cX2_timesUntilBack 48 = .ok (.aload 4, 2) := by decide +kernel
theorem dX2_timesUntilBack_50 : decode cX2_timesUntilBack 50 = .ok (.astore 7, 2) := by decide +kernel
theorem dX2_timesUntilBack_52 : decode cX2_timesUntilBack 52 = .ok (.aload 5, 2) := by decide +kernel
theorem dX2_timesUntilBack_54 : decode cX2_timesUntilBack 54 = .ok (.astore 4, 2) := by decide +kernel
theorem dX2_timesUntilBack_56 : decode cX2_timesUntilBack 56 = .ok (.aload 7, 2) := by decide +kernel
theorem dX2_timesUntilBack_58 : decode cX2_timesUntilBack 58 = .ok (.astore 5, 2) := by decide +kernel
theorem dX2_timesUntilBack_60 : decode cX2_timesUntilBack 60 = .ok (.iinc 6 1, 3) := by decide +kernel
theorem dX2_timesUntilBack_63 : decode cX2_timesUntilBack 63 = .ok (.goto (-43), 3) := by decide +kernel
theorem dX2_timesUntilBack_66 : decode cX2_timesUntilBack 66 = .ok (.iconst 0, 1) := by decide +kernel
theorem dX2_timesUntilBack_67 : decode cX2_timesUntilBack 67 = .ok (.ireturn, 1) := by decide +kernel
theorem dX2_isMultiple_0 : decode cX2_isMultiple 0 = .ok (.aload_n 2, 1) := by decide +kernel
theorem dX2_isMultiple_1 : decode cX2_isMultiple 1 = .ok (.invokestatic 17, 3) := by decide +kernel
theorem dX2_isMultiple_4 : decode cX2_isMultiple 4 = .ok (.istore_n 3, 1) := by decide +kernel
theorem dX2_isMultiple_5 : decode cX2_isMultiple 5 = .ok (.iload_n 3, 1) := by decide +kernel
theorem dX2_isMultiple_6 : decode cX2_isMultiple 6 = .ok (.aload_n 1, 1) := by decide +kernel
theorem dX2_isMultiple_7 : decode cX2_isMultiple 7 = .ok (.arraylength, 1) := by decide +kernel
theorem dX2_isMultiple_8 : decode cX2_isMultiple 8 = .ok (.if_icmp .lt 5, 3) := by decide +kernel
theorem dX2_isMultiple_11 : decode cX2_isMultiple 11 = .ok (.iconst 0, 1) := by decide +kernel
theorem dX2_isMultiple_12 : decode cX2_isMultiple 12 = .ok (.ireturn, 1) := by decide +kernel
theorem dX2_isMultiple_13 : decode cX2_isMultiple 13 = .ok (.iconst 0, 1) := by decide +kernel
theorem dX2_isMultiple_14 : decode cX2_isMultiple 14 = .ok (.istore 4, 2) := by decide +kernel
theorem dX2_isMultiple_16 : decode cX2_isMultiple 16 = .ok (.iload 4, 2) := by decide +kernel
theorem dX2_isMultiple_18 : decode cX2_isMultiple 18 = .ok (.aload_n 1, 1) := by decide +kernel
theorem dX2_isMultiple_19 : decode cX2_isMultiple 19 = .ok (.arraylength, 1) := by decide +kernel
theorem dX2_isMultiple_20 : decode cX2_isMultiple 20 = .ok (.if_icmp .ge 33, 3) := by decide +kernel
theorem dX2_isMultiple_23 : decode cX2_isMultiple 23 = .ok (.aload_n 1, 1) := by decide +kernel
theorem dX2_isMultiple_24 : decode cX2_isMultiple 24 = .ok (.iload 4, 2) := by decide +kernel
theorem dX2_isMultiple_26 : decode cX2_isMultiple 26 = .ok (.laload, 1) := by decide +kernel
theorem dX2_isMultiple_27 : decode cX2_isMultiple 27 = .ok (.aload_n 0, 1) := by decide +kernel
theorem dX2_isMultiple_28 : decode cX2_isMultiple 28 = .ok (.getfield 7, 3) := by decide +kernel
theorem dX2_isMultiple_31 : decode cX2_isMultiple 31 = .ok (.aload_n 1, 1) := by decide +kernel
theorem dX2_isMultiple_32 : decode cX2_isMultiple 32 = .ok (.iload_n 3, 1) := by decide +kernel
theorem dX2_isMultiple_33 : decode cX2_isMultiple 33 = .ok (.laload, 1) := by decide +kernel
theorem dX2_isMultiple_34 : decode cX2_isMultiple 34 = .ok (.aload_n 2, 1) := by decide +kernel
theorem dX2_isMultiple_35 : decode cX2_isMultiple 35 = .ok (.iload 4, 2) := by decide +kernel
theorem dX2_isMultiple_37 : decode cX2_isMultiple 37 = .ok (.laload, 1) := by decide +kernel
theorem dX2_isMultiple_38 : decode cX2_isMultiple 38 = .ok (.invokevirtual 37, 3) := by decide +kernel
theorem dX2_isMultiple_41 : decode cX2_isMultiple 41 = .ok (.lcmp, 1) := by decide +kernel
theorem dX2_isMultiple_42 : decode cX2_isMultiple 42 = .ok (.ifCond .eq 5, 3) := by decide +kernel
theorem dX2_isMultiple_45 : decode cX2_isMultiple 45 = .ok (.iconst 0, 1) := by decide +kernel
theorem dX2_isMultiple_46 : decode cX2_isMultiple 46 = .ok (.ireturn, 1) := by decide +kernel
theorem dX2_isMultiple_47 : decode cX2_isMultiple 47 = .ok (.iinc 4 1, 3) := by decide +kernel
theorem dX2_isMultiple_50 : decode cX2_isMultiple 50 = .ok (.goto (-34), 3) := by decide +kernel
theorem dX2_isMultiple_53 : decode cX2_isMultiple 53 = .ok (.iconst 1, 1) := by decide +kernel
theorem dX2_isMultiple_54 : decode cX2_isMultiple 54 = .ok (.ireturn, 1) := by decide +kernel
theorem dX3_init_0 : decode cX3_init 0 = .ok (.aload_n 0, 1) := by decide +kernel
theorem dX3_init_1 : decode cX3_init 1 = .ok (.invokespecial 3, 3) := by decide +kernel
theorem dX3_init_4 : decode cX3_init 4 = .ok (.aload_n 0, 1) := by decide +kernel
theorem dX3_init_5 : decode cX3_init 5 = .ok (.bipush 60, 2) := by decide +kernel
theorem dX3_init_7 : decode cX3_init 7 = .ok (.anewarray 9, 3) := by decide +kernel
theorem dX3_init_10 : decode cX3_init 10 = .ok (.putfield 11, 3) := by decide +kernel
theorem dX3_init_13 : decode cX3_init 13 = .ok (.return_, 1) := by decide +kernel
theorem dX3_empty_0 : decode cX3_empty 0 = .ok (.aload_n 0, 1) := by decide +kernel
theorem dX3_empty_1 : decode cX3_empty 1 = .ok (.iconst 0, 1) := by decide +kernel
theorem dX3_empty_2 : decode cX3_empty 2 = .ok (.putfield 17, 3) := by decide +kernel
theorem dX3_empty_5 : decode cX3_empty 5 = .ok (.return_, 1) := by decide +kernel
theorem dX3_item_0 : decode cX3_item 0 = .ok (.iload_n 1, 1) := by decide +kernel
theorem dX3_item_1 : decode cX3_item 1 = .ok (.ifCond .lt 20, 3) := by decide +kernel
theorem dX3_item_4 : decode cX3_item 4 = .ok (.iload_n 1, 1) := by decide +kernel
theorem dX3_item_5 : decode cX3_item 5 = .ok (.aload_n 0, 1) := by decide +kernel
theorem dX3_item_6 : decode cX3_item 6 = .ok (.getfield 17, 3) := by decide +kernel
theorem dX3_item_9 : decode cX3_item 9 = .ok (.if_icmp .ge 12, 3) := by decide +kernel
theorem dX3_item_12 : decode cX3_item 12 = .ok (.iload_n 1, 1) := by decide +kernel
theorem dX3_item_13 : decode cX3_item 13 = .ok (.aload_n 0, 1) := by decide +kernel
theorem dX3_item_14 : decode cX3_item 14 = .ok (.getfield 11, 3) := by decide +kernel
theorem dX3_item_17 : decode cX3_item 17 = .ok (.arraylength, 1) := by decide +kernel
theorem dX3_item_18 : decode cX3_item 18 = .ok (.if_icmp .lt 7, 3) := by decide +kernel
theorem dX3_item_21 : decode cX3_item 21 = .ok (.aconst_null, 1) := by decide +kernel
theorem dX3_item_22 : decode cX3_item 22 = .ok (.goto 9, 3) := by decide +kernel
theorem dX3_item_25 : decode cX3_item 25 = .ok (.aload_n 0, 1) := by decide +kernel
theorem dX3_item_26 : decode cX3_item 26 = .ok (.getfield 11, 3) := by decide +kernel
theorem dX3_item_29 : decode cX3_item 29 = .ok (.iload_n 1, 1) := by decide +kernel
theorem dX3_item_30 : decode cX3_item 30 = .ok (.aaload, 1) := by decide +kernel
theorem dX3_item_31 : decode cX3_item 31 = .ok (.areturn, 1) := by decide +kernel
theorem dX3_row_0 : decode cX3_row 0 = .ok (.aload_n 0, 1) := by decide +kernel
theorem dX3_row_1 : decode cX3_row 1 = .ok (.iload_n 1, 1) := by decide +kernel
theorem dX3_row_2 : decode cX3_row 2 = .ok (.invokevirtual 21, 3) := by decide +kernel
theorem dX3_row_5 : decode cX3_row 5 = .ok (.astore_n 3, 1) := by decide +kernel
theorem dX3_row_6 : decode cX3_row 6 = .ok (.aload_n 3, 1) := by decide +kernel
theorem dX3_row_7 : decode cX3_row 7 = .ok (.ifnull 11, 3) := by decide +kernel
theorem dX3_row_10 : decode cX3_row 10 = .ok (.aload_n 3, 1) := by decide +kernel
theorem dX3_row_11 : decode cX3_row 11 = .ok (.getfield 25, 3) := by decide +kernel
theorem dX3_row_14 : decode cX3_row 14 = .ok (.iload_n 2, 1) := by decide +kernel
theorem dX3_row_15 : decode cX3_row 15 = .ok (.if_icmp .eq 7, 3) := by decide +kernel
theorem dX3_row_18 : decode cX3_row 18 = .ok (.aconst_null, 1) := by decide +kernel
theorem dX3_row_19 : decode cX3_row 19 = .ok (.goto 7, 3) := by decide +kernel
theorem dX3_row_22 : decode cX3_row 22 = .ok (.aload_n 3, 1) := by decide +kernel
theorem dX3_row_23 : decode cX3_row 23 = .ok (.getfield 28, 3) := by decide +kernel
theorem dX3_row_26 : decode cX3_row 26 = .ok (.areturn, 1) := by decide +kernel
theorem dX3_lower_0 : decode cX3_lower 0 = .ok (.aload_n 0, 1) := by decide +kernel
theorem dX3_lower_1 : decode cX3_lower 1 = .ok (.iload_n 1, 1) := by decide +kernel
theorem dX3_lower_2 : decode cX3_lower 2 = .ok (.invokevirtual 21, 3) := by decide +kernel
theorem dX3_lower_5 : decode cX3_lower 5 = .ok (.astore_n 3, 1) := by decide +kernel
theorem dX3_lower_6 : decode cX3_lower 6 = .ok (.aload_n 0, 1) := by decide +kernel
theorem dX3_lower_7 : decode cX3_lower 7 = .ok (.iload_n 2, 1) := by decide +kernel
theorem dX3_lower_8 : decode cX3_lower 8 = .ok (.invokevirtual 21, 3) := by decide +kernel
theorem dX3_lower_11 : decode cX3_lower 11 = .ok (.astore 4, 2) := by decide +kernel
theorem dX3_lower_13 : decode cX3_lower 13 = .ok (.aload_n 3, 1) := by decide +kernel
theorem dX3_lower_14 : decode cX3_lower 14 = .ok (.ifnull 20, 3) := by decide +kernel
theorem dX3_lower_17 : decode cX3_lower 17 = .ok (.aload 4, 2) := by decide +kernel
theorem dX3_lower_19 : decode cX3_lower 19 = .ok (.ifnull 15, 3) := by decide +kernel
theorem dX3_lower_22 : decode cX3_lower 22 = .ok (.aload_n 3, 1) := by decide +kernel
theorem dX3_lower_23 : decode cX3_lower 23 = .ok (.getfield 25, 3) := by decide +kernel
theorem dX3_lower_26 : decode cX3_lower 26 = .ok (.aload 4, 2) := by decide +kernel
theorem dX3_lower_28 : decode cX3_lower 28 = .ok (.getfield 25, 3) := by decide +kernel
theorem dX3_lower_31 : decode cX3_lower 31 = .ok (.if_icmp .gt 7, 3) := by decide +kernel
theorem dX3_lower_34 : decode cX3_lower 34 = .ok (.aload_n 3, 1) := by decide +kernel
theorem dX3_lower_35 : decode cX3_lower 35 = .ok (.goto 5, 3) := by decide +kernel
theorem dX3_lower_38 : decode cX3_lower 38 = .ok (.aload 4, 2) := by decide +kernel
theorem dX3_lower_40 : decode cX3_lower 40 = .ok (.areturn, 1) := by decide +kernel
theorem dX3_higher_0 : decode cX3_higher 0 = .ok (.aload_n 0, 1) := by decide +kernel
theorem dX3_higher_1 : decode cX3_higher 1 = .ok (.iload_n 1, 1) := by decide +kernel
theorem dX3_higher_2 : decode cX3_higher 2 = .ok (.invokevirtual 21, 3) := by decide +kernel
theorem dX3_higher_5 : decode cX3_higher 5 = .ok (.astore_n 3, 1) := by decide +kernel
theorem dX3_higher_6 : decode cX3_higher 6 = .ok (.aload_n 0, 1) := by decide +kernel
theorem dX3_higher_7 : decode cX3_higher 7 = .ok (.iload_n 2, 1) := by decide +kernel
theorem dX3_higher_8 : decode cX3_higher 8 = .ok (.invokevirtual 21, 3) := by decide +kernel
theorem dX3_higher_11 : decode cX3_higher 11 = .ok (.astore 4, 2) := by decide +kernel
theorem dX3_higher_13 : decode cX3_higher 13 = .ok (.aload_n 3, 1) := by decide +kernel
theorem dX3_higher_14 : decode cX3_higher 14 = .ok (.ifnull 20, 3) := by decide +kernel
theorem dX3_higher_17 : decode cX3_higher 17 = .ok (.aload 4, 2) := by decide +kernel
theorem dX3_higher_19 : decode cX3_higher 19 = .ok (.ifnull 15, 3) := by decide +kernel
theorem dX3_higher_22 : decode cX3_higher 22 = .ok (.aload_n 3, 1) := by decide +kernel
theorem dX3_higher_23 : decode cX3_higher 23 = .ok (.getfield 25, 3) := by decide +kernel
theorem dX3_higher_26 : decode cX3_higher 26 = .ok (.aload 4, 2) := by decide +kernel
theorem dX3_higher_28 : decode cX3_higher 28 = .ok (.getfield 25, 3) := by decide +kernel
theorem dX3_higher_31 : decode cX3_higher 31 = .ok (.if_icmp .gt 8, 3) := by decide +kernel
theorem dX3_higher_34 : decode cX3_higher 34 = .ok (.aload 4, 2) := by decide +kernel
theorem dX3_higher_36 : decode cX3_higher 36 = .ok (.goto 4, 3) := by decide +kernel
theorem dX3_higher_39 : decode cX3_higher 39 = .ok (.aload_n 3, 1) := by decide +kernel
theorem dX3_higher_40 : decode cX3_higher 40 = .ok (.areturn, 1) := by decide +kernel
theorem dX3_place_0 : decode cX3_place 0 = .ok (.iconst 0, 1) := by decide +kernel
theorem dX3_place_1 : decode cX3_place 1 = .ok (.istore_n 3, 1) := by decide +kernel
theorem dX3_place_2 : decode cX3_place 2 = .ok (.iload_n 3, 1) := by decide +kernel
theorem dX3_place_3 : decode cX3_place 3 = .ok (.aload_n 0, 1) := by decide +kernel
theorem dX3_place_4 : decode cX3_place 4 = .ok (.getfield 17, 3) := by decide +kernel
theorem dX3_place_7 : decode cX3_place 7 = .ok (.if_icmp .ge 40, 3) := by decide +kernel
theorem dX3_place_10 : decode cX3_place 10 = .ok (.aload_n 0, 1) := by decide +kernel
theorem dX3_place_11 : decode cX3_place 11 = .ok (.getfield 11, 3) := by decide +kernel
theorem dX3_place_14 : decode cX3_place 14 = .ok (.iload_n 3, 1) := by decide +kernel
theorem dX3_place_15 : decode cX3_place 15 = .ok (.aaload, 1) := by decide +kernel
theorem dX3_place_16 : decode cX3_place 16 = .ok (.getfield 25, 3) := by decide +kernel
theorem dX3_place_19 : decode cX3_place 19 = .ok (.iload_n 1, 1) := by decide +kernel
theorem dX3_place_20 : decode cX3_place 20 = .ok (.if_icmp .ne 21, 3) := by decide +kernel
theorem dX3_place_23 : decode cX3_place 23 = .ok (.aload_n 0, 1) := by decide +kernel
theorem dX3_place_24 : decode cX3_place 24 = .ok (.getfield 11, 3) := by decide +kernel
theorem dX3_place_27 : decode cX3_place 27 = .ok (.iload_n 3, 1) := by decide +kernel
theorem dX3_place_28 : decode cX3_place 28 = .ok (.aaload, 1) := by decide +kernel
theorem dX3_place_29 : decode cX3_place 29 = .ok (.getfield 28, 3) := by decide +kernel
theorem dX3_place_32 : decode cX3_place 32 = .ok (.aload_n 2, 1) := by decide +kernel
theorem dX3_place_33 : decode cX3_place 33 = .ok (.invokestatic 32, 3) := by decide +kernel
theorem dX3_place_36 : decode cX3_place 36 = .ok (.ifCond .eq 5, 3) := by decide +kernel
theorem dX3_place_39 : decode cX3_place 39 = .ok (.iload_n 3, 1) := by decide +kernel
theorem dX3_place_40 : decode cX3_place 40 = .ok (.ireturn, 1) := by decide +kernel
theorem dX3_place_41 : decode cX3_place 41 = .ok (.iinc 3 1, 3) := by decide +kernel
theorem dX3_place_44 : decode cX3_place 44 = .ok (.goto (-42), 3) := by decide +kernel
theorem dX3_place_47 : decode cX3_place 47 = .ok (.aload_n 0, 1) := by decide +kernel
theorem dX3_place_48 : decode cX3_place 48 = .ok (.getfield 17, 3) := by decide +kernel
theorem dX3_place_51 : decode cX3_place 51 = .ok (.aload_n 0, 1) := by decide +kernel
theorem dX3_place_52 : decode cX3_place 52 = .ok (.getfield 11, 3) := by decide +kernel
theorem dX3_place_55 : decode cX3_place 55 = .ok (.arraylength, 1) := by decide +kernel
theorem dX3_place_56 : decode cX3_place 56 = .ok (.if_icmp .lt 6, 3) := by decide +kernel
theorem dX3_place_59 : decode cX3_place 59 = .ok (.bipush (-3), 2) := by decide +kernel
theorem dX3_place_61 : decode cX3_place 61 = .ok (.ireturn, 1) := by decide +kernel
theorem dX3_place_62 : decode cX3_place 62 = .ok (.aload_n 0, 1) := by decide +kernel
theorem dX3_place_63 : decode cX3_place 63 = .ok (.getfield 11, 3) := by decide +kernel
theorem dX3_place_66 : decode cX3_place 66 = .ok (.aload_n 0, 1) := by decide +kernel
theorem dX3_place_67 : decode cX3_place 67 = .ok (.getfield 17, 3) := by decide +kernel
theorem dX3_place_70 : decode cX3_place 70 = .ok (.new 9, 3) := by decide +kernel
theorem dX3_place_73 : decode cX3_place 73 = .ok (.dup, 1) := by decide +kernel
theorem dX3_place_74 : decode cX3_place 74 = .ok (.iload_n 1, 1) := by decide +kernel
theorem dX3_place_75 : decode cX3_place 75 = .ok (.aload_n 2, 1) := by decide +kernel
theorem dX3_place_76 : decode cX3_place 76 = .ok (.invokespecial 38, 3) := by decide +kernel
theorem dX3_place_79 : decode cX3_place 79 = .ok (.aastore, 1) := by decide +kernel
theorem dX3_place_80 : decode cX3_place 80 = .ok (.aload_n 0, 1) := by decide +kernel
theorem dX3_place_81 : decode cX3_place 81 = .ok (.dup, 1) := by decide +kernel
theorem dX3_place_82 : decode cX3_place 82 = .ok (.getfield 17, 3) := by decide +kernel
theorem dX3_place_85 : decode cX3_place 85 = .ok (.iconst 1, 1) := by decide +kernel
theorem dX3_place_86 : decode cX3_place 86 = .ok (.iadd, 1) := by decide +kernel
theorem dX3_place_87 : decode cX3_place 87 = .ok (.putfield 17, 3) := by decide +kernel
theorem dX3_place_90 : decode cX3_place 90 = .ok (.aload_n 0, 1) := by decide +kernel
theorem dX3_place_91 : decode cX3_place 91 = .ok (.getfield 17, 3) := by decide +kernel
theorem dX3_place_94 : decode cX3_place 94 = .ok (.iconst 1, 1) := by decide +kernel
theorem dX3_place_95 : decode cX3_place 95 = .ok (.isub, 1) := by decide +kernel
theorem dX3_place_96 : decode cX3_place 96 = .ok (.ireturn, 1) := by decide +kernel
theorem dX4_init_0 : decode cX4_init 0 = .ok (.aload_n 0, 1) := by decide +kernel
theorem dX4_init_1 : decode cX4_init 1 = .ok (.invokespecial 3, 3) := by decide +kernel
theorem dX4_init_4 : decode cX4_init 4 = .ok (.aload_n 0, 1) := by decide +kernel
theorem dX4_init_5 : decode cX4_init 5 = .ok (.aload_n 1, 1) := by decide +kernel
theorem dX4_init_6 : decode cX4_init 6 = .ok (.putfield 9, 3) := by decide +kernel
theorem dX4_init_9 : decode cX4_init 9 = .ok (.aload_n 0, 1) := by decide +kernel
theorem dX4_init_10 : decode cX4_init 10 = .ok (.aload_n 1, 1) := by decide +kernel
theorem dX4_init_11 : decode cX4_init 11 = .ok (.getfield 15, 3) := by decide +kernel
theorem dX4_init_14 : decode cX4_init 14 = .ok (.putfield 21, 3) := by decide +kernel
theorem dX4_init_17 : decode cX4_init 17 = .ok (.aload_n 0, 1) := by decide +kernel
theorem dX4_init_18 : decode cX4_init 18 = .ok (.aload_n 1, 1) := by decide +kernel
theorem dX4_init_19 : decode cX4_init 19 = .ok (.getfield 22, 3) := by decide +kernel
theorem dX4_init_22 : decode cX4_init 22 = .ok (.putfield 26, 3) := by decide +kernel
theorem dX4_init_25 : decode cX4_init 25 = .ok (.return_, 1) := by decide +kernel
theorem dX4_wedge_0 : decode cX4_wedge 0 = .ok (.aload_n 0, 1) := by decide +kernel
theorem dX4_wedge_1 : decode cX4_wedge 1 = .ok (.getfield 26, 3) := by decide +kernel
theorem dX4_wedge_4 : decode cX4_wedge 4 = .ok (.aload_n 0, 1) := by decide +kernel
theorem dX4_wedge_5 : decode cX4_wedge 5 = .ok (.getfield 26, 3) := by decide +kernel
theorem dX4_wedge_8 : decode cX4_wedge 8 = .ok (.iconst 1, 1) := by decide +kernel
theorem dX4_wedge_9 : decode cX4_wedge 9 = .ok (.isub, 1) := by decide +kernel
theorem dX4_wedge_10 : decode cX4_wedge 10 = .ok (.imul, 1) := by decide +kernel
theorem dX4_wedge_11 : decode cX4_wedge 11 = .ok (.iconst 2, 1) := by decide +kernel
theorem dX4_wedge_12 : decode cX4_wedge 12 = .ok (.idiv, 1) := by decide +kernel
theorem dX4_wedge_13 : decode cX4_wedge 13 = .ok (.newarray .long, 2) := by decide +kernel
theorem dX4_wedge_15 : decode cX4_wedge 15 = .ok (.astore_n 3, 1) := by decide +kernel
theorem dX4_wedge_16 : decode cX4_wedge 16 = .ok (.iconst 0, 1) := by decide +kernel
theorem dX4_wedge_17 : decode cX4_wedge 17 = .ok (.istore 4, 2) := by decide +kernel
theorem dX4_wedge_19 : decode cX4_wedge 19 = .ok (.iconst 0, 1) := by decide +kernel
theorem dX4_wedge_20 : decode cX4_wedge 20 = .ok (.istore 5, 2) := by decide +kernel
theorem dX4_wedge_22 : decode cX4_wedge 22 = .ok (.iload 5, 2) := by decide +kernel
theorem dX4_wedge_24 : decode cX4_wedge 24 = .ok (.aload_n 0, 1) := by decide +kernel
theorem dX4_wedge_25 : decode cX4_wedge 25 = .ok (.getfield 26, 3) := by decide +kernel
theorem dX4_wedge_28 : decode cX4_wedge 28 = .ok (.if_icmp .ge 74, 3) := by decide +kernel
theorem dX4_wedge_31 : decode cX4_wedge 31 = .ok (.iload 5, 2) := by decide +kernel
theorem dX4_wedge_33 : decode cX4_wedge 33 = .ok (.iconst 1, 1) := by decide +kernel
theorem dX4_wedge_34 : decode cX4_wedge 34 = .ok (.iadd, 1) := by decide +kernel
theorem dX4_wedge_35 : decode cX4_wedge 35 = .ok (.istore 6, 2) := by decide +kernel
theorem dX4_wedge_37 : decode cX4_wedge 37 = .ok (.iload 6, 2) := by decide +kernel
theorem dX4_wedge_39 : decode cX4_wedge 39 = .ok (.aload_n 0, 1) := by decide +kernel
theorem dX4_wedge_40 : decode cX4_wedge 40 = .ok (.getfield 26, 3) := by decide +kernel
theorem dX4_wedge_43 : decode cX4_wedge 43 = .ok (.if_icmp .ge 53, 3) := by decide +kernel
theorem dX4_wedge_46 : decode cX4_wedge 46 = .ok (.aload_n 3, 1) := by decide +kernel
theorem dX4_wedge_47 : decode cX4_wedge 47 = .ok (.iload 4, 2) := by decide +kernel
theorem dX4_wedge_49 : decode cX4_wedge 49 = .ok (.aload_n 0, 1) := by decide +kernel
theorem dX4_wedge_50 : decode cX4_wedge 50 = .ok (.getfield 21, 3) := by decide +kernel
theorem dX4_wedge_53 : decode cX4_wedge 53 = .ok (.aload_n 0, 1) := by decide +kernel
theorem dX4_wedge_54 : decode cX4_wedge 54 = .ok (.getfield 21, 3) := by decide +kernel
theorem dX4_wedge_57 : decode cX4_wedge 57 = .ok (.aload_n 1, 1) := by decide +kernel
theorem dX4_wedge_58 : decode cX4_wedge 58 = .ok (.iload 5, 2) := by decide +kernel
theorem dX4_wedge_60 : decode cX4_wedge 60 = .ok (.laload, 1) := by decide +kernel
theorem dX4_wedge_61 : decode cX4_wedge 61 = .ok (.aload_n 2, 1) := by decide +kernel
theorem dX4_wedge_62 : decode cX4_wedge 62 = .ok (.iload 6, 2) := by decide +kernel
theorem dX4_wedge_64 : decode cX4_wedge 64 = .ok (.laload, 1) := by decide +kernel
theorem dX4_wedge_65 : decode cX4_wedge 65 = .ok (.invokevirtual 27, 3) := by decide +kernel
theorem dX4_wedge_68 : decode cX4_wedge 68 = .ok (.aload_n 0, 1) := by decide +kernel
theorem dX4_wedge_69 : decode cX4_wedge 69 = .ok (.getfield 21, 3) := by decide +kernel
theorem dX4_wedge_72 : decode cX4_wedge 72 = .ok (.aload_n 1, 1) := by decide +kernel
theorem dX4_wedge_73 : decode cX4_wedge 73 = .ok (.iload 6, 2) := by decide +kernel
theorem dX4_wedge_75 : decode cX4_wedge 75 = .ok (.laload, 1) := by decide +kernel
theorem dX4_wedge_76 : decode cX4_wedge 76 = .ok (.aload_n 2, 1) := by decide +kernel
theorem dX4_wedge_77 : decode cX4_wedge 77 = .ok (.iload 5, 2) := by decide +kernel
theorem dX4_wedge_79 : decode cX4_wedge 79 = .ok (.laload, 1) := by decide +kernel
theorem dX4_wedge_80 : decode cX4_wedge 80 = .ok (.invokevirtual 27, 3) := by decide +kernel
theorem dX4_wedge_83 : decode cX4_wedge 83 = .ok (.invokevirtual 33, 3) := by decide +kernel
theorem dX4_wedge_86 : decode cX4_wedge 86 = .ok (.lastore, 1) := by decide +kernel
theorem dX4_wedge_87 : decode cX4_wedge 87 = .ok (.iinc 4 1, 3) := by decide +kernel
theorem dX4_wedge_90 : decode cX4_wedge 90 = .ok (.iinc 6 1, 3) := by decide +kernel
theorem dX4_wedge_93 : decode cX4_wedge 93 = .ok (.goto (-56), 3) := by decide +kernel
theorem dX4_wedge_96 : decode cX4_wedge 96 = .ok (.iinc 5 1, 3) := by decide +kernel
theorem dX4_wedge_99 : decode cX4_wedge 99 = .ok (.goto (-77), 3) := by decide +kernel
theorem dX4_wedge_102 : decode cX4_wedge 102 = .ok (.aload_n 3, 1) := by decide +kernel
theorem dX4_wedge_103 : decode cX4_wedge 103 = .ok (.areturn, 1) := by decide +kernel
theorem dX4_flipped_0 : decode cX4_flipped 0 = .ok (.aload_n 1, 1) := by decide +kernel
theorem dX4_flipped_1 : decode cX4_flipped 1 = .ok (.arraylength, 1) := by decide +kernel
theorem dX4_flipped_2 : decode cX4_flipped 2 = .ok (.newarray .long, 2) := by decide +kernel
theorem dX4_flipped_4 : decode cX4_flipped 4 = .ok (.astore_n 2, 1) := by decide +kernel
theorem dX4_flipped_5 : decode cX4_flipped 5 = .ok (.iconst 0, 1) := by decide +kernel
theorem dX4_flipped_6 : decode cX4_flipped 6 = .ok (.istore_n 3, 1) := by decide +kernel
theorem dX4_flipped_7 : decode cX4_flipped 7 = .ok (.iload_n 3, 1) := by decide +kernel
