theorem dX6_base_188 : decode cX6_base 188 = .ok (.istore_n 2, 1) := by decide +kernel
theorem dX6_base_189 : decode cX6_base 189 = .ok (.iload_n 2, 1) := by decide +kernel
theorem dX6_base_190 : decode cX6_base 190 = .ok (.aload_n 0, 1) := by decide +kernel
theorem dX6_base_191 : decode cX6_base 191 = .ok (.invokevirtual 111, 3) := by decide +kernel
theorem dX6_base_194 : decode cX6_base 194 = .ok (.if_icmp .ge 33, 3) := by decide +kernel
theorem dX6_base_197 : decode cX6_base 197 = .ok (.aload_n 0, 1) := by decide +kernel
theorem dX6_base_198 : decode cX6_base 198 = .ok (.getfield 35, 3) := by decide +kernel
theorem dX6_base_201 : decode cX6_base 201 = .ok (.iload_n 2, 1) := by decide +kernel
theorem dX6_base_202 : decode cX6_base 202 = .ok (.aload_n 0, 1) := by decide +kernel
theorem dX6_base_203 : decode cX6_base 203 = .ok (.iconst 0, 1) := by decide +kernel
theorem dX6_base_204 : decode cX6_base 204 = .ok (.iload_n 2, 1) := by decide +kernel
theorem dX6_base_205 : decode cX6_base 205 = .ok (.invokevirtual 94, 3) := by decide +kernel
theorem dX6_base_208 : decode cX6_base 208 = .ok (.lastore, 1) := by decide +kernel
theorem dX6_base_209 : decode cX6_base 209 = .ok (.aload_n 0, 1) := by decide +kernel
theorem dX6_base_210 : decode cX6_base 210 = .ok (.getfield 38, 3) := by decide +kernel
theorem dX6_base_213 : decode cX6_base 213 = .ok (.iload_n 2, 1) := by decide +kernel
theorem dX6_base_214 : decode cX6_base 214 = .ok (.aload_n 0, 1) := by decide +kernel
theorem dX6_base_215 : decode cX6_base 215 = .ok (.iconst 1, 1) := by decide +kernel
theorem dX6_base_216 : decode cX6_base 216 = .ok (.iload_n 2, 1) := by decide +kernel
theorem dX6_base_217 : decode cX6_base 217 = .ok (.invokevirtual 94, 3) := by decide +kernel
theorem dX6_base_220 : decode cX6_base 220 = .ok (.lastore, 1) := by decide +kernel
theorem dX6_base_221 : decode cX6_base 221 = .ok (.iinc 2 1, 3) := by decide +kernel
theorem dX6_base_224 : decode cX6_base 224 = .ok (.goto (-35), 3) := by decide +kernel
theorem dX6_base_227 : decode cX6_base 227 = .ok (.return_, 1) := by decide +kernel
theorem dX6_through_0 : decode cX6_through 0 = .ok (.aload_n 0, 1) := by decide +kernel
theorem dX6_through_1 : decode cX6_through 1 = .ok (.invokevirtual 136, 3) := by decide +kernel
theorem dX6_through_4 : decode cX6_through 4 = .ok (.aload_n 0, 1) := by decide +kernel
theorem dX6_through_5 : decode cX6_through 5 = .ok (.getfield 56, 3) := by decide +kernel
theorem dX6_through_8 : decode cX6_through 8 = .ok (.iconst 2, 1) := by decide +kernel
theorem dX6_through_9 : decode cX6_through 9 = .ok (.if_icmp .ne 71, 3) := by decide +kernel
theorem dX6_through_12 : decode cX6_through 12 = .ok (.iconst 0, 1) := by decide +kernel
theorem dX6_through_13 : decode cX6_through 13 = .ok (.istore_n 1, 1) := by decide +kernel
theorem dX6_through_14 : decode cX6_through 14 = .ok (.iload_n 1, 1) := by decide +kernel
theorem dX6_through_15 : decode cX6_through 15 = .ok (.iconst 3, 1) := by decide +kernel
theorem dX6_through_16 : decode cX6_through 16 = .ok (.if_icmp .ge 63, 3) := by decide +kernel
theorem dX6_through_19 : decode cX6_through 19 = .ok (.iload_n 1, 1) := by decide +kernel
theorem dX6_through_20 : decode cX6_through 20 = .ok (.iconst 1, 1) := by decide +kernel
theorem dX6_through_21 : decode cX6_through 21 = .ok (.iadd, 1) := by decide +kernel
theorem dX6_through_22 : decode cX6_through 22 = .ok (.iconst 3, 1) := by decide +kernel
theorem dX6_through_23 : decode cX6_through 23 = .ok (.irem, 1) := by decide +kernel
theorem dX6_through_24 : decode cX6_through 24 = .ok (.istore_n 2, 1) := by decide +kernel
theorem dX6_through_25 : decode cX6_through 25 = .ok (.iload_n 1, 1) := by decide +kernel
theorem dX6_through_26 : decode cX6_through 26 = .ok (.iconst 2, 1) := by decide +kernel
theorem dX6_through_27 : decode cX6_through 27 = .ok (.iadd, 1) := by decide +kernel
theorem dX6_through_28 : decode cX6_through 28 = .ok (.iconst 3, 1) := by decide +kernel
theorem dX6_through_29 : decode cX6_through 29 = .ok (.irem, 1) := by decide +kernel
theorem dX6_through_30 : decode cX6_through 30 = .ok (.istore_n 3, 1) := by decide +kernel
theorem dX6_through_31 : decode cX6_through 31 = .ok (.aload_n 0, 1) := by decide +kernel
theorem dX6_through_32 : decode cX6_through 32 = .ok (.getfield 29, 3) := by decide +kernel
theorem dX6_through_35 : decode cX6_through 35 = .ok (.iload_n 1, 1) := by decide +kernel
theorem dX6_through_36 : decode cX6_through 36 = .ok (.aload_n 0, 1) := by decide +kernel
theorem dX6_through_37 : decode cX6_through 37 = .ok (.aload_n 0, 1) := by decide +kernel
theorem dX6_through_38 : decode cX6_through 38 = .ok (.aload_n 0, 1) := by decide +kernel
theorem dX6_through_39 : decode cX6_through 39 = .ok (.getfield 35, 3) := by decide +kernel
theorem dX6_through_42 : decode cX6_through 42 = .ok (.iload_n 2, 1) := by decide +kernel
theorem dX6_through_43 : decode cX6_through 43 = .ok (.laload, 1) := by decide +kernel
theorem dX6_through_44 : decode cX6_through 44 = .ok (.aload_n 0, 1) := by decide +kernel
theorem dX6_through_45 : decode cX6_through 45 = .ok (.getfield 38, 3) := by decide +kernel
theorem dX6_through_48 : decode cX6_through 48 = .ok (.iload_n 3, 1) := by decide +kernel
theorem dX6_through_49 : decode cX6_through 49 = .ok (.laload, 1) := by decide +kernel
theorem dX6_through_50 : decode cX6_through 50 = .ok (.invokevirtual 76, 3) := by decide +kernel
theorem dX6_through_53 : decode cX6_through 53 = .ok (.aload_n 0, 1) := by decide +kernel
theorem dX6_through_54 : decode cX6_through 54 = .ok (.aload_n 0, 1) := by decide +kernel
theorem dX6_through_55 : decode cX6_through 55 = .ok (.getfield 35, 3) := by decide +kernel
theorem dX6_through_58 : decode cX6_through 58 = .ok (.iload_n 3, 1) := by decide +kernel
theorem dX6_through_59 : decode cX6_through 59 = .ok (.laload, 1) := by decide +kernel
theorem dX6_through_60 : decode cX6_through 60 = .ok (.aload_n 0, 1) := by decide +kernel
theorem dX6_through_61 : decode cX6_through 61 = .ok (.getfield 38, 3) := by decide +kernel
theorem dX6_through_64 : decode cX6_through 64 = .ok (.iload_n 2, 1) := by decide +kernel
theorem dX6_through_65 : decode cX6_through 65 = .ok (.laload, 1) := by decide +kernel
theorem dX6_through_66 : decode cX6_through 66 = .ok (.invokevirtual 76, 3) := by decide +kernel
theorem dX6_through_69 : decode cX6_through 69 = .ok (.invokevirtual 105, 3) := by decide +kernel
theorem dX6_through_72 : decode cX6_through 72 = .ok (.lastore, 1) := by decide +kernel
theorem dX6_through_73 : decode cX6_through 73 = .ok (.iinc 1 1, 3) := by decide +kernel
theorem dX6_through_76 : decode cX6_through 76 = .ok (.goto (-62), 3) := by decide +kernel
theorem dX6_through_79 : decode cX6_through 79 = .ok (.return_, 1) := by decide +kernel
theorem dX6_through_80 : decode cX6_through 80 = .ok (.iconst 0, 1) := by decide +kernel
theorem dX6_through_81 : decode cX6_through 81 = .ok (.istore_n 1, 1) := by decide +kernel
theorem dX6_through_82 : decode cX6_through 82 = .ok (.iload_n 1, 1) := by decide +kernel
theorem dX6_through_83 : decode cX6_through 83 = .ok (.iconst 4, 1) := by decide +kernel
theorem dX6_through_84 : decode cX6_through 84 = .ok (.if_icmp .ge 70, 3) := by decide +kernel
theorem dX6_through_87 : decode cX6_through 87 = .ok (.iload_n 1, 1) := by decide +kernel
theorem dX6_through_88 : decode cX6_through 88 = .ok (.iconst 1, 1) := by decide +kernel
theorem dX6_through_89 : decode cX6_through 89 = .ok (.iadd, 1) := by decide +kernel
theorem dX6_through_90 : decode cX6_through 90 = .ok (.istore_n 2, 1) := by decide +kernel
theorem dX6_through_91 : decode cX6_through 91 = .ok (.iload_n 2, 1) := by decide +kernel
theorem dX6_through_92 : decode cX6_through 92 = .ok (.iconst 4, 1) := by decide +kernel
theorem dX6_through_93 : decode cX6_through 93 = .ok (.if_icmp .ge 55, 3) := by decide +kernel
theorem dX6_through_96 : decode cX6_through 96 = .ok (.aload_n 0, 1) := by decide +kernel
theorem dX6_through_97 : decode cX6_through 97 = .ok (.getfield 29, 3) := by decide +kernel
theorem dX6_through_100 : decode cX6_through 100 = .ok (.iload_n 1, 1) := by decide +kernel
theorem dX6_through_101 : decode cX6_through 101 = .ok (.iload_n 2, 1) := by decide +kernel
theorem dX6_through_102 : decode cX6_through 102 = .ok (.invokestatic 139, 3) := by decide +kernel
theorem dX6_through_105 : decode cX6_through 105 = .ok (.aload_n 0, 1) := by decide +kernel
theorem dX6_through_106 : decode cX6_through 106 = .ok (.aload_n 0, 1) := by decide +kernel
theorem dX6_through_107 : decode cX6_through 107 = .ok (.aload_n 0, 1) := by decide +kernel
theorem dX6_through_108 : decode cX6_through 108 = .ok (.getfield 35, 3) := by decide +kernel
theorem dX6_through_111 : decode cX6_through 111 = .ok (.iload_n 1, 1) := by decide +kernel
theorem dX6_through_112 : decode cX6_through 112 = .ok (.laload, 1) := by decide +kernel
theorem dX6_through_113 : decode cX6_through 113 = .ok (.aload_n 0, 1) := by decide +kernel
theorem dX6_through_114 : decode cX6_through 114 = .ok (.getfield 38, 3) := by decide +kernel
theorem dX6_through_117 : decode cX6_through 117 = .ok (.iload_n 2, 1) := by decide +kernel
theorem dX6_through_118 : decode cX6_through 118 = .ok (.laload, 1) := by decide +kernel
theorem dX6_through_119 : decode cX6_through 119 = .ok (.invokevirtual 76, 3) := by decide +kernel
theorem dX6_through_122 : decode cX6_through 122 = .ok (.aload_n 0, 1) := by decide +kernel
theorem dX6_through_123 : decode cX6_through 123 = .ok (.aload_n 0, 1) := by decide +kernel
theorem dX6_through_124 : decode cX6_through 124 = .ok (.getfield 35, 3) := by decide +kernel
theorem dX6_through_127 : decode cX6_through 127 = .ok (.iload_n 2, 1) := by decide +kernel
theorem dX6_through_128 : decode cX6_through 128 = .ok (.laload, 1) := by decide +kernel
theorem dX6_through_129 : decode cX6_through 129 = .ok (.aload_n 0, 1) := by decide +kernel
theorem dX6_through_130 : decode cX6_through 130 = .ok (.getfield 38, 3) := by decide +kernel
theorem dX6_through_133 : decode cX6_through 133 = .ok (.iload_n 1, 1) := by decide +kernel
theorem dX6_through_134 : decode cX6_through 134 = .ok (.laload, 1) := by decide +kernel
theorem dX6_through_135 : decode cX6_through 135 = .ok (.invokevirtual 76, 3) := by decide +kernel
theorem dX6_through_138 : decode cX6_through 138 = .ok (.invokevirtual 105, 3) := by decide +kernel
theorem dX6_through_141 : decode cX6_through 141 = .ok (.lastore, 1) := by decide +kernel
theorem dX6_through_142 : decode cX6_through 142 = .ok (.iinc 2 1, 3) := by decide +kernel
theorem dX6_through_145 : decode cX6_through 145 = .ok (.goto (-54), 3) := by decide +kernel
theorem dX6_through_148 : decode cX6_through 148 = .ok (.iinc 1 1, 3) := by decide +kernel
theorem dX6_through_151 : decode cX6_through 151 = .ok (.goto (-69), 3) := by decide +kernel
theorem dX6_through_154 : decode cX6_through 154 = .ok (.return_, 1) := by decide +kernel
theorem dX6_takeOne_0 : decode cX6_takeOne 0 = .ok (.iconst 0, 1) := by decide +kernel
theorem dX6_takeOne_1 : decode cX6_takeOne 1 = .ok (.istore_n 2, 1) := by decide +kernel
theorem dX6_takeOne_2 : decode cX6_takeOne 2 = .ok (.iload_n 2, 1) := by decide +kernel
theorem dX6_takeOne_3 : decode cX6_takeOne 3 = .ok (.aload_n 0, 1) := by decide +kernel
theorem dX6_takeOne_4 : decode cX6_takeOne 4 = .ok (.invokevirtual 111, 3) := by decide +kernel
theorem dX6_takeOne_7 : decode cX6_takeOne 7 = .ok (.if_icmp .ge 21, 3) := by decide +kernel
theorem dX6_takeOne_10 : decode cX6_takeOne 10 = .ok (.aload_n 0, 1) := by decide +kernel
theorem dX6_takeOne_11 : decode cX6_takeOne 11 = .ok (.getfield 35, 3) := by decide +kernel
theorem dX6_takeOne_14 : decode cX6_takeOne 14 = .ok (.iload_n 2, 1) := by decide +kernel
theorem dX6_takeOne_15 : decode cX6_takeOne 15 = .ok (.aload_n 0, 1) := by decide +kernel
theorem dX6_takeOne_16 : decode cX6_takeOne 16 = .ok (.iload_n 1, 1) := by decide +kernel
theorem dX6_takeOne_17 : decode cX6_takeOne 17 = .ok (.iload_n 2, 1) := by decide +kernel
theorem dX6_takeOne_18 : decode cX6_takeOne 18 = .ok (.invokevirtual 108, 3) := by decide +kernel
theorem dX6_takeOne_21 : decode cX6_takeOne 21 = .ok (.lastore, 1) := by decide +kernel
theorem dX6_takeOne_22 : decode cX6_takeOne 22 = .ok (.iinc 2 1, 3) := by decide +kernel
theorem dX6_takeOne_25 : decode cX6_takeOne 25 = .ok (.goto (-23), 3) := by decide +kernel
theorem dX6_takeOne_28 : decode cX6_takeOne 28 = .ok (.return_, 1) := by decide +kernel
theorem dX6_takeTwo_0 : decode cX6_takeTwo 0 = .ok (.iconst 0, 1) := by decide +kernel
theorem dX6_takeTwo_1 : decode cX6_takeTwo 1 = .ok (.istore_n 2, 1) := by decide +kernel
theorem dX6_takeTwo_2 : decode cX6_takeTwo 2 = .ok (.iload_n 2, 1) := by decide +kernel
theorem dX6_takeTwo_3 : decode cX6_takeTwo 3 = .ok (.aload_n 0, 1) := by decide +kernel
theorem dX6_takeTwo_4 : decode cX6_takeTwo 4 = .ok (.invokevirtual 111, 3) := by decide +kernel
theorem dX6_takeTwo_7 : decode cX6_takeTwo 7 = .ok (.if_icmp .ge 21, 3) := by decide +kernel
theorem dX6_takeTwo_10 : decode cX6_takeTwo 10 = .ok (.aload_n 0, 1) := by decide +kernel
theorem dX6_takeTwo_11 : decode cX6_takeTwo 11 = .ok (.getfield 38, 3) := by decide +kernel
theorem dX6_takeTwo_14 : decode cX6_takeTwo 14 = .ok (.iload_n 2, 1) := by decide +kernel
theorem dX6_takeTwo_15 : decode cX6_takeTwo 15 = .ok (.aload_n 0, 1) := by decide +kernel
theorem dX6_takeTwo_16 : decode cX6_takeTwo 16 = .ok (.iload_n 1, 1) := by decide +kernel
theorem dX6_takeTwo_17 : decode cX6_takeTwo 17 = .ok (.iload_n 2, 1) := by decide +kernel
theorem dX6_takeTwo_18 : decode cX6_takeTwo 18 = .ok (.invokevirtual 108, 3) := by decide +kernel
theorem dX6_takeTwo_21 : decode cX6_takeTwo 21 = .ok (.lastore, 1) := by decide +kernel
theorem dX6_takeTwo_22 : decode cX6_takeTwo 22 = .ok (.iinc 2 1, 3) := by decide +kernel
theorem dX6_takeTwo_25 : decode cX6_takeTwo 25 = .ok (.goto (-23), 3) := by decide +kernel
theorem dX6_takeTwo_28 : decode cX6_takeTwo 28 = .ok (.return_, 1) := by decide +kernel
theorem dX6_spanned_0 : decode cX6_spanned 0 = .ok (.aload_n 0, 1) := by decide +kernel
theorem dX6_spanned_1 : decode cX6_spanned 1 = .ok (.invokevirtual 136, 3) := by decide +kernel
theorem dX6_spanned_4 : decode cX6_spanned 4 = .ok (.iconst 0, 1) := by decide +kernel
theorem dX6_spanned_5 : decode cX6_spanned 5 = .ok (.istore_n 2, 1) := by decide +kernel
theorem dX6_spanned_6 : decode cX6_spanned 6 = .ok (.iload_n 2, 1) := by decide +kernel
theorem dX6_spanned_7 : decode cX6_spanned 7 = .ok (.iconst 4, 1) := by decide +kernel
theorem dX6_spanned_8 : decode cX6_spanned 8 = .ok (.if_icmp .ge 140, 3) := by decide +kernel
theorem dX6_spanned_11 : decode cX6_spanned 11 = .ok (.iload_n 2, 1) := by decide +kernel
theorem dX6_spanned_12 : decode cX6_spanned 12 = .ok (.ifCond .ne 7, 3) := by decide +kernel
theorem dX6_spanned_15 : decode cX6_spanned 15 = .ok (.iconst 1, 1) := by decide +kernel
theorem dX6_spanned_16 : decode cX6_spanned 16 = .ok (.goto 4, 3) := by decide +kernel
theorem dX6_spanned_19 : decode cX6_spanned 19 = .ok (.iconst 0, 1) := by decide +kernel
theorem dX6_spanned_20 : decode cX6_spanned 20 = .ok (.istore_n 3, 1) := by decide +kernel
theorem dX6_spanned_21 : decode cX6_spanned 21 = .ok (.iload_n 2, 1) := by decide +kernel
theorem dX6_spanned_22 : decode cX6_spanned 22 = .ok (.iconst 2, 1) := by decide +kernel
theorem dX6_spanned_23 : decode cX6_spanned 23 = .ok (.if_icmp .ge 7, 3) := by decide +kernel
theorem dX6_spanned_26 : decode cX6_spanned 26 = .ok (.iconst 2, 1) := by decide +kernel
theorem dX6_spanned_27 : decode cX6_spanned 27 = .ok (.goto 4, 3) := by decide +kernel
theorem dX6_spanned_30 : decode cX6_spanned 30 = .ok (.iconst 1, 1) := by decide +kernel
theorem dX6_spanned_31 : decode cX6_spanned 31 = .ok (.istore 4, 2) := by decide +kernel
theorem dX6_spanned_33 : decode cX6_spanned 33 = .ok (.iload_n 2, 1) := by decide +kernel
theorem dX6_spanned_34 : decode cX6_spanned 34 = .ok (.iconst 3, 1) := by decide +kernel
theorem dX6_spanned_35 : decode cX6_spanned 35 = .ok (.if_icmp .ge 7, 3) := by decide +kernel
theorem dX6_spanned_38 : decode cX6_spanned 38 = .ok (.iconst 3, 1) := by decide +kernel
theorem dX6_spanned_39 : decode cX6_spanned 39 = .ok (.goto 4, 3) := by decide +kernel
theorem dX6_spanned_42 : decode cX6_spanned 42 = .ok (.iconst 2, 1) := by decide +kernel
theorem dX6_spanned_43 : decode cX6_spanned 43 = .ok (.istore 5, 2) := by decide +kernel
theorem dX6_spanned_45 : decode cX6_spanned 45 = .ok (.aload_n 0, 1) := by decide +kernel
theorem dX6_spanned_46 : decode cX6_spanned 46 = .ok (.aload_n 0, 1) := by decide +kernel
theorem dX6_spanned_47 : decode cX6_spanned 47 = .ok (.iload_n 1, 1) := by decide +kernel
theorem dX6_spanned_48 : decode cX6_spanned 48 = .ok (.iload_n 3, 1) := by decide +kernel
theorem dX6_spanned_49 : decode cX6_spanned 49 = .ok (.iload 4, 2) := by decide +kernel
theorem dX6_spanned_51 : decode cX6_spanned 51 = .ok (.invokevirtual 142, 3) := by decide +kernel
theorem dX6_spanned_54 : decode cX6_spanned 54 = .ok (.aload_n 0, 1) := by decide +kernel
theorem dX6_spanned_55 : decode cX6_spanned 55 = .ok (.getfield 35, 3) := by decide +kernel
theorem dX6_spanned_58 : decode cX6_spanned 58 = .ok (.iload 5, 2) := by decide +kernel
theorem dX6_spanned_60 : decode cX6_spanned 60 = .ok (.laload, 1) := by decide +kernel
theorem dX6_spanned_61 : decode cX6_spanned 61 = .ok (.invokevirtual 76, 3) := by decide +kernel
theorem dX6_spanned_64 : decode cX6_spanned 64 = .ok (.aload_n 0, 1) := by decide +kernel
theorem dX6_spanned_65 : decode cX6_spanned 65 = .ok (.aload_n 0, 1) := by decide +kernel
theorem dX6_spanned_66 : decode cX6_spanned 66 = .ok (.iload_n 1, 1) := by decide +kernel
theorem dX6_spanned_67 : decode cX6_spanned 67 = .ok (.iload 4, 2) := by decide +kernel
theorem dX6_spanned_69 : decode cX6_spanned 69 = .ok (.iload 5, 2) := by decide +kernel
theorem dX6_spanned_71 : decode cX6_spanned 71 = .ok (.invokevirtual 142, 3) := by decide +kernel
theorem dX6_spanned_74 : decode cX6_spanned 74 = .ok (.aload_n 0, 1) := by decide +kernel
theorem dX6_spanned_75 : decode cX6_spanned 75 = .ok (.getfield 35, 3) := by decide +kernel
theorem dX6_spanned_78 : decode cX6_spanned 78 = .ok (.iload_n 3, 1) := by decide +kernel
theorem dX6_spanned_79 : decode cX6_spanned 79 = .ok (.laload, 1) := by decide +kernel
theorem dX6_spanned_80 : decode cX6_spanned 80 = .ok (.invokevirtual 76, 3) := by decide +kernel
theorem dX6_spanned_83 : decode cX6_spanned 83 = .ok (.ladd, 1) := by decide +kernel
theorem dX6_spanned_84 : decode cX6_spanned 84 = .ok (.aload_n 0, 1) := by decide +kernel
theorem dX6_spanned_85 : decode cX6_spanned 85 = .ok (.getfield 60, 3) := by decide +kernel
theorem dX6_spanned_88 : decode cX6_spanned 88 = .ok (.lrem, 1) := by decide +kernel
theorem dX6_spanned_89 : decode cX6_spanned 89 = .ok (.lstore 6, 2) := by decide +kernel
theorem dX6_spanned_91 : decode cX6_spanned 91 = .ok (.aload_n 0, 1) := by decide +kernel
theorem dX6_spanned_92 : decode cX6_spanned 92 = .ok (.lload 6, 2) := by decide +kernel
theorem dX6_spanned_94 : decode cX6_spanned 94 = .ok (.aload_n 0, 1) := by decide +kernel
theorem dX6_spanned_95 : decode cX6_spanned 95 = .ok (.aload_n 0, 1) := by decide +kernel
theorem dX6_spanned_96 : decode cX6_spanned 96 = .ok (.iload_n 1, 1) := by decide +kernel
theorem dX6_spanned_97 : decode cX6_spanned 97 = .ok (.iload_n 3, 1) := by decide +kernel
theorem dX6_spanned_98 : decode cX6_spanned 98 = .ok (.iload 5, 2) := by decide +kernel
theorem dX6_spanned_100 : decode cX6_spanned 100 = .ok (.invokevirtual 142, 3) := by decide +kernel
theorem dX6_spanned_103 : decode cX6_spanned 103 = .ok (.aload_n 0, 1) := by decide +kernel
theorem dX6_spanned_104 : decode cX6_spanned 104 = .ok (.getfield 35, 3) := by decide +kernel
theorem dX6_spanned_107 : decode cX6_spanned 107 = .ok (.iload 4, 2) := by decide +kernel
theorem dX6_spanned_109 : decode cX6_spanned 109 = .ok (.laload, 1) := by decide +kernel
theorem dX6_spanned_110 : decode cX6_spanned 110 = .ok (.invokevirtual 76, 3) := by decide +kernel
theorem dX6_spanned_113 : decode cX6_spanned 113 = .ok (.invokevirtual 105, 3) := by decide +kernel
theorem dX6_spanned_116 : decode cX6_spanned 116 = .ok (.lstore 6, 2) := by decide +kernel
theorem dX6_spanned_118 : decode cX6_spanned 118 = .ok (.aload_n 0, 1) := by decide +kernel
theorem dX6_spanned_119 : decode cX6_spanned 119 = .ok (.getfield 29, 3) := by decide +kernel
theorem dX6_spanned_122 : decode cX6_spanned 122 = .ok (.iload_n 2, 1) := by decide +kernel
theorem dX6_spanned_123 : decode cX6_spanned 123 = .ok (.iload_n 2, 1) := by decide +kernel
theorem dX6_spanned_124 : decode cX6_spanned 124 = .ok (.iconst 2, 1) := by decide +kernel
theorem dX6_spanned_125 : decode cX6_spanned 125 = .ok (.irem, 1) := by decide +kernel
theorem dX6_spanned_126 : decode cX6_spanned 126 = .ok (.ifCond .ne 8, 3) := by decide +kernel
theorem dX6_spanned_129 : decode cX6_spanned 129 = .ok (.lload 6, 2) := by decide +kernel
theorem dX6_spanned_131 : decode cX6_spanned 131 = .ok (.goto 10, 3) := by decide +kernel
theorem dX6_spanned_134 : decode cX6_spanned 134 = .ok (.aload_n 0, 1) := by decide +kernel
theorem dX6_spanned_135 : decode cX6_spanned 135 = .ok (.lconst 0, 1) := by decide +kernel
theorem dX6_spanned_136 : decode cX6_spanned 136 = .ok (.lload 6, 2) := by decide +kernel
theorem dX6_spanned_138 : decode cX6_spanned 138 = .ok (.invokevirtual 105, 3) := by decide +kernel
theorem dX6_spanned_141 : decode cX6_spanned 141 = .ok (.lastore, 1) := by decide +kernel
theorem dX6_spanned_142 : decode cX6_spanned 142 = .ok (.iinc 2 1, 3) := by decide +kernel
theorem dX6_spanned_145 : decode cX6_spanned 145 = .ok (.goto (-139), 3) := by decide +kernel
theorem dX6_spanned_148 : decode cX6_spanned 148 = .ok (.return_, 1) := by decide +kernel
theorem dX6_pierced_0 : decode cX6_pierced 0 = .ok (.aload_n 0, 1) := by decide +kernel
theorem dX6_pierced_1 : decode cX6_pierced 1 = .ok (.invokevirtual 136, 3) := by decide +kernel
theorem dX6_pierced_4 : decode cX6_pierced 4 = .ok (.iconst 0, 1) := by decide +kernel
theorem dX6_pierced_5 : decode cX6_pierced 5 = .ok (.istore_n 3, 1) := by decide +kernel
theorem dX6_pierced_6 : decode cX6_pierced 6 = .ok (.iload_n 3, 1) := by decide +kernel
theorem dX6_pierced_7 : decode cX6_pierced 7 = .ok (.iconst 4, 1) := by decide +kernel
theorem dX6_pierced_8 : decode cX6_pierced 8 = .ok (.if_icmp .ge 61, 3) := by decide +kernel
theorem dX6_pierced_11 : decode cX6_pierced 11 = .ok (.iconst 0, 1) := by decide +kernel
theorem dX6_pierced_12 : decode cX6_pierced 12 = .ok (.istore 4, 2) := by decide +kernel
theorem dX6_pierced_14 : decode cX6_pierced 14 = .ok (.iload 4, 2) := by decide +kernel
theorem dX6_pierced_16 : decode cX6_pierced 16 = .ok (.iconst 4, 1) := by decide +kernel
theorem dX6_pierced_17 : decode cX6_pierced 17 = .ok (.if_icmp .ge 46, 3) := by decide +kernel
theorem dX6_pierced_20 : decode cX6_pierced 20 = .ok (.aload_n 0, 1) := by decide +kernel
theorem dX6_pierced_21 : decode cX6_pierced 21 = .ok (.getfield 29, 3) := by decide +kernel
theorem dX6_pierced_24 : decode cX6_pierced 24 = .ok (.iload_n 3, 1) := by decide +kernel
theorem dX6_pierced_25 : decode cX6_pierced 25 = .ok (.aload_n 0, 1) := by decide +kernel
theorem dX6_pierced_26 : decode cX6_pierced 26 = .ok (.getfield 29, 3) := by decide +kernel
theorem dX6_pierced_29 : decode cX6_pierced 29 = .ok (.iload_n 3, 1) := by decide +kernel
theorem dX6_pierced_30 : decode cX6_pierced 30 = .ok (.laload, 1) := by decide +kernel
theorem dX6_pierced_31 : decode cX6_pierced 31 = .ok (.aload_n 0, 1) := by decide +kernel
theorem dX6_pierced_32 : decode cX6_pierced 32 = .ok (.aload_n 0, 1) := by decide +kernel
theorem dX6_pierced_33 : decode cX6_pierced 33 = .ok (.iload_n 1, 1) := by decide +kernel
theorem dX6_pierced_34 : decode cX6_pierced 34 = .ok (.iload_n 3, 1) := by decide +kernel
theorem dX6_pierced_35 : decode cX6_pierced 35 = .ok (.iload 4, 2) := by decide +kernel
theorem dX6_pierced_37 : decode cX6_pierced 37 = .ok (.invokevirtual 142, 3) := by decide +kernel
theorem dX6_pierced_40 : decode cX6_pierced 40 = .ok (.aload_n 0, 1) := by decide +kernel
theorem dX6_pierced_41 : decode cX6_pierced 41 = .ok (.iload_n 2, 1) := by decide +kernel
theorem dX6_pierced_42 : decode cX6_pierced 42 = .ok (.iload 4, 2) := by decide +kernel
theorem dX6_pierced_44 : decode cX6_pierced 44 = .ok (.invokevirtual 108, 3) := by decide +kernel
theorem dX6_pierced_47 : decode cX6_pierced 47 = .ok (.invokevirtual 76, 3) := by decide +kernel
theorem dX6_pierced_50 : decode cX6_pierced 50 = .ok (.ladd, 1) := by decide +kernel
theorem dX6_pierced_51 : decode cX6_pierced 51 = .ok (.aload_n 0, 1) := by decide +kernel
theorem dX6_pierced_52 : decode cX6_pierced 52 = .ok (.getfield 60, 3) := by decide +kernel
theorem dX6_pierced_55 : decode cX6_pierced 55 = .ok (.lrem, 1) := by decide +kernel
theorem dX6_pierced_56 : decode cX6_pierced 56 = .ok (.lastore, 1) := by decide +kernel
theorem dX6_pierced_57 : decode cX6_pierced 57 = .ok (.iinc 4 1, 3) := by decide +kernel
theorem dX6_pierced_60 : decode cX6_pierced 60 = .ok (.goto (-46), 3) := by decide +kernel
theorem dX6_pierced_63 : decode cX6_pierced 63 = .ok (.iinc 3 1, 3) := by decide +kernel
theorem dX6_pierced_66 : decode cX6_pierced 66 = .ok (.goto (-60), 3) := by decide +kernel
theorem dX6_pierced_69 : decode cX6_pierced 69 = .ok (.return_, 1) := by decide +kernel
theorem dX6_dot_0 : decode cX6_dot 0 = .ok (.lconst 0, 1) := by decide +kernel
theorem dX6_dot_1 : decode cX6_dot 1 = .ok (.lstore_n 3, 1) := by decide +kernel
theorem dX6_dot_2 : decode cX6_dot 2 = .ok (.iconst 0, 1) := by decide +kernel
theorem dX6_dot_3 : decode cX6_dot 3 = .ok (.istore 5, 2) := by decide +kernel
theorem dX6_dot_5 : decode cX6_dot 5 = .ok (.iload 5, 2) := by decide +kernel
theorem dX6_dot_7 : decode cX6_dot 7 = .ok (.aload_n 0, 1) := by decide +kernel
theorem dX6_dot_8 : decode cX6_dot 8 = .ok (.invokevirtual 111, 3) := by decide +kernel
theorem dX6_dot_11 : decode cX6_dot 11 = .ok (.if_icmp .ge 35, 3) := by decide +kernel
theorem dX6_dot_14 : decode cX6_dot 14 = .ok (.lload_n 3, 1) := by decide +kernel
theorem dX6_dot_15 : decode cX6_dot 15 = .ok (.aload_n 0, 1) := by decide +kernel
theorem dX6_dot_16 : decode cX6_dot 16 = .ok (.aload_n 0, 1) := by decide +kernel
theorem dX6_dot_17 : decode cX6_dot 17 = .ok (.iload_n 1, 1) := by decide +kernel
theorem dX6_dot_18 : decode cX6_dot 18 = .ok (.iload 5, 2) := by decide +kernel
theorem dX6_dot_20 : decode cX6_dot 20 = .ok (.invokevirtual 108, 3) := by decide +kernel
theorem dX6_dot_23 : decode cX6_dot 23 = .ok (.aload_n 0, 1) := by decide +kernel
theorem dX6_dot_24 : decode cX6_dot 24 = .ok (.iload_n 2, 1) := by decide +kernel
theorem dX6_dot_25 : decode cX6_dot 25 = .ok (.iload 5, 2) := by decide +kernel
theorem dX6_dot_27 : decode cX6_dot 27 = .ok (.invokevirtual 108, 3) := by decide +kernel
theorem dX6_dot_30 : decode cX6_dot 30 = .ok (.invokevirtual 76, 3) := by decide +kernel
theorem dX6_dot_33 : decode cX6_dot 33 = .ok (.ladd, 1) := by decide +kernel
theorem dX6_dot_34 : decode cX6_dot 34 = .ok (.aload_n 0, 1) := by decide +kernel
theorem dX6_dot_35 : decode cX6_dot 35 = .ok (.getfield 60, 3) := by decide +kernel
theorem dX6_dot_38 : decode cX6_dot 38 = .ok (.lrem, 1) := by decide +kernel
theorem dX6_dot_39 : decode cX6_dot 39 = .ok (.lstore_n 3, 1) := by decide +kernel
theorem dX6_dot_40 : decode cX6_dot 40 = .ok (.iinc 5 1, 3) := by decide +kernel
theorem dX6_dot_43 : decode cX6_dot 43 = .ok (.goto (-38), 3) := by decide +kernel
theorem dX6_dot_46 : decode cX6_dot 46 = .ok (.lload_n 3, 1) := by decide +kernel
theorem dX6_dot_47 : decode cX6_dot 47 = .ok (.lreturn, 1) := by decide +kernel
theorem dX6_isCrossed_0 : decode cX6_isCrossed 0 = .ok (.lconst 0, 1) := by decide +kernel
theorem dX6_isCrossed_1 : decode cX6_isCrossed 1 = .ok (.lstore_n 3, 1) := by decide +kernel
theorem dX6_isCrossed_2 : decode cX6_isCrossed 2 = .ok (.iconst 0, 1) := by decide +kernel
theorem dX6_isCrossed_3 : decode cX6_isCrossed 3 = .ok (.istore 5, 2) := by decide +kernel
theorem dX6_isCrossed_5 : decode cX6_isCrossed 5 = .ok (.iload 5, 2) := by decide +kernel
theorem dX6_isCrossed_7 : decode cX6_isCrossed 7 = .ok (.bipush 6, 2) := by decide +kernel
theorem dX6_isCrossed_9 : decode cX6_isCrossed 9 = .ok (.if_icmp .ge 63, 3) := by decide +kernel
theorem dX6_isCrossed_12 : decode cX6_isCrossed 12 = .ok (.aload_n 0, 1) := by decide +kernel
theorem dX6_isCrossed_13 : decode cX6_isCrossed 13 = .ok (.aload_n 0, 1) := by decide +kernel
theorem dX6_isCrossed_14 : decode cX6_isCrossed 14 = .ok (.iload_n 1, 1) := by decide +kernel
theorem dX6_isCrossed_15 : decode cX6_isCrossed 15 = .ok (.iload 5, 2) := by decide +kernel
theorem dX6_isCrossed_17 : decode cX6_isCrossed 17 = .ok (.invokevirtual 108, 3) := by decide +kernel
theorem dX6_isCrossed_20 : decode cX6_isCrossed 20 = .ok (.aload_n 0, 1) := by decide +kernel
theorem dX6_isCrossed_21 : decode cX6_isCrossed 21 = .ok (.iload_n 2, 1) := by decide +kernel
theorem dX6_isCrossed_22 : decode cX6_isCrossed 22 = .ok (.iconst 5, 1) := by decide +kernel
theorem dX6_isCrossed_23 : decode cX6_isCrossed 23 = .ok (.iload 5, 2) := by decide +kernel
theorem dX6_isCrossed_25 : decode cX6_isCrossed 25 = .ok (.isub, 1) := by decide +kernel
theorem dX6_isCrossed_26 : decode cX6_isCrossed 26 = .ok (.invokevirtual 108, 3) := by decide +kernel
theorem dX6_isCrossed_29 : decode cX6_isCrossed 29 = .ok (.invokevirtual 76, 3) := by decide +kernel
theorem dX6_isCrossed_32 : decode cX6_isCrossed 32 = .ok (.lstore 6, 2) := by decide +kernel
theorem dX6_isCrossed_34 : decode cX6_isCrossed 34 = .ok (.iload 5, 2) := by decide +kernel
theorem dX6_isCrossed_36 : decode cX6_isCrossed 36 = .ok (.iconst 1, 1) := by decide +kernel
theorem dX6_isCrossed_37 : decode cX6_isCrossed 37 = .ok (.if_icmp .eq 9, 3) := by decide +kernel
theorem dX6_isCrossed_40 : decode cX6_isCrossed 40 = .ok (.iload 5, 2) := by decide +kernel
theorem dX6_isCrossed_42 : decode cX6_isCrossed 42 = .ok (.iconst 4, 1) := by decide +kernel
theorem dX6_isCrossed_43 : decode cX6_isCrossed 43 = .ok (.if_icmp .ne 13, 3) := by decide +kernel
theorem dX6_isCrossed_46 : decode cX6_isCrossed 46 = .ok (.aload_n 0, 1) := by decide +kernel
theorem dX6_isCrossed_47 : decode cX6_isCrossed 47 = .ok (.lload_n 3, 1) := by decide +kernel
theorem dX6_isCrossed_48 : decode cX6_isCrossed 48 = .ok (.lload 6, 2) := by decide +kernel
theorem dX6_isCrossed_50 : decode cX6_isCrossed 50 = .ok (.invokevirtual 105, 3) := by decide +kernel
theorem dX6_isCrossed_53 : decode cX6_isCrossed 53 = .ok (.goto 12, 3) := by decide +kernel
theorem dX6_isCrossed_56 : decode cX6_isCrossed 56 = .ok (.lload_n 3, 1) := by decide +kernel
theorem dX6_isCrossed_57 : decode cX6_isCrossed 57 = .ok (.lload 6, 2) := by decide +kernel
theorem dX6_isCrossed_59 : decode cX6_isCrossed 59 = .ok (.ladd, 1) := by decide +kernel
theorem dX6_isCrossed_60 : decode cX6_isCrossed 60 = .ok (.aload_n 0, 1) := by decide +kernel
theorem dX6_isCrossed_61 : decode cX6_isCrossed 61 = .ok (.getfield 60, 3) := by decide +kernel
theorem dX6_isCrossed_64 : decode cX6_isCrossed 64 = .ok (.lrem, 1) := by decide +kernel
theorem dX6_isCrossed_65 : decode cX6_isCrossed 65 = .ok (.lstore_n 3, 1) := by decide +kernel
theorem dX6_isCrossed_66 : decode cX6_isCrossed 66 = .ok (.iinc 5 1, 3) := by decide +kernel
theorem dX6_isCrossed_69 : decode cX6_isCrossed 69 = .ok (.goto (-64), 3) := by decide +kernel
theorem dX6_isCrossed_72 : decode cX6_isCrossed 72 = .ok (.lload_n 3, 1) := by decide +kernel
theorem dX6_isCrossed_73 : decode cX6_isCrossed 73 = .ok (.lconst 0, 1) := by decide +kernel
theorem dX6_isCrossed_74 : decode cX6_isCrossed 74 = .ok (.lcmp, 1) := by decide +kernel
theorem dX6_isCrossed_75 : decode cX6_isCrossed 75 = .ok (.ifCond .ne 7, 3) := by decide +kernel
theorem dX6_isCrossed_78 : decode cX6_isCrossed 78 = .ok (.iconst 1, 1) := by decide +kernel
theorem dX6_isCrossed_79 : decode cX6_isCrossed 79 = .ok (.goto 4, 3) := by decide +kernel
theorem dX6_isCrossed_82 : decode cX6_isCrossed 82 = .ok (.iconst 0, 1) := by decide +kernel
theorem dX6_isCrossed_83 : decode cX6_isCrossed 83 = .ok (.ireturn, 1) := by decide +kernel
theorem dX6_form_0 : decode cX6_form 0 = .ok (.lconst 0, 1) := by decide +kernel
theorem dX6_form_1 : decode cX6_form 1 = .ok (.lstore 4, 2) := by decide +kernel
theorem dX6_form_3 : decode cX6_form 3 = .ok (.iconst 0, 1) := by decide +kernel
theorem dX6_form_4 : decode cX6_form 4 = .ok (.istore 6, 2) := by decide +kernel
theorem dX6_form_6 : decode cX6_form 6 = .ok (.iload 6, 2) := by decide +kernel
theorem dX6_form_8 : decode cX6_form 8 = .ok (.aload_n 0, 1) := by decide +kernel
theorem dX6_form_9 : decode cX6_form 9 = .ok (.invokevirtual 111, 3) := by decide +kernel
theorem dX6_form_12 : decode cX6_form 12 = .ok (.if_icmp .ge 106, 3) := by decide +kernel
theorem dX6_form_15 : decode cX6_form 15 = .ok (.iconst 0, 1) := by decide +kernel
theorem dX6_form_16 : decode cX6_form 16 = .ok (.istore 7, 2) := by decide +kernel
theorem dX6_form_18 : decode cX6_form 18 = .ok (.iload 7, 2) := by decide +kernel
theorem dX6_form_20 : decode cX6_form 20 = .ok (.aload_n 0, 1) := by decide +kernel
theorem dX6_form_21 : decode cX6_form 21 = .ok (.invokevirtual 111, 3) := by decide +kernel
theorem dX6_form_24 : decode cX6_form 24 = .ok (.if_icmp .ge 88, 3) := by decide +kernel
theorem dX6_form_27 : decode cX6_form 27 = .ok (.aload_n 0, 1) := by decide +kernel
theorem dX6_form_28 : decode cX6_form 28 = .ok (.iload_n 2, 1) := by decide +kernel
theorem dX6_form_29 : decode cX6_form 29 = .ok (.ifCond .eq 13, 3) := by decide +kernel
theorem dX6_form_32 : decode cX6_form 32 = .ok (.aload_n 0, 1) := by decide +kernel
theorem dX6_form_33 : decode cX6_form 33 = .ok (.getfield 35, 3) := by decide +kernel
theorem dX6_form_36 : decode cX6_form 36 = .ok (.iload 6, 2) := by decide +kernel
theorem dX6_form_38 : decode cX6_form 38 = .ok (.laload, 1) := by decide +kernel
theorem dX6_form_39 : decode cX6_form 39 = .ok (.goto 10, 3) := by decide +kernel
theorem dX6_form_42 : decode cX6_form 42 = .ok (.aload_n 0, 1) := by decide +kernel
theorem dX6_form_43 : decode cX6_form 43 = .ok (.getfield 38, 3) := by decide +kernel
theorem dX6_form_46 : decode cX6_form 46 = .ok (.iload 6, 2) := by decide +kernel
theorem dX6_form_48 : decode cX6_form 48 = .ok (.laload, 1) := by decide +kernel
theorem dX6_form_49 : decode cX6_form 49 = .ok (.iload_n 3, 1) := by decide +kernel
theorem dX6_form_50 : decode cX6_form 50 = .ok (.ifCond .eq 13, 3) := by decide +kernel
theorem dX6_form_53 : decode cX6_form 53 = .ok (.aload_n 0, 1) := by decide +kernel
theorem dX6_form_54 : decode cX6_form 54 = .ok (.getfield 35, 3) := by decide +kernel
theorem dX6_form_57 : decode cX6_form 57 = .ok (.iload 7, 2) := by decide +kernel
theorem dX6_form_59 : decode cX6_form 59 = .ok (.laload, 1) := by decide +kernel
theorem dX6_form_60 : decode cX6_form 60 = .ok (.goto 10, 3) := by decide +kernel
theorem dX6_form_63 : decode cX6_form 63 = .ok (.aload_n 0, 1) := by decide +kernel
theorem dX6_form_64 : decode cX6_form 64 = .ok (.getfield 38, 3) := by decide +kernel
theorem dX6_form_67 : decode cX6_form 67 = .ok (.iload 7, 2) := by decide +kernel
theorem dX6_form_69 : decode cX6_form 69 = .ok (.laload, 1) := by decide +kernel
theorem dX6_form_70 : decode cX6_form 70 = .ok (.invokevirtual 76, 3) := by decide +kernel
theorem dX6_form_73 : decode cX6_form 73 = .ok (.lstore 8, 2) := by decide +kernel
theorem dX6_form_75 : decode cX6_form 75 = .ok (.lload 4, 2) := by decide +kernel
theorem dX6_form_77 : decode cX6_form 77 = .ok (.aload_n 0, 1) := by decide +kernel
theorem dX6_form_78 : decode cX6_form 78 = .ok (.aload_n 0, 1) := by decide +kernel
theorem dX6_form_79 : decode cX6_form 79 = .ok (.iload_n 1, 1) := by decide +kernel
theorem dX6_form_80 : decode cX6_form 80 = .ok (.iload 6, 2) := by decide +kernel
theorem dX6_form_82 : decode cX6_form 82 = .ok (.aload_n 0, 1) := by decide +kernel
theorem dX6_form_83 : decode cX6_form 83 = .ok (.invokevirtual 111, 3) := by decide +kernel
theorem dX6_form_86 : decode cX6_form 86 = .ok (.imul, 1) := by decide +kernel
theorem dX6_form_87 : decode cX6_form 87 = .ok (.iload 7, 2) := by decide +kernel
theorem dX6_form_89 : decode cX6_form 89 = .ok (.iadd, 1) := by decide +kernel
theorem dX6_form_90 : decode cX6_form 90 = .ok (.invokevirtual 108, 3) := by decide +kernel
theorem dX6_form_93 : decode cX6_form 93 = .ok (.lload 8, 2) := by decide +kernel
theorem dX6_form_95 : decode cX6_form 95 = .ok (.invokevirtual 76, 3) := by decide +kernel
theorem dX6_form_98 : decode cX6_form 98 = .ok (.ladd, 1) := by decide +kernel
theorem dX6_form_99 : decode cX6_form 99 = .ok (.aload_n 0, 1) := by decide +kernel
theorem dX6_form_100 : decode cX6_form 100 = .ok (.getfield 60, 3) := by decide +kernel
theorem dX6_form_103 : decode cX6_form 103 = .ok (.lrem, 1) := by decide +kernel
theorem dX6_form_104 : decode cX6_form 104 = .ok (.lstore 4, 2) := by decide +kernel
theorem dX6_form_106 : decode cX6_form 106 = .ok (.iinc 7 1, 3) := by decide +kernel
theorem dX6_form_109 : decode cX6_form 109 = .ok (.goto (-91), 3) := by decide +kernel
theorem dX6_form_112 : decode cX6_form 112 = .ok (.iinc 6 1, 3) := by decide +kernel
theorem dX6_form_115 : decode cX6_form 115 = .ok (.goto (-109), 3) := by decide +kernel
theorem dX6_form_118 : decode cX6_form 118 = .ok (.lload 4, 2) := by decide +kernel
theorem dX6_form_120 : decode cX6_form 120 = .ok (.lreturn, 1) := by decide +kernel
theorem dX6_join_0 : decode cX6_join 0 = .ok (.aload_n 0, 1) := by decide +kernel
theorem dX6_join_1 : decode cX6_join 1 = .ok (.iload_n 1, 1) := by decide +kernel
theorem dX6_join_2 : decode cX6_join 2 = .ok (.iconst 0, 1) := by decide +kernel
theorem dX6_join_3 : decode cX6_join 3 = .ok (.invokevirtual 146, 3) := by decide +kernel
theorem dX6_join_6 : decode cX6_join 6 = .ok (.ifCond .eq 41, 3) := by decide +kernel
theorem dX6_join_9 : decode cX6_join 9 = .ok (.aload_n 0, 1) := by decide +kernel
theorem dX6_join_10 : decode cX6_join 10 = .ok (.iload_n 2, 1) := by decide +kernel
theorem dX6_join_11 : decode cX6_join 11 = .ok (.iconst 0, 1) := by decide +kernel
theorem dX6_join_12 : decode cX6_join 12 = .ok (.invokevirtual 146, 3) := by decide +kernel
theorem dX6_join_15 : decode cX6_join 15 = .ok (.ifCond .eq 32, 3) := by decide +kernel
theorem dX6_join_18 : decode cX6_join 18 = .ok (.aload_n 0, 1) := by decide +kernel
theorem dX6_join_19 : decode cX6_join 19 = .ok (.iload_n 1, 1) := by decide +kernel
theorem dX6_join_20 : decode cX6_join 20 = .ok (.invokevirtual 150, 3) := by decide +kernel
theorem dX6_join_23 : decode cX6_join 23 = .ok (.aload_n 0, 1) := by decide +kernel
theorem dX6_join_24 : decode cX6_join 24 = .ok (.iload_n 2, 1) := by decide +kernel
theorem dX6_join_25 : decode cX6_join 25 = .ok (.invokevirtual 153, 3) := by decide +kernel
theorem dX6_join_28 : decode cX6_join 28 = .ok (.aload_n 0, 1) := by decide +kernel
theorem dX6_join_29 : decode cX6_join 29 = .ok (.invokevirtual 156, 3) := by decide +kernel
theorem dX6_join_32 : decode cX6_join 32 = .ok (.iload_n 1, 1) := by decide +kernel
theorem dX6_join_33 : decode cX6_join 33 = .ok (.iload_n 2, 1) := by decide +kernel
theorem dX6_join_34 : decode cX6_join 34 = .ok (.if_icmp .ne 7, 3) := by decide +kernel
theorem dX6_join_37 : decode cX6_join 37 = .ok (.iconst (-1), 1) := by decide +kernel
theorem dX6_join_38 : decode cX6_join 38 = .ok (.goto 8, 3) := by decide +kernel
theorem dX6_join_41 : decode cX6_join 41 = .ok (.aload_n 0, 1) := by decide +kernel
theorem dX6_join_42 : decode cX6_join 42 = .ok (.iconst 1, 1) := by decide +kernel
theorem dX6_join_43 : decode cX6_join 43 = .ok (.invokevirtual 133, 3) := by decide +kernel
theorem dX6_join_46 : decode cX6_join 46 = .ok (.ireturn, 1) := by decide +kernel
theorem dX6_join_47 : decode cX6_join 47 = .ok (.aload_n 0, 1) := by decide +kernel
theorem dX6_join_48 : decode cX6_join 48 = .ok (.getfield 56, 3) := by decide +kernel
theorem dX6_join_51 : decode cX6_join 51 = .ok (.iconst 3, 1) := by decide +kernel
theorem dX6_join_52 : decode cX6_join 52 = .ok (.if_icmp .ne 46, 3) := by decide +kernel
theorem dX6_join_55 : decode cX6_join 55 = .ok (.aload_n 0, 1) := by decide +kernel
theorem dX6_join_56 : decode cX6_join 56 = .ok (.iload_n 1, 1) := by decide +kernel
theorem dX6_join_57 : decode cX6_join 57 = .ok (.iconst 1, 1) := by decide +kernel
theorem dX6_join_58 : decode cX6_join 58 = .ok (.invokevirtual 146, 3) := by decide +kernel
theorem dX6_join_61 : decode cX6_join 61 = .ok (.ifCond .eq 37, 3) := by decide +kernel
theorem dX6_join_64 : decode cX6_join 64 = .ok (.aload_n 0, 1) := by decide +kernel
theorem dX6_join_65 : decode cX6_join 65 = .ok (.iload_n 2, 1) := by decide +kernel
theorem dX6_join_66 : decode cX6_join 66 = .ok (.iconst 1, 1) := by decide +kernel
theorem dX6_join_67 : decode cX6_join 67 = .ok (.invokevirtual 146, 3) := by decide +kernel
theorem dX6_join_70 : decode cX6_join 70 = .ok (.ifCond .eq 28, 3) := by decide +kernel
theorem dX6_join_73 : decode cX6_join 73 = .ok (.iload_n 1, 1) := by decide +kernel
theorem dX6_join_74 : decode cX6_join 74 = .ok (.iload_n 2, 1) := by decide +kernel
theorem dX6_join_75 : decode cX6_join 75 = .ok (.if_icmp .eq 12, 3) := by decide +kernel
theorem dX6_join_78 : decode cX6_join 78 = .ok (.aload_n 0, 1) := by decide +kernel
theorem dX6_join_79 : decode cX6_join 79 = .ok (.iload_n 1, 1) := by decide +kernel
theorem dX6_join_80 : decode cX6_join 80 = .ok (.iload_n 2, 1) := by decide +kernel
theorem dX6_join_81 : decode cX6_join 81 = .ok (.invokevirtual 159, 3) := by decide +kernel
theorem dX6_join_84 : decode cX6_join 84 = .ok (.ifCond .ne 7, 3) := by decide +kernel
theorem dX6_join_87 : decode cX6_join 87 = .ok (.iconst (-1), 1) := by decide +kernel
theorem dX6_join_88 : decode cX6_join 88 = .ok (.goto 9, 3) := by decide +kernel
theorem dX6_join_91 : decode cX6_join 91 = .ok (.aload_n 0, 1) := by decide +kernel
theorem dX6_join_92 : decode cX6_join 92 = .ok (.iload_n 1, 1) := by decide +kernel
theorem dX6_join_93 : decode cX6_join 93 = .ok (.iload_n 2, 1) := by decide +kernel
theorem dX6_join_94 : decode cX6_join 94 = .ok (.invokevirtual 162, 3) := by decide +kernel
theorem dX6_join_97 : decode cX6_join 97 = .ok (.ireturn, 1) := by decide +kernel
theorem dX6_join_98 : decode cX6_join 98 = .ok (.aload_n 0, 1) := by decide +kernel
theorem dX6_join_99 : decode cX6_join 99 = .ok (.iload_n 1, 1) := by decide +kernel
theorem dX6_join_100 : decode cX6_join 100 = .ok (.iconst 1, 1) := by decide +kernel
theorem dX6_join_101 : decode cX6_join 101 = .ok (.invokevirtual 146, 3) := by decide +kernel
theorem dX6_join_104 : decode cX6_join 104 = .ok (.ifCond .eq 7, 3) := by decide +kernel
theorem dX6_join_107 : decode cX6_join 107 = .ok (.iload_n 1, 1) := by decide +kernel
theorem dX6_join_108 : decode cX6_join 108 = .ok (.goto 4, 3) := by decide +kernel
theorem dX6_join_111 : decode cX6_join 111 = .ok (.iload_n 2, 1) := by decide +kernel
theorem dX6_join_112 : decode cX6_join 112 = .ok (.istore_n 3, 1) := by decide +kernel
theorem dX6_join_113 : decode cX6_join 113 = .ok (.aload_n 0, 1) := by decide +kernel
theorem dX6_join_114 : decode cX6_join 114 = .ok (.iload_n 1, 1) := by decide +kernel
theorem dX6_join_115 : decode cX6_join 115 = .ok (.iconst 1, 1) := by decide +kernel
theorem dX6_join_116 : decode cX6_join 116 = .ok (.invokevirtual 146, 3) := by decide +kernel
theorem dX6_join_119 : decode cX6_join 119 = .ok (.ifCond .eq 7, 3) := by decide +kernel
theorem dX6_join_122 : decode cX6_join 122 = .ok (.iload_n 2, 1) := by decide +kernel
theorem dX6_join_123 : decode cX6_join 123 = .ok (.goto 4, 3) := by decide +kernel
theorem dX6_join_126 : decode cX6_join 126 = .ok (.iload_n 1, 1) := by decide +kernel
theorem dX6_join_127 : decode cX6_join 127 = .ok (.istore 4, 2) := by decide +kernel
theorem dX6_join_129 : decode cX6_join 129 = .ok (.aload_n 0, 1) := by decide +kernel
theorem dX6_join_130 : decode cX6_join 130 = .ok (.getfield 56, 3) := by decide +kernel
theorem dX6_join_133 : decode cX6_join 133 = .ok (.iconst 2, 1) := by decide +kernel
theorem dX6_join_134 : decode cX6_join 134 = .ok (.if_icmp .eq 22, 3) := by decide +kernel
theorem dX6_join_137 : decode cX6_join 137 = .ok (.aload_n 0, 1) := by decide +kernel
theorem dX6_join_138 : decode cX6_join 138 = .ok (.iload_n 3, 1) := by decide +kernel
theorem dX6_join_139 : decode cX6_join 139 = .ok (.iconst 1, 1) := by decide +kernel
theorem dX6_join_140 : decode cX6_join 140 = .ok (.invokevirtual 146, 3) := by decide +kernel
theorem dX6_join_143 : decode cX6_join 143 = .ok (.ifCond .eq 13, 3) := by decide +kernel
theorem dX6_join_146 : decode cX6_join 146 = .ok (.aload_n 0, 1) := by decide +kernel
theorem dX6_join_147 : decode cX6_join 147 = .ok (.iload 4, 2) := by decide +kernel
theorem dX6_join_149 : decode cX6_join 149 = .ok (.iconst 0, 1) := by decide +kernel
theorem dX6_join_150 : decode cX6_join 150 = .ok (.invokevirtual 146, 3) := by decide +kernel
theorem dX6_join_153 : decode cX6_join 153 = .ok (.ifCond .ne 6, 3) := by decide +kernel
theorem dX6_join_156 : decode cX6_join 156 = .ok (.bipush (-2), 2) := by decide +kernel
theorem dX6_join_158 : decode cX6_join 158 = .ok (.ireturn, 1) := by decide +kernel
theorem dX6_join_159 : decode cX6_join 159 = .ok (.aload_n 0, 1) := by decide +kernel
theorem dX6_join_160 : decode cX6_join 160 = .ok (.iload 4, 2) := by decide +kernel
theorem dX6_join_162 : decode cX6_join 162 = .ok (.invokevirtual 150, 3) := by decide +kernel
theorem dX6_join_165 : decode cX6_join 165 = .ok (.aload_n 0, 1) := by decide +kernel
theorem dX6_join_166 : decode cX6_join 166 = .ok (.iload_n 3, 1) := by decide +kernel
theorem dX6_join_167 : decode cX6_join 167 = .ok (.invokevirtual 165, 3) := by decide +kernel
theorem dX6_join_170 : decode cX6_join 170 = .ok (.aload_n 0, 1) := by decide +kernel
theorem dX6_join_171 : decode cX6_join 171 = .ok (.iconst 2, 1) := by decide +kernel
theorem dX6_join_172 : decode cX6_join 172 = .ok (.invokevirtual 168, 3) := by decide +kernel
theorem dX6_join_175 : decode cX6_join 175 = .ok (.ireturn, 1) := by decide +kernel
theorem dX6_joined_0 : decode cX6_joined 0 = .ok (.aload_n 0, 1) := by decide +kernel
theorem dX6_joined_1 : decode cX6_joined 1 = .ok (.iload_n 2, 1) := by decide +kernel
theorem dX6_joined_2 : decode cX6_joined 2 = .ok (.invokevirtual 171, 3) := by decide +kernel
theorem dX6_joined_5 : decode cX6_joined 5 = .ok (.aload_n 0, 1) := by decide +kernel
theorem dX6_joined_6 : decode cX6_joined 6 = .ok (.iload_n 1, 1) := by decide +kernel
theorem dX6_joined_7 : decode cX6_joined 7 = .ok (.invokevirtual 165, 3) := by decide +kernel
theorem dX6_joined_10 : decode cX6_joined 10 = .ok (.aload_n 0, 1) := by decide +kernel
theorem dX6_joined_11 : decode cX6_joined 11 = .ok (.iconst 2, 1) := by decide +kernel
theorem dX6_joined_12 : decode cX6_joined 12 = .ok (.invokevirtual 130, 3) := by decide +kernel
theorem dX6_joined_15 : decode cX6_joined 15 = .ok (.ifCond .eq 33, 3) := by decide +kernel
theorem dX6_joined_18 : decode cX6_joined 18 = .ok (.iconst 0, 1) := by decide +kernel
theorem dX6_joined_19 : decode cX6_joined 19 = .ok (.istore_n 3, 1) := by decide +kernel
theorem dX6_joined_20 : decode cX6_joined 20 = .ok (.iload_n 3, 1) := by decide +kernel
theorem dX6_joined_21 : decode cX6_joined 21 = .ok (.iconst 4, 1) := by decide +kernel
theorem dX6_joined_22 : decode cX6_joined 22 = .ok (.if_icmp .ge 21, 3) := by decide +kernel
theorem dX6_joined_25 : decode cX6_joined 25 = .ok (.aload_n 0, 1) := by decide +kernel
theorem dX6_joined_26 : decode cX6_joined 26 = .ok (.getfield 35, 3) := by decide +kernel
theorem dX6_joined_29 : decode cX6_joined 29 = .ok (.iload_n 3, 1) := by decide +kernel
theorem dX6_joined_30 : decode cX6_joined 30 = .ok (.aload_n 0, 1) := by decide +kernel
theorem dX6_joined_31 : decode cX6_joined 31 = .ok (.getfield 38, 3) := by decide +kernel
theorem dX6_joined_34 : decode cX6_joined 34 = .ok (.iload_n 3, 1) := by decide +kernel
theorem dX6_joined_35 : decode cX6_joined 35 = .ok (.laload, 1) := by decide +kernel
theorem dX6_joined_36 : decode cX6_joined 36 = .ok (.lastore, 1) := by decide +kernel
theorem dX6_joined_37 : decode cX6_joined 37 = .ok (.iinc 3 1, 3) := by decide +kernel
theorem dX6_joined_40 : decode cX6_joined 40 = .ok (.goto (-20), 3) := by decide +kernel
theorem dX6_joined_43 : decode cX6_joined 43 = .ok (.aload_n 0, 1) := by decide +kernel
theorem dX6_joined_44 : decode cX6_joined 44 = .ok (.iload_n 1, 1) := by decide +kernel
theorem dX6_joined_45 : decode cX6_joined 45 = .ok (.invokevirtual 165, 3) := by decide +kernel
theorem dX6_joined_48 : decode cX6_joined 48 = .ok (.aload_n 0, 1) := by decide +kernel
theorem dX6_joined_49 : decode cX6_joined 49 = .ok (.iconst 2, 1) := by decide +kernel
theorem dX6_joined_50 : decode cX6_joined 50 = .ok (.invokevirtual 133, 3) := by decide +kernel
theorem dX6_joined_53 : decode cX6_joined 53 = .ok (.ireturn, 1) := by decide +kernel
theorem dX6_crossing_0 : decode cX6_crossing 0 = .ok (.aload_n 0, 1) := by decide +kernel
theorem dX6_crossing_1 : decode cX6_crossing 1 = .ok (.iload_n 2, 1) := by decide +kernel
theorem dX6_crossing_2 : decode cX6_crossing 2 = .ok (.invokevirtual 171, 3) := by decide +kernel
theorem dX6_crossing_5 : decode cX6_crossing 5 = .ok (.aload_n 0, 1) := by decide +kernel
theorem dX6_crossing_6 : decode cX6_crossing 6 = .ok (.iload_n 1, 1) := by decide +kernel
theorem dX6_crossing_7 : decode cX6_crossing 7 = .ok (.invokevirtual 165, 3) := by decide +kernel
theorem dX6_crossing_10 : decode cX6_crossing 10 = .ok (.iconst 0, 1) := by decide +kernel
theorem dX6_crossing_11 : decode cX6_crossing 11 = .ok (.istore_n 3, 1) := by decide +kernel
theorem dX6_crossing_12 : decode cX6_crossing 12 = .ok (.iload_n 3, 1) := by decide +kernel
theorem dX6_crossing_13 : decode cX6_crossing 13 = .ok (.iconst 4, 1) := by decide +kernel
theorem dX6_crossing_14 : decode cX6_crossing 14 = .ok (.if_icmp .ge 47, 3) := by decide +kernel
theorem dX6_crossing_17 : decode cX6_crossing 17 = .ok (.aload_n 0, 1) := by decide +kernel
theorem dX6_crossing_18 : decode cX6_crossing 18 = .ok (.getfield 41, 3) := by decide +kernel
theorem dX6_crossing_21 : decode cX6_crossing 21 = .ok (.iload_n 3, 1) := by decide +kernel
theorem dX6_crossing_22 : decode cX6_crossing 22 = .ok (.aload_n 0, 1) := by decide +kernel
theorem dX6_crossing_23 : decode cX6_crossing 23 = .ok (.getfield 29, 3) := by decide +kernel
theorem dX6_crossing_26 : decode cX6_crossing 26 = .ok (.iload_n 3, 1) := by decide +kernel
theorem dX6_crossing_27 : decode cX6_crossing 27 = .ok (.laload, 1) := by decide +kernel
theorem dX6_crossing_28 : decode cX6_crossing 28 = .ok (.lastore, 1) := by decide +kernel
theorem dX6_crossing_29 : decode cX6_crossing 29 = .ok (.aload_n 0, 1) := by decide +kernel
theorem dX6_crossing_30 : decode cX6_crossing 30 = .ok (.getfield 41, 3) := by decide +kernel
theorem dX6_crossing_33 : decode cX6_crossing 33 = .ok (.iconst 4, 1) := by decide +kernel
theorem dX6_crossing_34 : decode cX6_crossing 34 = .ok (.iload_n 3, 1) := by decide +kernel
theorem dX6_crossing_35 : decode cX6_crossing 35 = .ok (.iadd, 1) := by decide +kernel
theorem dX6_crossing_36 : decode cX6_crossing 36 = .ok (.aload_n 0, 1) := by decide +kernel
theorem dX6_crossing_37 : decode cX6_crossing 37 = .ok (.getfield 35, 3) := by decide +kernel
theorem dX6_crossing_40 : decode cX6_crossing 40 = .ok (.iload_n 3, 1) := by decide +kernel
theorem dX6_crossing_41 : decode cX6_crossing 41 = .ok (.laload, 1) := by decide +kernel
theorem dX6_crossing_42 : decode cX6_crossing 42 = .ok (.lastore, 1) := by decide +kernel
theorem dX6_crossing_43 : decode cX6_crossing 43 = .ok (.aload_n 0, 1) := by decide +kernel
theorem dX6_crossing_44 : decode cX6_crossing 44 = .ok (.getfield 35, 3) := by decide +kernel
theorem dX6_crossing_47 : decode cX6_crossing 47 = .ok (.iload_n 3, 1) := by decide +kernel
theorem dX6_crossing_48 : decode cX6_crossing 48 = .ok (.aload_n 0, 1) := by decide +kernel
theorem dX6_crossing_49 : decode cX6_crossing 49 = .ok (.getfield 38, 3) := by decide +kernel
theorem dX6_crossing_52 : decode cX6_crossing 52 = .ok (.iload_n 3, 1) := by decide +kernel
theorem dX6_crossing_53 : decode cX6_crossing 53 = .ok (.laload, 1) := by decide +kernel
theorem dX6_crossing_54 : decode cX6_crossing 54 = .ok (.lastore, 1) := by decide +kernel
theorem dX6_crossing_55 : decode cX6_crossing 55 = .ok (.iinc 3 1, 3) := by decide +kernel
theorem dX6_crossing_58 : decode cX6_crossing 58 = .ok (.goto (-46), 3) := by decide +kernel
theorem dX6_crossing_61 : decode cX6_crossing 61 = .ok (.aload_n 0, 1) := by decide +kernel
theorem dX6_crossing_62 : decode cX6_crossing 62 = .ok (.iload_n 1, 1) := by decide +kernel
theorem dX6_crossing_63 : decode cX6_crossing 63 = .ok (.invokevirtual 165, 3) := by decide +kernel
theorem dX6_crossing_66 : decode cX6_crossing 66 = .ok (.iconst 0, 1) := by decide +kernel
theorem dX6_crossing_67 : decode cX6_crossing 67 = .ok (.istore_n 3, 1) := by decide +kernel
theorem dX6_crossing_68 : decode cX6_crossing 68 = .ok (.iload_n 3, 1) := by decide +kernel
theorem dX6_crossing_69 : decode cX6_crossing 69 = .ok (.iconst 4, 1) := by decide +kernel
theorem dX6_crossing_70 : decode cX6_crossing 70 = .ok (.if_icmp .ge 31, 3) := by decide +kernel
theorem dX6_crossing_73 : decode cX6_crossing 73 = .ok (.aload_n 0, 1) := by decide +kernel
theorem dX6_crossing_74 : decode cX6_crossing 74 = .ok (.getfield 41, 3) := by decide +kernel
theorem dX6_crossing_77 : decode cX6_crossing 77 = .ok (.iload_n 3, 1) := by decide +kernel
theorem dX6_crossing_78 : decode cX6_crossing 78 = .ok (.laload, 1) := by decide +kernel
theorem dX6_crossing_79 : decode cX6_crossing 79 = .ok (.lconst 0, 1) := by decide +kernel
theorem dX6_crossing_80 : decode cX6_crossing 80 = .ok (.lcmp, 1) := by decide +kernel
theorem dX6_crossing_81 : decode cX6_crossing 81 = .ok (.ifCond .ne 20, 3) := by decide +kernel
theorem dX6_crossing_84 : decode cX6_crossing 84 = .ok (.aload_n 0, 1) := by decide +kernel
theorem dX6_crossing_85 : decode cX6_crossing 85 = .ok (.getfield 29, 3) := by decide +kernel
theorem dX6_crossing_88 : decode cX6_crossing 88 = .ok (.iload_n 3, 1) := by decide +kernel
theorem dX6_crossing_89 : decode cX6_crossing 89 = .ok (.laload, 1) := by decide +kernel
theorem dX6_crossing_90 : decode cX6_crossing 90 = .ok (.lconst 0, 1) := by decide +kernel
theorem dX6_crossing_91 : decode cX6_crossing 91 = .ok (.lcmp, 1) := by decide +kernel
theorem dX6_crossing_92 : decode cX6_crossing 92 = .ok (.ifCond .ne 9, 3) := by decide +kernel
theorem dX6_crossing_95 : decode cX6_crossing 95 = .ok (.iinc 3 1, 3) := by decide +kernel
theorem dX6_crossing_98 : decode cX6_crossing 98 = .ok (.goto (-30), 3) := by decide +kernel
theorem dX6_crossing_101 : decode cX6_crossing 101 = .ok (.aload_n 0, 1) := by decide +kernel
theorem dX6_crossing_102 : decode cX6_crossing 102 = .ok (.lconst 0, 1) := by decide +kernel
theorem dX6_crossing_103 : decode cX6_crossing 103 = .ok (.aload_n 0, 1) := by decide +kernel
theorem dX6_crossing_104 : decode cX6_crossing 104 = .ok (.getfield 29, 3) := by decide +kernel
theorem dX6_crossing_107 : decode cX6_crossing 107 = .ok (.iload_n 3, 1) := by decide +kernel
theorem dX6_crossing_108 : decode cX6_crossing 108 = .ok (.laload, 1) := by decide +kernel
theorem dX6_crossing_109 : decode cX6_crossing 109 = .ok (.invokevirtual 105, 3) := by decide +kernel
theorem dX6_crossing_112 : decode cX6_crossing 112 = .ok (.lstore 4, 2) := by decide +kernel
theorem dX6_crossing_114 : decode cX6_crossing 114 = .ok (.aload_n 0, 1) := by decide +kernel
theorem dX6_crossing_115 : decode cX6_crossing 115 = .ok (.getfield 41, 3) := by decide +kernel
theorem dX6_crossing_118 : decode cX6_crossing 118 = .ok (.iload_n 3, 1) := by decide +kernel
theorem dX6_crossing_119 : decode cX6_crossing 119 = .ok (.laload, 1) := by decide +kernel
theorem dX6_crossing_120 : decode cX6_crossing 120 = .ok (.lstore 6, 2) := by decide +kernel
theorem dX6_crossing_122 : decode cX6_crossing 122 = .ok (.aload_n 0, 1) := by decide +kernel
theorem dX6_crossing_123 : decode cX6_crossing 123 = .ok (.invokevirtual 136, 3) := by decide +kernel
theorem dX6_crossing_126 : decode cX6_crossing 126 = .ok (.iconst 0, 1) := by decide +kernel
theorem dX6_crossing_127 : decode cX6_crossing 127 = .ok (.istore 8, 2) := by decide +kernel
theorem dX6_crossing_129 : decode cX6_crossing 129 = .ok (.iload 8, 2) := by decide +kernel
theorem dX6_crossing_131 : decode cX6_crossing 131 = .ok (.iconst 4, 1) := by decide +kernel
theorem dX6_crossing_132 : decode cX6_crossing 132 = .ok (.if_icmp .ge 50, 3) := by decide +kernel
theorem dX6_crossing_135 : decode cX6_crossing 135 = .ok (.aload_n 0, 1) := by decide +kernel
theorem dX6_crossing_136 : decode cX6_crossing 136 = .ok (.getfield 29, 3) := by decide +kernel
theorem dX6_crossing_139 : decode cX6_crossing 139 = .ok (.iload 8, 2) := by decide +kernel
theorem dX6_crossing_141 : decode cX6_crossing 141 = .ok (.aload_n 0, 1) := by decide +kernel
theorem dX6_crossing_142 : decode cX6_crossing 142 = .ok (.lload 4, 2) := by decide +kernel
theorem dX6_crossing_144 : decode cX6_crossing 144 = .ok (.aload_n 0, 1) := by decide +kernel
theorem dX6_crossing_145 : decode cX6_crossing 145 = .ok (.getfield 41, 3) := by decide +kernel
theorem dX6_crossing_148 : decode cX6_crossing 148 = .ok (.iconst 4, 1) := by decide +kernel
theorem dX6_crossing_149 : decode cX6_crossing 149 = .ok (.iload 8, 2) := by decide +kernel
theorem dX6_crossing_151 : decode cX6_crossing 151 = .ok (.iadd, 1) := by decide +kernel
theorem dX6_crossing_152 : decode cX6_crossing 152 = .ok (.laload, 1) := by decide +kernel
theorem dX6_crossing_153 : decode cX6_crossing 153 = .ok (.invokevirtual 76, 3) := by decide +kernel
theorem dX6_crossing_156 : decode cX6_crossing 156 = .ok (.aload_n 0, 1) := by decide +kernel
theorem dX6_crossing_157 : decode cX6_crossing 157 = .ok (.lload 6, 2) := by decide +kernel
theorem dX6_crossing_159 : decode cX6_crossing 159 = .ok (.aload_n 0, 1) := by decide +kernel
theorem dX6_crossing_160 : decode cX6_crossing 160 = .ok (.getfield 38, 3) := by decide +kernel
theorem dX6_crossing_163 : decode cX6_crossing 163 = .ok (.iload 8, 2) := by decide +kernel
theorem dX6_crossing_165 : decode cX6_crossing 165 = .ok (.laload, 1) := by decide +kernel
theorem dX6_crossing_166 : decode cX6_crossing 166 = .ok (.invokevirtual 76, 3) := by decide +kernel
theorem dX6_crossing_169 : decode cX6_crossing 169 = .ok (.ladd, 1) := by decide +kernel
theorem dX6_crossing_170 : decode cX6_crossing 170 = .ok (.aload_n 0, 1) := by decide +kernel
theorem dX6_crossing_171 : decode cX6_crossing 171 = .ok (.getfield 60, 3) := by decide +kernel
theorem dX6_crossing_174 : decode cX6_crossing 174 = .ok (.lrem, 1) := by decide +kernel
theorem dX6_crossing_175 : decode cX6_crossing 175 = .ok (.lastore, 1) := by decide +kernel
theorem dX6_crossing_176 : decode cX6_crossing 176 = .ok (.iinc 8 1, 3) := by decide +kernel
theorem dX6_crossing_179 : decode cX6_crossing 179 = .ok (.goto (-50), 3) := by decide +kernel
theorem dX6_crossing_182 : decode cX6_crossing 182 = .ok (.return_, 1) := by decide +kernel
theorem dX6_both_0 : decode cX6_both 0 = .ok (.aload_n 0, 1) := by decide +kernel
theorem dX6_both_1 : decode cX6_both 1 = .ok (.getfield 56, 3) := by decide +kernel
theorem dX6_both_4 : decode cX6_both 4 = .ok (.iconst 2, 1) := by decide +kernel
theorem dX6_both_5 : decode cX6_both 5 = .ok (.if_icmp .ne 49, 3) := by decide +kernel
theorem dX6_both_8 : decode cX6_both 8 = .ok (.aload_n 0, 1) := by decide +kernel
theorem dX6_both_9 : decode cX6_both 9 = .ok (.iload_n 1, 1) := by decide +kernel
theorem dX6_both_10 : decode cX6_both 10 = .ok (.iconst 1, 1) := by decide +kernel
theorem dX6_both_11 : decode cX6_both 11 = .ok (.invokevirtual 146, 3) := by decide +kernel
theorem dX6_both_14 : decode cX6_both 14 = .ok (.ifCond .eq 12, 3) := by decide +kernel
theorem dX6_both_17 : decode cX6_both 17 = .ok (.aload_n 0, 1) := by decide +kernel
theorem dX6_both_18 : decode cX6_both 18 = .ok (.iload_n 2, 1) := by decide +kernel
theorem dX6_both_19 : decode cX6_both 19 = .ok (.iconst 1, 1) := by decide +kernel
theorem dX6_both_20 : decode cX6_both 20 = .ok (.invokevirtual 146, 3) := by decide +kernel
theorem dX6_both_23 : decode cX6_both 23 = .ok (.ifCond .ne 6, 3) := by decide +kernel
theorem dX6_both_26 : decode cX6_both 26 = .ok (.bipush (-2), 2) := by decide +kernel
theorem dX6_both_28 : decode cX6_both 28 = .ok (.ireturn, 1) := by decide +kernel
theorem dX6_both_29 : decode cX6_both 29 = .ok (.aload_n 0, 1) := by decide +kernel
theorem dX6_both_30 : decode cX6_both 30 = .ok (.iload_n 1, 1) := by decide +kernel
theorem dX6_both_31 : decode cX6_both 31 = .ok (.invokevirtual 150, 3) := by decide +kernel
theorem dX6_both_34 : decode cX6_both 34 = .ok (.aload_n 0, 1) := by decide +kernel
theorem dX6_both_35 : decode cX6_both 35 = .ok (.iload_n 2, 1) := by decide +kernel
theorem dX6_both_36 : decode cX6_both 36 = .ok (.invokevirtual 153, 3) := by decide +kernel
theorem dX6_both_39 : decode cX6_both 39 = .ok (.aload_n 0, 1) := by decide +kernel
theorem dX6_both_40 : decode cX6_both 40 = .ok (.invokevirtual 156, 3) := by decide +kernel
theorem dX6_both_43 : decode cX6_both 43 = .ok (.iload_n 1, 1) := by decide +kernel
theorem dX6_both_44 : decode cX6_both 44 = .ok (.iload_n 2, 1) := by decide +kernel
theorem dX6_both_45 : decode cX6_both 45 = .ok (.if_icmp .ne 7, 3) := by decide +kernel
theorem dX6_both_48 : decode cX6_both 48 = .ok (.iconst (-1), 1) := by decide +kernel
theorem dX6_both_49 : decode cX6_both 49 = .ok (.goto 4, 3) := by decide +kernel
theorem dX6_both_52 : decode cX6_both 52 = .ok (.iconst 0, 1) := by decide +kernel
theorem dX6_both_53 : decode cX6_both 53 = .ok (.ireturn, 1) := by decide +kernel
theorem dX6_both_54 : decode cX6_both 54 = .ok (.aload_n 0, 1) := by decide +kernel
theorem dX6_both_55 : decode cX6_both 55 = .ok (.iload_n 1, 1) := by decide +kernel
theorem dX6_both_56 : decode cX6_both 56 = .ok (.iconst 2, 1) := by decide +kernel
theorem dX6_both_57 : decode cX6_both 57 = .ok (.invokevirtual 146, 3) := by decide +kernel
theorem dX6_both_60 : decode cX6_both 60 = .ok (.ifCond .eq 41, 3) := by decide +kernel
theorem dX6_both_63 : decode cX6_both 63 = .ok (.aload_n 0, 1) := by decide +kernel
theorem dX6_both_64 : decode cX6_both 64 = .ok (.iload_n 2, 1) := by decide +kernel
theorem dX6_both_65 : decode cX6_both 65 = .ok (.iconst 2, 1) := by decide +kernel
theorem dX6_both_66 : decode cX6_both 66 = .ok (.invokevirtual 146, 3) := by decide +kernel
theorem dX6_both_69 : decode cX6_both 69 = .ok (.ifCond .eq 32, 3) := by decide +kernel
theorem dX6_both_72 : decode cX6_both 72 = .ok (.aload_n 0, 1) := by decide +kernel
theorem dX6_both_73 : decode cX6_both 73 = .ok (.iload_n 1, 1) := by decide +kernel
theorem dX6_both_74 : decode cX6_both 74 = .ok (.invokevirtual 150, 3) := by decide +kernel
theorem dX6_both_77 : decode cX6_both 77 = .ok (.aload_n 0, 1) := by decide +kernel
theorem dX6_both_78 : decode cX6_both 78 = .ok (.iload_n 2, 1) := by decide +kernel
theorem dX6_both_79 : decode cX6_both 79 = .ok (.invokevirtual 153, 3) := by decide +kernel
theorem dX6_both_82 : decode cX6_both 82 = .ok (.aload_n 0, 1) := by decide +kernel
theorem dX6_both_83 : decode cX6_both 83 = .ok (.invokevirtual 156, 3) := by decide +kernel
theorem dX6_both_86 : decode cX6_both 86 = .ok (.aload_n 0, 1) := by decide +kernel
theorem dX6_both_87 : decode cX6_both 87 = .ok (.invokevirtual 174, 3) := by decide +kernel
theorem dX6_both_90 : decode cX6_both 90 = .ok (.iload_n 1, 1) := by decide +kernel
theorem dX6_both_91 : decode cX6_both 91 = .ok (.iload_n 2, 1) := by decide +kernel
theorem dX6_both_92 : decode cX6_both 92 = .ok (.if_icmp .ne 7, 3) := by decide +kernel
theorem dX6_both_95 : decode cX6_both 95 = .ok (.iconst (-1), 1) := by decide +kernel
theorem dX6_both_96 : decode cX6_both 96 = .ok (.goto 4, 3) := by decide +kernel
theorem dX6_both_99 : decode cX6_both 99 = .ok (.iconst 1, 1) := by decide +kernel
theorem dX6_both_100 : decode cX6_both 100 = .ok (.ireturn, 1) := by decide +kernel
theorem dX6_both_101 : decode cX6_both 101 = .ok (.aload_n 0, 1) := by decide +kernel
theorem dX6_both_102 : decode cX6_both 102 = .ok (.iload_n 1, 1) := by decide +kernel
theorem dX6_both_103 : decode cX6_both 103 = .ok (.iconst 1, 1) := by decide +kernel
theorem dX6_both_104 : decode cX6_both 104 = .ok (.invokevirtual 146, 3) := by decide +kernel
theorem dX6_both_107 : decode cX6_both 107 = .ok (.ifCond .eq 36, 3) := by decide +kernel
theorem dX6_both_110 : decode cX6_both 110 = .ok (.aload_n 0, 1) := by decide +kernel
theorem dX6_both_111 : decode cX6_both 111 = .ok (.iload_n 2, 1) := by decide +kernel
theorem dX6_both_112 : decode cX6_both 112 = .ok (.iconst 1, 1) := by decide +kernel
theorem dX6_both_113 : decode cX6_both 113 = .ok (.invokevirtual 146, 3) := by decide +kernel
theorem dX6_both_116 : decode cX6_both 116 = .ok (.ifCond .eq 27, 3) := by decide +kernel
theorem dX6_both_119 : decode cX6_both 119 = .ok (.iload_n 1, 1) := by decide +kernel
theorem dX6_both_120 : decode cX6_both 120 = .ok (.iload_n 2, 1) := by decide +kernel
theorem dX6_both_121 : decode cX6_both 121 = .ok (.if_icmp .eq 12, 3) := by decide +kernel
theorem dX6_both_124 : decode cX6_both 124 = .ok (.aload_n 0, 1) := by decide +kernel
theorem dX6_both_125 : decode cX6_both 125 = .ok (.iload_n 1, 1) := by decide +kernel
theorem dX6_both_126 : decode cX6_both 126 = .ok (.iload_n 2, 1) := by decide +kernel
theorem dX6_both_127 : decode cX6_both 127 = .ok (.invokevirtual 159, 3) := by decide +kernel
theorem dX6_both_130 : decode cX6_both 130 = .ok (.ifCond .ne 5, 3) := by decide +kernel
theorem dX6_both_133 : decode cX6_both 133 = .ok (.iconst (-1), 1) := by decide +kernel
theorem dX6_both_134 : decode cX6_both 134 = .ok (.ireturn, 1) := by decide +kernel
theorem dX6_both_135 : decode cX6_both 135 = .ok (.aload_n 0, 1) := by decide +kernel
theorem dX6_both_136 : decode cX6_both 136 = .ok (.iload_n 1, 1) := by decide +kernel
theorem dX6_both_137 : decode cX6_both 137 = .ok (.iload_n 2, 1) := by decide +kernel
theorem dX6_both_138 : decode cX6_both 138 = .ok (.invokevirtual 177, 3) := by decide +kernel
theorem dX6_both_141 : decode cX6_both 141 = .ok (.iconst 0, 1) := by decide +kernel
theorem dX6_both_142 : decode cX6_both 142 = .ok (.ireturn, 1) := by decide +kernel
theorem dX6_both_143 : decode cX6_both 143 = .ok (.aload_n 0, 1) := by decide +kernel
theorem dX6_both_144 : decode cX6_both 144 = .ok (.iload_n 1, 1) := by decide +kernel
theorem dX6_both_145 : decode cX6_both 145 = .ok (.iconst 1, 1) := by decide +kernel
theorem dX6_both_146 : decode cX6_both 146 = .ok (.invokevirtual 146, 3) := by decide +kernel
theorem dX6_both_149 : decode cX6_both 149 = .ok (.ifCond .eq 7, 3) := by decide +kernel
theorem dX6_both_152 : decode cX6_both 152 = .ok (.iload_n 1, 1) := by decide +kernel
theorem dX6_both_153 : decode cX6_both 153 = .ok (.goto 4, 3) := by decide +kernel
theorem dX6_both_156 : decode cX6_both 156 = .ok (.iload_n 2, 1) := by decide +kernel
theorem dX6_both_157 : decode cX6_both 157 = .ok (.istore_n 3, 1) := by decide +kernel
theorem dX6_both_158 : decode cX6_both 158 = .ok (.aload_n 0, 1) := by decide +kernel
theorem dX6_both_159 : decode cX6_both 159 = .ok (.iload_n 1, 1) := by decide +kernel
theorem dX6_both_160 : decode cX6_both 160 = .ok (.iconst 1, 1) := by decide +kernel
theorem dX6_both_161 : decode cX6_both 161 = .ok (.invokevirtual 146, 3) := by decide +kernel
theorem dX6_both_164 : decode cX6_both 164 = .ok (.ifCond .eq 7, 3) := by decide +kernel
theorem dX6_both_167 : decode cX6_both 167 = .ok (.iload_n 2, 1) := by decide +kernel
theorem dX6_both_168 : decode cX6_both 168 = .ok (.goto 4, 3) := by decide +kernel
theorem dX6_both_171 : decode cX6_both 171 = .ok (.iload_n 1, 1) := by decide +kernel
theorem dX6_both_172 : decode cX6_both 172 = .ok (.istore 4, 2) := by decide +kernel
theorem dX6_both_174 : decode cX6_both 174 = .ok (.aload_n 0, 1) := by decide +kernel
theorem dX6_both_175 : decode cX6_both 175 = .ok (.iload_n 3, 1) := by decide +kernel
theorem dX6_both_176 : decode cX6_both 176 = .ok (.iconst 1, 1) := by decide +kernel
theorem dX6_both_177 : decode cX6_both 177 = .ok (.invokevirtual 146, 3) := by decide +kernel
theorem dX6_both_180 : decode cX6_both 180 = .ok (.ifCond .eq 13, 3) := by decide +kernel
theorem dX6_both_183 : decode cX6_both 183 = .ok (.aload_n 0, 1) := by decide +kernel
theorem dX6_both_184 : decode cX6_both 184 = .ok (.iload 4, 2) := by decide +kernel
theorem dX6_both_186 : decode cX6_both 186 = .ok (.iconst 2, 1) := by decide +kernel
theorem dX6_both_187 : decode cX6_both 187 = .ok (.invokevirtual 146, 3) := by decide +kernel
theorem dX6_both_190 : decode cX6_both 190 = .ok (.ifCond .ne 6, 3) := by decide +kernel
theorem dX6_both_193 : decode cX6_both 193 = .ok (.bipush (-2), 2) := by decide +kernel
theorem dX6_both_195 : decode cX6_both 195 = .ok (.ireturn, 1) := by decide +kernel
theorem dX6_both_196 : decode cX6_both 196 = .ok (.aload_n 0, 1) := by decide +kernel
theorem dX6_both_197 : decode cX6_both 197 = .ok (.iload_n 3, 1) := by decide +kernel
theorem dX6_both_198 : decode cX6_both 198 = .ok (.iload 4, 2) := by decide +kernel
theorem dX6_both_200 : decode cX6_both 200 = .ok (.invokevirtual 181, 3) := by decide +kernel
theorem dX6_both_203 : decode cX6_both 203 = .ok (.aload_n 0, 1) := by decide +kernel
theorem dX6_both_204 : decode cX6_both 204 = .ok (.iconst 0, 1) := by decide +kernel
theorem dX6_both_205 : decode cX6_both 205 = .ok (.invokevirtual 130, 3) := by decide +kernel
theorem dX6_both_208 : decode cX6_both 208 = .ok (.ifCond .eq 7, 3) := by decide +kernel
theorem dX6_both_211 : decode cX6_both 211 = .ok (.iconst (-1), 1) := by decide +kernel
theorem dX6_both_212 : decode cX6_both 212 = .ok (.goto 4, 3) := by decide +kernel
theorem dX6_both_215 : decode cX6_both 215 = .ok (.iconst 0, 1) := by decide +kernel
theorem dX6_both_216 : decode cX6_both 216 = .ok (.ireturn, 1) := by decide +kernel
theorem dX6_turn_0 : decode cX6_turn 0 = .ok (.iconst 0, 1) := by decide +kernel
theorem dX6_turn_1 : decode cX6_turn 1 = .ok (.istore_n 1, 1) := by decide +kernel
theorem dX6_turn_2 : decode cX6_turn 2 = .ok (.iload_n 1, 1) := by decide +kernel
theorem dX6_turn_3 : decode cX6_turn 3 = .ok (.iconst 3, 1) := by decide +kernel
theorem dX6_turn_4 : decode cX6_turn 4 = .ok (.if_icmp .ge 39, 3) := by decide +kernel
theorem dX6_turn_7 : decode cX6_turn 7 = .ok (.aload_n 0, 1) := by decide +kernel
theorem dX6_turn_8 : decode cX6_turn 8 = .ok (.getfield 29, 3) := by decide +kernel
theorem dX6_turn_11 : decode cX6_turn 11 = .ok (.iload_n 1, 1) := by decide +kernel
theorem dX6_turn_12 : decode cX6_turn 12 = .ok (.laload, 1) := by decide +kernel
theorem dX6_turn_13 : decode cX6_turn 13 = .ok (.lstore_n 2, 1) := by decide +kernel
theorem dX6_turn_14 : decode cX6_turn 14 = .ok (.aload_n 0, 1) := by decide +kernel
theorem dX6_turn_15 : decode cX6_turn 15 = .ok (.getfield 29, 3) := by decide +kernel
theorem dX6_turn_18 : decode cX6_turn 18 = .ok (.iload_n 1, 1) := by decide +kernel
theorem dX6_turn_19 : decode cX6_turn 19 = .ok (.aload_n 0, 1) := by decide +kernel
theorem dX6_turn_20 : decode cX6_turn 20 = .ok (.getfield 29, 3) := by decide +kernel
theorem dX6_turn_23 : decode cX6_turn 23 = .ok (.iconst 5, 1) := by decide +kernel
theorem dX6_turn_24 : decode cX6_turn 24 = .ok (.iload_n 1, 1) := by decide +kernel
theorem dX6_turn_25 : decode cX6_turn 25 = .ok (.isub, 1) := by decide +kernel
theorem dX6_turn_26 : decode cX6_turn 26 = .ok (.laload, 1) := by decide +kernel
theorem dX6_turn_27 : decode cX6_turn 27 = .ok (.lastore, 1) := by decide +kernel
theorem dX6_turn_28 : decode cX6_turn 28 = .ok (.aload_n 0, 1) := by decide +kernel
theorem dX6_turn_29 : decode cX6_turn 29 = .ok (.getfield 29, 3) := by decide +kernel
theorem dX6_turn_32 : decode cX6_turn 32 = .ok (.iconst 5, 1) := by decide +kernel
theorem dX6_turn_33 : decode cX6_turn 33 = .ok (.iload_n 1, 1) := by decide +kernel
theorem dX6_turn_34 : decode cX6_turn 34 = .ok (.isub, 1) := by decide +kernel
theorem dX6_turn_35 : decode cX6_turn 35 = .ok (.lload_n 2, 1) := by decide +kernel
theorem dX6_turn_36 : decode cX6_turn 36 = .ok (.lastore, 1) := by decide +kernel
theorem dX6_turn_37 : decode cX6_turn 37 = .ok (.iinc 1 1, 3) := by decide +kernel
theorem dX6_turn_40 : decode cX6_turn 40 = .ok (.goto (-38), 3) := by decide +kernel
theorem dX6_turn_43 : decode cX6_turn 43 = .ok (.aload_n 0, 1) := by decide +kernel
theorem dX6_turn_44 : decode cX6_turn 44 = .ok (.getfield 29, 3) := by decide +kernel
theorem dX6_turn_47 : decode cX6_turn 47 = .ok (.iconst 1, 1) := by decide +kernel
theorem dX6_turn_48 : decode cX6_turn 48 = .ok (.aload_n 0, 1) := by decide +kernel
theorem dX6_turn_49 : decode cX6_turn 49 = .ok (.lconst 0, 1) := by decide +kernel
theorem dX6_turn_50 : decode cX6_turn 50 = .ok (.aload_n 0, 1) := by decide +kernel
theorem dX6_turn_51 : decode cX6_turn 51 = .ok (.getfield 29, 3) := by decide +kernel
theorem dX6_turn_54 : decode cX6_turn 54 = .ok (.iconst 1, 1) := by decide +kernel
theorem dX6_turn_55 : decode cX6_turn 55 = .ok (.laload, 1) := by decide +kernel
theorem dX6_turn_56 : decode cX6_turn 56 = .ok (.invokevirtual 105, 3) := by decide +kernel
theorem dX6_turn_59 : decode cX6_turn 59 = .ok (.lastore, 1) := by decide +kernel
theorem dX6_turn_60 : decode cX6_turn 60 = .ok (.aload_n 0, 1) := by decide +kernel
theorem dX6_turn_61 : decode cX6_turn 61 = .ok (.getfield 29, 3) := by decide +kernel
theorem dX6_turn_64 : decode cX6_turn 64 = .ok (.iconst 4, 1) := by decide +kernel
theorem dX6_turn_65 : decode cX6_turn 65 = .ok (.aload_n 0, 1) := by decide +kernel
theorem dX6_turn_66 : decode cX6_turn 66 = .ok (.lconst 0, 1) := by decide +kernel
theorem dX6_turn_67 : decode cX6_turn 67 = .ok (.aload_n 0, 1) := by decide +kernel
theorem dX6_turn_68 : decode cX6_turn 68 = .ok (.getfield 29, 3) := by decide +kernel
theorem dX6_turn_71 : decode cX6_turn 71 = .ok (.iconst 4, 1) := by decide +kernel
theorem dX6_turn_72 : decode cX6_turn 72 = .ok (.laload, 1) := by decide +kernel
theorem dX6_turn_73 : decode cX6_turn 73 = .ok (.invokevirtual 105, 3) := by decide +kernel
theorem dX6_turn_76 : decode cX6_turn 76 = .ok (.lastore, 1) := by decide +kernel
theorem dX6_turn_77 : decode cX6_turn 77 = .ok (.return_, 1) := by decide +kernel
theorem dX6_meet_0 : decode cX6_meet 0 = .ok (.aload_n 0, 1) := by decide +kernel
theorem dX6_meet_1 : decode cX6_meet 1 = .ok (.iload_n 1, 1) := by decide +kernel
theorem dX6_meet_2 : decode cX6_meet 2 = .ok (.iload_n 2, 1) := by decide +kernel
theorem dX6_meet_3 : decode cX6_meet 3 = .ok (.invokevirtual 184, 3) := by decide +kernel
theorem dX6_meet_6 : decode cX6_meet 6 = .ok (.istore_n 3, 1) := by decide +kernel
theorem dX6_meet_7 : decode cX6_meet 7 = .ok (.iload_n 3, 1) := by decide +kernel
theorem dX6_meet_8 : decode cX6_meet 8 = .ok (.ifCond .ge 7, 3) := by decide +kernel
theorem dX6_meet_11 : decode cX6_meet 11 = .ok (.iload_n 3, 1) := by decide +kernel
theorem dX6_meet_12 : decode cX6_meet 12 = .ok (.goto 8, 3) := by decide +kernel
theorem dX6_meet_15 : decode cX6_meet 15 = .ok (.aload_n 0, 1) := by decide +kernel
theorem dX6_meet_16 : decode cX6_meet 16 = .ok (.iload_n 3, 1) := by decide +kernel
theorem dX6_meet_17 : decode cX6_meet 17 = .ok (.invokevirtual 133, 3) := by decide +kernel
theorem dX6_meet_20 : decode cX6_meet 20 = .ok (.ireturn, 1) := by decide +kernel
theorem dX6_isOn_0 : decode cX6_isOn 0 = .ok (.aload_n 0, 1) := by decide +kernel
theorem dX6_isOn_1 : decode cX6_isOn 1 = .ok (.getfield 7, 3) := by decide +kernel
theorem dX6_isOn_4 : decode cX6_isOn 4 = .ok (.iload_n 1, 1) := by decide +kernel
theorem dX6_isOn_5 : decode cX6_isOn 5 = .ok (.iaload, 1) := by decide +kernel
theorem dX6_isOn_6 : decode cX6_isOn 6 = .ok (.istore_n 3, 1) := by decide +kernel
theorem dX6_isOn_7 : decode cX6_isOn 7 = .ok (.aload_n 0, 1) := by decide +kernel
theorem dX6_isOn_8 : decode cX6_isOn 8 = .ok (.getfield 7, 3) := by decide +kernel
theorem dX6_isOn_11 : decode cX6_isOn 11 = .ok (.iload_n 2, 1) := by decide +kernel
theorem dX6_isOn_12 : decode cX6_isOn 12 = .ok (.iaload, 1) := by decide +kernel
theorem dX6_isOn_13 : decode cX6_isOn 13 = .ok (.istore 4, 2) := by decide +kernel
theorem dX6_isOn_15 : decode cX6_isOn 15 = .ok (.iload_n 3, 1) := by decide +kernel
theorem dX6_isOn_16 : decode cX6_isOn 16 = .ok (.ifCond .ne 32, 3) := by decide +kernel
theorem dX6_isOn_19 : decode cX6_isOn 19 = .ok (.iload 4, 2) := by decide +kernel
theorem dX6_isOn_21 : decode cX6_isOn 21 = .ok (.iconst 4, 1) := by decide +kernel
theorem dX6_isOn_22 : decode cX6_isOn 22 = .ok (.if_icmp .ne 26, 3) := by decide +kernel
theorem dX6_isOn_25 : decode cX6_isOn 25 = .ok (.aload_n 0, 1) := by decide +kernel
theorem dX6_isOn_26 : decode cX6_isOn 26 = .ok (.iload_n 1, 1) := by decide +kernel
theorem dX6_isOn_27 : decode cX6_isOn 27 = .ok (.invokevirtual 150, 3) := by decide +kernel
theorem dX6_isOn_30 : decode cX6_isOn 30 = .ok (.aload_n 0, 1) := by decide +kernel
theorem dX6_isOn_31 : decode cX6_isOn 31 = .ok (.iload_n 2, 1) := by decide +kernel
theorem dX6_isOn_32 : decode cX6_isOn 32 = .ok (.iconst 1, 1) := by decide +kernel
theorem dX6_isOn_33 : decode cX6_isOn 33 = .ok (.iconst 1, 1) := by decide +kernel
theorem dX6_isOn_34 : decode cX6_isOn 34 = .ok (.invokevirtual 187, 3) := by decide +kernel
theorem dX6_isOn_37 : decode cX6_isOn 37 = .ok (.lconst 0, 1) := by decide +kernel
theorem dX6_isOn_38 : decode cX6_isOn 38 = .ok (.lcmp, 1) := by decide +kernel
theorem dX6_isOn_39 : decode cX6_isOn 39 = .ok (.ifCond .ne 7, 3) := by decide +kernel
theorem dX6_isOn_42 : decode cX6_isOn 42 = .ok (.iconst 1, 1) := by decide +kernel
theorem dX6_isOn_43 : decode cX6_isOn 43 = .ok (.goto 4, 3) := by decide +kernel
theorem dX6_isOn_46 : decode cX6_isOn 46 = .ok (.iconst 0, 1) := by decide +kernel
theorem dX6_isOn_47 : decode cX6_isOn 47 = .ok (.ireturn, 1) := by decide +kernel
theorem dX6_isOn_48 : decode cX6_isOn 48 = .ok (.iload_n 3, 1) := by decide +kernel
theorem dX6_isOn_49 : decode cX6_isOn 49 = .ok (.ifCond .ne 40, 3) := by decide +kernel
theorem dX6_isOn_52 : decode cX6_isOn 52 = .ok (.iload 4, 2) := by decide +kernel
theorem dX6_isOn_54 : decode cX6_isOn 54 = .ok (.iconst 2, 1) := by decide +kernel
theorem dX6_isOn_55 : decode cX6_isOn 55 = .ok (.if_icmp .eq 17, 3) := by decide +kernel
theorem dX6_isOn_58 : decode cX6_isOn 58 = .ok (.iload 4, 2) := by decide +kernel
theorem dX6_isOn_60 : decode cX6_isOn 60 = .ok (.iconst 1, 1) := by decide +kernel
theorem dX6_isOn_61 : decode cX6_isOn 61 = .ok (.if_icmp .ne 28, 3) := by decide +kernel
theorem dX6_isOn_64 : decode cX6_isOn 64 = .ok (.aload_n 0, 1) := by decide +kernel
theorem dX6_isOn_65 : decode cX6_isOn 65 = .ok (.getfield 56, 3) := by decide +kernel
theorem dX6_isOn_68 : decode cX6_isOn 68 = .ok (.iconst 2, 1) := by decide +kernel
theorem dX6_isOn_69 : decode cX6_isOn 69 = .ok (.if_icmp .ne 20, 3) := by decide +kernel
theorem dX6_isOn_72 : decode cX6_isOn 72 = .ok (.aload_n 0, 1) := by decide +kernel
theorem dX6_isOn_73 : decode cX6_isOn 73 = .ok (.iload_n 1, 1) := by decide +kernel
theorem dX6_isOn_74 : decode cX6_isOn 74 = .ok (.iload_n 2, 1) := by decide +kernel
theorem dX6_isOn_75 : decode cX6_isOn 75 = .ok (.invokevirtual 191, 3) := by decide +kernel
theorem dX6_isOn_78 : decode cX6_isOn 78 = .ok (.lconst 0, 1) := by decide +kernel
theorem dX6_isOn_79 : decode cX6_isOn 79 = .ok (.lcmp, 1) := by decide +kernel
theorem dX6_isOn_80 : decode cX6_isOn 80 = .ok (.ifCond .ne 7, 3) := by decide +kernel
theorem dX6_isOn_83 : decode cX6_isOn 83 = .ok (.iconst 1, 1) := by decide +kernel
theorem dX6_isOn_84 : decode cX6_isOn 84 = .ok (.goto 4, 3) := by decide +kernel
theorem dX6_isOn_87 : decode cX6_isOn 87 = .ok (.iconst 0, 1) := by decide +kernel
theorem dX6_isOn_88 : decode cX6_isOn 88 = .ok (.ireturn, 1) := by decide +kernel
theorem dX6_isOn_89 : decode cX6_isOn 89 = .ok (.aload_n 0, 1) := by decide +kernel
theorem dX6_isOn_90 : decode cX6_isOn 90 = .ok (.getfield 56, 3) := by decide +kernel
theorem dX6_isOn_93 : decode cX6_isOn 93 = .ok (.iconst 3, 1) := by decide +kernel
theorem dX6_isOn_94 : decode cX6_isOn 94 = .ok (.if_icmp .ne 29, 3) := by decide +kernel
theorem dX6_isOn_97 : decode cX6_isOn 97 = .ok (.iload 4, 2) := by decide +kernel
theorem dX6_isOn_99 : decode cX6_isOn 99 = .ok (.iconst 1, 1) := by decide +kernel
theorem dX6_isOn_100 : decode cX6_isOn 100 = .ok (.if_icmp .ne 23, 3) := by decide +kernel
theorem dX6_isOn_103 : decode cX6_isOn 103 = .ok (.iload_n 3, 1) := by decide +kernel
theorem dX6_isOn_104 : decode cX6_isOn 104 = .ok (.iconst 1, 1) := by decide +kernel
theorem dX6_isOn_105 : decode cX6_isOn 105 = .ok (.if_icmp .ne 18, 3) := by decide +kernel
theorem dX6_isOn_108 : decode cX6_isOn 108 = .ok (.aload_n 0, 1) := by decide +kernel
theorem dX6_isOn_109 : decode cX6_isOn 109 = .ok (.iload_n 1, 1) := by decide +kernel
theorem dX6_isOn_110 : decode cX6_isOn 110 = .ok (.iload_n 2, 1) := by decide +kernel
theorem dX6_isOn_111 : decode cX6_isOn 111 = .ok (.invokevirtual 159, 3) := by decide +kernel
theorem dX6_isOn_114 : decode cX6_isOn 114 = .ok (.ifCond .eq 7, 3) := by decide +kernel
theorem dX6_isOn_117 : decode cX6_isOn 117 = .ok (.iconst 1, 1) := by decide +kernel
theorem dX6_isOn_118 : decode cX6_isOn 118 = .ok (.goto 4, 3) := by decide +kernel
theorem dX6_isOn_121 : decode cX6_isOn 121 = .ok (.iconst 0, 1) := by decide +kernel
theorem dX6_isOn_122 : decode cX6_isOn 122 = .ok (.ireturn, 1) := by decide +kernel
theorem dX6_isOn_123 : decode cX6_isOn 123 = .ok (.aload_n 0, 1) := by decide +kernel
theorem dX6_isOn_124 : decode cX6_isOn 124 = .ok (.getfield 56, 3) := by decide +kernel
theorem dX6_isOn_127 : decode cX6_isOn 127 = .ok (.iconst 3, 1) := by decide +kernel
theorem dX6_isOn_128 : decode cX6_isOn 128 = .ok (.if_icmp .ne 37, 3) := by decide +kernel
theorem dX6_isOn_131 : decode cX6_isOn 131 = .ok (.iload_n 3, 1) := by decide +kernel
theorem dX6_isOn_132 : decode cX6_isOn 132 = .ok (.ifCond .ne 33, 3) := by decide +kernel
theorem dX6_isOn_135 : decode cX6_isOn 135 = .ok (.iload 4, 2) := by decide +kernel
theorem dX6_isOn_137 : decode cX6_isOn 137 = .ok (.iconst 1, 1) := by decide +kernel
theorem dX6_isOn_138 : decode cX6_isOn 138 = .ok (.if_icmp .ne 27, 3) := by decide +kernel
theorem dX6_isOn_141 : decode cX6_isOn 141 = .ok (.aload_n 0, 1) := by decide +kernel
theorem dX6_isOn_142 : decode cX6_isOn 142 = .ok (.iload_n 1, 1) := by decide +kernel
theorem dX6_isOn_143 : decode cX6_isOn 143 = .ok (.invokevirtual 150, 3) := by decide +kernel
theorem dX6_isOn_146 : decode cX6_isOn 146 = .ok (.aload_n 0, 1) := by decide +kernel
theorem dX6_isOn_147 : decode cX6_isOn 147 = .ok (.iload_n 2, 1) := by decide +kernel
theorem dX6_isOn_148 : decode cX6_isOn 148 = .ok (.invokevirtual 165, 3) := by decide +kernel
theorem dX6_isOn_151 : decode cX6_isOn 151 = .ok (.aload_n 0, 1) := by decide +kernel
theorem dX6_isOn_152 : decode cX6_isOn 152 = .ok (.iconst 2, 1) := by decide +kernel
theorem dX6_isOn_153 : decode cX6_isOn 153 = .ok (.invokevirtual 130, 3) := by decide +kernel
theorem dX6_isOn_156 : decode cX6_isOn 156 = .ok (.ifCond .eq 7, 3) := by decide +kernel
theorem dX6_isOn_159 : decode cX6_isOn 159 = .ok (.iconst 1, 1) := by decide +kernel
theorem dX6_isOn_160 : decode cX6_isOn 160 = .ok (.goto 4, 3) := by decide +kernel
theorem dX6_isOn_163 : decode cX6_isOn 163 = .ok (.iconst 0, 1) := by decide +kernel
theorem dX6_isOn_164 : decode cX6_isOn 164 = .ok (.ireturn, 1) := by decide +kernel
theorem dX6_isOn_165 : decode cX6_isOn 165 = .ok (.iload_n 3, 1) := by decide +kernel
theorem dX6_isOn_166 : decode cX6_isOn 166 = .ok (.iconst 1, 1) := by decide +kernel
theorem dX6_isOn_167 : decode cX6_isOn 167 = .ok (.if_icmp .ne 29, 3) := by decide +kernel
theorem dX6_isOn_170 : decode cX6_isOn 170 = .ok (.iload 4, 2) := by decide +kernel
theorem dX6_isOn_172 : decode cX6_isOn 172 = .ok (.iconst 2, 1) := by decide +kernel
theorem dX6_isOn_173 : decode cX6_isOn 173 = .ok (.if_icmp .ne 23, 3) := by decide +kernel
theorem dX6_isOn_176 : decode cX6_isOn 176 = .ok (.aload_n 0, 1) := by decide +kernel
theorem dX6_isOn_177 : decode cX6_isOn 177 = .ok (.iload_n 1, 1) := by decide +kernel
theorem dX6_isOn_178 : decode cX6_isOn 178 = .ok (.iload_n 2, 1) := by decide +kernel
theorem dX6_isOn_179 : decode cX6_isOn 179 = .ok (.invokevirtual 181, 3) := by decide +kernel
theorem dX6_isOn_182 : decode cX6_isOn 182 = .ok (.aload_n 0, 1) := by decide +kernel
theorem dX6_isOn_183 : decode cX6_isOn 183 = .ok (.iconst 0, 1) := by decide +kernel
theorem dX6_isOn_184 : decode cX6_isOn 184 = .ok (.invokevirtual 130, 3) := by decide +kernel
theorem dX6_isOn_187 : decode cX6_isOn 187 = .ok (.ifCond .eq 7, 3) := by decide +kernel
theorem dX6_isOn_190 : decode cX6_isOn 190 = .ok (.iconst 1, 1) := by decide +kernel
theorem dX6_isOn_191 : decode cX6_isOn 191 = .ok (.goto 4, 3) := by decide +kernel
theorem dX6_isOn_194 : decode cX6_isOn 194 = .ok (.iconst 0, 1) := by decide +kernel
theorem dX6_isOn_195 : decode cX6_isOn 195 = .ok (.ireturn, 1) := by decide +kernel
theorem dX6_isOn_196 : decode cX6_isOn 196 = .ok (.bipush (-2), 2) := by decide +kernel
theorem dX6_isOn_198 : decode cX6_isOn 198 = .ok (.ireturn, 1) := by decide +kernel
theorem dX6_on_0 : decode cX6_on 0 = .ok (.aload_n 0, 1) := by decide +kernel
theorem dX6_on_1 : decode cX6_on 1 = .ok (.iload_n 1, 1) := by decide +kernel
theorem dX6_on_2 : decode cX6_on 2 = .ok (.invokevirtual 119, 3) := by decide +kernel
theorem dX6_on_5 : decode cX6_on 5 = .ok (.ifCond .eq 11, 3) := by decide +kernel
theorem dX6_on_8 : decode cX6_on 8 = .ok (.aload_n 0, 1) := by decide +kernel
theorem dX6_on_9 : decode cX6_on 9 = .ok (.iload_n 2, 1) := by decide +kernel
theorem dX6_on_10 : decode cX6_on 10 = .ok (.invokevirtual 119, 3) := by decide +kernel
theorem dX6_on_13 : decode cX6_on 13 = .ok (.ifCond .ne 6, 3) := by decide +kernel
theorem dX6_on_16 : decode cX6_on 16 = .ok (.bipush (-2), 2) := by decide +kernel
theorem dX6_on_18 : decode cX6_on 18 = .ok (.ireturn, 1) := by decide +kernel
theorem dX6_on_19 : decode cX6_on 19 = .ok (.aload_n 0, 1) := by decide +kernel
theorem dX6_on_20 : decode cX6_on 20 = .ok (.getfield 7, 3) := by decide +kernel
theorem dX6_on_23 : decode cX6_on 23 = .ok (.iload_n 1, 1) := by decide +kernel
theorem dX6_on_24 : decode cX6_on 24 = .ok (.iaload, 1) := by decide +kernel
theorem dX6_on_25 : decode cX6_on 25 = .ok (.aload_n 0, 1) := by decide +kernel
theorem dX6_on_26 : decode cX6_on 26 = .ok (.getfield 7, 3) := by decide +kernel
theorem dX6_on_29 : decode cX6_on 29 = .ok (.iload_n 2, 1) := by decide +kernel
theorem dX6_on_30 : decode cX6_on 30 = .ok (.iaload, 1) := by decide +kernel
theorem dX6_on_31 : decode cX6_on 31 = .ok (.if_icmp .gt 12, 3) := by decide +kernel
theorem dX6_on_34 : decode cX6_on 34 = .ok (.aload_n 0, 1) := by decide +kernel
theorem dX6_on_35 : decode cX6_on 35 = .ok (.iload_n 1, 1) := by decide +kernel
theorem dX6_on_36 : decode cX6_on 36 = .ok (.iload_n 2, 1) := by decide +kernel
theorem dX6_on_37 : decode cX6_on 37 = .ok (.invokevirtual 194, 3) := by decide +kernel
theorem dX6_on_40 : decode cX6_on 40 = .ok (.goto 9, 3) := by decide +kernel
theorem dX6_on_43 : decode cX6_on 43 = .ok (.aload_n 0, 1) := by decide +kernel
theorem dX6_on_44 : decode cX6_on 44 = .ok (.iload_n 2, 1) := by decide +kernel
theorem dX6_on_45 : decode cX6_on 45 = .ok (.iload_n 1, 1) := by decide +kernel
theorem dX6_on_46 : decode cX6_on 46 = .ok (.invokevirtual 194, 3) := by decide +kernel
theorem dX6_on_49 : decode cX6_on 49 = .ok (.ireturn, 1) := by decide +kernel
theorem dX6_areOne_0 : decode cX6_areOne 0 = .ok (.aload_n 0, 1) := by decide +kernel
theorem dX6_areOne_1 : decode cX6_areOne 1 = .ok (.iload_n 1, 1) := by decide +kernel
theorem dX6_areOne_2 : decode cX6_areOne 2 = .ok (.invokevirtual 119, 3) := by decide +kernel
theorem dX6_areOne_5 : decode cX6_areOne 5 = .ok (.ifCond .eq 61, 3) := by decide +kernel
theorem dX6_areOne_8 : decode cX6_areOne 8 = .ok (.aload_n 0, 1) := by decide +kernel
theorem dX6_areOne_9 : decode cX6_areOne 9 = .ok (.iload_n 2, 1) := by decide +kernel
theorem dX6_areOne_10 : decode cX6_areOne 10 = .ok (.invokevirtual 119, 3) := by decide +kernel
theorem dX6_areOne_13 : decode cX6_areOne 13 = .ok (.ifCond .eq 53, 3) := by decide +kernel
theorem dX6_areOne_16 : decode cX6_areOne 16 = .ok (.aload_n 0, 1) := by decide +kernel
theorem dX6_areOne_17 : decode cX6_areOne 17 = .ok (.getfield 7, 3) := by decide +kernel
theorem dX6_areOne_20 : decode cX6_areOne 20 = .ok (.iload_n 1, 1) := by decide +kernel
theorem dX6_areOne_21 : decode cX6_areOne 21 = .ok (.iaload, 1) := by decide +kernel
theorem dX6_areOne_22 : decode cX6_areOne 22 = .ok (.aload_n 0, 1) := by decide +kernel
theorem dX6_areOne_23 : decode cX6_areOne 23 = .ok (.getfield 7, 3) := by decide +kernel
theorem dX6_areOne_26 : decode cX6_areOne 26 = .ok (.iload_n 2, 1) := by decide +kernel
theorem dX6_areOne_27 : decode cX6_areOne 27 = .ok (.iaload, 1) := by decide +kernel
theorem dX6_areOne_28 : decode cX6_areOne 28 = .ok (.if_icmp .ne 38, 3) := by decide +kernel
theorem dX6_areOne_31 : decode cX6_areOne 31 = .ok (.aload_n 0, 1) := by decide +kernel
theorem dX6_areOne_32 : decode cX6_areOne 32 = .ok (.getfield 7, 3) := by decide +kernel
theorem dX6_areOne_35 : decode cX6_areOne 35 = .ok (.iload_n 1, 1) := by decide +kernel
theorem dX6_areOne_36 : decode cX6_areOne 36 = .ok (.iaload, 1) := by decide +kernel
theorem dX6_areOne_37 : decode cX6_areOne 37 = .ok (.ifCond .eq 25, 3) := by decide +kernel
theorem dX6_areOne_40 : decode cX6_areOne 40 = .ok (.aload_n 0, 1) := by decide +kernel
theorem dX6_areOne_41 : decode cX6_areOne 41 = .ok (.getfield 7, 3) := by decide +kernel
theorem dX6_areOne_44 : decode cX6_areOne 44 = .ok (.iload_n 1, 1) := by decide +kernel
theorem dX6_areOne_45 : decode cX6_areOne 45 = .ok (.iaload, 1) := by decide +kernel
theorem dX6_areOne_46 : decode cX6_areOne 46 = .ok (.aload_n 0, 1) := by decide +kernel
theorem dX6_areOne_47 : decode cX6_areOne 47 = .ok (.getfield 56, 3) := by decide +kernel
theorem dX6_areOne_50 : decode cX6_areOne 50 = .ok (.iconst 2, 1) := by decide +kernel
theorem dX6_areOne_51 : decode cX6_areOne 51 = .ok (.if_icmp .ne 7, 3) := by decide +kernel
theorem dX6_areOne_54 : decode cX6_areOne 54 = .ok (.iconst 1, 1) := by decide +kernel
theorem dX6_areOne_55 : decode cX6_areOne 55 = .ok (.goto 4, 3) := by decide +kernel
theorem dX6_areOne_58 : decode cX6_areOne 58 = .ok (.iconst 2, 1) := by decide +kernel
theorem dX6_areOne_59 : decode cX6_areOne 59 = .ok (.if_icmp .ne 7, 3) := by decide +kernel
theorem dX6_areOne_62 : decode cX6_areOne 62 = .ok (.iconst 1, 1) := by decide +kernel
theorem dX6_areOne_63 : decode cX6_areOne 63 = .ok (.goto 4, 3) := by decide +kernel
theorem dX6_areOne_66 : decode cX6_areOne 66 = .ok (.iconst 0, 1) := by decide +kernel
theorem dX6_areOne_67 : decode cX6_areOne 67 = .ok (.ireturn, 1) := by decide +kernel
theorem dX6_rankOf_0 : decode cX6_rankOf 0 = .ok (.aload_n 0, 1) := by decide +kernel
theorem dX6_rankOf_1 : decode cX6_rankOf 1 = .ok (.iconst 0, 1) := by decide +kernel
theorem dX6_rankOf_2 : decode cX6_rankOf 2 = .ok (.iload_n 1, 1) := by decide +kernel
theorem dX6_rankOf_3 : decode cX6_rankOf 3 = .ok (.aload_n 0, 1) := by decide +kernel
theorem dX6_rankOf_4 : decode cX6_rankOf 4 = .ok (.invokevirtual 111, 3) := by decide +kernel
theorem dX6_rankOf_7 : decode cX6_rankOf 7 = .ok (.invokevirtual 197, 3) := by decide +kernel
theorem dX6_rankOf_10 : decode cX6_rankOf 10 = .ok (.aload_n 0, 1) := by decide +kernel
theorem dX6_rankOf_11 : decode cX6_rankOf 11 = .ok (.iconst 1, 1) := by decide +kernel
theorem dX6_rankOf_12 : decode cX6_rankOf 12 = .ok (.iload_n 2, 1) := by decide +kernel
theorem dX6_rankOf_13 : decode cX6_rankOf 13 = .ok (.aload_n 0, 1) := by decide +kernel
theorem dX6_rankOf_14 : decode cX6_rankOf 14 = .ok (.invokevirtual 111, 3) := by decide +kernel
theorem dX6_rankOf_17 : decode cX6_rankOf 17 = .ok (.invokevirtual 197, 3) := by decide +kernel
theorem dX6_rankOf_20 : decode cX6_rankOf 20 = .ok (.aload_n 0, 1) := by decide +kernel
theorem dX6_rankOf_21 : decode cX6_rankOf 21 = .ok (.iconst 2, 1) := by decide +kernel
theorem dX6_rankOf_22 : decode cX6_rankOf 22 = .ok (.iload_n 3, 1) := by decide +kernel
theorem dX6_rankOf_23 : decode cX6_rankOf 23 = .ok (.aload_n 0, 1) := by decide +kernel
theorem dX6_rankOf_24 : decode cX6_rankOf 24 = .ok (.invokevirtual 111, 3) := by decide +kernel
theorem dX6_rankOf_27 : decode cX6_rankOf 27 = .ok (.invokevirtual 197, 3) := by decide +kernel
theorem dX6_rankOf_30 : decode cX6_rankOf 30 = .ok (.aload_n 0, 1) := by decide +kernel
theorem dX6_rankOf_31 : decode cX6_rankOf 31 = .ok (.iconst 3, 1) := by decide +kernel
theorem dX6_rankOf_32 : decode cX6_rankOf 32 = .ok (.iload 4, 2) := by decide +kernel
theorem dX6_rankOf_34 : decode cX6_rankOf 34 = .ok (.aload_n 0, 1) := by decide +kernel
theorem dX6_rankOf_35 : decode cX6_rankOf 35 = .ok (.invokevirtual 111, 3) := by decide +kernel
theorem dX6_rankOf_38 : decode cX6_rankOf 38 = .ok (.invokevirtual 197, 3) := by decide +kernel
theorem dX6_rankOf_41 : decode cX6_rankOf 41 = .ok (.aload_n 0, 1) := by decide +kernel
theorem dX6_rankOf_42 : decode cX6_rankOf 42 = .ok (.iconst 4, 1) := by decide +kernel
theorem dX6_rankOf_43 : decode cX6_rankOf 43 = .ok (.aload_n 0, 1) := by decide +kernel
theorem dX6_rankOf_44 : decode cX6_rankOf 44 = .ok (.invokevirtual 111, 3) := by decide +kernel
theorem dX6_rankOf_47 : decode cX6_rankOf 47 = .ok (.aload_n 0, 1) := by decide +kernel
theorem dX6_rankOf_48 : decode cX6_rankOf 48 = .ok (.invokevirtual 111, 3) := by decide +kernel
theorem dX6_rankOf_51 : decode cX6_rankOf 51 = .ok (.invokevirtual 115, 3) := by decide +kernel
theorem dX6_rankOf_54 : decode cX6_rankOf 54 = .ok (.ireturn, 1) := by decide +kernel
theorem dX6_bracket_0 : decode cX6_bracket 0 = .ok (.aload_n 0, 1) := by decide +kernel
theorem dX6_bracket_1 : decode cX6_bracket 1 = .ok (.aload_n 0, 1) := by decide +kernel
theorem dX6_bracket_2 : decode cX6_bracket 2 = .ok (.aload_n 0, 1) := by decide +kernel
theorem dX6_bracket_3 : decode cX6_bracket 3 = .ok (.iload_n 1, 1) := by decide +kernel
theorem dX6_bracket_4 : decode cX6_bracket 4 = .ok (.iload_n 3, 1) := by decide +kernel
theorem dX6_bracket_5 : decode cX6_bracket 5 = .ok (.invokevirtual 108, 3) := by decide +kernel
theorem dX6_bracket_8 : decode cX6_bracket 8 = .ok (.aload_n 0, 1) := by decide +kernel
theorem dX6_bracket_9 : decode cX6_bracket 9 = .ok (.iload_n 2, 1) := by decide +kernel
theorem dX6_bracket_10 : decode cX6_bracket 10 = .ok (.iload 4, 2) := by decide +kernel
theorem dX6_bracket_12 : decode cX6_bracket 12 = .ok (.invokevirtual 108, 3) := by decide +kernel
theorem dX6_bracket_15 : decode cX6_bracket 15 = .ok (.invokevirtual 76, 3) := by decide +kernel
theorem dX6_bracket_18 : decode cX6_bracket 18 = .ok (.aload_n 0, 1) := by decide +kernel
theorem dX6_bracket_19 : decode cX6_bracket 19 = .ok (.aload_n 0, 1) := by decide +kernel
theorem dX6_bracket_20 : decode cX6_bracket 20 = .ok (.iload_n 1, 1) := by decide +kernel
theorem dX6_bracket_21 : decode cX6_bracket 21 = .ok (.iload 4, 2) := by decide +kernel
theorem dX6_bracket_23 : decode cX6_bracket 23 = .ok (.invokevirtual 108, 3) := by decide +kernel
theorem dX6_bracket_26 : decode cX6_bracket 26 = .ok (.aload_n 0, 1) := by decide +kernel
theorem dX6_bracket_27 : decode cX6_bracket 27 = .ok (.iload_n 2, 1) := by decide +kernel
theorem dX6_bracket_28 : decode cX6_bracket 28 = .ok (.iload_n 3, 1) := by decide +kernel
theorem dX6_bracket_29 : decode cX6_bracket 29 = .ok (.invokevirtual 108, 3) := by decide +kernel
theorem dX6_bracket_32 : decode cX6_bracket 32 = .ok (.invokevirtual 76, 3) := by decide +kernel
theorem dX6_bracket_35 : decode cX6_bracket 35 = .ok (.invokevirtual 105, 3) := by decide +kernel
theorem dX6_bracket_38 : decode cX6_bracket 38 = .ok (.lreturn, 1) := by decide +kernel
theorem dX6_places_0 : decode cX6_places 0 = .ok (.aload_n 0, 1) := by decide +kernel
theorem dX6_places_1 : decode cX6_places 1 = .ok (.iconst (-1), 1) := by decide +kernel
theorem dX6_places_2 : decode cX6_places 2 = .ok (.putfield 201, 3) := by decide +kernel
theorem dX6_places_5 : decode cX6_places 5 = .ok (.iconst 0, 1) := by decide +kernel
theorem dX6_places_6 : decode cX6_places 6 = .ok (.istore 5, 2) := by decide +kernel
theorem dX6_places_8 : decode cX6_places 8 = .ok (.iload 5, 2) := by decide +kernel
theorem dX6_places_10 : decode cX6_places 10 = .ok (.aload_n 0, 1) := by decide +kernel
theorem dX6_places_11 : decode cX6_places 11 = .ok (.invokevirtual 111, 3) := by decide +kernel
theorem dX6_places_14 : decode cX6_places 14 = .ok (.if_icmp .ge 155, 3) := by decide +kernel
theorem dX6_places_17 : decode cX6_places 17 = .ok (.iload 5, 2) := by decide +kernel
theorem dX6_places_19 : decode cX6_places 19 = .ok (.iconst 1, 1) := by decide +kernel
theorem dX6_places_20 : decode cX6_places 20 = .ok (.iadd, 1) := by decide +kernel
theorem dX6_places_21 : decode cX6_places 21 = .ok (.istore 6, 2) := by decide +kernel
theorem dX6_places_23 : decode cX6_places 23 = .ok (.iload 6, 2) := by decide +kernel
theorem dX6_places_25 : decode cX6_places 25 = .ok (.aload_n 0, 1) := by decide +kernel
theorem dX6_places_26 : decode cX6_places 26 = .ok (.invokevirtual 111, 3) := by decide +kernel
theorem dX6_places_29 : decode cX6_places 29 = .ok (.if_icmp .ge 134, 3) := by decide +kernel
theorem dX6_places_32 : decode cX6_places 32 = .ok (.aload_n 0, 1) := by decide +kernel
theorem dX6_places_33 : decode cX6_places 33 = .ok (.iload_n 1, 1) := by decide +kernel
theorem dX6_places_34 : decode cX6_places 34 = .ok (.iload_n 2, 1) := by decide +kernel
theorem dX6_places_35 : decode cX6_places 35 = .ok (.iload 5, 2) := by decide +kernel
theorem dX6_places_37 : decode cX6_places 37 = .ok (.iload 6, 2) := by decide +kernel
theorem dX6_places_39 : decode cX6_places 39 = .ok (.invokevirtual 204, 3) := by decide +kernel
theorem dX6_places_42 : decode cX6_places 42 = .ok (.lconst 0, 1) := by decide +kernel
theorem dX6_places_43 : decode cX6_places 43 = .ok (.lcmp, 1) := by decide +kernel
theorem dX6_places_44 : decode cX6_places 44 = .ok (.ifCond .ne 81, 3) := by decide +kernel
theorem dX6_places_47 : decode cX6_places 47 = .ok (.aload_n 0, 1) := by decide +kernel
theorem dX6_places_48 : decode cX6_places 48 = .ok (.iload_n 1, 1) := by decide +kernel
theorem dX6_places_49 : decode cX6_places 49 = .ok (.iload_n 3, 1) := by decide +kernel
theorem dX6_places_50 : decode cX6_places 50 = .ok (.iload 5, 2) := by decide +kernel
theorem dX6_places_52 : decode cX6_places 52 = .ok (.iload 6, 2) := by decide +kernel
theorem dX6_places_54 : decode cX6_places 54 = .ok (.invokevirtual 204, 3) := by decide +kernel
theorem dX6_places_57 : decode cX6_places 57 = .ok (.lconst 0, 1) := by decide +kernel
theorem dX6_places_58 : decode cX6_places 58 = .ok (.lcmp, 1) := by decide +kernel
theorem dX6_places_59 : decode cX6_places 59 = .ok (.ifCond .ne 66, 3) := by decide +kernel
theorem dX6_places_62 : decode cX6_places 62 = .ok (.aload_n 0, 1) := by decide +kernel
theorem dX6_places_63 : decode cX6_places 63 = .ok (.iload_n 1, 1) := by decide +kernel
theorem dX6_places_64 : decode cX6_places 64 = .ok (.iload 4, 2) := by decide +kernel
theorem dX6_places_66 : decode cX6_places 66 = .ok (.iload 5, 2) := by decide +kernel
theorem dX6_places_68 : decode cX6_places 68 = .ok (.iload 6, 2) := by decide +kernel
theorem dX6_places_70 : decode cX6_places 70 = .ok (.invokevirtual 204, 3) := by decide +kernel
theorem dX6_places_73 : decode cX6_places 73 = .ok (.lconst 0, 1) := by decide +kernel
theorem dX6_places_74 : decode cX6_places 74 = .ok (.lcmp, 1) := by decide +kernel
theorem dX6_places_75 : decode cX6_places 75 = .ok (.ifCond .ne 50, 3) := by decide +kernel
theorem dX6_places_78 : decode cX6_places 78 = .ok (.aload_n 0, 1) := by decide +kernel
theorem dX6_places_79 : decode cX6_places 79 = .ok (.iload_n 2, 1) := by decide +kernel
theorem dX6_places_80 : decode cX6_places 80 = .ok (.iload_n 3, 1) := by decide +kernel
theorem dX6_places_81 : decode cX6_places 81 = .ok (.iload 5, 2) := by decide +kernel
theorem dX6_places_83 : decode cX6_places 83 = .ok (.iload 6, 2) := by decide +kernel
theorem dX6_places_85 : decode cX6_places 85 = .ok (.invokevirtual 204, 3) := by decide +kernel
theorem dX6_places_88 : decode cX6_places 88 = .ok (.lconst 0, 1) := by decide +kernel
theorem dX6_places_89 : decode cX6_places 89 = .ok (.lcmp, 1) := by decide +kernel
theorem dX6_places_90 : decode cX6_places 90 = .ok (.ifCond .ne 35, 3) := by decide +kernel
theorem dX6_places_93 : decode cX6_places 93 = .ok (.aload_n 0, 1) := by decide +kernel
theorem dX6_places_94 : decode cX6_places 94 = .ok (.iload_n 2, 1) := by decide +kernel
theorem dX6_places_95 : decode cX6_places 95 = .ok (.iload 4, 2) := by decide +kernel
theorem dX6_places_97 : decode cX6_places 97 = .ok (.iload 5, 2) := by decide +kernel
theorem dX6_places_99 : decode cX6_places 99 = .ok (.iload 6, 2) := by decide +kernel
theorem dX6_places_101 : decode cX6_places 101 = .ok (.invokevirtual 204, 3) := by decide +kernel
theorem dX6_places_104 : decode cX6_places 104 = .ok (.lconst 0, 1) := by decide +kernel
theorem dX6_places_105 : decode cX6_places 105 = .ok (.lcmp, 1) := by decide +kernel
theorem dX6_places_106 : decode cX6_places 106 = .ok (.ifCond .ne 19, 3) := by decide +kernel
theorem dX6_places_109 : decode cX6_places 109 = .ok (.aload_n 0, 1) := by decide +kernel
theorem dX6_places_110 : decode cX6_places 110 = .ok (.iload_n 3, 1) := by decide +kernel
theorem dX6_places_111 : decode cX6_places 111 = .ok (.iload 4, 2) := by decide +kernel
theorem dX6_places_113 : decode cX6_places 113 = .ok (.iload 5, 2) := by decide +kernel
theorem dX6_places_115 : decode cX6_places 115 = .ok (.iload 6, 2) := by decide +kernel
theorem dX6_places_117 : decode cX6_places 117 = .ok (.invokevirtual 204, 3) := by decide +kernel
theorem dX6_places_120 : decode cX6_places 120 = .ok (.lconst 0, 1) := by decide +kernel
theorem dX6_places_121 : decode cX6_places 121 = .ok (.lcmp, 1) := by decide +kernel
theorem dX6_places_122 : decode cX6_places 122 = .ok (.ifCond .eq 7, 3) := by decide +kernel
theorem dX6_places_125 : decode cX6_places 125 = .ok (.iconst 1, 1) := by decide +kernel
theorem dX6_places_126 : decode cX6_places 126 = .ok (.goto 4, 3) := by decide +kernel
theorem dX6_places_129 : decode cX6_places 129 = .ok (.iconst 0, 1) := by decide +kernel
theorem dX6_places_130 : decode cX6_places 130 = .ok (.istore 7, 2) := by decide +kernel
theorem dX6_places_132 : decode cX6_places 132 = .ok (.aload_n 0, 1) := by decide +kernel
theorem dX6_places_133 : decode cX6_places 133 = .ok (.getfield 201, 3) := by decide +kernel
theorem dX6_places_136 : decode cX6_places 136 = .ok (.iconst (-1), 1) := by decide +kernel
theorem dX6_places_137 : decode cX6_places 137 = .ok (.if_icmp .ne 20, 3) := by decide +kernel
theorem dX6_places_140 : decode cX6_places 140 = .ok (.iload 7, 2) := by decide +kernel
theorem dX6_places_142 : decode cX6_places 142 = .ok (.ifCond .eq 15, 3) := by decide +kernel
theorem dX6_places_145 : decode cX6_places 145 = .ok (.aload_n 0, 1) := by decide +kernel
theorem dX6_places_146 : decode cX6_places 146 = .ok (.iload 5, 2) := by decide +kernel
theorem dX6_places_148 : decode cX6_places 148 = .ok (.putfield 201, 3) := by decide +kernel
theorem dX6_places_151 : decode cX6_places 151 = .ok (.aload_n 0, 1) := by decide +kernel
theorem dX6_places_152 : decode cX6_places 152 = .ok (.iload 6, 2) := by decide +kernel
theorem dX6_places_154 : decode cX6_places 154 = .ok (.putfield 208, 3) := by decide +kernel
theorem dX6_places_157 : decode cX6_places 157 = .ok (.iinc 6 1, 3) := by decide +kernel
theorem dX6_places_160 : decode cX6_places 160 = .ok (.goto (-137), 3) := by decide +kernel
theorem dX6_places_163 : decode cX6_places 163 = .ok (.iinc 5 1, 3) := by decide +kernel
theorem dX6_places_166 : decode cX6_places 166 = .ok (.goto (-158), 3) := by decide +kernel
theorem dX6_places_169 : decode cX6_places 169 = .ok (.return_, 1) := by decide +kernel
theorem dX6_brackets_0 : decode cX6_brackets 0 = .ok (.aload_n 0, 1) := by decide +kernel
theorem dX6_brackets_1 : decode cX6_brackets 1 = .ok (.iload_n 1, 1) := by decide +kernel
theorem dX6_brackets_2 : decode cX6_brackets 2 = .ok (.iload_n 2, 1) := by decide +kernel
theorem dX6_brackets_3 : decode cX6_brackets 3 = .ok (.aload_n 0, 1) := by decide +kernel
theorem dX6_brackets_4 : decode cX6_brackets 4 = .ok (.getfield 201, 3) := by decide +kernel
theorem dX6_brackets_7 : decode cX6_brackets 7 = .ok (.aload_n 0, 1) := by decide +kernel
theorem dX6_brackets_8 : decode cX6_brackets 8 = .ok (.getfield 208, 3) := by decide +kernel
theorem dX6_brackets_11 : decode cX6_brackets 11 = .ok (.invokevirtual 204, 3) := by decide +kernel
theorem dX6_brackets_14 : decode cX6_brackets 14 = .ok (.lreturn, 1) := by decide +kernel
theorem dX6_cross_0 : decode cX6_cross 0 = .ok (.aload_n 0, 1) := by decide +kernel
theorem dX6_cross_1 : decode cX6_cross 1 = .ok (.iload_n 1, 1) := by decide +kernel
theorem dX6_cross_2 : decode cX6_cross 2 = .ok (.iload_n 2, 1) := by decide +kernel
theorem dX6_cross_3 : decode cX6_cross 3 = .ok (.invokevirtual 211, 3) := by decide +kernel
theorem dX6_cross_6 : decode cX6_cross 6 = .ok (.ifCond .eq 22, 3) := by decide +kernel
theorem dX6_cross_9 : decode cX6_cross 9 = .ok (.aload_n 0, 1) := by decide +kernel
theorem dX6_cross_10 : decode cX6_cross 10 = .ok (.iload_n 2, 1) := by decide +kernel
theorem dX6_cross_11 : decode cX6_cross 11 = .ok (.iload_n 3, 1) := by decide +kernel
theorem dX6_cross_12 : decode cX6_cross 12 = .ok (.invokevirtual 211, 3) := by decide +kernel
theorem dX6_cross_15 : decode cX6_cross 15 = .ok (.ifCond .eq 13, 3) := by decide +kernel
theorem dX6_cross_18 : decode cX6_cross 18 = .ok (.aload_n 0, 1) := by decide +kernel
theorem dX6_cross_19 : decode cX6_cross 19 = .ok (.iload_n 3, 1) := by decide +kernel
theorem dX6_cross_20 : decode cX6_cross 20 = .ok (.iload 4, 2) := by decide +kernel
theorem dX6_cross_22 : decode cX6_cross 22 = .ok (.invokevirtual 211, 3) := by decide +kernel
theorem dX6_cross_25 : decode cX6_cross 25 = .ok (.ifCond .ne 7, 3) := by decide +kernel
theorem dX6_cross_28 : decode cX6_cross 28 = .ok (.ldc2_w 214, 3) := by decide +kernel
theorem dX6_cross_31 : decode cX6_cross 31 = .ok (.lreturn, 1) := by decide +kernel
theorem dX6_cross_32 : decode cX6_cross 32 = .ok (.aload_n 0, 1) := by decide +kernel
theorem dX6_cross_33 : decode cX6_cross 33 = .ok (.iload_n 1, 1) := by decide +kernel
theorem dX6_cross_34 : decode cX6_cross 34 = .ok (.iload_n 2, 1) := by decide +kernel
theorem dX6_cross_35 : decode cX6_cross 35 = .ok (.iload_n 3, 1) := by decide +kernel
theorem dX6_cross_36 : decode cX6_cross 36 = .ok (.iload 4, 2) := by decide +kernel
theorem dX6_cross_38 : decode cX6_cross 38 = .ok (.invokevirtual 216, 3) := by decide +kernel
theorem dX6_cross_41 : decode cX6_cross 41 = .ok (.iconst 2, 1) := by decide +kernel
theorem dX6_cross_42 : decode cX6_cross 42 = .ok (.if_icmp .eq 7, 3) := by decide +kernel
theorem dX6_cross_45 : decode cX6_cross 45 = .ok (.ldc2_w 220, 3) := by decide +kernel
theorem dX6_cross_48 : decode cX6_cross 48 = .ok (.lreturn, 1) := by decide +kernel
theorem dX6_cross_49 : decode cX6_cross 49 = .ok (.aload_n 0, 1) := by decide +kernel
theorem dX6_cross_50 : decode cX6_cross 50 = .ok (.iload_n 1, 1) := by decide +kernel
theorem dX6_cross_51 : decode cX6_cross 51 = .ok (.iload_n 2, 1) := by decide +kernel
theorem dX6_cross_52 : decode cX6_cross 52 = .ok (.iload_n 3, 1) := by decide +kernel
theorem dX6_cross_53 : decode cX6_cross 53 = .ok (.iload 4, 2) := by decide +kernel
theorem dX6_cross_55 : decode cX6_cross 55 = .ok (.invokevirtual 222, 3) := by decide +kernel
theorem dX6_cross_58 : decode cX6_cross 58 = .ok (.aload_n 0, 1) := by decide +kernel
theorem dX6_cross_59 : decode cX6_cross 59 = .ok (.aload_n 0, 1) := by decide +kernel
theorem dX6_cross_60 : decode cX6_cross 60 = .ok (.iload_n 1, 1) := by decide +kernel
theorem dX6_cross_61 : decode cX6_cross 61 = .ok (.iload_n 3, 1) := by decide +kernel
theorem dX6_cross_62 : decode cX6_cross 62 = .ok (.invokevirtual 226, 3) := by decide +kernel
theorem dX6_cross_65 : decode cX6_cross 65 = .ok (.aload_n 0, 1) := by decide +kernel
theorem dX6_cross_66 : decode cX6_cross 66 = .ok (.iload_n 2, 1) := by decide +kernel
theorem dX6_cross_67 : decode cX6_cross 67 = .ok (.iload 4, 2) := by decide +kernel
theorem dX6_cross_69 : decode cX6_cross 69 = .ok (.invokevirtual 226, 3) := by decide +kernel
theorem dX6_cross_72 : decode cX6_cross 72 = .ok (.invokevirtual 76, 3) := by decide +kernel
theorem dX6_cross_75 : decode cX6_cross 75 = .ok (.lstore 5, 2) := by decide +kernel
theorem dX6_cross_77 : decode cX6_cross 77 = .ok (.aload_n 0, 1) := by decide +kernel
theorem dX6_cross_78 : decode cX6_cross 78 = .ok (.aload_n 0, 1) := by decide +kernel
theorem dX6_cross_79 : decode cX6_cross 79 = .ok (.iload_n 2, 1) := by decide +kernel
theorem dX6_cross_80 : decode cX6_cross 80 = .ok (.iload_n 3, 1) := by decide +kernel
theorem dX6_cross_81 : decode cX6_cross 81 = .ok (.invokevirtual 226, 3) := by decide +kernel
theorem dX6_cross_84 : decode cX6_cross 84 = .ok (.aload_n 0, 1) := by decide +kernel
theorem dX6_cross_85 : decode cX6_cross 85 = .ok (.iload_n 1, 1) := by decide +kernel
theorem dX6_cross_86 : decode cX6_cross 86 = .ok (.iload 4, 2) := by decide +kernel
theorem dX6_cross_88 : decode cX6_cross 88 = .ok (.invokevirtual 226, 3) := by decide +kernel
theorem dX6_cross_91 : decode cX6_cross 91 = .ok (.invokevirtual 76, 3) := by decide +kernel
theorem dX6_cross_94 : decode cX6_cross 94 = .ok (.lstore 7, 2) := by decide +kernel
theorem dX6_cross_96 : decode cX6_cross 96 = .ok (.lload 7, 2) := by decide +kernel
theorem dX6_cross_98 : decode cX6_cross 98 = .ok (.lconst 0, 1) := by decide +kernel
theorem dX6_cross_99 : decode cX6_cross 99 = .ok (.lcmp, 1) := by decide +kernel
theorem dX6_cross_100 : decode cX6_cross 100 = .ok (.ifCond .eq 18, 3) := by decide +kernel
theorem dX6_cross_103 : decode cX6_cross 103 = .ok (.aload_n 0, 1) := by decide +kernel
theorem dX6_cross_104 : decode cX6_cross 104 = .ok (.lload 5, 2) := by decide +kernel
theorem dX6_cross_106 : decode cX6_cross 106 = .ok (.aload_n 0, 1) := by decide +kernel
theorem dX6_cross_107 : decode cX6_cross 107 = .ok (.lload 7, 2) := by decide +kernel
theorem dX6_cross_109 : decode cX6_cross 109 = .ok (.invokevirtual 98, 3) := by decide +kernel
theorem dX6_cross_112 : decode cX6_cross 112 = .ok (.invokevirtual 76, 3) := by decide +kernel
theorem dX6_cross_115 : decode cX6_cross 115 = .ok (.goto 20, 3) := by decide +kernel
theorem dX6_cross_118 : decode cX6_cross 118 = .ok (.lload 5, 2) := by decide +kernel
theorem dX6_cross_120 : decode cX6_cross 120 = .ok (.lconst 0, 1) := by decide +kernel
theorem dX6_cross_121 : decode cX6_cross 121 = .ok (.lcmp, 1) := by decide +kernel
theorem dX6_cross_122 : decode cX6_cross 122 = .ok (.ifCond .eq 10, 3) := by decide +kernel
theorem dX6_cross_125 : decode cX6_cross 125 = .ok (.aload_n 0, 1) := by decide +kernel
theorem dX6_cross_126 : decode cX6_cross 126 = .ok (.getfield 60, 3) := by decide +kernel
theorem dX6_cross_129 : decode cX6_cross 129 = .ok (.goto 6, 3) := by decide +kernel
theorem dX6_cross_132 : decode cX6_cross 132 = .ok (.ldc2_w 220, 3) := by decide +kernel
theorem dX6_cross_135 : decode cX6_cross 135 = .ok (.lreturn, 1) := by decide +kernel
theorem dX6_fourth_0 : decode cX6_fourth 0 = .ok (.aload_n 0, 1) := by decide +kernel
theorem dX6_fourth_1 : decode cX6_fourth 1 = .ok (.iload_n 1, 1) := by decide +kernel
theorem dX6_fourth_2 : decode cX6_fourth 2 = .ok (.iload_n 2, 1) := by decide +kernel
theorem dX6_fourth_3 : decode cX6_fourth 3 = .ok (.invokevirtual 211, 3) := by decide +kernel
theorem dX6_fourth_6 : decode cX6_fourth 6 = .ok (.ifCond .eq 29, 3) := by decide +kernel
theorem dX6_fourth_9 : decode cX6_fourth 9 = .ok (.aload_n 0, 1) := by decide +kernel
