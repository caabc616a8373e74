theorem dX6_fourth_10 : decode cX6_fourth 10 = .ok (.iload_n 2, 1) := by decide +kernel
theorem dX6_fourth_11 : decode cX6_fourth 11 = .ok (.iload_n 3, 1) := by decide +kernel
theorem dX6_fourth_12 : decode cX6_fourth 12 = .ok (.invokevirtual 211, 3) := by decide +kernel
theorem dX6_fourth_15 : decode cX6_fourth 15 = .ok (.ifCond .eq 20, 3) := by decide +kernel
theorem dX6_fourth_18 : decode cX6_fourth 18 = .ok (.lload 4, 2) := by decide +kernel
theorem dX6_fourth_20 : decode cX6_fourth 20 = .ok (.lconst 0, 1) := by decide +kernel
theorem dX6_fourth_21 : decode cX6_fourth 21 = .ok (.lcmp, 1) := by decide +kernel
theorem dX6_fourth_22 : decode cX6_fourth 22 = .ok (.ifCond .lt 13, 3) := by decide +kernel
theorem dX6_fourth_25 : decode cX6_fourth 25 = .ok (.lload 4, 2) := by decide +kernel
theorem dX6_fourth_27 : decode cX6_fourth 27 = .ok (.aload_n 0, 1) := by decide +kernel
theorem dX6_fourth_28 : decode cX6_fourth 28 = .ok (.getfield 60, 3) := by decide +kernel
theorem dX6_fourth_31 : decode cX6_fourth 31 = .ok (.lcmp, 1) := by decide +kernel
theorem dX6_fourth_32 : decode cX6_fourth 32 = .ok (.ifCond .le 6, 3) := by decide +kernel
theorem dX6_fourth_35 : decode cX6_fourth 35 = .ok (.bipush (-2), 2) := by decide +kernel
theorem dX6_fourth_37 : decode cX6_fourth 37 = .ok (.ireturn, 1) := by decide +kernel
theorem dX6_fourth_38 : decode cX6_fourth 38 = .ok (.iload_n 1, 1) := by decide +kernel
theorem dX6_fourth_39 : decode cX6_fourth 39 = .ok (.iload_n 2, 1) := by decide +kernel
theorem dX6_fourth_40 : decode cX6_fourth 40 = .ok (.if_icmp .eq 25, 3) := by decide +kernel
theorem dX6_fourth_43 : decode cX6_fourth 43 = .ok (.iload_n 2, 1) := by decide +kernel
theorem dX6_fourth_44 : decode cX6_fourth 44 = .ok (.iload_n 3, 1) := by decide +kernel
theorem dX6_fourth_45 : decode cX6_fourth 45 = .ok (.if_icmp .eq 20, 3) := by decide +kernel
theorem dX6_fourth_48 : decode cX6_fourth 48 = .ok (.iload_n 1, 1) := by decide +kernel
theorem dX6_fourth_49 : decode cX6_fourth 49 = .ok (.iload_n 3, 1) := by decide +kernel
theorem dX6_fourth_50 : decode cX6_fourth 50 = .ok (.if_icmp .eq 15, 3) := by decide +kernel
theorem dX6_fourth_53 : decode cX6_fourth 53 = .ok (.aload_n 0, 1) := by decide +kernel
theorem dX6_fourth_54 : decode cX6_fourth 54 = .ok (.iload_n 1, 1) := by decide +kernel
theorem dX6_fourth_55 : decode cX6_fourth 55 = .ok (.iload_n 2, 1) := by decide +kernel
theorem dX6_fourth_56 : decode cX6_fourth 56 = .ok (.iload_n 3, 1) := by decide +kernel
theorem dX6_fourth_57 : decode cX6_fourth 57 = .ok (.iload_n 3, 1) := by decide +kernel
theorem dX6_fourth_58 : decode cX6_fourth 58 = .ok (.invokevirtual 216, 3) := by decide +kernel
theorem dX6_fourth_61 : decode cX6_fourth 61 = .ok (.iconst 2, 1) := by decide +kernel
theorem dX6_fourth_62 : decode cX6_fourth 62 = .ok (.if_icmp .eq 5, 3) := by decide +kernel
theorem dX6_fourth_65 : decode cX6_fourth 65 = .ok (.iconst (-1), 1) := by decide +kernel
theorem dX6_fourth_66 : decode cX6_fourth 66 = .ok (.ireturn, 1) := by decide +kernel
theorem dX6_fourth_67 : decode cX6_fourth 67 = .ok (.aload_n 0, 1) := by decide +kernel
theorem dX6_fourth_68 : decode cX6_fourth 68 = .ok (.iload_n 1, 1) := by decide +kernel
theorem dX6_fourth_69 : decode cX6_fourth 69 = .ok (.iload_n 2, 1) := by decide +kernel
theorem dX6_fourth_70 : decode cX6_fourth 70 = .ok (.iload_n 3, 1) := by decide +kernel
theorem dX6_fourth_71 : decode cX6_fourth 71 = .ok (.iload_n 3, 1) := by decide +kernel
theorem dX6_fourth_72 : decode cX6_fourth 72 = .ok (.invokevirtual 222, 3) := by decide +kernel
theorem dX6_fourth_75 : decode cX6_fourth 75 = .ok (.lload 4, 2) := by decide +kernel
theorem dX6_fourth_77 : decode cX6_fourth 77 = .ok (.aload_n 0, 1) := by decide +kernel
theorem dX6_fourth_78 : decode cX6_fourth 78 = .ok (.getfield 60, 3) := by decide +kernel
theorem dX6_fourth_81 : decode cX6_fourth 81 = .ok (.lcmp, 1) := by decide +kernel
theorem dX6_fourth_82 : decode cX6_fourth 82 = .ok (.ifCond .ne 7, 3) := by decide +kernel
theorem dX6_fourth_85 : decode cX6_fourth 85 = .ok (.lconst 1, 1) := by decide +kernel
theorem dX6_fourth_86 : decode cX6_fourth 86 = .ok (.goto 20, 3) := by decide +kernel
theorem dX6_fourth_89 : decode cX6_fourth 89 = .ok (.aload_n 0, 1) := by decide +kernel
theorem dX6_fourth_90 : decode cX6_fourth 90 = .ok (.lconst 0, 1) := by decide +kernel
theorem dX6_fourth_91 : decode cX6_fourth 91 = .ok (.aload_n 0, 1) := by decide +kernel
theorem dX6_fourth_92 : decode cX6_fourth 92 = .ok (.lload 4, 2) := by decide +kernel
theorem dX6_fourth_94 : decode cX6_fourth 94 = .ok (.aload_n 0, 1) := by decide +kernel
theorem dX6_fourth_95 : decode cX6_fourth 95 = .ok (.iload_n 2, 1) := by decide +kernel
theorem dX6_fourth_96 : decode cX6_fourth 96 = .ok (.iload_n 3, 1) := by decide +kernel
theorem dX6_fourth_97 : decode cX6_fourth 97 = .ok (.invokevirtual 226, 3) := by decide +kernel
theorem dX6_fourth_100 : decode cX6_fourth 100 = .ok (.invokevirtual 76, 3) := by decide +kernel
theorem dX6_fourth_103 : decode cX6_fourth 103 = .ok (.invokevirtual 105, 3) := by decide +kernel
theorem dX6_fourth_106 : decode cX6_fourth 106 = .ok (.lstore 6, 2) := by decide +kernel
theorem dX6_fourth_108 : decode cX6_fourth 108 = .ok (.lload 4, 2) := by decide +kernel
theorem dX6_fourth_110 : decode cX6_fourth 110 = .ok (.aload_n 0, 1) := by decide +kernel
theorem dX6_fourth_111 : decode cX6_fourth 111 = .ok (.getfield 60, 3) := by decide +kernel
theorem dX6_fourth_114 : decode cX6_fourth 114 = .ok (.lcmp, 1) := by decide +kernel
theorem dX6_fourth_115 : decode cX6_fourth 115 = .ok (.ifCond .ne 7, 3) := by decide +kernel
theorem dX6_fourth_118 : decode cX6_fourth 118 = .ok (.lconst 0, 1) := by decide +kernel
theorem dX6_fourth_119 : decode cX6_fourth 119 = .ok (.goto 9, 3) := by decide +kernel
theorem dX6_fourth_122 : decode cX6_fourth 122 = .ok (.aload_n 0, 1) := by decide +kernel
theorem dX6_fourth_123 : decode cX6_fourth 123 = .ok (.iload_n 1, 1) := by decide +kernel
theorem dX6_fourth_124 : decode cX6_fourth 124 = .ok (.iload_n 3, 1) := by decide +kernel
theorem dX6_fourth_125 : decode cX6_fourth 125 = .ok (.invokevirtual 226, 3) := by decide +kernel
theorem dX6_fourth_128 : decode cX6_fourth 128 = .ok (.lstore 8, 2) := by decide +kernel
theorem dX6_fourth_130 : decode cX6_fourth 130 = .ok (.aload_n 0, 1) := by decide +kernel
theorem dX6_fourth_131 : decode cX6_fourth 131 = .ok (.invokevirtual 136, 3) := by decide +kernel
theorem dX6_fourth_134 : decode cX6_fourth 134 = .ok (.iconst 0, 1) := by decide +kernel
theorem dX6_fourth_135 : decode cX6_fourth 135 = .ok (.istore 10, 2) := by decide +kernel
theorem dX6_fourth_137 : decode cX6_fourth 137 = .ok (.iload 10, 2) := by decide +kernel
theorem dX6_fourth_139 : decode cX6_fourth 139 = .ok (.aload_n 0, 1) := by decide +kernel
theorem dX6_fourth_140 : decode cX6_fourth 140 = .ok (.invokevirtual 111, 3) := by decide +kernel
theorem dX6_fourth_143 : decode cX6_fourth 143 = .ok (.if_icmp .ge 48, 3) := by decide +kernel
theorem dX6_fourth_146 : decode cX6_fourth 146 = .ok (.aload_n 0, 1) := by decide +kernel
theorem dX6_fourth_147 : decode cX6_fourth 147 = .ok (.getfield 29, 3) := by decide +kernel
theorem dX6_fourth_150 : decode cX6_fourth 150 = .ok (.iload 10, 2) := by decide +kernel
theorem dX6_fourth_152 : decode cX6_fourth 152 = .ok (.aload_n 0, 1) := by decide +kernel
theorem dX6_fourth_153 : decode cX6_fourth 153 = .ok (.lload 6, 2) := by decide +kernel
theorem dX6_fourth_155 : decode cX6_fourth 155 = .ok (.aload_n 0, 1) := by decide +kernel
theorem dX6_fourth_156 : decode cX6_fourth 156 = .ok (.iload_n 1, 1) := by decide +kernel
theorem dX6_fourth_157 : decode cX6_fourth 157 = .ok (.iload 10, 2) := by decide +kernel
theorem dX6_fourth_159 : decode cX6_fourth 159 = .ok (.invokevirtual 108, 3) := by decide +kernel
theorem dX6_fourth_162 : decode cX6_fourth 162 = .ok (.invokevirtual 76, 3) := by decide +kernel
theorem dX6_fourth_165 : decode cX6_fourth 165 = .ok (.aload_n 0, 1) := by decide +kernel
theorem dX6_fourth_166 : decode cX6_fourth 166 = .ok (.lload 8, 2) := by decide +kernel
theorem dX6_fourth_168 : decode cX6_fourth 168 = .ok (.aload_n 0, 1) := by decide +kernel
theorem dX6_fourth_169 : decode cX6_fourth 169 = .ok (.iload_n 2, 1) := by decide +kernel
theorem dX6_fourth_170 : decode cX6_fourth 170 = .ok (.iload 10, 2) := by decide +kernel
theorem dX6_fourth_172 : decode cX6_fourth 172 = .ok (.invokevirtual 108, 3) := by decide +kernel
theorem dX6_fourth_175 : decode cX6_fourth 175 = .ok (.invokevirtual 76, 3) := by decide +kernel
theorem dX6_fourth_178 : decode cX6_fourth 178 = .ok (.ladd, 1) := by decide +kernel
theorem dX6_fourth_179 : decode cX6_fourth 179 = .ok (.aload_n 0, 1) := by decide +kernel
theorem dX6_fourth_180 : decode cX6_fourth 180 = .ok (.getfield 60, 3) := by decide +kernel
theorem dX6_fourth_183 : decode cX6_fourth 183 = .ok (.lrem, 1) := by decide +kernel
theorem dX6_fourth_184 : decode cX6_fourth 184 = .ok (.lastore, 1) := by decide +kernel
theorem dX6_fourth_185 : decode cX6_fourth 185 = .ok (.iinc 10 1, 3) := by decide +kernel
theorem dX6_fourth_188 : decode cX6_fourth 188 = .ok (.goto (-51), 3) := by decide +kernel
theorem dX6_fourth_191 : decode cX6_fourth 191 = .ok (.aload_n 0, 1) := by decide +kernel
theorem dX6_fourth_192 : decode cX6_fourth 192 = .ok (.aload_n 0, 1) := by decide +kernel
theorem dX6_fourth_193 : decode cX6_fourth 193 = .ok (.getfield 7, 3) := by decide +kernel
theorem dX6_fourth_196 : decode cX6_fourth 196 = .ok (.iload_n 1, 1) := by decide +kernel
theorem dX6_fourth_197 : decode cX6_fourth 197 = .ok (.iaload, 1) := by decide +kernel
theorem dX6_fourth_198 : decode cX6_fourth 198 = .ok (.invokevirtual 133, 3) := by decide +kernel
theorem dX6_fourth_201 : decode cX6_fourth 201 = .ok (.ireturn, 1) := by decide +kernel
theorem dX6_isWide_0 : decode cX6_isWide 0 = .ok (.iconst 1, 1) := by decide +kernel
theorem dX6_isWide_1 : decode cX6_isWide 1 = .ok (.istore_n 2, 1) := by decide +kernel
theorem dX6_isWide_2 : decode cX6_isWide 2 = .ok (.iconst 0, 1) := by decide +kernel
theorem dX6_isWide_3 : decode cX6_isWide 3 = .ok (.istore_n 3, 1) := by decide +kernel
theorem dX6_isWide_4 : decode cX6_isWide 4 = .ok (.iload_n 3, 1) := by decide +kernel
theorem dX6_isWide_5 : decode cX6_isWide 5 = .ok (.aload_n 0, 1) := by decide +kernel
theorem dX6_isWide_6 : decode cX6_isWide 6 = .ok (.getfield 56, 3) := by decide +kernel
theorem dX6_isWide_9 : decode cX6_isWide 9 = .ok (.iconst 2, 1) := by decide +kernel
theorem dX6_isWide_10 : decode cX6_isWide 10 = .ok (.iadd, 1) := by decide +kernel
theorem dX6_isWide_11 : decode cX6_isWide 11 = .ok (.if_icmp .ge 105, 3) := by decide +kernel
theorem dX6_isWide_14 : decode cX6_isWide 14 = .ok (.iconst 0, 1) := by decide +kernel
theorem dX6_isWide_15 : decode cX6_isWide 15 = .ok (.istore 4, 2) := by decide +kernel
theorem dX6_isWide_17 : decode cX6_isWide 17 = .ok (.iconst 0, 1) := by decide +kernel
theorem dX6_isWide_18 : decode cX6_isWide 18 = .ok (.istore 5, 2) := by decide +kernel
theorem dX6_isWide_20 : decode cX6_isWide 20 = .ok (.iload 5, 2) := by decide +kernel
theorem dX6_isWide_22 : decode cX6_isWide 22 = .ok (.aload_n 0, 1) := by decide +kernel
theorem dX6_isWide_23 : decode cX6_isWide 23 = .ok (.getfield 56, 3) := by decide +kernel
theorem dX6_isWide_26 : decode cX6_isWide 26 = .ok (.iconst 2, 1) := by decide +kernel
theorem dX6_isWide_27 : decode cX6_isWide 27 = .ok (.iadd, 1) := by decide +kernel
theorem dX6_isWide_28 : decode cX6_isWide 28 = .ok (.if_icmp .ge 49, 3) := by decide +kernel
theorem dX6_isWide_31 : decode cX6_isWide 31 = .ok (.iload 5, 2) := by decide +kernel
theorem dX6_isWide_33 : decode cX6_isWide 33 = .ok (.iload_n 3, 1) := by decide +kernel
theorem dX6_isWide_34 : decode cX6_isWide 34 = .ok (.if_icmp .eq 37, 3) := by decide +kernel
theorem dX6_isWide_37 : decode cX6_isWide 37 = .ok (.aload_n 0, 1) := by decide +kernel
theorem dX6_isWide_38 : decode cX6_isWide 38 = .ok (.iload 4, 2) := by decide +kernel
theorem dX6_isWide_40 : decode cX6_isWide 40 = .ok (.iload_n 1, 1) := by decide +kernel
theorem dX6_isWide_41 : decode cX6_isWide 41 = .ok (.ifCond .eq 13, 3) := by decide +kernel
theorem dX6_isWide_44 : decode cX6_isWide 44 = .ok (.aload_n 0, 1) := by decide +kernel
theorem dX6_isWide_45 : decode cX6_isWide 45 = .ok (.getfield 23, 3) := by decide +kernel
theorem dX6_isWide_48 : decode cX6_isWide 48 = .ok (.iload 5, 2) := by decide +kernel
theorem dX6_isWide_50 : decode cX6_isWide 50 = .ok (.iaload, 1) := by decide +kernel
theorem dX6_isWide_51 : decode cX6_isWide 51 = .ok (.goto 10, 3) := by decide +kernel
theorem dX6_isWide_54 : decode cX6_isWide 54 = .ok (.aload_n 0, 1) := by decide +kernel
theorem dX6_isWide_55 : decode cX6_isWide 55 = .ok (.getfield 26, 3) := by decide +kernel
theorem dX6_isWide_58 : decode cX6_isWide 58 = .ok (.iload 5, 2) := by decide +kernel
theorem dX6_isWide_60 : decode cX6_isWide 60 = .ok (.iaload, 1) := by decide +kernel
theorem dX6_isWide_61 : decode cX6_isWide 61 = .ok (.aload_n 0, 1) := by decide +kernel
theorem dX6_isWide_62 : decode cX6_isWide 62 = .ok (.invokevirtual 111, 3) := by decide +kernel
theorem dX6_isWide_65 : decode cX6_isWide 65 = .ok (.invokevirtual 197, 3) := by decide +kernel
theorem dX6_isWide_68 : decode cX6_isWide 68 = .ok (.iinc 4 1, 3) := by decide +kernel
theorem dX6_isWide_71 : decode cX6_isWide 71 = .ok (.iinc 5 1, 3) := by decide +kernel
theorem dX6_isWide_74 : decode cX6_isWide 74 = .ok (.goto (-54), 3) := by decide +kernel
theorem dX6_isWide_77 : decode cX6_isWide 77 = .ok (.iload_n 2, 1) := by decide +kernel
theorem dX6_isWide_78 : decode cX6_isWide 78 = .ok (.ifCond .eq 30, 3) := by decide +kernel
theorem dX6_isWide_81 : decode cX6_isWide 81 = .ok (.aload_n 0, 1) := by decide +kernel
theorem dX6_isWide_82 : decode cX6_isWide 82 = .ok (.aload_n 0, 1) := by decide +kernel
theorem dX6_isWide_83 : decode cX6_isWide 83 = .ok (.invokevirtual 111, 3) := by decide +kernel
theorem dX6_isWide_86 : decode cX6_isWide 86 = .ok (.aload_n 0, 1) := by decide +kernel
theorem dX6_isWide_87 : decode cX6_isWide 87 = .ok (.invokevirtual 111, 3) := by decide +kernel
theorem dX6_isWide_90 : decode cX6_isWide 90 = .ok (.aload_n 0, 1) := by decide +kernel
theorem dX6_isWide_91 : decode cX6_isWide 91 = .ok (.invokevirtual 111, 3) := by decide +kernel
theorem dX6_isWide_94 : decode cX6_isWide 94 = .ok (.invokevirtual 115, 3) := by decide +kernel
theorem dX6_isWide_97 : decode cX6_isWide 97 = .ok (.aload_n 0, 1) := by decide +kernel
theorem dX6_isWide_98 : decode cX6_isWide 98 = .ok (.invokevirtual 111, 3) := by decide +kernel
theorem dX6_isWide_101 : decode cX6_isWide 101 = .ok (.if_icmp .ne 7, 3) := by decide +kernel
theorem dX6_isWide_104 : decode cX6_isWide 104 = .ok (.iconst 1, 1) := by decide +kernel
theorem dX6_isWide_105 : decode cX6_isWide 105 = .ok (.goto 4, 3) := by decide +kernel
theorem dX6_isWide_108 : decode cX6_isWide 108 = .ok (.iconst 0, 1) := by decide +kernel
theorem dX6_isWide_109 : decode cX6_isWide 109 = .ok (.istore_n 2, 1) := by decide +kernel
theorem dX6_isWide_110 : decode cX6_isWide 110 = .ok (.iinc 3 1, 3) := by decide +kernel
theorem dX6_isWide_113 : decode cX6_isWide 113 = .ok (.goto (-109), 3) := by decide +kernel
theorem dX6_isWide_116 : decode cX6_isWide 116 = .ok (.iload_n 2, 1) := by decide +kernel
theorem dX6_isWide_117 : decode cX6_isWide 117 = .ok (.ireturn, 1) := by decide +kernel
theorem dX6_columns_0 : decode cX6_columns 0 = .ok (.iconst 0, 1) := by decide +kernel
theorem dX6_columns_1 : decode cX6_columns 1 = .ok (.istore_n 2, 1) := by decide +kernel
theorem dX6_columns_2 : decode cX6_columns 2 = .ok (.iload_n 2, 1) := by decide +kernel
theorem dX6_columns_3 : decode cX6_columns 3 = .ok (.aload_n 0, 1) := by decide +kernel
theorem dX6_columns_4 : decode cX6_columns 4 = .ok (.invokevirtual 111, 3) := by decide +kernel
theorem dX6_columns_7 : decode cX6_columns 7 = .ok (.if_icmp .ge 57, 3) := by decide +kernel
theorem dX6_columns_10 : decode cX6_columns 10 = .ok (.iconst 0, 1) := by decide +kernel
theorem dX6_columns_11 : decode cX6_columns 11 = .ok (.istore_n 3, 1) := by decide +kernel
theorem dX6_columns_12 : decode cX6_columns 12 = .ok (.iload_n 3, 1) := by decide +kernel
theorem dX6_columns_13 : decode cX6_columns 13 = .ok (.aload_n 0, 1) := by decide +kernel
theorem dX6_columns_14 : decode cX6_columns 14 = .ok (.getfield 56, 3) := by decide +kernel
theorem dX6_columns_17 : decode cX6_columns 17 = .ok (.iconst 2, 1) := by decide +kernel
theorem dX6_columns_18 : decode cX6_columns 18 = .ok (.iadd, 1) := by decide +kernel
theorem dX6_columns_19 : decode cX6_columns 19 = .ok (.if_icmp .ge 39, 3) := by decide +kernel
theorem dX6_columns_22 : decode cX6_columns 22 = .ok (.aload_n 0, 1) := by decide +kernel
theorem dX6_columns_23 : decode cX6_columns 23 = .ok (.iload_n 2, 1) := by decide +kernel
theorem dX6_columns_24 : decode cX6_columns 24 = .ok (.iload_n 3, 1) := by decide +kernel
theorem dX6_columns_25 : decode cX6_columns 25 = .ok (.aload_n 0, 1) := by decide +kernel
theorem dX6_columns_26 : decode cX6_columns 26 = .ok (.iload_n 1, 1) := by decide +kernel
theorem dX6_columns_27 : decode cX6_columns 27 = .ok (.ifCond .eq 12, 3) := by decide +kernel
theorem dX6_columns_30 : decode cX6_columns 30 = .ok (.aload_n 0, 1) := by decide +kernel
theorem dX6_columns_31 : decode cX6_columns 31 = .ok (.getfield 23, 3) := by decide +kernel
theorem dX6_columns_34 : decode cX6_columns 34 = .ok (.iload_n 3, 1) := by decide +kernel
theorem dX6_columns_35 : decode cX6_columns 35 = .ok (.iaload, 1) := by decide +kernel
theorem dX6_columns_36 : decode cX6_columns 36 = .ok (.goto 9, 3) := by decide +kernel
theorem dX6_columns_39 : decode cX6_columns 39 = .ok (.aload_n 0, 1) := by decide +kernel
theorem dX6_columns_40 : decode cX6_columns 40 = .ok (.getfield 26, 3) := by decide +kernel
theorem dX6_columns_43 : decode cX6_columns 43 = .ok (.iload_n 3, 1) := by decide +kernel
theorem dX6_columns_44 : decode cX6_columns 44 = .ok (.iaload, 1) := by decide +kernel
theorem dX6_columns_45 : decode cX6_columns 45 = .ok (.iload_n 2, 1) := by decide +kernel
theorem dX6_columns_46 : decode cX6_columns 46 = .ok (.invokevirtual 108, 3) := by decide +kernel
theorem dX6_columns_49 : decode cX6_columns 49 = .ok (.invokevirtual 101, 3) := by decide +kernel
theorem dX6_columns_52 : decode cX6_columns 52 = .ok (.iinc 3 1, 3) := by decide +kernel
theorem dX6_columns_55 : decode cX6_columns 55 = .ok (.goto (-43), 3) := by decide +kernel
theorem dX6_columns_58 : decode cX6_columns 58 = .ok (.iinc 2 1, 3) := by decide +kernel
theorem dX6_columns_61 : decode cX6_columns 61 = .ok (.goto (-59), 3) := by decide +kernel
theorem dX6_columns_64 : decode cX6_columns 64 = .ok (.aload_n 0, 1) := by decide +kernel
theorem dX6_columns_65 : decode cX6_columns 65 = .ok (.aload_n 0, 1) := by decide +kernel
theorem dX6_columns_66 : decode cX6_columns 66 = .ok (.invokevirtual 111, 3) := by decide +kernel
theorem dX6_columns_69 : decode cX6_columns 69 = .ok (.aload_n 0, 1) := by decide +kernel
theorem dX6_columns_70 : decode cX6_columns 70 = .ok (.getfield 56, 3) := by decide +kernel
theorem dX6_columns_73 : decode cX6_columns 73 = .ok (.iconst 2, 1) := by decide +kernel
theorem dX6_columns_74 : decode cX6_columns 74 = .ok (.iadd, 1) := by decide +kernel
theorem dX6_columns_75 : decode cX6_columns 75 = .ok (.aload_n 0, 1) := by decide +kernel
theorem dX6_columns_76 : decode cX6_columns 76 = .ok (.invokevirtual 111, 3) := by decide +kernel
theorem dX6_columns_79 : decode cX6_columns 79 = .ok (.invokevirtual 115, 3) := by decide +kernel
theorem dX6_columns_82 : decode cX6_columns 82 = .ok (.pop, 1) := by decide +kernel
theorem dX6_columns_83 : decode cX6_columns 83 = .ok (.iconst 0, 1) := by decide +kernel
theorem dX6_columns_84 : decode cX6_columns 84 = .ok (.istore_n 2, 1) := by decide +kernel
theorem dX6_columns_85 : decode cX6_columns 85 = .ok (.iload_n 2, 1) := by decide +kernel
theorem dX6_columns_86 : decode cX6_columns 86 = .ok (.aload_n 0, 1) := by decide +kernel
theorem dX6_columns_87 : decode cX6_columns 87 = .ok (.invokevirtual 111, 3) := by decide +kernel
theorem dX6_columns_90 : decode cX6_columns 90 = .ok (.if_icmp .ge 110, 3) := by decide +kernel
theorem dX6_columns_93 : decode cX6_columns 93 = .ok (.aload_n 0, 1) := by decide +kernel
theorem dX6_columns_94 : decode cX6_columns 94 = .ok (.iload_n 2, 1) := by decide +kernel
theorem dX6_columns_95 : decode cX6_columns 95 = .ok (.aload_n 0, 1) := by decide +kernel
theorem dX6_columns_96 : decode cX6_columns 96 = .ok (.getfield 56, 3) := by decide +kernel
theorem dX6_columns_99 : decode cX6_columns 99 = .ok (.iconst 1, 1) := by decide +kernel
theorem dX6_columns_100 : decode cX6_columns 100 = .ok (.iadd, 1) := by decide +kernel
theorem dX6_columns_101 : decode cX6_columns 101 = .ok (.invokevirtual 94, 3) := by decide +kernel
theorem dX6_columns_104 : decode cX6_columns 104 = .ok (.lstore_n 3, 1) := by decide +kernel
theorem dX6_columns_105 : decode cX6_columns 105 = .ok (.iconst 0, 1) := by decide +kernel
theorem dX6_columns_106 : decode cX6_columns 106 = .ok (.istore 5, 2) := by decide +kernel
theorem dX6_columns_108 : decode cX6_columns 108 = .ok (.iload 5, 2) := by decide +kernel
theorem dX6_columns_110 : decode cX6_columns 110 = .ok (.aload_n 0, 1) := by decide +kernel
theorem dX6_columns_111 : decode cX6_columns 111 = .ok (.invokevirtual 111, 3) := by decide +kernel
theorem dX6_columns_114 : decode cX6_columns 114 = .ok (.if_icmp .ge 80, 3) := by decide +kernel
theorem dX6_columns_117 : decode cX6_columns 117 = .ok (.aload_n 0, 1) := by decide +kernel
theorem dX6_columns_118 : decode cX6_columns 118 = .ok (.lload_n 3, 1) := by decide +kernel
theorem dX6_columns_119 : decode cX6_columns 119 = .ok (.aload_n 0, 1) := by decide +kernel
theorem dX6_columns_120 : decode cX6_columns 120 = .ok (.iload_n 1, 1) := by decide +kernel
theorem dX6_columns_121 : decode cX6_columns 121 = .ok (.ifCond .eq 12, 3) := by decide +kernel
theorem dX6_columns_124 : decode cX6_columns 124 = .ok (.aload_n 0, 1) := by decide +kernel
theorem dX6_columns_125 : decode cX6_columns 125 = .ok (.getfield 23, 3) := by decide +kernel
theorem dX6_columns_128 : decode cX6_columns 128 = .ok (.iload_n 2, 1) := by decide +kernel
theorem dX6_columns_129 : decode cX6_columns 129 = .ok (.iaload, 1) := by decide +kernel
theorem dX6_columns_130 : decode cX6_columns 130 = .ok (.goto 9, 3) := by decide +kernel
theorem dX6_columns_133 : decode cX6_columns 133 = .ok (.aload_n 0, 1) := by decide +kernel
theorem dX6_columns_134 : decode cX6_columns 134 = .ok (.getfield 26, 3) := by decide +kernel
theorem dX6_columns_137 : decode cX6_columns 137 = .ok (.iload_n 2, 1) := by decide +kernel
theorem dX6_columns_138 : decode cX6_columns 138 = .ok (.iaload, 1) := by decide +kernel
theorem dX6_columns_139 : decode cX6_columns 139 = .ok (.iload 5, 2) := by decide +kernel
theorem dX6_columns_141 : decode cX6_columns 141 = .ok (.invokevirtual 108, 3) := by decide +kernel
theorem dX6_columns_144 : decode cX6_columns 144 = .ok (.invokevirtual 76, 3) := by decide +kernel
theorem dX6_columns_147 : decode cX6_columns 147 = .ok (.lstore 6, 2) := by decide +kernel
theorem dX6_columns_149 : decode cX6_columns 149 = .ok (.iload_n 1, 1) := by decide +kernel
theorem dX6_columns_150 : decode cX6_columns 150 = .ok (.ifCond .eq 22, 3) := by decide +kernel
theorem dX6_columns_153 : decode cX6_columns 153 = .ok (.aload_n 0, 1) := by decide +kernel
theorem dX6_columns_154 : decode cX6_columns 154 = .ok (.getfield 35, 3) := by decide +kernel
theorem dX6_columns_157 : decode cX6_columns 157 = .ok (.iload 5, 2) := by decide +kernel
theorem dX6_columns_159 : decode cX6_columns 159 = .ok (.aload_n 0, 1) := by decide +kernel
theorem dX6_columns_160 : decode cX6_columns 160 = .ok (.invokevirtual 111, 3) := by decide +kernel
theorem dX6_columns_163 : decode cX6_columns 163 = .ok (.imul, 1) := by decide +kernel
theorem dX6_columns_164 : decode cX6_columns 164 = .ok (.iload_n 2, 1) := by decide +kernel
theorem dX6_columns_165 : decode cX6_columns 165 = .ok (.iadd, 1) := by decide +kernel
theorem dX6_columns_166 : decode cX6_columns 166 = .ok (.lload 6, 2) := by decide +kernel
theorem dX6_columns_168 : decode cX6_columns 168 = .ok (.lastore, 1) := by decide +kernel
theorem dX6_columns_169 : decode cX6_columns 169 = .ok (.goto 19, 3) := by decide +kernel
theorem dX6_columns_172 : decode cX6_columns 172 = .ok (.aload_n 0, 1) := by decide +kernel
theorem dX6_columns_173 : decode cX6_columns 173 = .ok (.getfield 38, 3) := by decide +kernel
theorem dX6_columns_176 : decode cX6_columns 176 = .ok (.iload 5, 2) := by decide +kernel
theorem dX6_columns_178 : decode cX6_columns 178 = .ok (.aload_n 0, 1) := by decide +kernel
theorem dX6_columns_179 : decode cX6_columns 179 = .ok (.invokevirtual 111, 3) := by decide +kernel
theorem dX6_columns_182 : decode cX6_columns 182 = .ok (.imul, 1) := by decide +kernel
theorem dX6_columns_183 : decode cX6_columns 183 = .ok (.iload_n 2, 1) := by decide +kernel
theorem dX6_columns_184 : decode cX6_columns 184 = .ok (.iadd, 1) := by decide +kernel
theorem dX6_columns_185 : decode cX6_columns 185 = .ok (.lload 6, 2) := by decide +kernel
theorem dX6_columns_187 : decode cX6_columns 187 = .ok (.lastore, 1) := by decide +kernel
theorem dX6_columns_188 : decode cX6_columns 188 = .ok (.iinc 5 1, 3) := by decide +kernel
theorem dX6_columns_191 : decode cX6_columns 191 = .ok (.goto (-83), 3) := by decide +kernel
theorem dX6_columns_194 : decode cX6_columns 194 = .ok (.iinc 2 1, 3) := by decide +kernel
theorem dX6_columns_197 : decode cX6_columns 197 = .ok (.goto (-112), 3) := by decide +kernel
theorem dX6_columns_200 : decode cX6_columns 200 = .ok (.return_, 1) := by decide +kernel
theorem dX6_map_0 : decode cX6_map 0 = .ok (.aload_n 0, 1) := by decide +kernel
theorem dX6_map_1 : decode cX6_map 1 = .ok (.getfield 70, 3) := by decide +kernel
theorem dX6_map_4 : decode cX6_map 4 = .ok (.aload_n 0, 1) := by decide +kernel
theorem dX6_map_5 : decode cX6_map 5 = .ok (.getfield 56, 3) := by decide +kernel
theorem dX6_map_8 : decode cX6_map 8 = .ok (.iconst 2, 1) := by decide +kernel
theorem dX6_map_9 : decode cX6_map 9 = .ok (.iadd, 1) := by decide +kernel
theorem dX6_map_10 : decode cX6_map 10 = .ok (.if_icmp .ne 19, 3) := by decide +kernel
theorem dX6_map_13 : decode cX6_map 13 = .ok (.aload_n 0, 1) := by decide +kernel
theorem dX6_map_14 : decode cX6_map 14 = .ok (.iconst 1, 1) := by decide +kernel
theorem dX6_map_15 : decode cX6_map 15 = .ok (.invokevirtual 229, 3) := by decide +kernel
theorem dX6_map_18 : decode cX6_map 18 = .ok (.ifCond .eq 11, 3) := by decide +kernel
theorem dX6_map_21 : decode cX6_map 21 = .ok (.aload_n 0, 1) := by decide +kernel
theorem dX6_map_22 : decode cX6_map 22 = .ok (.iconst 0, 1) := by decide +kernel
theorem dX6_map_23 : decode cX6_map 23 = .ok (.invokevirtual 229, 3) := by decide +kernel
theorem dX6_map_26 : decode cX6_map 26 = .ok (.ifCond .ne 5, 3) := by decide +kernel
theorem dX6_map_29 : decode cX6_map 29 = .ok (.iconst (-1), 1) := by decide +kernel
theorem dX6_map_30 : decode cX6_map 30 = .ok (.ireturn, 1) := by decide +kernel
theorem dX6_map_31 : decode cX6_map 31 = .ok (.aload_n 0, 1) := by decide +kernel
theorem dX6_map_32 : decode cX6_map 32 = .ok (.iconst 1, 1) := by decide +kernel
theorem dX6_map_33 : decode cX6_map 33 = .ok (.invokevirtual 233, 3) := by decide +kernel
theorem dX6_map_36 : decode cX6_map 36 = .ok (.aload_n 0, 1) := by decide +kernel
theorem dX6_map_37 : decode cX6_map 37 = .ok (.iconst 0, 1) := by decide +kernel
theorem dX6_map_38 : decode cX6_map 38 = .ok (.invokevirtual 233, 3) := by decide +kernel
theorem dX6_map_41 : decode cX6_map 41 = .ok (.iconst 0, 1) := by decide +kernel
theorem dX6_map_42 : decode cX6_map 42 = .ok (.istore_n 1, 1) := by decide +kernel
theorem dX6_map_43 : decode cX6_map 43 = .ok (.iload_n 1, 1) := by decide +kernel
theorem dX6_map_44 : decode cX6_map 44 = .ok (.aload_n 0, 1) := by decide +kernel
theorem dX6_map_45 : decode cX6_map 45 = .ok (.invokevirtual 111, 3) := by decide +kernel
theorem dX6_map_48 : decode cX6_map 48 = .ok (.if_icmp .ge 65, 3) := by decide +kernel
theorem dX6_map_51 : decode cX6_map 51 = .ok (.iconst 0, 1) := by decide +kernel
theorem dX6_map_52 : decode cX6_map 52 = .ok (.istore_n 2, 1) := by decide +kernel
theorem dX6_map_53 : decode cX6_map 53 = .ok (.iload_n 2, 1) := by decide +kernel
theorem dX6_map_54 : decode cX6_map 54 = .ok (.aload_n 0, 1) := by decide +kernel
theorem dX6_map_55 : decode cX6_map 55 = .ok (.invokevirtual 111, 3) := by decide +kernel
theorem dX6_map_58 : decode cX6_map 58 = .ok (.if_icmp .ge 49, 3) := by decide +kernel
theorem dX6_map_61 : decode cX6_map 61 = .ok (.aload_n 0, 1) := by decide +kernel
theorem dX6_map_62 : decode cX6_map 62 = .ok (.iload_n 1, 1) := by decide +kernel
theorem dX6_map_63 : decode cX6_map 63 = .ok (.iload_n 2, 1) := by decide +kernel
theorem dX6_map_64 : decode cX6_map 64 = .ok (.aload_n 0, 1) := by decide +kernel
theorem dX6_map_65 : decode cX6_map 65 = .ok (.getfield 35, 3) := by decide +kernel
theorem dX6_map_68 : decode cX6_map 68 = .ok (.iload_n 1, 1) := by decide +kernel
theorem dX6_map_69 : decode cX6_map 69 = .ok (.aload_n 0, 1) := by decide +kernel
theorem dX6_map_70 : decode cX6_map 70 = .ok (.invokevirtual 111, 3) := by decide +kernel
theorem dX6_map_73 : decode cX6_map 73 = .ok (.imul, 1) := by decide +kernel
theorem dX6_map_74 : decode cX6_map 74 = .ok (.iload_n 2, 1) := by decide +kernel
theorem dX6_map_75 : decode cX6_map 75 = .ok (.iadd, 1) := by decide +kernel
theorem dX6_map_76 : decode cX6_map 76 = .ok (.laload, 1) := by decide +kernel
theorem dX6_map_77 : decode cX6_map 77 = .ok (.invokevirtual 101, 3) := by decide +kernel
theorem dX6_map_80 : decode cX6_map 80 = .ok (.aload_n 0, 1) := by decide +kernel
theorem dX6_map_81 : decode cX6_map 81 = .ok (.iload_n 1, 1) := by decide +kernel
theorem dX6_map_82 : decode cX6_map 82 = .ok (.aload_n 0, 1) := by decide +kernel
theorem dX6_map_83 : decode cX6_map 83 = .ok (.invokevirtual 111, 3) := by decide +kernel
theorem dX6_map_86 : decode cX6_map 86 = .ok (.iload_n 2, 1) := by decide +kernel
theorem dX6_map_87 : decode cX6_map 87 = .ok (.iadd, 1) := by decide +kernel
theorem dX6_map_88 : decode cX6_map 88 = .ok (.iload_n 1, 1) := by decide +kernel
theorem dX6_map_89 : decode cX6_map 89 = .ok (.iload_n 2, 1) := by decide +kernel
theorem dX6_map_90 : decode cX6_map 90 = .ok (.if_icmp .ne 7, 3) := by decide +kernel
theorem dX6_map_93 : decode cX6_map 93 = .ok (.lconst 1, 1) := by decide +kernel
theorem dX6_map_94 : decode cX6_map 94 = .ok (.goto 4, 3) := by decide +kernel
theorem dX6_map_97 : decode cX6_map 97 = .ok (.lconst 0, 1) := by decide +kernel
theorem dX6_map_98 : decode cX6_map 98 = .ok (.invokevirtual 101, 3) := by decide +kernel
theorem dX6_map_101 : decode cX6_map 101 = .ok (.iinc 2 1, 3) := by decide +kernel
theorem dX6_map_104 : decode cX6_map 104 = .ok (.goto (-51), 3) := by decide +kernel
theorem dX6_map_107 : decode cX6_map 107 = .ok (.iinc 1 1, 3) := by decide +kernel
theorem dX6_map_110 : decode cX6_map 110 = .ok (.goto (-67), 3) := by decide +kernel
theorem dX6_map_113 : decode cX6_map 113 = .ok (.aload_n 0, 1) := by decide +kernel
theorem dX6_map_114 : decode cX6_map 114 = .ok (.aload_n 0, 1) := by decide +kernel
theorem dX6_map_115 : decode cX6_map 115 = .ok (.invokevirtual 111, 3) := by decide +kernel
theorem dX6_map_118 : decode cX6_map 118 = .ok (.iconst 2, 1) := by decide +kernel
theorem dX6_map_119 : decode cX6_map 119 = .ok (.aload_n 0, 1) := by decide +kernel
theorem dX6_map_120 : decode cX6_map 120 = .ok (.invokevirtual 111, 3) := by decide +kernel
theorem dX6_map_123 : decode cX6_map 123 = .ok (.imul, 1) := by decide +kernel
theorem dX6_map_124 : decode cX6_map 124 = .ok (.aload_n 0, 1) := by decide +kernel
theorem dX6_map_125 : decode cX6_map 125 = .ok (.invokevirtual 111, 3) := by decide +kernel
theorem dX6_map_128 : decode cX6_map 128 = .ok (.invokevirtual 115, 3) := by decide +kernel
theorem dX6_map_131 : decode cX6_map 131 = .ok (.pop, 1) := by decide +kernel
theorem dX6_map_132 : decode cX6_map 132 = .ok (.aload_n 0, 1) := by decide +kernel
theorem dX6_map_133 : decode cX6_map 133 = .ok (.invokevirtual 136, 3) := by decide +kernel
theorem dX6_map_136 : decode cX6_map 136 = .ok (.iconst 0, 1) := by decide +kernel
theorem dX6_map_137 : decode cX6_map 137 = .ok (.istore_n 1, 1) := by decide +kernel
theorem dX6_map_138 : decode cX6_map 138 = .ok (.iload_n 1, 1) := by decide +kernel
theorem dX6_map_139 : decode cX6_map 139 = .ok (.aload_n 0, 1) := by decide +kernel
theorem dX6_map_140 : decode cX6_map 140 = .ok (.invokevirtual 111, 3) := by decide +kernel
theorem dX6_map_143 : decode cX6_map 143 = .ok (.if_icmp .ge 101, 3) := by decide +kernel
theorem dX6_map_146 : decode cX6_map 146 = .ok (.iconst 0, 1) := by decide +kernel
theorem dX6_map_147 : decode cX6_map 147 = .ok (.istore_n 2, 1) := by decide +kernel
theorem dX6_map_148 : decode cX6_map 148 = .ok (.iload_n 2, 1) := by decide +kernel
theorem dX6_map_149 : decode cX6_map 149 = .ok (.aload_n 0, 1) := by decide +kernel
theorem dX6_map_150 : decode cX6_map 150 = .ok (.invokevirtual 111, 3) := by decide +kernel
theorem dX6_map_153 : decode cX6_map 153 = .ok (.if_icmp .ge 85, 3) := by decide +kernel
theorem dX6_map_156 : decode cX6_map 156 = .ok (.iconst 0, 1) := by decide +kernel
theorem dX6_map_157 : decode cX6_map 157 = .ok (.istore_n 3, 1) := by decide +kernel
theorem dX6_map_158 : decode cX6_map 158 = .ok (.iload_n 3, 1) := by decide +kernel
theorem dX6_map_159 : decode cX6_map 159 = .ok (.aload_n 0, 1) := by decide +kernel
theorem dX6_map_160 : decode cX6_map 160 = .ok (.invokevirtual 111, 3) := by decide +kernel
theorem dX6_map_163 : decode cX6_map 163 = .ok (.if_icmp .ge 69, 3) := by decide +kernel
theorem dX6_map_166 : decode cX6_map 166 = .ok (.aload_n 0, 1) := by decide +kernel
theorem dX6_map_167 : decode cX6_map 167 = .ok (.getfield 29, 3) := by decide +kernel
theorem dX6_map_170 : decode cX6_map 170 = .ok (.iload_n 1, 1) := by decide +kernel
theorem dX6_map_171 : decode cX6_map 171 = .ok (.aload_n 0, 1) := by decide +kernel
theorem dX6_map_172 : decode cX6_map 172 = .ok (.invokevirtual 111, 3) := by decide +kernel
theorem dX6_map_175 : decode cX6_map 175 = .ok (.imul, 1) := by decide +kernel
theorem dX6_map_176 : decode cX6_map 176 = .ok (.iload_n 2, 1) := by decide +kernel
theorem dX6_map_177 : decode cX6_map 177 = .ok (.iadd, 1) := by decide +kernel
theorem dX6_map_178 : decode cX6_map 178 = .ok (.aload_n 0, 1) := by decide +kernel
theorem dX6_map_179 : decode cX6_map 179 = .ok (.getfield 29, 3) := by decide +kernel
theorem dX6_map_182 : decode cX6_map 182 = .ok (.iload_n 1, 1) := by decide +kernel
theorem dX6_map_183 : decode cX6_map 183 = .ok (.aload_n 0, 1) := by decide +kernel
theorem dX6_map_184 : decode cX6_map 184 = .ok (.invokevirtual 111, 3) := by decide +kernel
theorem dX6_map_187 : decode cX6_map 187 = .ok (.imul, 1) := by decide +kernel
theorem dX6_map_188 : decode cX6_map 188 = .ok (.iload_n 2, 1) := by decide +kernel
theorem dX6_map_189 : decode cX6_map 189 = .ok (.iadd, 1) := by decide +kernel
theorem dX6_map_190 : decode cX6_map 190 = .ok (.laload, 1) := by decide +kernel
theorem dX6_map_191 : decode cX6_map 191 = .ok (.aload_n 0, 1) := by decide +kernel
theorem dX6_map_192 : decode cX6_map 192 = .ok (.aload_n 0, 1) := by decide +kernel
theorem dX6_map_193 : decode cX6_map 193 = .ok (.getfield 38, 3) := by decide +kernel
theorem dX6_map_196 : decode cX6_map 196 = .ok (.iload_n 1, 1) := by decide +kernel
theorem dX6_map_197 : decode cX6_map 197 = .ok (.aload_n 0, 1) := by decide +kernel
theorem dX6_map_198 : decode cX6_map 198 = .ok (.invokevirtual 111, 3) := by decide +kernel
theorem dX6_map_201 : decode cX6_map 201 = .ok (.imul, 1) := by decide +kernel
theorem dX6_map_202 : decode cX6_map 202 = .ok (.iload_n 3, 1) := by decide +kernel
theorem dX6_map_203 : decode cX6_map 203 = .ok (.iadd, 1) := by decide +kernel
theorem dX6_map_204 : decode cX6_map 204 = .ok (.laload, 1) := by decide +kernel
theorem dX6_map_205 : decode cX6_map 205 = .ok (.aload_n 0, 1) := by decide +kernel
theorem dX6_map_206 : decode cX6_map 206 = .ok (.iload_n 3, 1) := by decide +kernel
theorem dX6_map_207 : decode cX6_map 207 = .ok (.aload_n 0, 1) := by decide +kernel
theorem dX6_map_208 : decode cX6_map 208 = .ok (.invokevirtual 111, 3) := by decide +kernel
theorem dX6_map_211 : decode cX6_map 211 = .ok (.iload_n 2, 1) := by decide +kernel
theorem dX6_map_212 : decode cX6_map 212 = .ok (.iadd, 1) := by decide +kernel
theorem dX6_map_213 : decode cX6_map 213 = .ok (.invokevirtual 94, 3) := by decide +kernel
theorem dX6_map_216 : decode cX6_map 216 = .ok (.invokevirtual 76, 3) := by decide +kernel
theorem dX6_map_219 : decode cX6_map 219 = .ok (.ladd, 1) := by decide +kernel
theorem dX6_map_220 : decode cX6_map 220 = .ok (.aload_n 0, 1) := by decide +kernel
theorem dX6_map_221 : decode cX6_map 221 = .ok (.getfield 60, 3) := by decide +kernel
theorem dX6_map_224 : decode cX6_map 224 = .ok (.lrem, 1) := by decide +kernel
theorem dX6_map_225 : decode cX6_map 225 = .ok (.lastore, 1) := by decide +kernel
theorem dX6_map_226 : decode cX6_map 226 = .ok (.iinc 3 1, 3) := by decide +kernel
theorem dX6_map_229 : decode cX6_map 229 = .ok (.goto (-71), 3) := by decide +kernel
theorem dX6_map_232 : decode cX6_map 232 = .ok (.iinc 2 1, 3) := by decide +kernel
theorem dX6_map_235 : decode cX6_map 235 = .ok (.goto (-87), 3) := by decide +kernel
theorem dX6_map_238 : decode cX6_map 238 = .ok (.iinc 1 1, 3) := by decide +kernel
theorem dX6_map_241 : decode cX6_map 241 = .ok (.goto (-103), 3) := by decide +kernel
theorem dX6_map_244 : decode cX6_map 244 = .ok (.aload_n 0, 1) := by decide +kernel
theorem dX6_map_245 : decode cX6_map 245 = .ok (.iconst 3, 1) := by decide +kernel
theorem dX6_map_246 : decode cX6_map 246 = .ok (.invokevirtual 133, 3) := by decide +kernel
theorem dX6_map_249 : decode cX6_map 249 = .ok (.istore_n 1, 1) := by decide +kernel
theorem dX6_map_250 : decode cX6_map 250 = .ok (.aload_n 0, 1) := by decide +kernel
theorem dX6_map_251 : decode cX6_map 251 = .ok (.iload_n 1, 1) := by decide +kernel
theorem dX6_map_252 : decode cX6_map 252 = .ok (.ifCond .ge 10, 3) := by decide +kernel
theorem dX6_map_255 : decode cX6_map 255 = .ok (.aload_n 0, 1) := by decide +kernel
theorem dX6_map_256 : decode cX6_map 256 = .ok (.getfield 70, 3) := by decide +kernel
theorem dX6_map_259 : decode cX6_map 259 = .ok (.goto 4, 3) := by decide +kernel
theorem dX6_map_262 : decode cX6_map 262 = .ok (.iconst 0, 1) := by decide +kernel
theorem dX6_map_263 : decode cX6_map 263 = .ok (.putfield 70, 3) := by decide +kernel
theorem dX6_map_266 : decode cX6_map 266 = .ok (.iload_n 1, 1) := by decide +kernel
theorem dX6_map_267 : decode cX6_map 267 = .ok (.ireturn, 1) := by decide +kernel
theorem dX6_product_0 : decode cX6_product 0 = .ok (.aload_n 0, 1) := by decide +kernel
theorem dX6_product_1 : decode cX6_product 1 = .ok (.invokevirtual 136, 3) := by decide +kernel
theorem dX6_product_4 : decode cX6_product 4 = .ok (.iconst 0, 1) := by decide +kernel
theorem dX6_product_5 : decode cX6_product 5 = .ok (.istore_n 3, 1) := by decide +kernel
theorem dX6_product_6 : decode cX6_product 6 = .ok (.iload_n 3, 1) := by decide +kernel
theorem dX6_product_7 : decode cX6_product 7 = .ok (.aload_n 0, 1) := by decide +kernel
theorem dX6_product_8 : decode cX6_product 8 = .ok (.invokevirtual 111, 3) := by decide +kernel
theorem dX6_product_11 : decode cX6_product 11 = .ok (.if_icmp .ge 112, 3) := by decide +kernel
theorem dX6_product_14 : decode cX6_product 14 = .ok (.iconst 0, 1) := by decide +kernel
theorem dX6_product_15 : decode cX6_product 15 = .ok (.istore 4, 2) := by decide +kernel
theorem dX6_product_17 : decode cX6_product 17 = .ok (.iload 4, 2) := by decide +kernel
theorem dX6_product_19 : decode cX6_product 19 = .ok (.aload_n 0, 1) := by decide +kernel
theorem dX6_product_20 : decode cX6_product 20 = .ok (.invokevirtual 111, 3) := by decide +kernel
theorem dX6_product_23 : decode cX6_product 23 = .ok (.if_icmp .ge 94, 3) := by decide +kernel
theorem dX6_product_26 : decode cX6_product 26 = .ok (.iconst 0, 1) := by decide +kernel
theorem dX6_product_27 : decode cX6_product 27 = .ok (.istore 5, 2) := by decide +kernel
theorem dX6_product_29 : decode cX6_product 29 = .ok (.iload 5, 2) := by decide +kernel
theorem dX6_product_31 : decode cX6_product 31 = .ok (.aload_n 0, 1) := by decide +kernel
theorem dX6_product_32 : decode cX6_product 32 = .ok (.invokevirtual 111, 3) := by decide +kernel
theorem dX6_product_35 : decode cX6_product 35 = .ok (.if_icmp .ge 76, 3) := by decide +kernel
theorem dX6_product_38 : decode cX6_product 38 = .ok (.aload_n 0, 1) := by decide +kernel
theorem dX6_product_39 : decode cX6_product 39 = .ok (.getfield 29, 3) := by decide +kernel
theorem dX6_product_42 : decode cX6_product 42 = .ok (.iload_n 3, 1) := by decide +kernel
theorem dX6_product_43 : decode cX6_product 43 = .ok (.aload_n 0, 1) := by decide +kernel
theorem dX6_product_44 : decode cX6_product 44 = .ok (.invokevirtual 111, 3) := by decide +kernel
theorem dX6_product_47 : decode cX6_product 47 = .ok (.imul, 1) := by decide +kernel
theorem dX6_product_48 : decode cX6_product 48 = .ok (.iload 4, 2) := by decide +kernel
theorem dX6_product_50 : decode cX6_product 50 = .ok (.iadd, 1) := by decide +kernel
theorem dX6_product_51 : decode cX6_product 51 = .ok (.aload_n 0, 1) := by decide +kernel
theorem dX6_product_52 : decode cX6_product 52 = .ok (.getfield 29, 3) := by decide +kernel
theorem dX6_product_55 : decode cX6_product 55 = .ok (.iload_n 3, 1) := by decide +kernel
theorem dX6_product_56 : decode cX6_product 56 = .ok (.aload_n 0, 1) := by decide +kernel
theorem dX6_product_57 : decode cX6_product 57 = .ok (.invokevirtual 111, 3) := by decide +kernel
theorem dX6_product_60 : decode cX6_product 60 = .ok (.imul, 1) := by decide +kernel
theorem dX6_product_61 : decode cX6_product 61 = .ok (.iload 4, 2) := by decide +kernel
theorem dX6_product_63 : decode cX6_product 63 = .ok (.iadd, 1) := by decide +kernel
theorem dX6_product_64 : decode cX6_product 64 = .ok (.laload, 1) := by decide +kernel
theorem dX6_product_65 : decode cX6_product 65 = .ok (.aload_n 0, 1) := by decide +kernel
theorem dX6_product_66 : decode cX6_product 66 = .ok (.aload_n 0, 1) := by decide +kernel
theorem dX6_product_67 : decode cX6_product 67 = .ok (.iload_n 1, 1) := by decide +kernel
theorem dX6_product_68 : decode cX6_product 68 = .ok (.iload_n 3, 1) := by decide +kernel
theorem dX6_product_69 : decode cX6_product 69 = .ok (.aload_n 0, 1) := by decide +kernel
theorem dX6_product_70 : decode cX6_product 70 = .ok (.invokevirtual 111, 3) := by decide +kernel
theorem dX6_product_73 : decode cX6_product 73 = .ok (.imul, 1) := by decide +kernel
theorem dX6_product_74 : decode cX6_product 74 = .ok (.iload 5, 2) := by decide +kernel
theorem dX6_product_76 : decode cX6_product 76 = .ok (.iadd, 1) := by decide +kernel
theorem dX6_product_77 : decode cX6_product 77 = .ok (.invokevirtual 108, 3) := by decide +kernel
theorem dX6_product_80 : decode cX6_product 80 = .ok (.aload_n 0, 1) := by decide +kernel
theorem dX6_product_81 : decode cX6_product 81 = .ok (.iload_n 2, 1) := by decide +kernel
theorem dX6_product_82 : decode cX6_product 82 = .ok (.iload 5, 2) := by decide +kernel
theorem dX6_product_84 : decode cX6_product 84 = .ok (.aload_n 0, 1) := by decide +kernel
theorem dX6_product_85 : decode cX6_product 85 = .ok (.invokevirtual 111, 3) := by decide +kernel
theorem dX6_product_88 : decode cX6_product 88 = .ok (.imul, 1) := by decide +kernel
theorem dX6_product_89 : decode cX6_product 89 = .ok (.iload 4, 2) := by decide +kernel
theorem dX6_product_91 : decode cX6_product 91 = .ok (.iadd, 1) := by decide +kernel
theorem dX6_product_92 : decode cX6_product 92 = .ok (.invokevirtual 108, 3) := by decide +kernel
theorem dX6_product_95 : decode cX6_product 95 = .ok (.invokevirtual 76, 3) := by decide +kernel
theorem dX6_product_98 : decode cX6_product 98 = .ok (.ladd, 1) := by decide +kernel
theorem dX6_product_99 : decode cX6_product 99 = .ok (.aload_n 0, 1) := by decide +kernel
theorem dX6_product_100 : decode cX6_product 100 = .ok (.getfield 60, 3) := by decide +kernel
theorem dX6_product_103 : decode cX6_product 103 = .ok (.lrem, 1) := by decide +kernel
theorem dX6_product_104 : decode cX6_product 104 = .ok (.lastore, 1) := by decide +kernel
theorem dX6_product_105 : decode cX6_product 105 = .ok (.iinc 5 1, 3) := by decide +kernel
theorem dX6_product_108 : decode cX6_product 108 = .ok (.goto (-79), 3) := by decide +kernel
theorem dX6_product_111 : decode cX6_product 111 = .ok (.iinc 4 1, 3) := by decide +kernel
theorem dX6_product_114 : decode cX6_product 114 = .ok (.goto (-97), 3) := by decide +kernel
theorem dX6_product_117 : decode cX6_product 117 = .ok (.iinc 3 1, 3) := by decide +kernel
theorem dX6_product_120 : decode cX6_product 120 = .ok (.goto (-114), 3) := by decide +kernel
theorem dX6_product_123 : decode cX6_product 123 = .ok (.return_, 1) := by decide +kernel
theorem dX6_compose_0 : decode cX6_compose 0 = .ok (.aload_n 0, 1) := by decide +kernel
theorem dX6_compose_1 : decode cX6_compose 1 = .ok (.iload_n 1, 1) := by decide +kernel
theorem dX6_compose_2 : decode cX6_compose 2 = .ok (.iconst 3, 1) := by decide +kernel
theorem dX6_compose_3 : decode cX6_compose 3 = .ok (.invokevirtual 146, 3) := by decide +kernel
theorem dX6_compose_6 : decode cX6_compose 6 = .ok (.ifCond .eq 12, 3) := by decide +kernel
theorem dX6_compose_9 : decode cX6_compose 9 = .ok (.aload_n 0, 1) := by decide +kernel
theorem dX6_compose_10 : decode cX6_compose 10 = .ok (.iload_n 2, 1) := by decide +kernel
theorem dX6_compose_11 : decode cX6_compose 11 = .ok (.iconst 3, 1) := by decide +kernel
theorem dX6_compose_12 : decode cX6_compose 12 = .ok (.invokevirtual 146, 3) := by decide +kernel
theorem dX6_compose_15 : decode cX6_compose 15 = .ok (.ifCond .ne 6, 3) := by decide +kernel
theorem dX6_compose_18 : decode cX6_compose 18 = .ok (.bipush (-2), 2) := by decide +kernel
theorem dX6_compose_20 : decode cX6_compose 20 = .ok (.ireturn, 1) := by decide +kernel
theorem dX6_compose_21 : decode cX6_compose 21 = .ok (.aload_n 0, 1) := by decide +kernel
theorem dX6_compose_22 : decode cX6_compose 22 = .ok (.iload_n 1, 1) := by decide +kernel
theorem dX6_compose_23 : decode cX6_compose 23 = .ok (.iload_n 2, 1) := by decide +kernel
theorem dX6_compose_24 : decode cX6_compose 24 = .ok (.invokevirtual 237, 3) := by decide +kernel
theorem dX6_compose_27 : decode cX6_compose 27 = .ok (.aload_n 0, 1) := by decide +kernel
theorem dX6_compose_28 : decode cX6_compose 28 = .ok (.iconst 3, 1) := by decide +kernel
theorem dX6_compose_29 : decode cX6_compose 29 = .ok (.invokevirtual 133, 3) := by decide +kernel
theorem dX6_compose_32 : decode cX6_compose 32 = .ok (.ireturn, 1) := by decide +kernel
theorem dX6_inverse_0 : decode cX6_inverse 0 = .ok (.aload_n 0, 1) := by decide +kernel
theorem dX6_inverse_1 : decode cX6_inverse 1 = .ok (.iload_n 1, 1) := by decide +kernel
theorem dX6_inverse_2 : decode cX6_inverse 2 = .ok (.iconst 3, 1) := by decide +kernel
theorem dX6_inverse_3 : decode cX6_inverse 3 = .ok (.invokevirtual 146, 3) := by decide +kernel
theorem dX6_inverse_6 : decode cX6_inverse 6 = .ok (.ifCond .ne 6, 3) := by decide +kernel
theorem dX6_inverse_9 : decode cX6_inverse 9 = .ok (.bipush (-2), 2) := by decide +kernel
theorem dX6_inverse_11 : decode cX6_inverse 11 = .ok (.ireturn, 1) := by decide +kernel
theorem dX6_inverse_12 : decode cX6_inverse 12 = .ok (.aload_n 0, 1) := by decide +kernel
theorem dX6_inverse_13 : decode cX6_inverse 13 = .ok (.iload_n 1, 1) := by decide +kernel
theorem dX6_inverse_14 : decode cX6_inverse 14 = .ok (.invokevirtual 240, 3) := by decide +kernel
theorem dX6_inverse_17 : decode cX6_inverse 17 = .ok (.pop, 1) := by decide +kernel
theorem dX6_inverse_18 : decode cX6_inverse 18 = .ok (.aload_n 0, 1) := by decide +kernel
theorem dX6_inverse_19 : decode cX6_inverse 19 = .ok (.invokevirtual 136, 3) := by decide +kernel
theorem dX6_inverse_22 : decode cX6_inverse 22 = .ok (.iconst 0, 1) := by decide +kernel
theorem dX6_inverse_23 : decode cX6_inverse 23 = .ok (.istore_n 2, 1) := by decide +kernel
theorem dX6_inverse_24 : decode cX6_inverse 24 = .ok (.iload_n 2, 1) := by decide +kernel
theorem dX6_inverse_25 : decode cX6_inverse 25 = .ok (.aload_n 0, 1) := by decide +kernel
theorem dX6_inverse_26 : decode cX6_inverse 26 = .ok (.invokevirtual 111, 3) := by decide +kernel
theorem dX6_inverse_29 : decode cX6_inverse 29 = .ok (.aload_n 0, 1) := by decide +kernel
theorem dX6_inverse_30 : decode cX6_inverse 30 = .ok (.invokevirtual 111, 3) := by decide +kernel
theorem dX6_inverse_33 : decode cX6_inverse 33 = .ok (.imul, 1) := by decide +kernel
theorem dX6_inverse_34 : decode cX6_inverse 34 = .ok (.if_icmp .ge 21, 3) := by decide +kernel
theorem dX6_inverse_37 : decode cX6_inverse 37 = .ok (.aload_n 0, 1) := by decide +kernel
theorem dX6_inverse_38 : decode cX6_inverse 38 = .ok (.getfield 29, 3) := by decide +kernel
theorem dX6_inverse_41 : decode cX6_inverse 41 = .ok (.iload_n 2, 1) := by decide +kernel
theorem dX6_inverse_42 : decode cX6_inverse 42 = .ok (.aload_n 0, 1) := by decide +kernel
theorem dX6_inverse_43 : decode cX6_inverse 43 = .ok (.getfield 41, 3) := by decide +kernel
theorem dX6_inverse_46 : decode cX6_inverse 46 = .ok (.iload_n 2, 1) := by decide +kernel
theorem dX6_inverse_47 : decode cX6_inverse 47 = .ok (.laload, 1) := by decide +kernel
theorem dX6_inverse_48 : decode cX6_inverse 48 = .ok (.lastore, 1) := by decide +kernel
theorem dX6_inverse_49 : decode cX6_inverse 49 = .ok (.iinc 2 1, 3) := by decide +kernel
theorem dX6_inverse_52 : decode cX6_inverse 52 = .ok (.goto (-28), 3) := by decide +kernel
theorem dX6_inverse_55 : decode cX6_inverse 55 = .ok (.aload_n 0, 1) := by decide +kernel
theorem dX6_inverse_56 : decode cX6_inverse 56 = .ok (.iconst 3, 1) := by decide +kernel
theorem dX6_inverse_57 : decode cX6_inverse 57 = .ok (.invokevirtual 133, 3) := by decide +kernel
theorem dX6_inverse_60 : decode cX6_inverse 60 = .ok (.ireturn, 1) := by decide +kernel
theorem dX6_mapped_0 : decode cX6_mapped 0 = .ok (.iconst 0, 1) := by decide +kernel
theorem dX6_mapped_1 : decode cX6_mapped 1 = .ok (.istore_n 3, 1) := by decide +kernel
theorem dX6_mapped_2 : decode cX6_mapped 2 = .ok (.iload_n 3, 1) := by decide +kernel
theorem dX6_mapped_3 : decode cX6_mapped 3 = .ok (.aload_n 0, 1) := by decide +kernel
theorem dX6_mapped_4 : decode cX6_mapped 4 = .ok (.invokevirtual 111, 3) := by decide +kernel
theorem dX6_mapped_7 : decode cX6_mapped 7 = .ok (.if_icmp .ge 91, 3) := by decide +kernel
theorem dX6_mapped_10 : decode cX6_mapped 10 = .ok (.aload_n 0, 1) := by decide +kernel
theorem dX6_mapped_11 : decode cX6_mapped 11 = .ok (.getfield 29, 3) := by decide +kernel
theorem dX6_mapped_14 : decode cX6_mapped 14 = .ok (.iload_n 3, 1) := by decide +kernel
theorem dX6_mapped_15 : decode cX6_mapped 15 = .ok (.lconst 0, 1) := by decide +kernel
theorem dX6_mapped_16 : decode cX6_mapped 16 = .ok (.lastore, 1) := by decide +kernel
theorem dX6_mapped_17 : decode cX6_mapped 17 = .ok (.iconst 0, 1) := by decide +kernel
theorem dX6_mapped_18 : decode cX6_mapped 18 = .ok (.istore 4, 2) := by decide +kernel
theorem dX6_mapped_20 : decode cX6_mapped 20 = .ok (.iload 4, 2) := by decide +kernel
theorem dX6_mapped_22 : decode cX6_mapped 22 = .ok (.aload_n 0, 1) := by decide +kernel
theorem dX6_mapped_23 : decode cX6_mapped 23 = .ok (.invokevirtual 111, 3) := by decide +kernel
theorem dX6_mapped_26 : decode cX6_mapped 26 = .ok (.if_icmp .ge 66, 3) := by decide +kernel
theorem dX6_mapped_29 : decode cX6_mapped 29 = .ok (.aload_n 0, 1) := by decide +kernel
theorem dX6_mapped_30 : decode cX6_mapped 30 = .ok (.getfield 29, 3) := by decide +kernel
theorem dX6_mapped_33 : decode cX6_mapped 33 = .ok (.iload_n 3, 1) := by decide +kernel
theorem dX6_mapped_34 : decode cX6_mapped 34 = .ok (.aload_n 0, 1) := by decide +kernel
theorem dX6_mapped_35 : decode cX6_mapped 35 = .ok (.getfield 29, 3) := by decide +kernel
theorem dX6_mapped_38 : decode cX6_mapped 38 = .ok (.iload_n 3, 1) := by decide +kernel
theorem dX6_mapped_39 : decode cX6_mapped 39 = .ok (.laload, 1) := by decide +kernel
theorem dX6_mapped_40 : decode cX6_mapped 40 = .ok (.aload_n 0, 1) := by decide +kernel
theorem dX6_mapped_41 : decode cX6_mapped 41 = .ok (.aload_n 0, 1) := by decide +kernel
theorem dX6_mapped_42 : decode cX6_mapped 42 = .ok (.iload_n 1, 1) := by decide +kernel
theorem dX6_mapped_43 : decode cX6_mapped 43 = .ok (.iload_n 3, 1) := by decide +kernel
theorem dX6_mapped_44 : decode cX6_mapped 44 = .ok (.aload_n 0, 1) := by decide +kernel
theorem dX6_mapped_45 : decode cX6_mapped 45 = .ok (.invokevirtual 111, 3) := by decide +kernel
theorem dX6_mapped_48 : decode cX6_mapped 48 = .ok (.imul, 1) := by decide +kernel
theorem dX6_mapped_49 : decode cX6_mapped 49 = .ok (.iload 4, 2) := by decide +kernel
theorem dX6_mapped_51 : decode cX6_mapped 51 = .ok (.iadd, 1) := by decide +kernel
theorem dX6_mapped_52 : decode cX6_mapped 52 = .ok (.invokevirtual 108, 3) := by decide +kernel
theorem dX6_mapped_55 : decode cX6_mapped 55 = .ok (.iload_n 2, 1) := by decide +kernel
theorem dX6_mapped_56 : decode cX6_mapped 56 = .ok (.ifCond .eq 13, 3) := by decide +kernel
theorem dX6_mapped_59 : decode cX6_mapped 59 = .ok (.aload_n 0, 1) := by decide +kernel
theorem dX6_mapped_60 : decode cX6_mapped 60 = .ok (.getfield 35, 3) := by decide +kernel
theorem dX6_mapped_63 : decode cX6_mapped 63 = .ok (.iload 4, 2) := by decide +kernel
theorem dX6_mapped_65 : decode cX6_mapped 65 = .ok (.laload, 1) := by decide +kernel
theorem dX6_mapped_66 : decode cX6_mapped 66 = .ok (.goto 10, 3) := by decide +kernel
theorem dX6_mapped_69 : decode cX6_mapped 69 = .ok (.aload_n 0, 1) := by decide +kernel
theorem dX6_mapped_70 : decode cX6_mapped 70 = .ok (.getfield 38, 3) := by decide +kernel
theorem dX6_mapped_73 : decode cX6_mapped 73 = .ok (.iload 4, 2) := by decide +kernel
theorem dX6_mapped_75 : decode cX6_mapped 75 = .ok (.laload, 1) := by decide +kernel
theorem dX6_mapped_76 : decode cX6_mapped 76 = .ok (.invokevirtual 76, 3) := by decide +kernel
theorem dX6_mapped_79 : decode cX6_mapped 79 = .ok (.ladd, 1) := by decide +kernel
theorem dX6_mapped_80 : decode cX6_mapped 80 = .ok (.aload_n 0, 1) := by decide +kernel
theorem dX6_mapped_81 : decode cX6_mapped 81 = .ok (.getfield 60, 3) := by decide +kernel
theorem dX6_mapped_84 : decode cX6_mapped 84 = .ok (.lrem, 1) := by decide +kernel
theorem dX6_mapped_85 : decode cX6_mapped 85 = .ok (.lastore, 1) := by decide +kernel
theorem dX6_mapped_86 : decode cX6_mapped 86 = .ok (.iinc 4 1, 3) := by decide +kernel
theorem dX6_mapped_89 : decode cX6_mapped 89 = .ok (.goto (-69), 3) := by decide +kernel
theorem dX6_mapped_92 : decode cX6_mapped 92 = .ok (.iinc 3 1, 3) := by decide +kernel
theorem dX6_mapped_95 : decode cX6_mapped 95 = .ok (.goto (-93), 3) := by decide +kernel
theorem dX6_mapped_98 : decode cX6_mapped 98 = .ok (.iconst 0, 1) := by decide +kernel
theorem dX6_mapped_99 : decode cX6_mapped 99 = .ok (.istore_n 3, 1) := by decide +kernel
theorem dX6_mapped_100 : decode cX6_mapped 100 = .ok (.iload_n 3, 1) := by decide +kernel
theorem dX6_mapped_101 : decode cX6_mapped 101 = .ok (.aload_n 0, 1) := by decide +kernel
theorem dX6_mapped_102 : decode cX6_mapped 102 = .ok (.invokevirtual 111, 3) := by decide +kernel
theorem dX6_mapped_105 : decode cX6_mapped 105 = .ok (.if_icmp .ge 40, 3) := by decide +kernel
theorem dX6_mapped_108 : decode cX6_mapped 108 = .ok (.iload_n 2, 1) := by decide +kernel
theorem dX6_mapped_109 : decode cX6_mapped 109 = .ok (.ifCond .eq 18, 3) := by decide +kernel
theorem dX6_mapped_112 : decode cX6_mapped 112 = .ok (.aload_n 0, 1) := by decide +kernel
theorem dX6_mapped_113 : decode cX6_mapped 113 = .ok (.getfield 35, 3) := by decide +kernel
theorem dX6_mapped_116 : decode cX6_mapped 116 = .ok (.iload_n 3, 1) := by decide +kernel
theorem dX6_mapped_117 : decode cX6_mapped 117 = .ok (.aload_n 0, 1) := by decide +kernel
theorem dX6_mapped_118 : decode cX6_mapped 118 = .ok (.getfield 29, 3) := by decide +kernel
theorem dX6_mapped_121 : decode cX6_mapped 121 = .ok (.iload_n 3, 1) := by decide +kernel
theorem dX6_mapped_122 : decode cX6_mapped 122 = .ok (.laload, 1) := by decide +kernel
theorem dX6_mapped_123 : decode cX6_mapped 123 = .ok (.lastore, 1) := by decide +kernel
theorem dX6_mapped_124 : decode cX6_mapped 124 = .ok (.goto 15, 3) := by decide +kernel
theorem dX6_mapped_127 : decode cX6_mapped 127 = .ok (.aload_n 0, 1) := by decide +kernel
theorem dX6_mapped_128 : decode cX6_mapped 128 = .ok (.getfield 38, 3) := by decide +kernel
theorem dX6_mapped_131 : decode cX6_mapped 131 = .ok (.iload_n 3, 1) := by decide +kernel
theorem dX6_mapped_132 : decode cX6_mapped 132 = .ok (.aload_n 0, 1) := by decide +kernel
theorem dX6_mapped_133 : decode cX6_mapped 133 = .ok (.getfield 29, 3) := by decide +kernel
theorem dX6_mapped_136 : decode cX6_mapped 136 = .ok (.iload_n 3, 1) := by decide +kernel
theorem dX6_mapped_137 : decode cX6_mapped 137 = .ok (.laload, 1) := by decide +kernel
theorem dX6_mapped_138 : decode cX6_mapped 138 = .ok (.lastore, 1) := by decide +kernel
theorem dX6_mapped_139 : decode cX6_mapped 139 = .ok (.iinc 3 1, 3) := by decide +kernel
theorem dX6_mapped_142 : decode cX6_mapped 142 = .ok (.goto (-42), 3) := by decide +kernel
theorem dX6_mapped_145 : decode cX6_mapped 145 = .ok (.return_, 1) := by decide +kernel
theorem dX6_apply_0 : decode cX6_apply 0 = .ok (.aload_n 0, 1) := by decide +kernel
theorem dX6_apply_1 : decode cX6_apply 1 = .ok (.iload_n 1, 1) := by decide +kernel
theorem dX6_apply_2 : decode cX6_apply 2 = .ok (.iconst 3, 1) := by decide +kernel
theorem dX6_apply_3 : decode cX6_apply 3 = .ok (.invokevirtual 146, 3) := by decide +kernel
theorem dX6_apply_6 : decode cX6_apply 6 = .ok (.ifCond .eq 11, 3) := by decide +kernel
theorem dX6_apply_9 : decode cX6_apply 9 = .ok (.aload_n 0, 1) := by decide +kernel
theorem dX6_apply_10 : decode cX6_apply 10 = .ok (.iload_n 2, 1) := by decide +kernel
theorem dX6_apply_11 : decode cX6_apply 11 = .ok (.invokevirtual 119, 3) := by decide +kernel
theorem dX6_apply_14 : decode cX6_apply 14 = .ok (.ifCond .ne 6, 3) := by decide +kernel
theorem dX6_apply_17 : decode cX6_apply 17 = .ok (.bipush (-2), 2) := by decide +kernel
theorem dX6_apply_19 : decode cX6_apply 19 = .ok (.ireturn, 1) := by decide +kernel
theorem dX6_apply_20 : decode cX6_apply 20 = .ok (.aload_n 0, 1) := by decide +kernel
theorem dX6_apply_21 : decode cX6_apply 21 = .ok (.getfield 7, 3) := by decide +kernel
theorem dX6_apply_24 : decode cX6_apply 24 = .ok (.iload_n 2, 1) := by decide +kernel
theorem dX6_apply_25 : decode cX6_apply 25 = .ok (.iaload, 1) := by decide +kernel
theorem dX6_apply_26 : decode cX6_apply 26 = .ok (.istore_n 3, 1) := by decide +kernel
theorem dX6_apply_27 : decode cX6_apply 27 = .ok (.aload_n 0, 1) := by decide +kernel
theorem dX6_apply_28 : decode cX6_apply 28 = .ok (.iload_n 1, 1) := by decide +kernel
theorem dX6_apply_29 : decode cX6_apply 29 = .ok (.invokevirtual 240, 3) := by decide +kernel
theorem dX6_apply_32 : decode cX6_apply 32 = .ok (.pop, 1) := by decide +kernel
theorem dX6_apply_33 : decode cX6_apply 33 = .ok (.iload_n 3, 1) := by decide +kernel
theorem dX6_apply_34 : decode cX6_apply 34 = .ok (.ifCond .ne 21, 3) := by decide +kernel
theorem dX6_apply_37 : decode cX6_apply 37 = .ok (.aload_n 0, 1) := by decide +kernel
theorem dX6_apply_38 : decode cX6_apply 38 = .ok (.invokevirtual 136, 3) := by decide +kernel
theorem dX6_apply_41 : decode cX6_apply 41 = .ok (.aload_n 0, 1) := by decide +kernel
theorem dX6_apply_42 : decode cX6_apply 42 = .ok (.iload_n 2, 1) := by decide +kernel
theorem dX6_apply_43 : decode cX6_apply 43 = .ok (.invokevirtual 150, 3) := by decide +kernel
theorem dX6_apply_46 : decode cX6_apply 46 = .ok (.aload_n 0, 1) := by decide +kernel
theorem dX6_apply_47 : decode cX6_apply 47 = .ok (.iload_n 1, 1) := by decide +kernel
theorem dX6_apply_48 : decode cX6_apply 48 = .ok (.iconst 1, 1) := by decide +kernel
theorem dX6_apply_49 : decode cX6_apply 49 = .ok (.invokevirtual 243, 3) := by decide +kernel
theorem dX6_apply_52 : decode cX6_apply 52 = .ok (.goto 146, 3) := by decide +kernel
theorem dX6_apply_55 : decode cX6_apply 55 = .ok (.iload_n 3, 1) := by decide +kernel
theorem dX6_apply_56 : decode cX6_apply 56 = .ok (.iconst 1, 1) := by decide +kernel
theorem dX6_apply_57 : decode cX6_apply 57 = .ok (.if_icmp .ne 35, 3) := by decide +kernel
theorem dX6_apply_60 : decode cX6_apply 60 = .ok (.aload_n 0, 1) := by decide +kernel
theorem dX6_apply_61 : decode cX6_apply 61 = .ok (.getfield 56, 3) := by decide +kernel
theorem dX6_apply_64 : decode cX6_apply 64 = .ok (.iconst 3, 1) := by decide +kernel
theorem dX6_apply_65 : decode cX6_apply 65 = .ok (.if_icmp .ne 27, 3) := by decide +kernel
theorem dX6_apply_68 : decode cX6_apply 68 = .ok (.aload_n 0, 1) := by decide +kernel
theorem dX6_apply_69 : decode cX6_apply 69 = .ok (.iload_n 2, 1) := by decide +kernel
theorem dX6_apply_70 : decode cX6_apply 70 = .ok (.invokevirtual 171, 3) := by decide +kernel
theorem dX6_apply_73 : decode cX6_apply 73 = .ok (.aload_n 0, 1) := by decide +kernel
theorem dX6_apply_74 : decode cX6_apply 74 = .ok (.iload_n 1, 1) := by decide +kernel
theorem dX6_apply_75 : decode cX6_apply 75 = .ok (.iconst 1, 1) := by decide +kernel
theorem dX6_apply_76 : decode cX6_apply 76 = .ok (.invokevirtual 243, 3) := by decide +kernel
theorem dX6_apply_79 : decode cX6_apply 79 = .ok (.aload_n 0, 1) := by decide +kernel
theorem dX6_apply_80 : decode cX6_apply 80 = .ok (.iload_n 1, 1) := by decide +kernel
theorem dX6_apply_81 : decode cX6_apply 81 = .ok (.iconst 0, 1) := by decide +kernel
theorem dX6_apply_82 : decode cX6_apply 82 = .ok (.invokevirtual 243, 3) := by decide +kernel
theorem dX6_apply_85 : decode cX6_apply 85 = .ok (.aload_n 0, 1) := by decide +kernel
theorem dX6_apply_86 : decode cX6_apply 86 = .ok (.invokevirtual 156, 3) := by decide +kernel
theorem dX6_apply_89 : decode cX6_apply 89 = .ok (.goto 109, 3) := by decide +kernel
theorem dX6_apply_92 : decode cX6_apply 92 = .ok (.iload_n 3, 1) := by decide +kernel
theorem dX6_apply_93 : decode cX6_apply 93 = .ok (.iconst 1, 1) := by decide +kernel
theorem dX6_apply_94 : decode cX6_apply 94 = .ok (.if_icmp .eq 8, 3) := by decide +kernel
theorem dX6_apply_97 : decode cX6_apply 97 = .ok (.iload_n 3, 1) := by decide +kernel
theorem dX6_apply_98 : decode cX6_apply 98 = .ok (.iconst 2, 1) := by decide +kernel
theorem dX6_apply_99 : decode cX6_apply 99 = .ok (.if_icmp .ne 92, 3) := by decide +kernel
theorem dX6_apply_102 : decode cX6_apply 102 = .ok (.aload_n 0, 1) := by decide +kernel
theorem dX6_apply_103 : decode cX6_apply 103 = .ok (.invokevirtual 136, 3) := by decide +kernel
theorem dX6_apply_106 : decode cX6_apply 106 = .ok (.iconst 0, 1) := by decide +kernel
theorem dX6_apply_107 : decode cX6_apply 107 = .ok (.istore 4, 2) := by decide +kernel
theorem dX6_apply_109 : decode cX6_apply 109 = .ok (.iload 4, 2) := by decide +kernel
theorem dX6_apply_111 : decode cX6_apply 111 = .ok (.aload_n 0, 1) := by decide +kernel
theorem dX6_apply_112 : decode cX6_apply 112 = .ok (.invokevirtual 111, 3) := by decide +kernel
theorem dX6_apply_115 : decode cX6_apply 115 = .ok (.if_icmp .ge 73, 3) := by decide +kernel
theorem dX6_apply_118 : decode cX6_apply 118 = .ok (.iconst 0, 1) := by decide +kernel
theorem dX6_apply_119 : decode cX6_apply 119 = .ok (.istore 5, 2) := by decide +kernel
theorem dX6_apply_121 : decode cX6_apply 121 = .ok (.iload 5, 2) := by decide +kernel
theorem dX6_apply_123 : decode cX6_apply 123 = .ok (.aload_n 0, 1) := by decide +kernel
theorem dX6_apply_124 : decode cX6_apply 124 = .ok (.invokevirtual 111, 3) := by decide +kernel
theorem dX6_apply_127 : decode cX6_apply 127 = .ok (.if_icmp .ge 55, 3) := by decide +kernel
theorem dX6_apply_130 : decode cX6_apply 130 = .ok (.aload_n 0, 1) := by decide +kernel
theorem dX6_apply_131 : decode cX6_apply 131 = .ok (.getfield 29, 3) := by decide +kernel
theorem dX6_apply_134 : decode cX6_apply 134 = .ok (.iload 4, 2) := by decide +kernel
theorem dX6_apply_136 : decode cX6_apply 136 = .ok (.aload_n 0, 1) := by decide +kernel
theorem dX6_apply_137 : decode cX6_apply 137 = .ok (.getfield 29, 3) := by decide +kernel
theorem dX6_apply_140 : decode cX6_apply 140 = .ok (.iload 4, 2) := by decide +kernel
theorem dX6_apply_142 : decode cX6_apply 142 = .ok (.laload, 1) := by decide +kernel
theorem dX6_apply_143 : decode cX6_apply 143 = .ok (.aload_n 0, 1) := by decide +kernel
theorem dX6_apply_144 : decode cX6_apply 144 = .ok (.aload_n 0, 1) := by decide +kernel
theorem dX6_apply_145 : decode cX6_apply 145 = .ok (.iload_n 2, 1) := by decide +kernel
theorem dX6_apply_146 : decode cX6_apply 146 = .ok (.iload 5, 2) := by decide +kernel
theorem dX6_apply_148 : decode cX6_apply 148 = .ok (.invokevirtual 108, 3) := by decide +kernel
theorem dX6_apply_151 : decode cX6_apply 151 = .ok (.aload_n 0, 1) := by decide +kernel
theorem dX6_apply_152 : decode cX6_apply 152 = .ok (.getfield 41, 3) := by decide +kernel
theorem dX6_apply_155 : decode cX6_apply 155 = .ok (.iload 5, 2) := by decide +kernel
theorem dX6_apply_157 : decode cX6_apply 157 = .ok (.aload_n 0, 1) := by decide +kernel
theorem dX6_apply_158 : decode cX6_apply 158 = .ok (.invokevirtual 111, 3) := by decide +kernel
theorem dX6_apply_161 : decode cX6_apply 161 = .ok (.imul, 1) := by decide +kernel
theorem dX6_apply_162 : decode cX6_apply 162 = .ok (.iload 4, 2) := by decide +kernel
theorem dX6_apply_164 : decode cX6_apply 164 = .ok (.iadd, 1) := by decide +kernel
theorem dX6_apply_165 : decode cX6_apply 165 = .ok (.laload, 1) := by decide +kernel
theorem dX6_apply_166 : decode cX6_apply 166 = .ok (.invokevirtual 76, 3) := by decide +kernel
theorem dX6_apply_169 : decode cX6_apply 169 = .ok (.ladd, 1) := by decide +kernel
theorem dX6_apply_170 : decode cX6_apply 170 = .ok (.aload_n 0, 1) := by decide +kernel
theorem dX6_apply_171 : decode cX6_apply 171 = .ok (.getfield 60, 3) := by decide +kernel
theorem dX6_apply_174 : decode cX6_apply 174 = .ok (.lrem, 1) := by decide +kernel
theorem dX6_apply_175 : decode cX6_apply 175 = .ok (.lastore, 1) := by decide +kernel
theorem dX6_apply_176 : decode cX6_apply 176 = .ok (.iinc 5 1, 3) := by decide +kernel
theorem dX6_apply_179 : decode cX6_apply 179 = .ok (.goto (-58), 3) := by decide +kernel
theorem dX6_apply_182 : decode cX6_apply 182 = .ok (.iinc 4 1, 3) := by decide +kernel
theorem dX6_apply_185 : decode cX6_apply 185 = .ok (.goto (-76), 3) := by decide +kernel
theorem dX6_apply_188 : decode cX6_apply 188 = .ok (.goto 10, 3) := by decide +kernel
theorem dX6_apply_191 : decode cX6_apply 191 = .ok (.aload_n 0, 1) := by decide +kernel
theorem dX6_apply_192 : decode cX6_apply 192 = .ok (.iload_n 1, 1) := by decide +kernel
theorem dX6_apply_193 : decode cX6_apply 193 = .ok (.iload_n 2, 1) := by decide +kernel
theorem dX6_apply_194 : decode cX6_apply 194 = .ok (.iload_n 3, 1) := by decide +kernel
theorem dX6_apply_195 : decode cX6_apply 195 = .ok (.invokevirtual 247, 3) := by decide +kernel
theorem dX6_apply_198 : decode cX6_apply 198 = .ok (.aload_n 0, 1) := by decide +kernel
theorem dX6_apply_199 : decode cX6_apply 199 = .ok (.iload_n 3, 1) := by decide +kernel
theorem dX6_apply_200 : decode cX6_apply 200 = .ok (.invokevirtual 133, 3) := by decide +kernel
theorem dX6_apply_203 : decode cX6_apply 203 = .ok (.ireturn, 1) := by decide +kernel
theorem dX6_squared_0 : decode cX6_squared 0 = .ok (.iconst 0, 1) := by decide +kernel
theorem dX6_squared_1 : decode cX6_squared 1 = .ok (.istore 4, 2) := by decide +kernel
theorem dX6_squared_3 : decode cX6_squared 3 = .ok (.iload 4, 2) := by decide +kernel
theorem dX6_squared_5 : decode cX6_squared 5 = .ok (.aload_n 0, 1) := by decide +kernel
theorem dX6_squared_6 : decode cX6_squared 6 = .ok (.invokevirtual 111, 3) := by decide +kernel
theorem dX6_squared_9 : decode cX6_squared 9 = .ok (.if_icmp .ge 136, 3) := by decide +kernel
theorem dX6_squared_12 : decode cX6_squared 12 = .ok (.iconst 0, 1) := by decide +kernel
theorem dX6_squared_13 : decode cX6_squared 13 = .ok (.istore 5, 2) := by decide +kernel
theorem dX6_squared_15 : decode cX6_squared 15 = .ok (.iload 5, 2) := by decide +kernel
theorem dX6_squared_17 : decode cX6_squared 17 = .ok (.aload_n 0, 1) := by decide +kernel
theorem dX6_squared_18 : decode cX6_squared 18 = .ok (.invokevirtual 111, 3) := by decide +kernel
theorem dX6_squared_21 : decode cX6_squared 21 = .ok (.if_icmp .ge 118, 3) := by decide +kernel
theorem dX6_squared_24 : decode cX6_squared 24 = .ok (.lconst 0, 1) := by decide +kernel
theorem dX6_squared_25 : decode cX6_squared 25 = .ok (.lstore 6, 2) := by decide +kernel
theorem dX6_squared_27 : decode cX6_squared 27 = .ok (.iconst 0, 1) := by decide +kernel
theorem dX6_squared_28 : decode cX6_squared 28 = .ok (.istore 8, 2) := by decide +kernel
theorem dX6_squared_30 : decode cX6_squared 30 = .ok (.iload 8, 2) := by decide +kernel
theorem dX6_squared_32 : decode cX6_squared 32 = .ok (.aload_n 0, 1) := by decide +kernel
theorem dX6_squared_33 : decode cX6_squared 33 = .ok (.invokevirtual 111, 3) := by decide +kernel
theorem dX6_squared_36 : decode cX6_squared 36 = .ok (.if_icmp .ge 80, 3) := by decide +kernel
theorem dX6_squared_39 : decode cX6_squared 39 = .ok (.iload_n 3, 1) := by decide +kernel
theorem dX6_squared_40 : decode cX6_squared 40 = .ok (.iconst 3, 1) := by decide +kernel
theorem dX6_squared_41 : decode cX6_squared 41 = .ok (.if_icmp .ne 21, 3) := by decide +kernel
theorem dX6_squared_44 : decode cX6_squared 44 = .ok (.aload_n 0, 1) := by decide +kernel
theorem dX6_squared_45 : decode cX6_squared 45 = .ok (.iload_n 1, 1) := by decide +kernel
theorem dX6_squared_46 : decode cX6_squared 46 = .ok (.iload 4, 2) := by decide +kernel
theorem dX6_squared_48 : decode cX6_squared 48 = .ok (.aload_n 0, 1) := by decide +kernel
theorem dX6_squared_49 : decode cX6_squared 49 = .ok (.invokevirtual 111, 3) := by decide +kernel
theorem dX6_squared_52 : decode cX6_squared 52 = .ok (.imul, 1) := by decide +kernel
theorem dX6_squared_53 : decode cX6_squared 53 = .ok (.iload 8, 2) := by decide +kernel
theorem dX6_squared_55 : decode cX6_squared 55 = .ok (.iadd, 1) := by decide +kernel
theorem dX6_squared_56 : decode cX6_squared 56 = .ok (.invokevirtual 108, 3) := by decide +kernel
theorem dX6_squared_59 : decode cX6_squared 59 = .ok (.goto 18, 3) := by decide +kernel
theorem dX6_squared_62 : decode cX6_squared 62 = .ok (.aload_n 0, 1) := by decide +kernel
theorem dX6_squared_63 : decode cX6_squared 63 = .ok (.getfield 41, 3) := by decide +kernel
theorem dX6_squared_66 : decode cX6_squared 66 = .ok (.iload 8, 2) := by decide +kernel
theorem dX6_squared_68 : decode cX6_squared 68 = .ok (.aload_n 0, 1) := by decide +kernel
theorem dX6_squared_69 : decode cX6_squared 69 = .ok (.invokevirtual 111, 3) := by decide +kernel
theorem dX6_squared_72 : decode cX6_squared 72 = .ok (.imul, 1) := by decide +kernel
theorem dX6_squared_73 : decode cX6_squared 73 = .ok (.iload 4, 2) := by decide +kernel
theorem dX6_squared_75 : decode cX6_squared 75 = .ok (.iadd, 1) := by decide +kernel
theorem dX6_squared_76 : decode cX6_squared 76 = .ok (.laload, 1) := by decide +kernel
theorem dX6_squared_77 : decode cX6_squared 77 = .ok (.lstore 9, 2) := by decide +kernel
theorem dX6_squared_79 : decode cX6_squared 79 = .ok (.lload 6, 2) := by decide +kernel
theorem dX6_squared_81 : decode cX6_squared 81 = .ok (.aload_n 0, 1) := by decide +kernel
theorem dX6_squared_82 : decode cX6_squared 82 = .ok (.lload 9, 2) := by decide +kernel
theorem dX6_squared_84 : decode cX6_squared 84 = .ok (.aload_n 0, 1) := by decide +kernel
theorem dX6_squared_85 : decode cX6_squared 85 = .ok (.iload_n 2, 1) := by decide +kernel
theorem dX6_squared_86 : decode cX6_squared 86 = .ok (.iload 8, 2) := by decide +kernel
theorem dX6_squared_88 : decode cX6_squared 88 = .ok (.aload_n 0, 1) := by decide +kernel
theorem dX6_squared_89 : decode cX6_squared 89 = .ok (.invokevirtual 111, 3) := by decide +kernel
theorem dX6_squared_92 : decode cX6_squared 92 = .ok (.imul, 1) := by decide +kernel
theorem dX6_squared_93 : decode cX6_squared 93 = .ok (.iload 5, 2) := by decide +kernel
theorem dX6_squared_95 : decode cX6_squared 95 = .ok (.iadd, 1) := by decide +kernel
theorem dX6_squared_96 : decode cX6_squared 96 = .ok (.invokevirtual 108, 3) := by decide +kernel
theorem dX6_squared_99 : decode cX6_squared 99 = .ok (.invokevirtual 76, 3) := by decide +kernel
theorem dX6_squared_102 : decode cX6_squared 102 = .ok (.ladd, 1) := by decide +kernel
theorem dX6_squared_103 : decode cX6_squared 103 = .ok (.aload_n 0, 1) := by decide +kernel
theorem dX6_squared_104 : decode cX6_squared 104 = .ok (.getfield 60, 3) := by decide +kernel
theorem dX6_squared_107 : decode cX6_squared 107 = .ok (.lrem, 1) := by decide +kernel
theorem dX6_squared_108 : decode cX6_squared 108 = .ok (.lstore 6, 2) := by decide +kernel
theorem dX6_squared_110 : decode cX6_squared 110 = .ok (.iinc 8 1, 3) := by decide +kernel
theorem dX6_squared_113 : decode cX6_squared 113 = .ok (.goto (-83), 3) := by decide +kernel
theorem dX6_squared_116 : decode cX6_squared 116 = .ok (.aload_n 0, 1) := by decide +kernel
theorem dX6_squared_117 : decode cX6_squared 117 = .ok (.getfield 35, 3) := by decide +kernel
theorem dX6_squared_120 : decode cX6_squared 120 = .ok (.iload 4, 2) := by decide +kernel
theorem dX6_squared_122 : decode cX6_squared 122 = .ok (.aload_n 0, 1) := by decide +kernel
theorem dX6_squared_123 : decode cX6_squared 123 = .ok (.invokevirtual 111, 3) := by decide +kernel
theorem dX6_squared_126 : decode cX6_squared 126 = .ok (.imul, 1) := by decide +kernel
theorem dX6_squared_127 : decode cX6_squared 127 = .ok (.iload 5, 2) := by decide +kernel
theorem dX6_squared_129 : decode cX6_squared 129 = .ok (.iadd, 1) := by decide +kernel
theorem dX6_squared_130 : decode cX6_squared 130 = .ok (.lload 6, 2) := by decide +kernel
theorem dX6_squared_132 : decode cX6_squared 132 = .ok (.lastore, 1) := by decide +kernel
theorem dX6_squared_133 : decode cX6_squared 133 = .ok (.iinc 5 1, 3) := by decide +kernel
theorem dX6_squared_136 : decode cX6_squared 136 = .ok (.goto (-121), 3) := by decide +kernel
theorem dX6_squared_139 : decode cX6_squared 139 = .ok (.iinc 4 1, 3) := by decide +kernel
theorem dX6_squared_142 : decode cX6_squared 142 = .ok (.goto (-139), 3) := by decide +kernel
theorem dX6_squared_145 : decode cX6_squared 145 = .ok (.aload_n 0, 1) := by decide +kernel
theorem dX6_squared_146 : decode cX6_squared 146 = .ok (.invokevirtual 136, 3) := by decide +kernel
theorem dX6_squared_149 : decode cX6_squared 149 = .ok (.iconst 0, 1) := by decide +kernel
theorem dX6_squared_150 : decode cX6_squared 150 = .ok (.istore 4, 2) := by decide +kernel
theorem dX6_squared_152 : decode cX6_squared 152 = .ok (.iload 4, 2) := by decide +kernel
theorem dX6_squared_154 : decode cX6_squared 154 = .ok (.aload_n 0, 1) := by decide +kernel
theorem dX6_squared_155 : decode cX6_squared 155 = .ok (.invokevirtual 111, 3) := by decide +kernel
theorem dX6_squared_158 : decode cX6_squared 158 = .ok (.if_icmp .ge 115, 3) := by decide +kernel
theorem dX6_squared_161 : decode cX6_squared 161 = .ok (.iconst 0, 1) := by decide +kernel
theorem dX6_squared_162 : decode cX6_squared 162 = .ok (.istore 5, 2) := by decide +kernel
theorem dX6_squared_164 : decode cX6_squared 164 = .ok (.iload 5, 2) := by decide +kernel
theorem dX6_squared_166 : decode cX6_squared 166 = .ok (.aload_n 0, 1) := by decide +kernel
theorem dX6_squared_167 : decode cX6_squared 167 = .ok (.invokevirtual 111, 3) := by decide +kernel
theorem dX6_squared_170 : decode cX6_squared 170 = .ok (.if_icmp .ge 97, 3) := by decide +kernel
theorem dX6_squared_173 : decode cX6_squared 173 = .ok (.iconst 0, 1) := by decide +kernel
theorem dX6_squared_174 : decode cX6_squared 174 = .ok (.istore 6, 2) := by decide +kernel
theorem dX6_squared_176 : decode cX6_squared 176 = .ok (.iload 6, 2) := by decide +kernel
theorem dX6_squared_178 : decode cX6_squared 178 = .ok (.aload_n 0, 1) := by decide +kernel
theorem dX6_squared_179 : decode cX6_squared 179 = .ok (.invokevirtual 111, 3) := by decide +kernel
theorem dX6_squared_182 : decode cX6_squared 182 = .ok (.if_icmp .ge 79, 3) := by decide +kernel
theorem dX6_squared_185 : decode cX6_squared 185 = .ok (.aload_n 0, 1) := by decide +kernel
theorem dX6_squared_186 : decode cX6_squared 186 = .ok (.getfield 29, 3) := by decide +kernel
theorem dX6_squared_189 : decode cX6_squared 189 = .ok (.iload 4, 2) := by decide +kernel
theorem dX6_squared_191 : decode cX6_squared 191 = .ok (.aload_n 0, 1) := by decide +kernel
theorem dX6_squared_192 : decode cX6_squared 192 = .ok (.invokevirtual 111, 3) := by decide +kernel
theorem dX6_squared_195 : decode cX6_squared 195 = .ok (.imul, 1) := by decide +kernel
theorem dX6_squared_196 : decode cX6_squared 196 = .ok (.iload 5, 2) := by decide +kernel
theorem dX6_squared_198 : decode cX6_squared 198 = .ok (.iadd, 1) := by decide +kernel
theorem dX6_squared_199 : decode cX6_squared 199 = .ok (.aload_n 0, 1) := by decide +kernel
theorem dX6_squared_200 : decode cX6_squared 200 = .ok (.getfield 29, 3) := by decide +kernel
theorem dX6_squared_203 : decode cX6_squared 203 = .ok (.iload 4, 2) := by decide +kernel
theorem dX6_squared_205 : decode cX6_squared 205 = .ok (.aload_n 0, 1) := by decide +kernel
theorem dX6_squared_206 : decode cX6_squared 206 = .ok (.invokevirtual 111, 3) := by decide +kernel
theorem dX6_squared_209 : decode cX6_squared 209 = .ok (.imul, 1) := by decide +kernel
theorem dX6_squared_210 : decode cX6_squared 210 = .ok (.iload 5, 2) := by decide +kernel
theorem dX6_squared_212 : decode cX6_squared 212 = .ok (.iadd, 1) := by decide +kernel
theorem dX6_squared_213 : decode cX6_squared 213 = .ok (.laload, 1) := by decide +kernel
theorem dX6_squared_214 : decode cX6_squared 214 = .ok (.aload_n 0, 1) := by decide +kernel
theorem dX6_squared_215 : decode cX6_squared 215 = .ok (.aload_n 0, 1) := by decide +kernel
theorem dX6_squared_216 : decode cX6_squared 216 = .ok (.getfield 35, 3) := by decide +kernel
theorem dX6_squared_219 : decode cX6_squared 219 = .ok (.iload 4, 2) := by decide +kernel
theorem dX6_squared_221 : decode cX6_squared 221 = .ok (.aload_n 0, 1) := by decide +kernel
theorem dX6_squared_222 : decode cX6_squared 222 = .ok (.invokevirtual 111, 3) := by decide +kernel
theorem dX6_squared_225 : decode cX6_squared 225 = .ok (.imul, 1) := by decide +kernel
theorem dX6_squared_226 : decode cX6_squared 226 = .ok (.iload 6, 2) := by decide +kernel
theorem dX6_squared_228 : decode cX6_squared 228 = .ok (.iadd, 1) := by decide +kernel
theorem dX6_squared_229 : decode cX6_squared 229 = .ok (.laload, 1) := by decide +kernel
theorem dX6_squared_230 : decode cX6_squared 230 = .ok (.aload_n 0, 1) := by decide +kernel
theorem dX6_squared_231 : decode cX6_squared 231 = .ok (.getfield 41, 3) := by decide +kernel
theorem dX6_squared_234 : decode cX6_squared 234 = .ok (.iload 6, 2) := by decide +kernel
theorem dX6_squared_236 : decode cX6_squared 236 = .ok (.aload_n 0, 1) := by decide +kernel
theorem dX6_squared_237 : decode cX6_squared 237 = .ok (.invokevirtual 111, 3) := by decide +kernel
theorem dX6_squared_240 : decode cX6_squared 240 = .ok (.imul, 1) := by decide +kernel
theorem dX6_squared_241 : decode cX6_squared 241 = .ok (.iload 5, 2) := by decide +kernel
theorem dX6_squared_243 : decode cX6_squared 243 = .ok (.iadd, 1) := by decide +kernel
theorem dX6_squared_244 : decode cX6_squared 244 = .ok (.laload, 1) := by decide +kernel
theorem dX6_squared_245 : decode cX6_squared 245 = .ok (.invokevirtual 76, 3) := by decide +kernel
theorem dX6_squared_248 : decode cX6_squared 248 = .ok (.ladd, 1) := by decide +kernel
theorem dX6_squared_249 : decode cX6_squared 249 = .ok (.aload_n 0, 1) := by decide +kernel
theorem dX6_squared_250 : decode cX6_squared 250 = .ok (.getfield 60, 3) := by decide +kernel
theorem dX6_squared_253 : decode cX6_squared 253 = .ok (.lrem, 1) := by decide +kernel
theorem dX6_squared_254 : decode cX6_squared 254 = .ok (.lastore, 1) := by decide +kernel
theorem dX6_squared_255 : decode cX6_squared 255 = .ok (.iinc 6 1, 3) := by decide +kernel
theorem dX6_squared_258 : decode cX6_squared 258 = .ok (.goto (-82), 3) := by decide +kernel
theorem dX6_squared_261 : decode cX6_squared 261 = .ok (.iinc 5 1, 3) := by decide +kernel
theorem dX6_squared_264 : decode cX6_squared 264 = .ok (.goto (-100), 3) := by decide +kernel
theorem dX6_squared_267 : decode cX6_squared 267 = .ok (.iinc 4 1, 3) := by decide +kernel
theorem dX6_squared_270 : decode cX6_squared 270 = .ok (.goto (-118), 3) := by decide +kernel
theorem dX6_squared_273 : decode cX6_squared 273 = .ok (.return_, 1) := by decide +kernel
theorem dX6_order_0 : decode cX6_order 0 = .ok (.aload_n 0, 1) := by decide +kernel
theorem dX6_order_1 : decode cX6_order 1 = .ok (.iload_n 1, 1) := by decide +kernel
theorem dX6_order_2 : decode cX6_order 2 = .ok (.iconst 3, 1) := by decide +kernel
theorem dX6_order_3 : decode cX6_order 3 = .ok (.invokevirtual 146, 3) := by decide +kernel
theorem dX6_order_6 : decode cX6_order 6 = .ok (.ifCond .ne 6, 3) := by decide +kernel
theorem dX6_order_9 : decode cX6_order 9 = .ok (.bipush (-2), 2) := by decide +kernel
theorem dX6_order_11 : decode cX6_order 11 = .ok (.ireturn, 1) := by decide +kernel
theorem dX6_order_12 : decode cX6_order 12 = .ok (.aload_n 0, 1) := by decide +kernel
theorem dX6_order_13 : decode cX6_order 13 = .ok (.invokevirtual 136, 3) := by decide +kernel
theorem dX6_order_16 : decode cX6_order 16 = .ok (.iconst 0, 1) := by decide +kernel
theorem dX6_order_17 : decode cX6_order 17 = .ok (.istore_n 2, 1) := by decide +kernel
theorem dX6_order_18 : decode cX6_order 18 = .ok (.iload_n 2, 1) := by decide +kernel
theorem dX6_order_19 : decode cX6_order 19 = .ok (.aload_n 0, 1) := by decide +kernel
theorem dX6_order_20 : decode cX6_order 20 = .ok (.invokevirtual 111, 3) := by decide +kernel
theorem dX6_order_23 : decode cX6_order 23 = .ok (.if_icmp .ge 23, 3) := by decide +kernel
theorem dX6_order_26 : decode cX6_order 26 = .ok (.aload_n 0, 1) := by decide +kernel
theorem dX6_order_27 : decode cX6_order 27 = .ok (.getfield 29, 3) := by decide +kernel
theorem dX6_order_30 : decode cX6_order 30 = .ok (.iload_n 2, 1) := by decide +kernel
theorem dX6_order_31 : decode cX6_order 31 = .ok (.aload_n 0, 1) := by decide +kernel
theorem dX6_order_32 : decode cX6_order 32 = .ok (.invokevirtual 111, 3) := by decide +kernel
theorem dX6_order_35 : decode cX6_order 35 = .ok (.imul, 1) := by decide +kernel
theorem dX6_order_36 : decode cX6_order 36 = .ok (.iload_n 2, 1) := by decide +kernel
theorem dX6_order_37 : decode cX6_order 37 = .ok (.iadd, 1) := by decide +kernel
theorem dX6_order_38 : decode cX6_order 38 = .ok (.lconst 1, 1) := by decide +kernel
theorem dX6_order_39 : decode cX6_order 39 = .ok (.lastore, 1) := by decide +kernel
theorem dX6_order_40 : decode cX6_order 40 = .ok (.iinc 2 1, 3) := by decide +kernel
theorem dX6_order_43 : decode cX6_order 43 = .ok (.goto (-25), 3) := by decide +kernel
theorem dX6_order_46 : decode cX6_order 46 = .ok (.iconst 1, 1) := by decide +kernel
theorem dX6_order_47 : decode cX6_order 47 = .ok (.istore_n 2, 1) := by decide +kernel
theorem dX6_order_48 : decode cX6_order 48 = .ok (.iload_n 2, 1) := by decide +kernel
theorem dX6_order_49 : decode cX6_order 49 = .ok (.sipush 1000, 3) := by decide +kernel
theorem dX6_order_52 : decode cX6_order 52 = .ok (.if_icmp .gt 208, 3) := by decide +kernel
theorem dX6_order_55 : decode cX6_order 55 = .ok (.iconst 0, 1) := by decide +kernel
theorem dX6_order_56 : decode cX6_order 56 = .ok (.istore_n 3, 1) := by decide +kernel
theorem dX6_order_57 : decode cX6_order 57 = .ok (.iload_n 3, 1) := by decide +kernel
theorem dX6_order_58 : decode cX6_order 58 = .ok (.aload_n 0, 1) := by decide +kernel
theorem dX6_order_59 : decode cX6_order 59 = .ok (.invokevirtual 111, 3) := by decide +kernel
theorem dX6_order_62 : decode cX6_order 62 = .ok (.if_icmp .ge 104, 3) := by decide +kernel
theorem dX6_order_65 : decode cX6_order 65 = .ok (.iconst 0, 1) := by decide +kernel
theorem dX6_order_66 : decode cX6_order 66 = .ok (.istore 4, 2) := by decide +kernel
theorem dX6_order_68 : decode cX6_order 68 = .ok (.iload 4, 2) := by decide +kernel
theorem dX6_order_70 : decode cX6_order 70 = .ok (.aload_n 0, 1) := by decide +kernel
theorem dX6_order_71 : decode cX6_order 71 = .ok (.invokevirtual 111, 3) := by decide +kernel
theorem dX6_order_74 : decode cX6_order 74 = .ok (.if_icmp .ge 86, 3) := by decide +kernel
theorem dX6_order_77 : decode cX6_order 77 = .ok (.lconst 0, 1) := by decide +kernel
theorem dX6_order_78 : decode cX6_order 78 = .ok (.lstore 5, 2) := by decide +kernel
theorem dX6_order_80 : decode cX6_order 80 = .ok (.iconst 0, 1) := by decide +kernel
theorem dX6_order_81 : decode cX6_order 81 = .ok (.istore 7, 2) := by decide +kernel
theorem dX6_order_83 : decode cX6_order 83 = .ok (.iload 7, 2) := by decide +kernel
theorem dX6_order_85 : decode cX6_order 85 = .ok (.aload_n 0, 1) := by decide +kernel
theorem dX6_order_86 : decode cX6_order 86 = .ok (.invokevirtual 111, 3) := by decide +kernel
theorem dX6_order_89 : decode cX6_order 89 = .ok (.if_icmp .ge 49, 3) := by decide +kernel
theorem dX6_order_92 : decode cX6_order 92 = .ok (.lload 5, 2) := by decide +kernel
theorem dX6_order_94 : decode cX6_order 94 = .ok (.aload_n 0, 1) := by decide +kernel
theorem dX6_order_95 : decode cX6_order 95 = .ok (.getfield 29, 3) := by decide +kernel
theorem dX6_order_98 : decode cX6_order 98 = .ok (.iload_n 3, 1) := by decide +kernel
theorem dX6_order_99 : decode cX6_order 99 = .ok (.aload_n 0, 1) := by decide +kernel
theorem dX6_order_100 : decode cX6_order 100 = .ok (.invokevirtual 111, 3) := by decide +kernel
theorem dX6_order_103 : decode cX6_order 103 = .ok (.imul, 1) := by decide +kernel
theorem dX6_order_104 : decode cX6_order 104 = .ok (.iload 7, 2) := by decide +kernel
theorem dX6_order_106 : decode cX6_order 106 = .ok (.iadd, 1) := by decide +kernel
theorem dX6_order_107 : decode cX6_order 107 = .ok (.laload, 1) := by decide +kernel
theorem dX6_order_108 : decode cX6_order 108 = .ok (.aload_n 0, 1) := by decide +kernel
theorem dX6_order_109 : decode cX6_order 109 = .ok (.iload_n 1, 1) := by decide +kernel
theorem dX6_order_110 : decode cX6_order 110 = .ok (.iload 7, 2) := by decide +kernel
theorem dX6_order_112 : decode cX6_order 112 = .ok (.aload_n 0, 1) := by decide +kernel
theorem dX6_order_113 : decode cX6_order 113 = .ok (.invokevirtual 111, 3) := by decide +kernel
theorem dX6_order_116 : decode cX6_order 116 = .ok (.imul, 1) := by decide +kernel
theorem dX6_order_117 : decode cX6_order 117 = .ok (.iload 4, 2) := by decide +kernel
theorem dX6_order_119 : decode cX6_order 119 = .ok (.iadd, 1) := by decide +kernel
theorem dX6_order_120 : decode cX6_order 120 = .ok (.invokevirtual 108, 3) := by decide +kernel
theorem dX6_order_123 : decode cX6_order 123 = .ok (.lmul, 1) := by decide +kernel
theorem dX6_order_124 : decode cX6_order 124 = .ok (.ladd, 1) := by decide +kernel
theorem dX6_order_125 : decode cX6_order 125 = .ok (.aload_n 0, 1) := by decide +kernel
theorem dX6_order_126 : decode cX6_order 126 = .ok (.getfield 60, 3) := by decide +kernel
theorem dX6_order_129 : decode cX6_order 129 = .ok (.lrem, 1) := by decide +kernel
theorem dX6_order_130 : decode cX6_order 130 = .ok (.lstore 5, 2) := by decide +kernel
theorem dX6_order_132 : decode cX6_order 132 = .ok (.iinc 7 1, 3) := by decide +kernel
theorem dX6_order_135 : decode cX6_order 135 = .ok (.goto (-52), 3) := by decide +kernel
theorem dX6_order_138 : decode cX6_order 138 = .ok (.aload_n 0, 1) := by decide +kernel
theorem dX6_order_139 : decode cX6_order 139 = .ok (.getfield 35, 3) := by decide +kernel
theorem dX6_order_142 : decode cX6_order 142 = .ok (.iload_n 3, 1) := by decide +kernel
theorem dX6_order_143 : decode cX6_order 143 = .ok (.aload_n 0, 1) := by decide +kernel
theorem dX6_order_144 : decode cX6_order 144 = .ok (.invokevirtual 111, 3) := by decide +kernel
theorem dX6_order_147 : decode cX6_order 147 = .ok (.imul, 1) := by decide +kernel
theorem dX6_order_148 : decode cX6_order 148 = .ok (.iload 4, 2) := by decide +kernel
theorem dX6_order_150 : decode cX6_order 150 = .ok (.iadd, 1) := by decide +kernel
theorem dX6_order_151 : decode cX6_order 151 = .ok (.lload 5, 2) := by decide +kernel
theorem dX6_order_153 : decode cX6_order 153 = .ok (.lastore, 1) := by decide +kernel
theorem dX6_order_154 : decode cX6_order 154 = .ok (.iinc 4 1, 3) := by decide +kernel
theorem dX6_order_157 : decode cX6_order 157 = .ok (.goto (-89), 3) := by decide +kernel
theorem dX6_order_160 : decode cX6_order 160 = .ok (.iinc 3 1, 3) := by decide +kernel
theorem dX6_order_163 : decode cX6_order 163 = .ok (.goto (-106), 3) := by decide +kernel
theorem dX6_order_166 : decode cX6_order 166 = .ok (.iconst 1, 1) := by decide +kernel
theorem dX6_order_167 : decode cX6_order 167 = .ok (.istore_n 3, 1) := by decide +kernel
theorem dX6_order_168 : decode cX6_order 168 = .ok (.iconst 0, 1) := by decide +kernel
theorem dX6_order_169 : decode cX6_order 169 = .ok (.istore 4, 2) := by decide +kernel
theorem dX6_order_171 : decode cX6_order 171 = .ok (.iload 4, 2) := by decide +kernel
theorem dX6_order_173 : decode cX6_order 173 = .ok (.aload_n 0, 1) := by decide +kernel
theorem dX6_order_174 : decode cX6_order 174 = .ok (.invokevirtual 111, 3) := by decide +kernel
theorem dX6_order_177 : decode cX6_order 177 = .ok (.aload_n 0, 1) := by decide +kernel
theorem dX6_order_178 : decode cX6_order 178 = .ok (.invokevirtual 111, 3) := by decide +kernel
theorem dX6_order_181 : decode cX6_order 181 = .ok (.imul, 1) := by decide +kernel
theorem dX6_order_182 : decode cX6_order 182 = .ok (.if_icmp .ge 66, 3) := by decide +kernel
theorem dX6_order_185 : decode cX6_order 185 = .ok (.aload_n 0, 1) := by decide +kernel
theorem dX6_order_186 : decode cX6_order 186 = .ok (.getfield 29, 3) := by decide +kernel
theorem dX6_order_189 : decode cX6_order 189 = .ok (.iload 4, 2) := by decide +kernel
theorem dX6_order_191 : decode cX6_order 191 = .ok (.aload_n 0, 1) := by decide +kernel
theorem dX6_order_192 : decode cX6_order 192 = .ok (.getfield 35, 3) := by decide +kernel
theorem dX6_order_195 : decode cX6_order 195 = .ok (.iload 4, 2) := by decide +kernel
theorem dX6_order_197 : decode cX6_order 197 = .ok (.laload, 1) := by decide +kernel
theorem dX6_order_198 : decode cX6_order 198 = .ok (.lastore, 1) := by decide +kernel
theorem dX6_order_199 : decode cX6_order 199 = .ok (.iload_n 3, 1) := by decide +kernel
theorem dX6_order_200 : decode cX6_order 200 = .ok (.ifCond .eq 40, 3) := by decide +kernel
theorem dX6_order_203 : decode cX6_order 203 = .ok (.aload_n 0, 1) := by decide +kernel
theorem dX6_order_204 : decode cX6_order 204 = .ok (.getfield 29, 3) := by decide +kernel
theorem dX6_order_207 : decode cX6_order 207 = .ok (.iload 4, 2) := by decide +kernel
theorem dX6_order_209 : decode cX6_order 209 = .ok (.laload, 1) := by decide +kernel
theorem dX6_order_210 : decode cX6_order 210 = .ok (.iload 4, 2) := by decide +kernel
theorem dX6_order_212 : decode cX6_order 212 = .ok (.aload_n 0, 1) := by decide +kernel
theorem dX6_order_213 : decode cX6_order 213 = .ok (.invokevirtual 111, 3) := by decide +kernel
theorem dX6_order_216 : decode cX6_order 216 = .ok (.iconst 1, 1) := by decide +kernel
theorem dX6_order_217 : decode cX6_order 217 = .ok (.iadd, 1) := by decide +kernel
theorem dX6_order_218 : decode cX6_order 218 = .ok (.irem, 1) := by decide +kernel
theorem dX6_order_219 : decode cX6_order 219 = .ok (.ifCond .ne 12, 3) := by decide +kernel
theorem dX6_order_222 : decode cX6_order 222 = .ok (.aload_n 0, 1) := by decide +kernel
theorem dX6_order_223 : decode cX6_order 223 = .ok (.getfield 35, 3) := by decide +kernel
theorem dX6_order_226 : decode cX6_order 226 = .ok (.iconst 0, 1) := by decide +kernel
theorem dX6_order_227 : decode cX6_order 227 = .ok (.laload, 1) := by decide +kernel
theorem dX6_order_228 : decode cX6_order 228 = .ok (.goto 4, 3) := by decide +kernel
theorem dX6_order_231 : decode cX6_order 231 = .ok (.lconst 0, 1) := by decide +kernel
theorem dX6_order_232 : decode cX6_order 232 = .ok (.lcmp, 1) := by decide +kernel
theorem dX6_order_233 : decode cX6_order 233 = .ok (.ifCond .ne 7, 3) := by decide +kernel
theorem dX6_order_236 : decode cX6_order 236 = .ok (.iconst 1, 1) := by decide +kernel
theorem dX6_order_237 : decode cX6_order 237 = .ok (.goto 4, 3) := by decide +kernel
theorem dX6_order_240 : decode cX6_order 240 = .ok (.iconst 0, 1) := by decide +kernel
theorem dX6_order_241 : decode cX6_order 241 = .ok (.istore_n 3, 1) := by decide +kernel
theorem dX6_order_242 : decode cX6_order 242 = .ok (.iinc 4 1, 3) := by decide +kernel
theorem dX6_order_245 : decode cX6_order 245 = .ok (.goto (-74), 3) := by decide +kernel
theorem dX6_order_248 : decode cX6_order 248 = .ok (.iload_n 3, 1) := by decide +kernel
theorem dX6_order_249 : decode cX6_order 249 = .ok (.ifCond .eq 5, 3) := by decide +kernel
theorem dX6_order_252 : decode cX6_order 252 = .ok (.iload_n 2, 1) := by decide +kernel
theorem dX6_order_253 : decode cX6_order 253 = .ok (.ireturn, 1) := by decide +kernel
theorem dX6_order_254 : decode cX6_order 254 = .ok (.iinc 2 1, 3) := by decide +kernel
theorem dX6_order_257 : decode cX6_order 257 = .ok (.goto (-209), 3) := by decide +kernel
theorem dX6_order_260 : decode cX6_order 260 = .ok (.iconst (-1), 1) := by decide +kernel
theorem dX6_order_261 : decode cX6_order 261 = .ok (.ireturn, 1) := by decide +kernel
theorem dX6_pair_0 : decode cX6_pair 0 = .ok (.aload_n 0, 1) := by decide +kernel
theorem dX6_pair_1 : decode cX6_pair 1 = .ok (.iload_n 1, 1) := by decide +kernel
theorem dX6_pair_2 : decode cX6_pair 2 = .ok (.iconst 0, 1) := by decide +kernel
theorem dX6_pair_3 : decode cX6_pair 3 = .ok (.invokevirtual 146, 3) := by decide +kernel
theorem dX6_pair_6 : decode cX6_pair 6 = .ok (.ifCond .eq 12, 3) := by decide +kernel
theorem dX6_pair_9 : decode cX6_pair 9 = .ok (.aload_n 0, 1) := by decide +kernel
theorem dX6_pair_10 : decode cX6_pair 10 = .ok (.iload_n 2, 1) := by decide +kernel
theorem dX6_pair_11 : decode cX6_pair 11 = .ok (.iconst 0, 1) := by decide +kernel
theorem dX6_pair_12 : decode cX6_pair 12 = .ok (.invokevirtual 146, 3) := by decide +kernel
theorem dX6_pair_15 : decode cX6_pair 15 = .ok (.ifCond .ne 6, 3) := by decide +kernel
theorem dX6_pair_18 : decode cX6_pair 18 = .ok (.bipush (-2), 2) := by decide +kernel
theorem dX6_pair_20 : decode cX6_pair 20 = .ok (.ireturn, 1) := by decide +kernel
theorem dX6_pair_21 : decode cX6_pair 21 = .ok (.aload_n 0, 1) := by decide +kernel
theorem dX6_pair_22 : decode cX6_pair 22 = .ok (.getfield 70, 3) := by decide +kernel
theorem dX6_pair_25 : decode cX6_pair 25 = .ok (.aload_n 0, 1) := by decide +kernel
theorem dX6_pair_26 : decode cX6_pair 26 = .ok (.getfield 56, 3) := by decide +kernel
theorem dX6_pair_29 : decode cX6_pair 29 = .ok (.iconst 2, 1) := by decide +kernel
theorem dX6_pair_30 : decode cX6_pair 30 = .ok (.iadd, 1) := by decide +kernel
theorem dX6_pair_31 : decode cX6_pair 31 = .ok (.if_icmp .ne 6, 3) := by decide +kernel
theorem dX6_pair_34 : decode cX6_pair 34 = .ok (.bipush (-3), 2) := by decide +kernel
theorem dX6_pair_36 : decode cX6_pair 36 = .ok (.ireturn, 1) := by decide +kernel
theorem dX6_pair_37 : decode cX6_pair 37 = .ok (.aload_n 0, 1) := by decide +kernel
theorem dX6_pair_38 : decode cX6_pair 38 = .ok (.getfield 23, 3) := by decide +kernel
theorem dX6_pair_41 : decode cX6_pair 41 = .ok (.aload_n 0, 1) := by decide +kernel
theorem dX6_pair_42 : decode cX6_pair 42 = .ok (.getfield 70, 3) := by decide +kernel
theorem dX6_pair_45 : decode cX6_pair 45 = .ok (.iload_n 1, 1) := by decide +kernel
theorem dX6_pair_46 : decode cX6_pair 46 = .ok (.iastore, 1) := by decide +kernel
theorem dX6_pair_47 : decode cX6_pair 47 = .ok (.aload_n 0, 1) := by decide +kernel
theorem dX6_pair_48 : decode cX6_pair 48 = .ok (.getfield 26, 3) := by decide +kernel
theorem dX6_pair_51 : decode cX6_pair 51 = .ok (.aload_n 0, 1) := by decide +kernel
theorem dX6_pair_52 : decode cX6_pair 52 = .ok (.getfield 70, 3) := by decide +kernel
theorem dX6_pair_55 : decode cX6_pair 55 = .ok (.iload_n 2, 1) := by decide +kernel
theorem dX6_pair_56 : decode cX6_pair 56 = .ok (.iastore, 1) := by decide +kernel
theorem dX6_pair_57 : decode cX6_pair 57 = .ok (.aload_n 0, 1) := by decide +kernel
theorem dX6_pair_58 : decode cX6_pair 58 = .ok (.dup, 1) := by decide +kernel
theorem dX6_pair_59 : decode cX6_pair 59 = .ok (.getfield 70, 3) := by decide +kernel
theorem dX6_pair_62 : decode cX6_pair 62 = .ok (.iconst 1, 1) := by decide +kernel
theorem dX6_pair_63 : decode cX6_pair 63 = .ok (.iadd, 1) := by decide +kernel
theorem dX6_pair_64 : decode cX6_pair 64 = .ok (.putfield 70, 3) := by decide +kernel
theorem dX6_pair_67 : decode cX6_pair 67 = .ok (.aload_n 0, 1) := by decide +kernel
theorem dX6_pair_68 : decode cX6_pair 68 = .ok (.getfield 70, 3) := by decide +kernel
theorem dX6_pair_71 : decode cX6_pair 71 = .ok (.ireturn, 1) := by decide +kernel
theorem dX6_gather_0 : decode cX6_gather 0 = .ok (.aload_n 0, 1) := by decide +kernel
theorem dX6_gather_1 : decode cX6_gather 1 = .ok (.iload_n 1, 1) := by decide +kernel
theorem dX6_gather_2 : decode cX6_gather 2 = .ok (.iconst 0, 1) := by decide +kernel
theorem dX6_gather_3 : decode cX6_gather 3 = .ok (.invokevirtual 146, 3) := by decide +kernel
theorem dX6_gather_6 : decode cX6_gather 6 = .ok (.ifCond .ne 6, 3) := by decide +kernel
theorem dX6_gather_9 : decode cX6_gather 9 = .ok (.bipush (-2), 2) := by decide +kernel
theorem dX6_gather_11 : decode cX6_gather 11 = .ok (.ireturn, 1) := by decide +kernel
theorem dX6_gather_12 : decode cX6_gather 12 = .ok (.aload_n 0, 1) := by decide +kernel
theorem dX6_gather_13 : decode cX6_gather 13 = .ok (.getfield 67, 3) := by decide +kernel
theorem dX6_gather_16 : decode cX6_gather 16 = .ok (.bipush 9, 2) := by decide +kernel
theorem dX6_gather_18 : decode cX6_gather 18 = .ok (.if_icmp .ne 6, 3) := by decide +kernel
theorem dX6_gather_21 : decode cX6_gather 21 = .ok (.bipush (-3), 2) := by decide +kernel
theorem dX6_gather_23 : decode cX6_gather 23 = .ok (.ireturn, 1) := by decide +kernel
theorem dX6_gather_24 : decode cX6_gather 24 = .ok (.aload_n 0, 1) := by decide +kernel
theorem dX6_gather_25 : decode cX6_gather 25 = .ok (.getfield 20, 3) := by decide +kernel
theorem dX6_gather_28 : decode cX6_gather 28 = .ok (.aload_n 0, 1) := by decide +kernel
theorem dX6_gather_29 : decode cX6_gather 29 = .ok (.getfield 67, 3) := by decide +kernel
theorem dX6_gather_32 : decode cX6_gather 32 = .ok (.iload_n 1, 1) := by decide +kernel
theorem dX6_gather_33 : decode cX6_gather 33 = .ok (.iastore, 1) := by decide +kernel
theorem dX6_gather_34 : decode cX6_gather 34 = .ok (.aload_n 0, 1) := by decide +kernel
theorem dX6_gather_35 : decode cX6_gather 35 = .ok (.dup, 1) := by decide +kernel
theorem dX6_gather_36 : decode cX6_gather 36 = .ok (.getfield 67, 3) := by decide +kernel
theorem dX6_gather_39 : decode cX6_gather 39 = .ok (.iconst 1, 1) := by decide +kernel
theorem dX6_gather_40 : decode cX6_gather 40 = .ok (.iadd, 1) := by decide +kernel
theorem dX6_gather_41 : decode cX6_gather 41 = .ok (.putfield 67, 3) := by decide +kernel
theorem dX6_gather_44 : decode cX6_gather 44 = .ok (.aload_n 0, 1) := by decide +kernel
theorem dX6_gather_45 : decode cX6_gather 45 = .ok (.getfield 67, 3) := by decide +kernel
theorem dX6_gather_48 : decode cX6_gather 48 = .ok (.ireturn, 1) := by decide +kernel
theorem dX6_forget_0 : decode cX6_forget 0 = .ok (.aload_n 0, 1) := by decide +kernel
theorem dX6_forget_1 : decode cX6_forget 1 = .ok (.getfield 67, 3) := by decide +kernel
theorem dX6_forget_4 : decode cX6_forget 4 = .ok (.istore_n 1, 1) := by decide +kernel
theorem dX6_forget_5 : decode cX6_forget 5 = .ok (.aload_n 0, 1) := by decide +kernel
theorem dX6_forget_6 : decode cX6_forget 6 = .ok (.iconst 0, 1) := by decide +kernel
theorem dX6_forget_7 : decode cX6_forget 7 = .ok (.putfield 67, 3) := by decide +kernel
theorem dX6_forget_10 : decode cX6_forget 10 = .ok (.iload_n 1, 1) := by decide +kernel
theorem dX6_forget_11 : decode cX6_forget 11 = .ok (.ireturn, 1) := by decide +kernel
theorem dX6_conditions_0 : decode cX6_conditions 0 = .ok (.iconst 0, 1) := by decide +kernel
theorem dX6_conditions_1 : decode cX6_conditions 1 = .ok (.istore_n 1, 1) := by decide +kernel
theorem dX6_conditions_2 : decode cX6_conditions 2 = .ok (.iload_n 1, 1) := by decide +kernel
theorem dX6_conditions_3 : decode cX6_conditions 3 = .ok (.aload_n 0, 1) := by decide +kernel
theorem dX6_conditions_4 : decode cX6_conditions 4 = .ok (.getfield 67, 3) := by decide +kernel
theorem dX6_conditions_7 : decode cX6_conditions 7 = .ok (.if_icmp .ge 103, 3) := by decide +kernel
theorem dX6_conditions_10 : decode cX6_conditions 10 = .ok (.iconst 0, 1) := by decide +kernel
theorem dX6_conditions_11 : decode cX6_conditions 11 = .ok (.istore_n 2, 1) := by decide +kernel
theorem dX6_conditions_12 : decode cX6_conditions 12 = .ok (.iconst 0, 1) := by decide +kernel
theorem dX6_conditions_13 : decode cX6_conditions 13 = .ok (.istore_n 3, 1) := by decide +kernel
theorem dX6_conditions_14 : decode cX6_conditions 14 = .ok (.iload_n 3, 1) := by decide +kernel
theorem dX6_conditions_15 : decode cX6_conditions 15 = .ok (.aload_n 0, 1) := by decide +kernel
theorem dX6_conditions_16 : decode cX6_conditions 16 = .ok (.invokevirtual 111, 3) := by decide +kernel
theorem dX6_conditions_19 : decode cX6_conditions 19 = .ok (.if_icmp .ge 85, 3) := by decide +kernel
theorem dX6_conditions_22 : decode cX6_conditions 22 = .ok (.iload_n 3, 1) := by decide +kernel
theorem dX6_conditions_23 : decode cX6_conditions 23 = .ok (.istore 4, 2) := by decide +kernel
theorem dX6_conditions_25 : decode cX6_conditions 25 = .ok (.iload 4, 2) := by decide +kernel
theorem dX6_conditions_27 : decode cX6_conditions 27 = .ok (.aload_n 0, 1) := by decide +kernel
theorem dX6_conditions_28 : decode cX6_conditions 28 = .ok (.invokevirtual 111, 3) := by decide +kernel
theorem dX6_conditions_31 : decode cX6_conditions 31 = .ok (.if_icmp .ge 67, 3) := by decide +kernel
theorem dX6_conditions_34 : decode cX6_conditions 34 = .ok (.aload_n 0, 1) := by decide +kernel
theorem dX6_conditions_35 : decode cX6_conditions 35 = .ok (.aload_n 0, 1) := by decide +kernel
theorem dX6_conditions_36 : decode cX6_conditions 36 = .ok (.aload_n 0, 1) := by decide +kernel
theorem dX6_conditions_37 : decode cX6_conditions 37 = .ok (.getfield 20, 3) := by decide +kernel
theorem dX6_conditions_40 : decode cX6_conditions 40 = .ok (.iload_n 1, 1) := by decide +kernel
theorem dX6_conditions_41 : decode cX6_conditions 41 = .ok (.iaload, 1) := by decide +kernel
theorem dX6_conditions_42 : decode cX6_conditions 42 = .ok (.iload_n 3, 1) := by decide +kernel
theorem dX6_conditions_43 : decode cX6_conditions 43 = .ok (.invokevirtual 108, 3) := by decide +kernel
theorem dX6_conditions_46 : decode cX6_conditions 46 = .ok (.aload_n 0, 1) := by decide +kernel
theorem dX6_conditions_47 : decode cX6_conditions 47 = .ok (.aload_n 0, 1) := by decide +kernel
theorem dX6_conditions_48 : decode cX6_conditions 48 = .ok (.getfield 20, 3) := by decide +kernel
theorem dX6_conditions_51 : decode cX6_conditions 51 = .ok (.iload_n 1, 1) := by decide +kernel
theorem dX6_conditions_52 : decode cX6_conditions 52 = .ok (.iaload, 1) := by decide +kernel
theorem dX6_conditions_53 : decode cX6_conditions 53 = .ok (.iload 4, 2) := by decide +kernel
theorem dX6_conditions_55 : decode cX6_conditions 55 = .ok (.invokevirtual 108, 3) := by decide +kernel
theorem dX6_conditions_58 : decode cX6_conditions 58 = .ok (.invokevirtual 76, 3) := by decide +kernel
theorem dX6_conditions_61 : decode cX6_conditions 61 = .ok (.lstore 5, 2) := by decide +kernel
theorem dX6_conditions_63 : decode cX6_conditions 63 = .ok (.aload_n 0, 1) := by decide +kernel
theorem dX6_conditions_64 : decode cX6_conditions 64 = .ok (.iload_n 1, 1) := by decide +kernel
theorem dX6_conditions_65 : decode cX6_conditions 65 = .ok (.iload_n 2, 1) := by decide +kernel
theorem dX6_conditions_66 : decode cX6_conditions 66 = .ok (.iload_n 3, 1) := by decide +kernel
theorem dX6_conditions_67 : decode cX6_conditions 67 = .ok (.iload 4, 2) := by decide +kernel
theorem dX6_conditions_69 : decode cX6_conditions 69 = .ok (.if_icmp .ne 8, 3) := by decide +kernel
theorem dX6_conditions_72 : decode cX6_conditions 72 = .ok (.lload 5, 2) := by decide +kernel
theorem dX6_conditions_74 : decode cX6_conditions 74 = .ok (.goto 12, 3) := by decide +kernel
theorem dX6_conditions_77 : decode cX6_conditions 77 = .ok (.aload_n 0, 1) := by decide +kernel
theorem dX6_conditions_78 : decode cX6_conditions 78 = .ok (.ldc2_w 50, 3) := by decide +kernel
theorem dX6_conditions_81 : decode cX6_conditions 81 = .ok (.lload 5, 2) := by decide +kernel
theorem dX6_conditions_83 : decode cX6_conditions 83 = .ok (.invokevirtual 76, 3) := by decide +kernel
theorem dX6_conditions_86 : decode cX6_conditions 86 = .ok (.invokevirtual 101, 3) := by decide +kernel
theorem dX6_conditions_89 : decode cX6_conditions 89 = .ok (.iinc 2 1, 3) := by decide +kernel
theorem dX6_conditions_92 : decode cX6_conditions 92 = .ok (.iinc 4 1, 3) := by decide +kernel
theorem dX6_conditions_95 : decode cX6_conditions 95 = .ok (.goto (-70), 3) := by decide +kernel
theorem dX6_conditions_98 : decode cX6_conditions 98 = .ok (.iinc 3 1, 3) := by decide +kernel
theorem dX6_conditions_101 : decode cX6_conditions 101 = .ok (.goto (-87), 3) := by decide +kernel
theorem dX6_conditions_104 : decode cX6_conditions 104 = .ok (.iinc 1 1, 3) := by decide +kernel
theorem dX6_conditions_107 : decode cX6_conditions 107 = .ok (.goto (-105), 3) := by decide +kernel
theorem dX6_conditions_110 : decode cX6_conditions 110 = .ok (.aload_n 0, 1) := by decide +kernel
theorem dX6_conditions_111 : decode cX6_conditions 111 = .ok (.invokevirtual 111, 3) := by decide +kernel
theorem dX6_conditions_114 : decode cX6_conditions 114 = .ok (.aload_n 0, 1) := by decide +kernel
theorem dX6_conditions_115 : decode cX6_conditions 115 = .ok (.invokevirtual 111, 3) := by decide +kernel
theorem dX6_conditions_118 : decode cX6_conditions 118 = .ok (.iconst 1, 1) := by decide +kernel
theorem dX6_conditions_119 : decode cX6_conditions 119 = .ok (.iadd, 1) := by decide +kernel
theorem dX6_conditions_120 : decode cX6_conditions 120 = .ok (.imul, 1) := by decide +kernel
theorem dX6_conditions_121 : decode cX6_conditions 121 = .ok (.iconst 2, 1) := by decide +kernel
theorem dX6_conditions_122 : decode cX6_conditions 122 = .ok (.idiv, 1) := by decide +kernel
theorem dX6_conditions_123 : decode cX6_conditions 123 = .ok (.istore_n 1, 1) := by decide +kernel
theorem dX6_conditions_124 : decode cX6_conditions 124 = .ok (.aload_n 0, 1) := by decide +kernel
theorem dX6_conditions_125 : decode cX6_conditions 125 = .ok (.aload_n 0, 1) := by decide +kernel
theorem dX6_conditions_126 : decode cX6_conditions 126 = .ok (.getfield 67, 3) := by decide +kernel
theorem dX6_conditions_129 : decode cX6_conditions 129 = .ok (.iload_n 1, 1) := by decide +kernel
theorem dX6_conditions_130 : decode cX6_conditions 130 = .ok (.iload_n 1, 1) := by decide +kernel
theorem dX6_conditions_131 : decode cX6_conditions 131 = .ok (.invokevirtual 115, 3) := by decide +kernel
theorem dX6_conditions_134 : decode cX6_conditions 134 = .ok (.ireturn, 1) := by decide +kernel
theorem dX6_quadric_0 : decode cX6_quadric 0 = .ok (.aload_n 0, 1) := by decide +kernel
theorem dX6_quadric_1 : decode cX6_quadric 1 = .ok (.invokevirtual 111, 3) := by decide +kernel
theorem dX6_quadric_4 : decode cX6_quadric 4 = .ok (.aload_n 0, 1) := by decide +kernel
theorem dX6_quadric_5 : decode cX6_quadric 5 = .ok (.invokevirtual 111, 3) := by decide +kernel
theorem dX6_quadric_8 : decode cX6_quadric 8 = .ok (.iconst 1, 1) := by decide +kernel
theorem dX6_quadric_9 : decode cX6_quadric 9 = .ok (.iadd, 1) := by decide +kernel
theorem dX6_quadric_10 : decode cX6_quadric 10 = .ok (.imul, 1) := by decide +kernel
theorem dX6_quadric_11 : decode cX6_quadric 11 = .ok (.iconst 2, 1) := by decide +kernel
theorem dX6_quadric_12 : decode cX6_quadric 12 = .ok (.idiv, 1) := by decide +kernel
theorem dX6_quadric_13 : decode cX6_quadric 13 = .ok (.istore_n 1, 1) := by decide +kernel
theorem dX6_quadric_14 : decode cX6_quadric 14 = .ok (.aload_n 0, 1) := by decide +kernel
theorem dX6_quadric_15 : decode cX6_quadric 15 = .ok (.invokevirtual 250, 3) := by decide +kernel
theorem dX6_quadric_18 : decode cX6_quadric 18 = .ok (.iload_n 1, 1) := by decide +kernel
theorem dX6_quadric_19 : decode cX6_quadric 19 = .ok (.iconst 1, 1) := by decide +kernel
theorem dX6_quadric_20 : decode cX6_quadric 20 = .ok (.isub, 1) := by decide +kernel
theorem dX6_quadric_21 : decode cX6_quadric 21 = .ok (.if_icmp .eq 5, 3) := by decide +kernel
theorem dX6_quadric_24 : decode cX6_quadric 24 = .ok (.iconst (-1), 1) := by decide +kernel
theorem dX6_quadric_25 : decode cX6_quadric 25 = .ok (.ireturn, 1) := by decide +kernel
theorem dX6_quadric_26 : decode cX6_quadric 26 = .ok (.iconst 0, 1) := by decide +kernel
theorem dX6_quadric_27 : decode cX6_quadric 27 = .ok (.istore_n 2, 1) := by decide +kernel
theorem dX6_quadric_28 : decode cX6_quadric 28 = .ok (.iload_n 2, 1) := by decide +kernel
theorem dX6_quadric_29 : decode cX6_quadric 29 = .ok (.iload_n 1, 1) := by decide +kernel
theorem dX6_quadric_30 : decode cX6_quadric 30 = .ok (.iconst 1, 1) := by decide +kernel
theorem dX6_quadric_31 : decode cX6_quadric 31 = .ok (.isub, 1) := by decide +kernel
theorem dX6_quadric_32 : decode cX6_quadric 32 = .ok (.if_icmp .ge 20, 3) := by decide +kernel
theorem dX6_quadric_35 : decode cX6_quadric 35 = .ok (.aload_n 0, 1) := by decide +kernel
theorem dX6_quadric_36 : decode cX6_quadric 36 = .ok (.iload_n 2, 1) := by decide +kernel
theorem dX6_quadric_37 : decode cX6_quadric 37 = .ok (.iload_n 2, 1) := by decide +kernel
theorem dX6_quadric_38 : decode cX6_quadric 38 = .ok (.invokevirtual 94, 3) := by decide +kernel
theorem dX6_quadric_41 : decode cX6_quadric 41 = .ok (.lconst 1, 1) := by decide +kernel
theorem dX6_quadric_42 : decode cX6_quadric 42 = .ok (.lcmp, 1) := by decide +kernel
theorem dX6_quadric_43 : decode cX6_quadric 43 = .ok (.ifCond .ne 9, 3) := by decide +kernel
theorem dX6_quadric_46 : decode cX6_quadric 46 = .ok (.iinc 2 1, 3) := by decide +kernel
theorem dX6_quadric_49 : decode cX6_quadric 49 = .ok (.goto (-21), 3) := by decide +kernel
theorem dX6_quadric_52 : decode cX6_quadric 52 = .ok (.aload_n 0, 1) := by decide +kernel
theorem dX6_quadric_53 : decode cX6_quadric 53 = .ok (.invokevirtual 136, 3) := by decide +kernel
theorem dX6_quadric_56 : decode cX6_quadric 56 = .ok (.iconst 0, 1) := by decide +kernel
theorem dX6_quadric_57 : decode cX6_quadric 57 = .ok (.istore_n 3, 1) := by decide +kernel
theorem dX6_quadric_58 : decode cX6_quadric 58 = .ok (.iconst 0, 1) := by decide +kernel
theorem dX6_quadric_59 : decode cX6_quadric 59 = .ok (.istore 4, 2) := by decide +kernel
theorem dX6_quadric_61 : decode cX6_quadric 61 = .ok (.iload 4, 2) := by decide +kernel
theorem dX6_quadric_63 : decode cX6_quadric 63 = .ok (.aload_n 0, 1) := by decide +kernel
theorem dX6_quadric_64 : decode cX6_quadric 64 = .ok (.invokevirtual 111, 3) := by decide +kernel
theorem dX6_quadric_67 : decode cX6_quadric 67 = .ok (.if_icmp .ge 96, 3) := by decide +kernel
theorem dX6_quadric_70 : decode cX6_quadric 70 = .ok (.iload 4, 2) := by decide +kernel
theorem dX6_quadric_72 : decode cX6_quadric 72 = .ok (.istore 5, 2) := by decide +kernel
theorem dX6_quadric_74 : decode cX6_quadric 74 = .ok (.iload 5, 2) := by decide +kernel
theorem dX6_quadric_76 : decode cX6_quadric 76 = .ok (.aload_n 0, 1) := by decide +kernel
theorem dX6_quadric_77 : decode cX6_quadric 77 = .ok (.invokevirtual 111, 3) := by decide +kernel
theorem dX6_quadric_80 : decode cX6_quadric 80 = .ok (.if_icmp .ge 77, 3) := by decide +kernel
theorem dX6_quadric_83 : decode cX6_quadric 83 = .ok (.iload_n 3, 1) := by decide +kernel
theorem dX6_quadric_84 : decode cX6_quadric 84 = .ok (.iload_n 2, 1) := by decide +kernel
theorem dX6_quadric_85 : decode cX6_quadric 85 = .ok (.if_icmp .ne 7, 3) := by decide +kernel
theorem dX6_quadric_88 : decode cX6_quadric 88 = .ok (.lconst 1, 1) := by decide +kernel
theorem dX6_quadric_89 : decode cX6_quadric 89 = .ok (.goto 23, 3) := by decide +kernel
theorem dX6_quadric_92 : decode cX6_quadric 92 = .ok (.iload_n 3, 1) := by decide +kernel
theorem dX6_quadric_93 : decode cX6_quadric 93 = .ok (.iload_n 2, 1) := by decide +kernel
theorem dX6_quadric_94 : decode cX6_quadric 94 = .ok (.if_icmp .ge 17, 3) := by decide +kernel
theorem dX6_quadric_97 : decode cX6_quadric 97 = .ok (.aload_n 0, 1) := by decide +kernel
theorem dX6_quadric_98 : decode cX6_quadric 98 = .ok (.lconst 0, 1) := by decide +kernel
theorem dX6_quadric_99 : decode cX6_quadric 99 = .ok (.aload_n 0, 1) := by decide +kernel
theorem dX6_quadric_100 : decode cX6_quadric 100 = .ok (.iload_n 3, 1) := by decide +kernel
theorem dX6_quadric_101 : decode cX6_quadric 101 = .ok (.iload_n 2, 1) := by decide +kernel
theorem dX6_quadric_102 : decode cX6_quadric 102 = .ok (.invokevirtual 94, 3) := by decide +kernel
