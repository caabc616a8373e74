theorem dX6_quadric_105 : decode cX6_quadric 105 = .ok (.invokevirtual 105, 3) := by decide +kernel
theorem dX6_quadric_108 : decode cX6_quadric 108 = .ok (.goto 4, 3) := by decide +kernel
theorem dX6_quadric_111 : decode cX6_quadric 111 = .ok (.lconst 0, 1) := by decide +kernel
theorem dX6_quadric_112 : decode cX6_quadric 112 = .ok (.lstore 6, 2) := by decide +kernel
theorem dX6_quadric_114 : decode cX6_quadric 114 = .ok (.aload_n 0, 1) := by decide +kernel
theorem dX6_quadric_115 : decode cX6_quadric 115 = .ok (.getfield 29, 3) := by decide +kernel
theorem dX6_quadric_118 : decode cX6_quadric 118 = .ok (.iload 4, 2) := by decide +kernel
theorem dX6_quadric_120 : decode cX6_quadric 120 = .ok (.aload_n 0, 1) := by decide +kernel
theorem dX6_quadric_121 : decode cX6_quadric 121 = .ok (.invokevirtual 111, 3) := by decide +kernel
theorem dX6_quadric_124 : decode cX6_quadric 124 = .ok (.imul, 1) := by decide +kernel
theorem dX6_quadric_125 : decode cX6_quadric 125 = .ok (.iload 5, 2) := by decide +kernel
theorem dX6_quadric_127 : decode cX6_quadric 127 = .ok (.iadd, 1) := by decide +kernel
theorem dX6_quadric_128 : decode cX6_quadric 128 = .ok (.lload 6, 2) := by decide +kernel
theorem dX6_quadric_130 : decode cX6_quadric 130 = .ok (.lastore, 1) := by decide +kernel
theorem dX6_quadric_131 : decode cX6_quadric 131 = .ok (.aload_n 0, 1) := by decide +kernel
theorem dX6_quadric_132 : decode cX6_quadric 132 = .ok (.getfield 29, 3) := by decide +kernel
theorem dX6_quadric_135 : decode cX6_quadric 135 = .ok (.iload 5, 2) := by decide +kernel
theorem dX6_quadric_137 : decode cX6_quadric 137 = .ok (.aload_n 0, 1) := by decide +kernel
theorem dX6_quadric_138 : decode cX6_quadric 138 = .ok (.invokevirtual 111, 3) := by decide +kernel
theorem dX6_quadric_141 : decode cX6_quadric 141 = .ok (.imul, 1) := by decide +kernel
theorem dX6_quadric_142 : decode cX6_quadric 142 = .ok (.iload 4, 2) := by decide +kernel
theorem dX6_quadric_144 : decode cX6_quadric 144 = .ok (.iadd, 1) := by decide +kernel
theorem dX6_quadric_145 : decode cX6_quadric 145 = .ok (.lload 6, 2) := by decide +kernel
theorem dX6_quadric_147 : decode cX6_quadric 147 = .ok (.lastore, 1) := by decide +kernel
theorem dX6_quadric_148 : decode cX6_quadric 148 = .ok (.iinc 3 1, 3) := by decide +kernel
theorem dX6_quadric_151 : decode cX6_quadric 151 = .ok (.iinc 5 1, 3) := by decide +kernel
theorem dX6_quadric_154 : decode cX6_quadric 154 = .ok (.goto (-80), 3) := by decide +kernel
theorem dX6_quadric_157 : decode cX6_quadric 157 = .ok (.iinc 4 1, 3) := by decide +kernel
theorem dX6_quadric_160 : decode cX6_quadric 160 = .ok (.goto (-99), 3) := by decide +kernel
theorem dX6_quadric_163 : decode cX6_quadric 163 = .ok (.aload_n 0, 1) := by decide +kernel
theorem dX6_quadric_164 : decode cX6_quadric 164 = .ok (.iconst 4, 1) := by decide +kernel
theorem dX6_quadric_165 : decode cX6_quadric 165 = .ok (.invokevirtual 133, 3) := by decide +kernel
theorem dX6_quadric_168 : decode cX6_quadric 168 = .ok (.ireturn, 1) := by decide +kernel
theorem dX6_rank_0 : decode cX6_rank 0 = .ok (.aload_n 0, 1) := by decide +kernel
theorem dX6_rank_1 : decode cX6_rank 1 = .ok (.iload_n 1, 1) := by decide +kernel
theorem dX6_rank_2 : decode cX6_rank 2 = .ok (.iconst 4, 1) := by decide +kernel
theorem dX6_rank_3 : decode cX6_rank 3 = .ok (.invokevirtual 146, 3) := by decide +kernel
theorem dX6_rank_6 : decode cX6_rank 6 = .ok (.ifCond .eq 11, 3) := by decide +kernel
theorem dX6_rank_9 : decode cX6_rank 9 = .ok (.aload_n 0, 1) := by decide +kernel
theorem dX6_rank_10 : decode cX6_rank 10 = .ok (.iload_n 1, 1) := by decide +kernel
theorem dX6_rank_11 : decode cX6_rank 11 = .ok (.invokevirtual 253, 3) := by decide +kernel
theorem dX6_rank_14 : decode cX6_rank 14 = .ok (.goto 5, 3) := by decide +kernel
theorem dX6_rank_17 : decode cX6_rank 17 = .ok (.bipush (-2), 2) := by decide +kernel
theorem dX6_rank_19 : decode cX6_rank 19 = .ok (.ireturn, 1) := by decide +kernel
theorem dX6_polar_0 : decode cX6_polar 0 = .ok (.aload_n 0, 1) := by decide +kernel
theorem dX6_polar_1 : decode cX6_polar 1 = .ok (.iload_n 1, 1) := by decide +kernel
theorem dX6_polar_2 : decode cX6_polar 2 = .ok (.iconst 4, 1) := by decide +kernel
theorem dX6_polar_3 : decode cX6_polar 3 = .ok (.invokevirtual 146, 3) := by decide +kernel
theorem dX6_polar_6 : decode cX6_polar 6 = .ok (.ifCond .eq 39, 3) := by decide +kernel
theorem dX6_polar_9 : decode cX6_polar 9 = .ok (.aload_n 0, 1) := by decide +kernel
theorem dX6_polar_10 : decode cX6_polar 10 = .ok (.iload_n 2, 1) := by decide +kernel
theorem dX6_polar_11 : decode cX6_polar 11 = .ok (.invokevirtual 119, 3) := by decide +kernel
theorem dX6_polar_14 : decode cX6_polar 14 = .ok (.ifCond .eq 31, 3) := by decide +kernel
theorem dX6_polar_17 : decode cX6_polar 17 = .ok (.aload_n 0, 1) := by decide +kernel
theorem dX6_polar_18 : decode cX6_polar 18 = .ok (.getfield 7, 3) := by decide +kernel
theorem dX6_polar_21 : decode cX6_polar 21 = .ok (.iload_n 2, 1) := by decide +kernel
theorem dX6_polar_22 : decode cX6_polar 22 = .ok (.iaload, 1) := by decide +kernel
theorem dX6_polar_23 : decode cX6_polar 23 = .ok (.iconst 2, 1) := by decide +kernel
theorem dX6_polar_24 : decode cX6_polar 24 = .ok (.if_icmp .gt 21, 3) := by decide +kernel
theorem dX6_polar_27 : decode cX6_polar 27 = .ok (.aload_n 0, 1) := by decide +kernel
theorem dX6_polar_28 : decode cX6_polar 28 = .ok (.getfield 56, 3) := by decide +kernel
theorem dX6_polar_31 : decode cX6_polar 31 = .ok (.iconst 3, 1) := by decide +kernel
theorem dX6_polar_32 : decode cX6_polar 32 = .ok (.if_icmp .ne 16, 3) := by decide +kernel
theorem dX6_polar_35 : decode cX6_polar 35 = .ok (.aload_n 0, 1) := by decide +kernel
theorem dX6_polar_36 : decode cX6_polar 36 = .ok (.getfield 7, 3) := by decide +kernel
theorem dX6_polar_39 : decode cX6_polar 39 = .ok (.iload_n 2, 1) := by decide +kernel
theorem dX6_polar_40 : decode cX6_polar 40 = .ok (.iaload, 1) := by decide +kernel
theorem dX6_polar_41 : decode cX6_polar 41 = .ok (.iconst 1, 1) := by decide +kernel
theorem dX6_polar_42 : decode cX6_polar 42 = .ok (.if_icmp .ne 6, 3) := by decide +kernel
theorem dX6_polar_45 : decode cX6_polar 45 = .ok (.bipush (-2), 2) := by decide +kernel
theorem dX6_polar_47 : decode cX6_polar 47 = .ok (.ireturn, 1) := by decide +kernel
theorem dX6_polar_48 : decode cX6_polar 48 = .ok (.aload_n 0, 1) := by decide +kernel
theorem dX6_polar_49 : decode cX6_polar 49 = .ok (.getfield 7, 3) := by decide +kernel
theorem dX6_polar_52 : decode cX6_polar 52 = .ok (.iload_n 2, 1) := by decide +kernel
theorem dX6_polar_53 : decode cX6_polar 53 = .ok (.iaload, 1) := by decide +kernel
theorem dX6_polar_54 : decode cX6_polar 54 = .ok (.ifCond .eq 7, 3) := by decide +kernel
theorem dX6_polar_57 : decode cX6_polar 57 = .ok (.iconst 1, 1) := by decide +kernel
theorem dX6_polar_58 : decode cX6_polar 58 = .ok (.goto 4, 3) := by decide +kernel
theorem dX6_polar_61 : decode cX6_polar 61 = .ok (.iconst 0, 1) := by decide +kernel
theorem dX6_polar_62 : decode cX6_polar 62 = .ok (.istore_n 3, 1) := by decide +kernel
theorem dX6_polar_63 : decode cX6_polar 63 = .ok (.iload_n 3, 1) := by decide +kernel
theorem dX6_polar_64 : decode cX6_polar 64 = .ok (.ifCond .eq 13, 3) := by decide +kernel
theorem dX6_polar_67 : decode cX6_polar 67 = .ok (.aload_n 0, 1) := by decide +kernel
theorem dX6_polar_68 : decode cX6_polar 68 = .ok (.iload_n 1, 1) := by decide +kernel
theorem dX6_polar_69 : decode cX6_polar 69 = .ok (.invokevirtual 240, 3) := by decide +kernel
theorem dX6_polar_72 : decode cX6_polar 72 = .ok (.ifCond .ne 5, 3) := by decide +kernel
theorem dX6_polar_75 : decode cX6_polar 75 = .ok (.iconst (-1), 1) := by decide +kernel
theorem dX6_polar_76 : decode cX6_polar 76 = .ok (.ireturn, 1) := by decide +kernel
theorem dX6_polar_77 : decode cX6_polar 77 = .ok (.aload_n 0, 1) := by decide +kernel
theorem dX6_polar_78 : decode cX6_polar 78 = .ok (.invokevirtual 136, 3) := by decide +kernel
theorem dX6_polar_81 : decode cX6_polar 81 = .ok (.iconst 0, 1) := by decide +kernel
theorem dX6_polar_82 : decode cX6_polar 82 = .ok (.istore 4, 2) := by decide +kernel
theorem dX6_polar_84 : decode cX6_polar 84 = .ok (.iload 4, 2) := by decide +kernel
theorem dX6_polar_86 : decode cX6_polar 86 = .ok (.aload_n 0, 1) := by decide +kernel
theorem dX6_polar_87 : decode cX6_polar 87 = .ok (.invokevirtual 111, 3) := by decide +kernel
theorem dX6_polar_90 : decode cX6_polar 90 = .ok (.if_icmp .ge 95, 3) := by decide +kernel
theorem dX6_polar_93 : decode cX6_polar 93 = .ok (.iconst 0, 1) := by decide +kernel
theorem dX6_polar_94 : decode cX6_polar 94 = .ok (.istore 5, 2) := by decide +kernel
theorem dX6_polar_96 : decode cX6_polar 96 = .ok (.iload 5, 2) := by decide +kernel
theorem dX6_polar_98 : decode cX6_polar 98 = .ok (.aload_n 0, 1) := by decide +kernel
theorem dX6_polar_99 : decode cX6_polar 99 = .ok (.invokevirtual 111, 3) := by decide +kernel
theorem dX6_polar_102 : decode cX6_polar 102 = .ok (.if_icmp .ge 77, 3) := by decide +kernel
theorem dX6_polar_105 : decode cX6_polar 105 = .ok (.aload_n 0, 1) := by decide +kernel
theorem dX6_polar_106 : decode cX6_polar 106 = .ok (.getfield 29, 3) := by decide +kernel
theorem dX6_polar_109 : decode cX6_polar 109 = .ok (.iload 4, 2) := by decide +kernel
theorem dX6_polar_111 : decode cX6_polar 111 = .ok (.aload_n 0, 1) := by decide +kernel
theorem dX6_polar_112 : decode cX6_polar 112 = .ok (.getfield 29, 3) := by decide +kernel
theorem dX6_polar_115 : decode cX6_polar 115 = .ok (.iload 4, 2) := by decide +kernel
theorem dX6_polar_117 : decode cX6_polar 117 = .ok (.laload, 1) := by decide +kernel
theorem dX6_polar_118 : decode cX6_polar 118 = .ok (.aload_n 0, 1) := by decide +kernel
theorem dX6_polar_119 : decode cX6_polar 119 = .ok (.iload_n 3, 1) := by decide +kernel
theorem dX6_polar_120 : decode cX6_polar 120 = .ok (.ifCond .eq 21, 3) := by decide +kernel
theorem dX6_polar_123 : decode cX6_polar 123 = .ok (.aload_n 0, 1) := by decide +kernel
theorem dX6_polar_124 : decode cX6_polar 124 = .ok (.getfield 41, 3) := by decide +kernel
theorem dX6_polar_127 : decode cX6_polar 127 = .ok (.iload 4, 2) := by decide +kernel
theorem dX6_polar_129 : decode cX6_polar 129 = .ok (.aload_n 0, 1) := by decide +kernel
theorem dX6_polar_130 : decode cX6_polar 130 = .ok (.invokevirtual 111, 3) := by decide +kernel
theorem dX6_polar_133 : decode cX6_polar 133 = .ok (.imul, 1) := by decide +kernel
theorem dX6_polar_134 : decode cX6_polar 134 = .ok (.iload 5, 2) := by decide +kernel
theorem dX6_polar_136 : decode cX6_polar 136 = .ok (.iadd, 1) := by decide +kernel
theorem dX6_polar_137 : decode cX6_polar 137 = .ok (.laload, 1) := by decide +kernel
theorem dX6_polar_138 : decode cX6_polar 138 = .ok (.goto 18, 3) := by decide +kernel
theorem dX6_polar_141 : decode cX6_polar 141 = .ok (.aload_n 0, 1) := by decide +kernel
theorem dX6_polar_142 : decode cX6_polar 142 = .ok (.iload_n 1, 1) := by decide +kernel
theorem dX6_polar_143 : decode cX6_polar 143 = .ok (.iload 4, 2) := by decide +kernel
theorem dX6_polar_145 : decode cX6_polar 145 = .ok (.aload_n 0, 1) := by decide +kernel
theorem dX6_polar_146 : decode cX6_polar 146 = .ok (.invokevirtual 111, 3) := by decide +kernel
theorem dX6_polar_149 : decode cX6_polar 149 = .ok (.imul, 1) := by decide +kernel
theorem dX6_polar_150 : decode cX6_polar 150 = .ok (.iload 5, 2) := by decide +kernel
theorem dX6_polar_152 : decode cX6_polar 152 = .ok (.iadd, 1) := by decide +kernel
theorem dX6_polar_153 : decode cX6_polar 153 = .ok (.invokevirtual 108, 3) := by decide +kernel
theorem dX6_polar_156 : decode cX6_polar 156 = .ok (.aload_n 0, 1) := by decide +kernel
theorem dX6_polar_157 : decode cX6_polar 157 = .ok (.iload_n 2, 1) := by decide +kernel
theorem dX6_polar_158 : decode cX6_polar 158 = .ok (.iload 5, 2) := by decide +kernel
theorem dX6_polar_160 : decode cX6_polar 160 = .ok (.invokevirtual 108, 3) := by decide +kernel
theorem dX6_polar_163 : decode cX6_polar 163 = .ok (.invokevirtual 76, 3) := by decide +kernel
theorem dX6_polar_166 : decode cX6_polar 166 = .ok (.ladd, 1) := by decide +kernel
theorem dX6_polar_167 : decode cX6_polar 167 = .ok (.aload_n 0, 1) := by decide +kernel
theorem dX6_polar_168 : decode cX6_polar 168 = .ok (.getfield 60, 3) := by decide +kernel
theorem dX6_polar_171 : decode cX6_polar 171 = .ok (.lrem, 1) := by decide +kernel
theorem dX6_polar_172 : decode cX6_polar 172 = .ok (.lastore, 1) := by decide +kernel
theorem dX6_polar_173 : decode cX6_polar 173 = .ok (.iinc 5 1, 3) := by decide +kernel
theorem dX6_polar_176 : decode cX6_polar 176 = .ok (.goto (-80), 3) := by decide +kernel
theorem dX6_polar_179 : decode cX6_polar 179 = .ok (.iinc 4 1, 3) := by decide +kernel
theorem dX6_polar_182 : decode cX6_polar 182 = .ok (.goto (-98), 3) := by decide +kernel
theorem dX6_polar_185 : decode cX6_polar 185 = .ok (.aload_n 0, 1) := by decide +kernel
theorem dX6_polar_186 : decode cX6_polar 186 = .ok (.iload_n 3, 1) := by decide +kernel
theorem dX6_polar_187 : decode cX6_polar 187 = .ok (.ifCond .eq 7, 3) := by decide +kernel
theorem dX6_polar_190 : decode cX6_polar 190 = .ok (.iconst 0, 1) := by decide +kernel
theorem dX6_polar_191 : decode cX6_polar 191 = .ok (.goto 16, 3) := by decide +kernel
theorem dX6_polar_194 : decode cX6_polar 194 = .ok (.aload_n 0, 1) := by decide +kernel
theorem dX6_polar_195 : decode cX6_polar 195 = .ok (.getfield 56, 3) := by decide +kernel
theorem dX6_polar_198 : decode cX6_polar 198 = .ok (.iconst 2, 1) := by decide +kernel
theorem dX6_polar_199 : decode cX6_polar 199 = .ok (.if_icmp .ne 7, 3) := by decide +kernel
theorem dX6_polar_202 : decode cX6_polar 202 = .ok (.iconst 1, 1) := by decide +kernel
theorem dX6_polar_203 : decode cX6_polar 203 = .ok (.goto 4, 3) := by decide +kernel
theorem dX6_polar_206 : decode cX6_polar 206 = .ok (.iconst 2, 1) := by decide +kernel
theorem dX6_polar_207 : decode cX6_polar 207 = .ok (.invokevirtual 168, 3) := by decide +kernel
theorem dX6_polar_210 : decode cX6_polar 210 = .ok (.ireturn, 1) := by decide +kernel
theorem dX6_forms_0 : decode cX6_forms 0 = .ok (.aload_n 0, 1) := by decide +kernel
theorem dX6_forms_1 : decode cX6_forms 1 = .ok (.iload_n 2, 1) := by decide +kernel
theorem dX6_forms_2 : decode cX6_forms 2 = .ok (.invokevirtual 171, 3) := by decide +kernel
theorem dX6_forms_5 : decode cX6_forms 5 = .ok (.aload_n 0, 1) := by decide +kernel
theorem dX6_forms_6 : decode cX6_forms 6 = .ok (.aload_n 0, 1) := by decide +kernel
theorem dX6_forms_7 : decode cX6_forms 7 = .ok (.iload_n 1, 1) := by decide +kernel
theorem dX6_forms_8 : decode cX6_forms 8 = .ok (.iconst 1, 1) := by decide +kernel
theorem dX6_forms_9 : decode cX6_forms 9 = .ok (.iconst 1, 1) := by decide +kernel
theorem dX6_forms_10 : decode cX6_forms 10 = .ok (.invokevirtual 187, 3) := by decide +kernel
theorem dX6_forms_13 : decode cX6_forms 13 = .ok (.putfield 256, 3) := by decide +kernel
theorem dX6_forms_16 : decode cX6_forms 16 = .ok (.aload_n 0, 1) := by decide +kernel
theorem dX6_forms_17 : decode cX6_forms 17 = .ok (.aload_n 0, 1) := by decide +kernel
theorem dX6_forms_18 : decode cX6_forms 18 = .ok (.iload_n 1, 1) := by decide +kernel
theorem dX6_forms_19 : decode cX6_forms 19 = .ok (.iconst 1, 1) := by decide +kernel
theorem dX6_forms_20 : decode cX6_forms 20 = .ok (.iconst 0, 1) := by decide +kernel
theorem dX6_forms_21 : decode cX6_forms 21 = .ok (.invokevirtual 187, 3) := by decide +kernel
theorem dX6_forms_24 : decode cX6_forms 24 = .ok (.putfield 259, 3) := by decide +kernel
theorem dX6_forms_27 : decode cX6_forms 27 = .ok (.aload_n 0, 1) := by decide +kernel
theorem dX6_forms_28 : decode cX6_forms 28 = .ok (.aload_n 0, 1) := by decide +kernel
theorem dX6_forms_29 : decode cX6_forms 29 = .ok (.iload_n 1, 1) := by decide +kernel
theorem dX6_forms_30 : decode cX6_forms 30 = .ok (.iconst 0, 1) := by decide +kernel
theorem dX6_forms_31 : decode cX6_forms 31 = .ok (.iconst 0, 1) := by decide +kernel
theorem dX6_forms_32 : decode cX6_forms 32 = .ok (.invokevirtual 187, 3) := by decide +kernel
theorem dX6_forms_35 : decode cX6_forms 35 = .ok (.putfield 262, 3) := by decide +kernel
theorem dX6_forms_38 : decode cX6_forms 38 = .ok (.return_, 1) := by decide +kernel
theorem dX6_many_0 : decode cX6_many 0 = .ok (.aload_n 0, 1) := by decide +kernel
theorem dX6_many_1 : decode cX6_many 1 = .ok (.getfield 256, 3) := by decide +kernel
theorem dX6_many_4 : decode cX6_many 4 = .ok (.lconst 0, 1) := by decide +kernel
theorem dX6_many_5 : decode cX6_many 5 = .ok (.lcmp, 1) := by decide +kernel
theorem dX6_many_6 : decode cX6_many 6 = .ok (.ifCond .ne 28, 3) := by decide +kernel
theorem dX6_many_9 : decode cX6_many 9 = .ok (.aload_n 0, 1) := by decide +kernel
theorem dX6_many_10 : decode cX6_many 10 = .ok (.getfield 259, 3) := by decide +kernel
theorem dX6_many_13 : decode cX6_many 13 = .ok (.lconst 0, 1) := by decide +kernel
theorem dX6_many_14 : decode cX6_many 14 = .ok (.lcmp, 1) := by decide +kernel
theorem dX6_many_15 : decode cX6_many 15 = .ok (.ifCond .ne 19, 3) := by decide +kernel
theorem dX6_many_18 : decode cX6_many 18 = .ok (.aload_n 0, 1) := by decide +kernel
theorem dX6_many_19 : decode cX6_many 19 = .ok (.getfield 262, 3) := by decide +kernel
theorem dX6_many_22 : decode cX6_many 22 = .ok (.lconst 0, 1) := by decide +kernel
theorem dX6_many_23 : decode cX6_many 23 = .ok (.lcmp, 1) := by decide +kernel
theorem dX6_many_24 : decode cX6_many 24 = .ok (.ifCond .ne 10, 3) := by decide +kernel
theorem dX6_many_27 : decode cX6_many 27 = .ok (.aload_n 0, 1) := by decide +kernel
theorem dX6_many_28 : decode cX6_many 28 = .ok (.getfield 60, 3) := by decide +kernel
theorem dX6_many_31 : decode cX6_many 31 = .ok (.lconst 1, 1) := by decide +kernel
theorem dX6_many_32 : decode cX6_many 32 = .ok (.ladd, 1) := by decide +kernel
theorem dX6_many_33 : decode cX6_many 33 = .ok (.lreturn, 1) := by decide +kernel
theorem dX6_many_34 : decode cX6_many 34 = .ok (.aload_n 0, 1) := by decide +kernel
theorem dX6_many_35 : decode cX6_many 35 = .ok (.getfield 262, 3) := by decide +kernel
theorem dX6_many_38 : decode cX6_many 38 = .ok (.lconst 0, 1) := by decide +kernel
theorem dX6_many_39 : decode cX6_many 39 = .ok (.lcmp, 1) := by decide +kernel
theorem dX6_many_40 : decode cX6_many 40 = .ok (.ifCond .ne 20, 3) := by decide +kernel
theorem dX6_many_43 : decode cX6_many 43 = .ok (.aload_n 0, 1) := by decide +kernel
theorem dX6_many_44 : decode cX6_many 44 = .ok (.getfield 259, 3) := by decide +kernel
theorem dX6_many_47 : decode cX6_many 47 = .ok (.lconst 0, 1) := by decide +kernel
theorem dX6_many_48 : decode cX6_many 48 = .ok (.lcmp, 1) := by decide +kernel
theorem dX6_many_49 : decode cX6_many 49 = .ok (.ifCond .ne 7, 3) := by decide +kernel
theorem dX6_many_52 : decode cX6_many 52 = .ok (.lconst 1, 1) := by decide +kernel
theorem dX6_many_53 : decode cX6_many 53 = .ok (.goto 6, 3) := by decide +kernel
theorem dX6_many_56 : decode cX6_many 56 = .ok (.ldc2_w 50, 3) := by decide +kernel
theorem dX6_many_59 : decode cX6_many 59 = .ok (.lreturn, 1) := by decide +kernel
theorem dX6_many_60 : decode cX6_many 60 = .ok (.aload_n 0, 1) := by decide +kernel
theorem dX6_many_61 : decode cX6_many 61 = .ok (.aload_n 0, 1) := by decide +kernel
theorem dX6_many_62 : decode cX6_many 62 = .ok (.aload_n 0, 1) := by decide +kernel
theorem dX6_many_63 : decode cX6_many 63 = .ok (.getfield 259, 3) := by decide +kernel
theorem dX6_many_66 : decode cX6_many 66 = .ok (.aload_n 0, 1) := by decide +kernel
theorem dX6_many_67 : decode cX6_many 67 = .ok (.getfield 259, 3) := by decide +kernel
theorem dX6_many_70 : decode cX6_many 70 = .ok (.invokevirtual 76, 3) := by decide +kernel
theorem dX6_many_73 : decode cX6_many 73 = .ok (.aload_n 0, 1) := by decide +kernel
theorem dX6_many_74 : decode cX6_many 74 = .ok (.aload_n 0, 1) := by decide +kernel
theorem dX6_many_75 : decode cX6_many 75 = .ok (.getfield 256, 3) := by decide +kernel
theorem dX6_many_78 : decode cX6_many 78 = .ok (.aload_n 0, 1) := by decide +kernel
theorem dX6_many_79 : decode cX6_many 79 = .ok (.getfield 262, 3) := by decide +kernel
theorem dX6_many_82 : decode cX6_many 82 = .ok (.invokevirtual 76, 3) := by decide +kernel
theorem dX6_many_85 : decode cX6_many 85 = .ok (.invokevirtual 105, 3) := by decide +kernel
theorem dX6_many_88 : decode cX6_many 88 = .ok (.lstore_n 1, 1) := by decide +kernel
theorem dX6_many_89 : decode cX6_many 89 = .ok (.lload_n 1, 1) := by decide +kernel
theorem dX6_many_90 : decode cX6_many 90 = .ok (.lconst 0, 1) := by decide +kernel
theorem dX6_many_91 : decode cX6_many 91 = .ok (.lcmp, 1) := by decide +kernel
theorem dX6_many_92 : decode cX6_many 92 = .ok (.ifCond .ne 7, 3) := by decide +kernel
theorem dX6_many_95 : decode cX6_many 95 = .ok (.lconst 1, 1) := by decide +kernel
theorem dX6_many_96 : decode cX6_many 96 = .ok (.goto 18, 3) := by decide +kernel
theorem dX6_many_99 : decode cX6_many 99 = .ok (.aload_n 0, 1) := by decide +kernel
theorem dX6_many_100 : decode cX6_many 100 = .ok (.lload_n 1, 1) := by decide +kernel
theorem dX6_many_101 : decode cX6_many 101 = .ok (.invokevirtual 83, 3) := by decide +kernel
theorem dX6_many_104 : decode cX6_many 104 = .ok (.ifCond .eq 9, 3) := by decide +kernel
theorem dX6_many_107 : decode cX6_many 107 = .ok (.ldc2_w 50, 3) := by decide +kernel
theorem dX6_many_110 : decode cX6_many 110 = .ok (.goto 4, 3) := by decide +kernel
theorem dX6_many_113 : decode cX6_many 113 = .ok (.lconst 0, 1) := by decide +kernel
theorem dX6_many_114 : decode cX6_many 114 = .ok (.lreturn, 1) := by decide +kernel
theorem dX6_touches_0 : decode cX6_touches 0 = .ok (.aload_n 0, 1) := by decide +kernel
theorem dX6_touches_1 : decode cX6_touches 1 = .ok (.iload_n 1, 1) := by decide +kernel
theorem dX6_touches_2 : decode cX6_touches 2 = .ok (.iconst 4, 1) := by decide +kernel
theorem dX6_touches_3 : decode cX6_touches 3 = .ok (.invokevirtual 146, 3) := by decide +kernel
theorem dX6_touches_6 : decode cX6_touches 6 = .ok (.ifCond .eq 12, 3) := by decide +kernel
theorem dX6_touches_9 : decode cX6_touches 9 = .ok (.aload_n 0, 1) := by decide +kernel
theorem dX6_touches_10 : decode cX6_touches 10 = .ok (.iload_n 2, 1) := by decide +kernel
theorem dX6_touches_11 : decode cX6_touches 11 = .ok (.iconst 1, 1) := by decide +kernel
theorem dX6_touches_12 : decode cX6_touches 12 = .ok (.invokevirtual 146, 3) := by decide +kernel
theorem dX6_touches_15 : decode cX6_touches 15 = .ok (.ifCond .ne 7, 3) := by decide +kernel
theorem dX6_touches_18 : decode cX6_touches 18 = .ok (.ldc2_w 214, 3) := by decide +kernel
theorem dX6_touches_21 : decode cX6_touches 21 = .ok (.lreturn, 1) := by decide +kernel
theorem dX6_touches_22 : decode cX6_touches 22 = .ok (.aload_n 0, 1) := by decide +kernel
theorem dX6_touches_23 : decode cX6_touches 23 = .ok (.iload_n 1, 1) := by decide +kernel
theorem dX6_touches_24 : decode cX6_touches 24 = .ok (.iload_n 2, 1) := by decide +kernel
theorem dX6_touches_25 : decode cX6_touches 25 = .ok (.invokevirtual 265, 3) := by decide +kernel
theorem dX6_touches_28 : decode cX6_touches 28 = .ok (.aload_n 0, 1) := by decide +kernel
theorem dX6_touches_29 : decode cX6_touches 29 = .ok (.invokevirtual 268, 3) := by decide +kernel
theorem dX6_touches_32 : decode cX6_touches 32 = .ok (.lreturn, 1) := by decide +kernel
theorem dX6_common_0 : decode cX6_common 0 = .ok (.aload_n 0, 1) := by decide +kernel
theorem dX6_common_1 : decode cX6_common 1 = .ok (.iload_n 1, 1) := by decide +kernel
theorem dX6_common_2 : decode cX6_common 2 = .ok (.iconst 4, 1) := by decide +kernel
theorem dX6_common_3 : decode cX6_common 3 = .ok (.invokevirtual 146, 3) := by decide +kernel
theorem dX6_common_6 : decode cX6_common 6 = .ok (.ifCond .eq 16, 3) := by decide +kernel
theorem dX6_common_9 : decode cX6_common 9 = .ok (.aload_n 0, 1) := by decide +kernel
theorem dX6_common_10 : decode cX6_common 10 = .ok (.iload_n 2, 1) := by decide +kernel
theorem dX6_common_11 : decode cX6_common 11 = .ok (.iconst 1, 1) := by decide +kernel
theorem dX6_common_12 : decode cX6_common 12 = .ok (.invokevirtual 146, 3) := by decide +kernel
theorem dX6_common_15 : decode cX6_common 15 = .ok (.ifCond .eq 7, 3) := by decide +kernel
theorem dX6_common_18 : decode cX6_common 18 = .ok (.iload_n 3, 1) := by decide +kernel
theorem dX6_common_19 : decode cX6_common 19 = .ok (.ifCond .ge 6, 3) := by decide +kernel
theorem dX6_common_22 : decode cX6_common 22 = .ok (.bipush (-2), 2) := by decide +kernel
theorem dX6_common_24 : decode cX6_common 24 = .ok (.ireturn, 1) := by decide +kernel
theorem dX6_common_25 : decode cX6_common 25 = .ok (.aload_n 0, 1) := by decide +kernel
theorem dX6_common_26 : decode cX6_common 26 = .ok (.iload_n 1, 1) := by decide +kernel
theorem dX6_common_27 : decode cX6_common 27 = .ok (.iload_n 2, 1) := by decide +kernel
theorem dX6_common_28 : decode cX6_common 28 = .ok (.invokevirtual 265, 3) := by decide +kernel
theorem dX6_common_31 : decode cX6_common 31 = .ok (.aload_n 0, 1) := by decide +kernel
theorem dX6_common_32 : decode cX6_common 32 = .ok (.invokevirtual 268, 3) := by decide +kernel
theorem dX6_common_35 : decode cX6_common 35 = .ok (.lstore 4, 2) := by decide +kernel
theorem dX6_common_37 : decode cX6_common 37 = .ok (.iload_n 3, 1) := by decide +kernel
theorem dX6_common_38 : decode cX6_common 38 = .ok (.i2l, 1) := by decide +kernel
theorem dX6_common_39 : decode cX6_common 39 = .ok (.lload 4, 2) := by decide +kernel
theorem dX6_common_41 : decode cX6_common 41 = .ok (.lcmp, 1) := by decide +kernel
theorem dX6_common_42 : decode cX6_common 42 = .ok (.ifCond .lt 5, 3) := by decide +kernel
theorem dX6_common_45 : decode cX6_common 45 = .ok (.iconst (-1), 1) := by decide +kernel
theorem dX6_common_46 : decode cX6_common 46 = .ok (.ireturn, 1) := by decide +kernel
theorem dX6_common_47 : decode cX6_common 47 = .ok (.iload_n 3, 1) := by decide +kernel
theorem dX6_common_48 : decode cX6_common 48 = .ok (.i2l, 1) := by decide +kernel
theorem dX6_common_49 : decode cX6_common 49 = .ok (.lstore 6, 2) := by decide +kernel
theorem dX6_common_51 : decode cX6_common 51 = .ok (.lload 4, 2) := by decide +kernel
theorem dX6_common_53 : decode cX6_common 53 = .ok (.aload_n 0, 1) := by decide +kernel
theorem dX6_common_54 : decode cX6_common 54 = .ok (.getfield 60, 3) := by decide +kernel
theorem dX6_common_57 : decode cX6_common 57 = .ok (.lcmp, 1) := by decide +kernel
theorem dX6_common_58 : decode cX6_common 58 = .ok (.ifCond .gt 197, 3) := by decide +kernel
theorem dX6_common_61 : decode cX6_common 61 = .ok (.aload_n 0, 1) := by decide +kernel
theorem dX6_common_62 : decode cX6_common 62 = .ok (.getfield 262, 3) := by decide +kernel
theorem dX6_common_65 : decode cX6_common 65 = .ok (.lconst 0, 1) := by decide +kernel
theorem dX6_common_66 : decode cX6_common 66 = .ok (.lcmp, 1) := by decide +kernel
theorem dX6_common_67 : decode cX6_common 67 = .ok (.ifCond .ne 57, 3) := by decide +kernel
theorem dX6_common_70 : decode cX6_common 70 = .ok (.aload_n 0, 1) := by decide +kernel
theorem dX6_common_71 : decode cX6_common 71 = .ok (.getfield 259, 3) := by decide +kernel
theorem dX6_common_74 : decode cX6_common 74 = .ok (.lconst 0, 1) := by decide +kernel
theorem dX6_common_75 : decode cX6_common 75 = .ok (.lcmp, 1) := by decide +kernel
theorem dX6_common_76 : decode cX6_common 76 = .ok (.ifCond .eq 8, 3) := by decide +kernel
theorem dX6_common_79 : decode cX6_common 79 = .ok (.iload_n 3, 1) := by decide +kernel
theorem dX6_common_80 : decode cX6_common 80 = .ok (.iconst 1, 1) := by decide +kernel
theorem dX6_common_81 : decode cX6_common 81 = .ok (.if_icmp .ne 10, 3) := by decide +kernel
theorem dX6_common_84 : decode cX6_common 84 = .ok (.aload_n 0, 1) := by decide +kernel
theorem dX6_common_85 : decode cX6_common 85 = .ok (.getfield 60, 3) := by decide +kernel
theorem dX6_common_88 : decode cX6_common 88 = .ok (.goto 31, 3) := by decide +kernel
theorem dX6_common_91 : decode cX6_common 91 = .ok (.aload_n 0, 1) := by decide +kernel
theorem dX6_common_92 : decode cX6_common 92 = .ok (.aload_n 0, 1) := by decide +kernel
theorem dX6_common_93 : decode cX6_common 93 = .ok (.lconst 0, 1) := by decide +kernel
theorem dX6_common_94 : decode cX6_common 94 = .ok (.aload_n 0, 1) := by decide +kernel
theorem dX6_common_95 : decode cX6_common 95 = .ok (.getfield 256, 3) := by decide +kernel
theorem dX6_common_98 : decode cX6_common 98 = .ok (.invokevirtual 105, 3) := by decide +kernel
theorem dX6_common_101 : decode cX6_common 101 = .ok (.aload_n 0, 1) := by decide +kernel
theorem dX6_common_102 : decode cX6_common 102 = .ok (.aload_n 0, 1) := by decide +kernel
theorem dX6_common_103 : decode cX6_common 103 = .ok (.ldc2_w 50, 3) := by decide +kernel
theorem dX6_common_106 : decode cX6_common 106 = .ok (.aload_n 0, 1) := by decide +kernel
theorem dX6_common_107 : decode cX6_common 107 = .ok (.getfield 259, 3) := by decide +kernel
theorem dX6_common_110 : decode cX6_common 110 = .ok (.invokevirtual 76, 3) := by decide +kernel
theorem dX6_common_113 : decode cX6_common 113 = .ok (.invokevirtual 98, 3) := by decide +kernel
theorem dX6_common_116 : decode cX6_common 116 = .ok (.invokevirtual 76, 3) := by decide +kernel
theorem dX6_common_119 : decode cX6_common 119 = .ok (.lstore 6, 2) := by decide +kernel
theorem dX6_common_121 : decode cX6_common 121 = .ok (.goto 134, 3) := by decide +kernel
theorem dX6_common_124 : decode cX6_common 124 = .ok (.aload_n 0, 1) := by decide +kernel
theorem dX6_common_125 : decode cX6_common 125 = .ok (.aload_n 0, 1) := by decide +kernel
theorem dX6_common_126 : decode cX6_common 126 = .ok (.aload_n 0, 1) := by decide +kernel
theorem dX6_common_127 : decode cX6_common 127 = .ok (.aload_n 0, 1) := by decide +kernel
theorem dX6_common_128 : decode cX6_common 128 = .ok (.getfield 259, 3) := by decide +kernel
theorem dX6_common_131 : decode cX6_common 131 = .ok (.aload_n 0, 1) := by decide +kernel
theorem dX6_common_132 : decode cX6_common 132 = .ok (.getfield 259, 3) := by decide +kernel
theorem dX6_common_135 : decode cX6_common 135 = .ok (.invokevirtual 76, 3) := by decide +kernel
theorem dX6_common_138 : decode cX6_common 138 = .ok (.aload_n 0, 1) := by decide +kernel
theorem dX6_common_139 : decode cX6_common 139 = .ok (.aload_n 0, 1) := by decide +kernel
theorem dX6_common_140 : decode cX6_common 140 = .ok (.getfield 256, 3) := by decide +kernel
theorem dX6_common_143 : decode cX6_common 143 = .ok (.aload_n 0, 1) := by decide +kernel
theorem dX6_common_144 : decode cX6_common 144 = .ok (.getfield 262, 3) := by decide +kernel
theorem dX6_common_147 : decode cX6_common 147 = .ok (.invokevirtual 76, 3) := by decide +kernel
theorem dX6_common_150 : decode cX6_common 150 = .ok (.invokevirtual 105, 3) := by decide +kernel
theorem dX6_common_153 : decode cX6_common 153 = .ok (.invokevirtual 91, 3) := by decide +kernel
theorem dX6_common_156 : decode cX6_common 156 = .ok (.lstore 8, 2) := by decide +kernel
theorem dX6_common_158 : decode cX6_common 158 = .ok (.aload_n 0, 1) := by decide +kernel
theorem dX6_common_159 : decode cX6_common 159 = .ok (.aload_n 0, 1) := by decide +kernel
theorem dX6_common_160 : decode cX6_common 160 = .ok (.getfield 262, 3) := by decide +kernel
theorem dX6_common_163 : decode cX6_common 163 = .ok (.invokevirtual 98, 3) := by decide +kernel
theorem dX6_common_166 : decode cX6_common 166 = .ok (.lstore 10, 2) := by decide +kernel
theorem dX6_common_168 : decode cX6_common 168 = .ok (.aload_n 0, 1) := by decide +kernel
theorem dX6_common_169 : decode cX6_common 169 = .ok (.aload_n 0, 1) := by decide +kernel
theorem dX6_common_170 : decode cX6_common 170 = .ok (.lload 8, 2) := by decide +kernel
theorem dX6_common_172 : decode cX6_common 172 = .ok (.aload_n 0, 1) := by decide +kernel
theorem dX6_common_173 : decode cX6_common 173 = .ok (.getfield 259, 3) := by decide +kernel
theorem dX6_common_176 : decode cX6_common 176 = .ok (.invokevirtual 105, 3) := by decide +kernel
theorem dX6_common_179 : decode cX6_common 179 = .ok (.lload 10, 2) := by decide +kernel
theorem dX6_common_181 : decode cX6_common 181 = .ok (.invokevirtual 76, 3) := by decide +kernel
theorem dX6_common_184 : decode cX6_common 184 = .ok (.lstore 12, 2) := by decide +kernel
theorem dX6_common_186 : decode cX6_common 186 = .ok (.aload_n 0, 1) := by decide +kernel
theorem dX6_common_187 : decode cX6_common 187 = .ok (.aload_n 0, 1) := by decide +kernel
theorem dX6_common_188 : decode cX6_common 188 = .ok (.aload_n 0, 1) := by decide +kernel
theorem dX6_common_189 : decode cX6_common 189 = .ok (.lconst 0, 1) := by decide +kernel
theorem dX6_common_190 : decode cX6_common 190 = .ok (.aload_n 0, 1) := by decide +kernel
theorem dX6_common_191 : decode cX6_common 191 = .ok (.getfield 259, 3) := by decide +kernel
theorem dX6_common_194 : decode cX6_common 194 = .ok (.invokevirtual 105, 3) := by decide +kernel
theorem dX6_common_197 : decode cX6_common 197 = .ok (.lload 8, 2) := by decide +kernel
theorem dX6_common_199 : decode cX6_common 199 = .ok (.invokevirtual 105, 3) := by decide +kernel
theorem dX6_common_202 : decode cX6_common 202 = .ok (.lload 10, 2) := by decide +kernel
theorem dX6_common_204 : decode cX6_common 204 = .ok (.invokevirtual 76, 3) := by decide +kernel
theorem dX6_common_207 : decode cX6_common 207 = .ok (.lstore 14, 2) := by decide +kernel
theorem dX6_common_209 : decode cX6_common 209 = .ok (.iload_n 3, 1) := by decide +kernel
theorem dX6_common_210 : decode cX6_common 210 = .ok (.ifCond .ne 7, 3) := by decide +kernel
theorem dX6_common_213 : decode cX6_common 213 = .ok (.iconst 1, 1) := by decide +kernel
theorem dX6_common_214 : decode cX6_common 214 = .ok (.goto 4, 3) := by decide +kernel
theorem dX6_common_217 : decode cX6_common 217 = .ok (.iconst 0, 1) := by decide +kernel
theorem dX6_common_218 : decode cX6_common 218 = .ok (.lload 12, 2) := by decide +kernel
theorem dX6_common_220 : decode cX6_common 220 = .ok (.lload 14, 2) := by decide +kernel
theorem dX6_common_222 : decode cX6_common 222 = .ok (.lcmp, 1) := by decide +kernel
theorem dX6_common_223 : decode cX6_common 223 = .ok (.ifCond .ge 7, 3) := by decide +kernel
theorem dX6_common_226 : decode cX6_common 226 = .ok (.iconst 1, 1) := by decide +kernel
theorem dX6_common_227 : decode cX6_common 227 = .ok (.goto 4, 3) := by decide +kernel
theorem dX6_common_230 : decode cX6_common 230 = .ok (.iconst 0, 1) := by decide +kernel
theorem dX6_common_231 : decode cX6_common 231 = .ok (.if_icmp .ne 7, 3) := by decide +kernel
theorem dX6_common_234 : decode cX6_common 234 = .ok (.iconst 1, 1) := by decide +kernel
theorem dX6_common_235 : decode cX6_common 235 = .ok (.goto 4, 3) := by decide +kernel
theorem dX6_common_238 : decode cX6_common 238 = .ok (.iconst 0, 1) := by decide +kernel
theorem dX6_common_239 : decode cX6_common 239 = .ok (.istore 16, 2) := by decide +kernel
theorem dX6_common_241 : decode cX6_common 241 = .ok (.iload 16, 2) := by decide +kernel
theorem dX6_common_243 : decode cX6_common 243 = .ok (.ifCond .eq 8, 3) := by decide +kernel
theorem dX6_common_246 : decode cX6_common 246 = .ok (.lload 12, 2) := by decide +kernel
theorem dX6_common_248 : decode cX6_common 248 = .ok (.goto 5, 3) := by decide +kernel
theorem dX6_common_251 : decode cX6_common 251 = .ok (.lload 14, 2) := by decide +kernel
theorem dX6_common_253 : decode cX6_common 253 = .ok (.lstore 6, 2) := by decide +kernel
theorem dX6_common_255 : decode cX6_common 255 = .ok (.aload_n 0, 1) := by decide +kernel
theorem dX6_common_256 : decode cX6_common 256 = .ok (.invokevirtual 136, 3) := by decide +kernel
theorem dX6_common_259 : decode cX6_common 259 = .ok (.iconst 0, 1) := by decide +kernel
theorem dX6_common_260 : decode cX6_common 260 = .ok (.istore 8, 2) := by decide +kernel
theorem dX6_common_262 : decode cX6_common 262 = .ok (.iload 8, 2) := by decide +kernel
theorem dX6_common_264 : decode cX6_common 264 = .ok (.aload_n 0, 1) := by decide +kernel
theorem dX6_common_265 : decode cX6_common 265 = .ok (.invokevirtual 111, 3) := by decide +kernel
theorem dX6_common_268 : decode cX6_common 268 = .ok (.if_icmp .ge 62, 3) := by decide +kernel
theorem dX6_common_271 : decode cX6_common 271 = .ok (.aload_n 0, 1) := by decide +kernel
theorem dX6_common_272 : decode cX6_common 272 = .ok (.getfield 29, 3) := by decide +kernel
theorem dX6_common_275 : decode cX6_common 275 = .ok (.iload 8, 2) := by decide +kernel
theorem dX6_common_277 : decode cX6_common 277 = .ok (.lload 6, 2) := by decide +kernel
theorem dX6_common_279 : decode cX6_common 279 = .ok (.aload_n 0, 1) := by decide +kernel
theorem dX6_common_280 : decode cX6_common 280 = .ok (.getfield 60, 3) := by decide +kernel
theorem dX6_common_283 : decode cX6_common 283 = .ok (.lcmp, 1) := by decide +kernel
theorem dX6_common_284 : decode cX6_common 284 = .ok (.ifCond .ne 13, 3) := by decide +kernel
theorem dX6_common_287 : decode cX6_common 287 = .ok (.aload_n 0, 1) := by decide +kernel
theorem dX6_common_288 : decode cX6_common 288 = .ok (.getfield 38, 3) := by decide +kernel
theorem dX6_common_291 : decode cX6_common 291 = .ok (.iload 8, 2) := by decide +kernel
theorem dX6_common_293 : decode cX6_common 293 = .ok (.laload, 1) := by decide +kernel
theorem dX6_common_294 : decode cX6_common 294 = .ok (.goto 29, 3) := by decide +kernel
theorem dX6_common_297 : decode cX6_common 297 = .ok (.aload_n 0, 1) := by decide +kernel
theorem dX6_common_298 : decode cX6_common 298 = .ok (.getfield 35, 3) := by decide +kernel
theorem dX6_common_301 : decode cX6_common 301 = .ok (.iload 8, 2) := by decide +kernel
theorem dX6_common_303 : decode cX6_common 303 = .ok (.laload, 1) := by decide +kernel
theorem dX6_common_304 : decode cX6_common 304 = .ok (.aload_n 0, 1) := by decide +kernel
theorem dX6_common_305 : decode cX6_common 305 = .ok (.lload 6, 2) := by decide +kernel
theorem dX6_common_307 : decode cX6_common 307 = .ok (.aload_n 0, 1) := by decide +kernel
theorem dX6_common_308 : decode cX6_common 308 = .ok (.getfield 38, 3) := by decide +kernel
theorem dX6_common_311 : decode cX6_common 311 = .ok (.iload 8, 2) := by decide +kernel
theorem dX6_common_313 : decode cX6_common 313 = .ok (.laload, 1) := by decide +kernel
theorem dX6_common_314 : decode cX6_common 314 = .ok (.invokevirtual 76, 3) := by decide +kernel
theorem dX6_common_317 : decode cX6_common 317 = .ok (.ladd, 1) := by decide +kernel
theorem dX6_common_318 : decode cX6_common 318 = .ok (.aload_n 0, 1) := by decide +kernel
theorem dX6_common_319 : decode cX6_common 319 = .ok (.getfield 60, 3) := by decide +kernel
theorem dX6_common_322 : decode cX6_common 322 = .ok (.lrem, 1) := by decide +kernel
theorem dX6_common_323 : decode cX6_common 323 = .ok (.lastore, 1) := by decide +kernel
theorem dX6_common_324 : decode cX6_common 324 = .ok (.iinc 8 1, 3) := by decide +kernel
theorem dX6_common_327 : decode cX6_common 327 = .ok (.goto (-65), 3) := by decide +kernel
theorem dX6_common_330 : decode cX6_common 330 = .ok (.aload_n 0, 1) := by decide +kernel
theorem dX6_common_331 : decode cX6_common 331 = .ok (.iconst 0, 1) := by decide +kernel
theorem dX6_common_332 : decode cX6_common 332 = .ok (.invokevirtual 133, 3) := by decide +kernel
theorem dX6_common_335 : decode cX6_common 335 = .ok (.ireturn, 1) := by decide +kernel
theorem dX6_dual_0 : decode cX6_dual 0 = .ok (.aload_n 0, 1) := by decide +kernel
theorem dX6_dual_1 : decode cX6_dual 1 = .ok (.iload_n 1, 1) := by decide +kernel
theorem dX6_dual_2 : decode cX6_dual 2 = .ok (.invokevirtual 119, 3) := by decide +kernel
theorem dX6_dual_5 : decode cX6_dual 5 = .ok (.ifCond .ne 6, 3) := by decide +kernel
theorem dX6_dual_8 : decode cX6_dual 8 = .ok (.bipush (-2), 2) := by decide +kernel
theorem dX6_dual_10 : decode cX6_dual 10 = .ok (.ireturn, 1) := by decide +kernel
theorem dX6_dual_11 : decode cX6_dual 11 = .ok (.aload_n 0, 1) := by decide +kernel
theorem dX6_dual_12 : decode cX6_dual 12 = .ok (.getfield 7, 3) := by decide +kernel
theorem dX6_dual_15 : decode cX6_dual 15 = .ok (.iload_n 1, 1) := by decide +kernel
theorem dX6_dual_16 : decode cX6_dual 16 = .ok (.iaload, 1) := by decide +kernel
theorem dX6_dual_17 : decode cX6_dual 17 = .ok (.istore_n 2, 1) := by decide +kernel
theorem dX6_dual_18 : decode cX6_dual 18 = .ok (.iload_n 2, 1) := by decide +kernel
theorem dX6_dual_19 : decode cX6_dual 19 = .ok (.iconst 3, 1) := by decide +kernel
theorem dX6_dual_20 : decode cX6_dual 20 = .ok (.if_icmp .eq 8, 3) := by decide +kernel
theorem dX6_dual_23 : decode cX6_dual 23 = .ok (.iload_n 2, 1) := by decide +kernel
theorem dX6_dual_24 : decode cX6_dual 24 = .ok (.iconst 4, 1) := by decide +kernel
theorem dX6_dual_25 : decode cX6_dual 25 = .ok (.if_icmp .ne 85, 3) := by decide +kernel
theorem dX6_dual_28 : decode cX6_dual 28 = .ok (.aload_n 0, 1) := by decide +kernel
theorem dX6_dual_29 : decode cX6_dual 29 = .ok (.iload_n 1, 1) := by decide +kernel
theorem dX6_dual_30 : decode cX6_dual 30 = .ok (.invokevirtual 240, 3) := by decide +kernel
theorem dX6_dual_33 : decode cX6_dual 33 = .ok (.ifCond .ne 5, 3) := by decide +kernel
theorem dX6_dual_36 : decode cX6_dual 36 = .ok (.iconst (-1), 1) := by decide +kernel
theorem dX6_dual_37 : decode cX6_dual 37 = .ok (.ireturn, 1) := by decide +kernel
theorem dX6_dual_38 : decode cX6_dual 38 = .ok (.aload_n 0, 1) := by decide +kernel
theorem dX6_dual_39 : decode cX6_dual 39 = .ok (.invokevirtual 136, 3) := by decide +kernel
theorem dX6_dual_42 : decode cX6_dual 42 = .ok (.iconst 0, 1) := by decide +kernel
theorem dX6_dual_43 : decode cX6_dual 43 = .ok (.istore_n 3, 1) := by decide +kernel
theorem dX6_dual_44 : decode cX6_dual 44 = .ok (.iload_n 3, 1) := by decide +kernel
theorem dX6_dual_45 : decode cX6_dual 45 = .ok (.aload_n 0, 1) := by decide +kernel
theorem dX6_dual_46 : decode cX6_dual 46 = .ok (.invokevirtual 111, 3) := by decide +kernel
theorem dX6_dual_49 : decode cX6_dual 49 = .ok (.if_icmp .ge 55, 3) := by decide +kernel
theorem dX6_dual_52 : decode cX6_dual 52 = .ok (.iconst 0, 1) := by decide +kernel
theorem dX6_dual_53 : decode cX6_dual 53 = .ok (.istore 4, 2) := by decide +kernel
theorem dX6_dual_55 : decode cX6_dual 55 = .ok (.iload 4, 2) := by decide +kernel
theorem dX6_dual_57 : decode cX6_dual 57 = .ok (.aload_n 0, 1) := by decide +kernel
theorem dX6_dual_58 : decode cX6_dual 58 = .ok (.invokevirtual 111, 3) := by decide +kernel
theorem dX6_dual_61 : decode cX6_dual 61 = .ok (.if_icmp .ge 37, 3) := by decide +kernel
theorem dX6_dual_64 : decode cX6_dual 64 = .ok (.aload_n 0, 1) := by decide +kernel
theorem dX6_dual_65 : decode cX6_dual 65 = .ok (.getfield 29, 3) := by decide +kernel
theorem dX6_dual_68 : decode cX6_dual 68 = .ok (.iload_n 3, 1) := by decide +kernel
theorem dX6_dual_69 : decode cX6_dual 69 = .ok (.aload_n 0, 1) := by decide +kernel
theorem dX6_dual_70 : decode cX6_dual 70 = .ok (.invokevirtual 111, 3) := by decide +kernel
theorem dX6_dual_73 : decode cX6_dual 73 = .ok (.imul, 1) := by decide +kernel
theorem dX6_dual_74 : decode cX6_dual 74 = .ok (.iload 4, 2) := by decide +kernel
theorem dX6_dual_76 : decode cX6_dual 76 = .ok (.iadd, 1) := by decide +kernel
theorem dX6_dual_77 : decode cX6_dual 77 = .ok (.aload_n 0, 1) := by decide +kernel
theorem dX6_dual_78 : decode cX6_dual 78 = .ok (.getfield 41, 3) := by decide +kernel
theorem dX6_dual_81 : decode cX6_dual 81 = .ok (.iload 4, 2) := by decide +kernel
theorem dX6_dual_83 : decode cX6_dual 83 = .ok (.aload_n 0, 1) := by decide +kernel
theorem dX6_dual_84 : decode cX6_dual 84 = .ok (.invokevirtual 111, 3) := by decide +kernel
theorem dX6_dual_87 : decode cX6_dual 87 = .ok (.imul, 1) := by decide +kernel
theorem dX6_dual_88 : decode cX6_dual 88 = .ok (.iload_n 3, 1) := by decide +kernel
theorem dX6_dual_89 : decode cX6_dual 89 = .ok (.iadd, 1) := by decide +kernel
theorem dX6_dual_90 : decode cX6_dual 90 = .ok (.laload, 1) := by decide +kernel
theorem dX6_dual_91 : decode cX6_dual 91 = .ok (.lastore, 1) := by decide +kernel
theorem dX6_dual_92 : decode cX6_dual 92 = .ok (.iinc 4 1, 3) := by decide +kernel
theorem dX6_dual_95 : decode cX6_dual 95 = .ok (.goto (-40), 3) := by decide +kernel
theorem dX6_dual_98 : decode cX6_dual 98 = .ok (.iinc 3 1, 3) := by decide +kernel
theorem dX6_dual_101 : decode cX6_dual 101 = .ok (.goto (-57), 3) := by decide +kernel
theorem dX6_dual_104 : decode cX6_dual 104 = .ok (.aload_n 0, 1) := by decide +kernel
theorem dX6_dual_105 : decode cX6_dual 105 = .ok (.iload_n 2, 1) := by decide +kernel
theorem dX6_dual_106 : decode cX6_dual 106 = .ok (.invokevirtual 133, 3) := by decide +kernel
theorem dX6_dual_109 : decode cX6_dual 109 = .ok (.ireturn, 1) := by decide +kernel
theorem dX6_dual_110 : decode cX6_dual 110 = .ok (.aload_n 0, 1) := by decide +kernel
theorem dX6_dual_111 : decode cX6_dual 111 = .ok (.invokevirtual 136, 3) := by decide +kernel
theorem dX6_dual_114 : decode cX6_dual 114 = .ok (.iconst 0, 1) := by decide +kernel
theorem dX6_dual_115 : decode cX6_dual 115 = .ok (.istore_n 3, 1) := by decide +kernel
theorem dX6_dual_116 : decode cX6_dual 116 = .ok (.iload_n 3, 1) := by decide +kernel
theorem dX6_dual_117 : decode cX6_dual 117 = .ok (.aload_n 0, 1) := by decide +kernel
theorem dX6_dual_118 : decode cX6_dual 118 = .ok (.iload_n 2, 1) := by decide +kernel
theorem dX6_dual_119 : decode cX6_dual 119 = .ok (.invokevirtual 122, 3) := by decide +kernel
theorem dX6_dual_122 : decode cX6_dual 122 = .ok (.if_icmp .ge 21, 3) := by decide +kernel
theorem dX6_dual_125 : decode cX6_dual 125 = .ok (.aload_n 0, 1) := by decide +kernel
theorem dX6_dual_126 : decode cX6_dual 126 = .ok (.getfield 29, 3) := by decide +kernel
theorem dX6_dual_129 : decode cX6_dual 129 = .ok (.iload_n 3, 1) := by decide +kernel
theorem dX6_dual_130 : decode cX6_dual 130 = .ok (.aload_n 0, 1) := by decide +kernel
theorem dX6_dual_131 : decode cX6_dual 131 = .ok (.iload_n 1, 1) := by decide +kernel
theorem dX6_dual_132 : decode cX6_dual 132 = .ok (.iload_n 3, 1) := by decide +kernel
theorem dX6_dual_133 : decode cX6_dual 133 = .ok (.invokevirtual 108, 3) := by decide +kernel
theorem dX6_dual_136 : decode cX6_dual 136 = .ok (.lastore, 1) := by decide +kernel
theorem dX6_dual_137 : decode cX6_dual 137 = .ok (.iinc 3 1, 3) := by decide +kernel
theorem dX6_dual_140 : decode cX6_dual 140 = .ok (.goto (-24), 3) := by decide +kernel
theorem dX6_dual_143 : decode cX6_dual 143 = .ok (.aload_n 0, 1) := by decide +kernel
theorem dX6_dual_144 : decode cX6_dual 144 = .ok (.getfield 56, 3) := by decide +kernel
theorem dX6_dual_147 : decode cX6_dual 147 = .ok (.iconst 3, 1) := by decide +kernel
theorem dX6_dual_148 : decode cX6_dual 148 = .ok (.if_icmp .ne 18, 3) := by decide +kernel
theorem dX6_dual_151 : decode cX6_dual 151 = .ok (.iload_n 2, 1) := by decide +kernel
theorem dX6_dual_152 : decode cX6_dual 152 = .ok (.iconst 1, 1) := by decide +kernel
theorem dX6_dual_153 : decode cX6_dual 153 = .ok (.if_icmp .ne 13, 3) := by decide +kernel
theorem dX6_dual_156 : decode cX6_dual 156 = .ok (.aload_n 0, 1) := by decide +kernel
theorem dX6_dual_157 : decode cX6_dual 157 = .ok (.invokevirtual 174, 3) := by decide +kernel
theorem dX6_dual_160 : decode cX6_dual 160 = .ok (.aload_n 0, 1) := by decide +kernel
theorem dX6_dual_161 : decode cX6_dual 161 = .ok (.iconst 1, 1) := by decide +kernel
theorem dX6_dual_162 : decode cX6_dual 162 = .ok (.invokevirtual 133, 3) := by decide +kernel
theorem dX6_dual_165 : decode cX6_dual 165 = .ok (.ireturn, 1) := by decide +kernel
theorem dX6_dual_166 : decode cX6_dual 166 = .ok (.aload_n 0, 1) := by decide +kernel
theorem dX6_dual_167 : decode cX6_dual 167 = .ok (.iload_n 2, 1) := by decide +kernel
theorem dX6_dual_168 : decode cX6_dual 168 = .ok (.ifCond .ne 19, 3) := by decide +kernel
theorem dX6_dual_171 : decode cX6_dual 171 = .ok (.aload_n 0, 1) := by decide +kernel
theorem dX6_dual_172 : decode cX6_dual 172 = .ok (.getfield 56, 3) := by decide +kernel
theorem dX6_dual_175 : decode cX6_dual 175 = .ok (.iconst 2, 1) := by decide +kernel
theorem dX6_dual_176 : decode cX6_dual 176 = .ok (.if_icmp .ne 7, 3) := by decide +kernel
theorem dX6_dual_179 : decode cX6_dual 179 = .ok (.iconst 1, 1) := by decide +kernel
theorem dX6_dual_180 : decode cX6_dual 180 = .ok (.goto 8, 3) := by decide +kernel
theorem dX6_dual_183 : decode cX6_dual 183 = .ok (.iconst 2, 1) := by decide +kernel
theorem dX6_dual_184 : decode cX6_dual 184 = .ok (.goto 4, 3) := by decide +kernel
theorem dX6_dual_187 : decode cX6_dual 187 = .ok (.iconst 0, 1) := by decide +kernel
theorem dX6_dual_188 : decode cX6_dual 188 = .ok (.invokevirtual 133, 3) := by decide +kernel
theorem dX6_dual_191 : decode cX6_dual 191 = .ok (.ireturn, 1) := by decide +kernel
theorem dX6_flat_0 : decode cX6_flat 0 = .ok (.aload_n 0, 1) := by decide +kernel
theorem dX6_flat_1 : decode cX6_flat 1 = .ok (.getfield 56, 3) := by decide +kernel
theorem dX6_flat_4 : decode cX6_flat 4 = .ok (.iconst 2, 1) := by decide +kernel
theorem dX6_flat_5 : decode cX6_flat 5 = .ok (.if_icmp .ne 7, 3) := by decide +kernel
theorem dX6_flat_8 : decode cX6_flat 8 = .ok (.iconst 1, 1) := by decide +kernel
theorem dX6_flat_9 : decode cX6_flat 9 = .ok (.goto 4, 3) := by decide +kernel
theorem dX6_flat_12 : decode cX6_flat 12 = .ok (.iconst 2, 1) := by decide +kernel
theorem dX6_flat_13 : decode cX6_flat 13 = .ok (.ireturn, 1) := by decide +kernel
theorem dX6_ideal_0 : decode cX6_ideal 0 = .ok (.aload_n 0, 1) := by decide +kernel
theorem dX6_ideal_1 : decode cX6_ideal 1 = .ok (.iload_n 1, 1) := by decide +kernel
theorem dX6_ideal_2 : decode cX6_ideal 2 = .ok (.aload_n 0, 1) := by decide +kernel
theorem dX6_ideal_3 : decode cX6_ideal 3 = .ok (.invokevirtual 272, 3) := by decide +kernel
theorem dX6_ideal_6 : decode cX6_ideal 6 = .ok (.invokevirtual 146, 3) := by decide +kernel
theorem dX6_ideal_9 : decode cX6_ideal 9 = .ok (.ifCond .ne 6, 3) := by decide +kernel
theorem dX6_ideal_12 : decode cX6_ideal 12 = .ok (.bipush (-2), 2) := by decide +kernel
theorem dX6_ideal_14 : decode cX6_ideal 14 = .ok (.ireturn, 1) := by decide +kernel
theorem dX6_ideal_15 : decode cX6_ideal 15 = .ok (.aload_n 0, 1) := by decide +kernel
theorem dX6_ideal_16 : decode cX6_ideal 16 = .ok (.getfield 73, 3) := by decide +kernel
theorem dX6_ideal_19 : decode cX6_ideal 19 = .ok (.istore_n 2, 1) := by decide +kernel
theorem dX6_ideal_20 : decode cX6_ideal 20 = .ok (.aload_n 0, 1) := by decide +kernel
theorem dX6_ideal_21 : decode cX6_ideal 21 = .ok (.iload_n 1, 1) := by decide +kernel
theorem dX6_ideal_22 : decode cX6_ideal 22 = .ok (.putfield 73, 3) := by decide +kernel
theorem dX6_ideal_25 : decode cX6_ideal 25 = .ok (.iload_n 2, 1) := by decide +kernel
theorem dX6_ideal_26 : decode cX6_ideal 26 = .ok (.ireturn, 1) := by decide +kernel
theorem dX6_isIdeal_0 : decode cX6_isIdeal 0 = .ok (.iconst 1, 1) := by decide +kernel
theorem dX6_isIdeal_1 : decode cX6_isIdeal 1 = .ok (.istore_n 2, 1) := by decide +kernel
theorem dX6_isIdeal_2 : decode cX6_isIdeal 2 = .ok (.iload_n 1, 1) := by decide +kernel
theorem dX6_isIdeal_3 : decode cX6_isIdeal 3 = .ok (.ifCond .ne 64, 3) := by decide +kernel
theorem dX6_isIdeal_6 : decode cX6_isIdeal 6 = .ok (.lconst 0, 1) := by decide +kernel
theorem dX6_isIdeal_7 : decode cX6_isIdeal 7 = .ok (.lstore_n 3, 1) := by decide +kernel
theorem dX6_isIdeal_8 : decode cX6_isIdeal 8 = .ok (.iconst 0, 1) := by decide +kernel
theorem dX6_isIdeal_9 : decode cX6_isIdeal 9 = .ok (.istore 5, 2) := by decide +kernel
theorem dX6_isIdeal_11 : decode cX6_isIdeal 11 = .ok (.iload 5, 2) := by decide +kernel
theorem dX6_isIdeal_13 : decode cX6_isIdeal 13 = .ok (.aload_n 0, 1) := by decide +kernel
theorem dX6_isIdeal_14 : decode cX6_isIdeal 14 = .ok (.invokevirtual 111, 3) := by decide +kernel
theorem dX6_isIdeal_17 : decode cX6_isIdeal 17 = .ok (.if_icmp .ge 38, 3) := by decide +kernel
theorem dX6_isIdeal_20 : decode cX6_isIdeal 20 = .ok (.lload_n 3, 1) := by decide +kernel
theorem dX6_isIdeal_21 : decode cX6_isIdeal 21 = .ok (.aload_n 0, 1) := by decide +kernel
theorem dX6_isIdeal_22 : decode cX6_isIdeal 22 = .ok (.aload_n 0, 1) := by decide +kernel
theorem dX6_isIdeal_23 : decode cX6_isIdeal 23 = .ok (.getfield 29, 3) := by decide +kernel
theorem dX6_isIdeal_26 : decode cX6_isIdeal 26 = .ok (.iload 5, 2) := by decide +kernel
theorem dX6_isIdeal_28 : decode cX6_isIdeal 28 = .ok (.laload, 1) := by decide +kernel
theorem dX6_isIdeal_29 : decode cX6_isIdeal 29 = .ok (.aload_n 0, 1) := by decide +kernel
theorem dX6_isIdeal_30 : decode cX6_isIdeal 30 = .ok (.aload_n 0, 1) := by decide +kernel
theorem dX6_isIdeal_31 : decode cX6_isIdeal 31 = .ok (.getfield 73, 3) := by decide +kernel
theorem dX6_isIdeal_34 : decode cX6_isIdeal 34 = .ok (.iload 5, 2) := by decide +kernel
theorem dX6_isIdeal_36 : decode cX6_isIdeal 36 = .ok (.invokevirtual 108, 3) := by decide +kernel
theorem dX6_isIdeal_39 : decode cX6_isIdeal 39 = .ok (.invokevirtual 76, 3) := by decide +kernel
theorem dX6_isIdeal_42 : decode cX6_isIdeal 42 = .ok (.ladd, 1) := by decide +kernel
theorem dX6_isIdeal_43 : decode cX6_isIdeal 43 = .ok (.aload_n 0, 1) := by decide +kernel
theorem dX6_isIdeal_44 : decode cX6_isIdeal 44 = .ok (.getfield 60, 3) := by decide +kernel
theorem dX6_isIdeal_47 : decode cX6_isIdeal 47 = .ok (.lrem, 1) := by decide +kernel
theorem dX6_isIdeal_48 : decode cX6_isIdeal 48 = .ok (.lstore_n 3, 1) := by decide +kernel
theorem dX6_isIdeal_49 : decode cX6_isIdeal 49 = .ok (.iinc 5 1, 3) := by decide +kernel
theorem dX6_isIdeal_52 : decode cX6_isIdeal 52 = .ok (.goto (-41), 3) := by decide +kernel
theorem dX6_isIdeal_55 : decode cX6_isIdeal 55 = .ok (.lload_n 3, 1) := by decide +kernel
theorem dX6_isIdeal_56 : decode cX6_isIdeal 56 = .ok (.lconst 0, 1) := by decide +kernel
theorem dX6_isIdeal_57 : decode cX6_isIdeal 57 = .ok (.lcmp, 1) := by decide +kernel
theorem dX6_isIdeal_58 : decode cX6_isIdeal 58 = .ok (.ifCond .ne 7, 3) := by decide +kernel
theorem dX6_isIdeal_61 : decode cX6_isIdeal 61 = .ok (.iconst 1, 1) := by decide +kernel
theorem dX6_isIdeal_62 : decode cX6_isIdeal 62 = .ok (.goto 4, 3) := by decide +kernel
theorem dX6_isIdeal_65 : decode cX6_isIdeal 65 = .ok (.iconst 0, 1) := by decide +kernel
theorem dX6_isIdeal_66 : decode cX6_isIdeal 66 = .ok (.ireturn, 1) := by decide +kernel
theorem dX6_isIdeal_67 : decode cX6_isIdeal 67 = .ok (.iconst 0, 1) := by decide +kernel
theorem dX6_isIdeal_68 : decode cX6_isIdeal 68 = .ok (.istore_n 3, 1) := by decide +kernel
theorem dX6_isIdeal_69 : decode cX6_isIdeal 69 = .ok (.iload_n 3, 1) := by decide +kernel
theorem dX6_isIdeal_70 : decode cX6_isIdeal 70 = .ok (.iconst 4, 1) := by decide +kernel
theorem dX6_isIdeal_71 : decode cX6_isIdeal 71 = .ok (.if_icmp .ge 118, 3) := by decide +kernel
theorem dX6_isIdeal_74 : decode cX6_isIdeal 74 = .ok (.lconst 0, 1) := by decide +kernel
theorem dX6_isIdeal_75 : decode cX6_isIdeal 75 = .ok (.lstore 4, 2) := by decide +kernel
theorem dX6_isIdeal_77 : decode cX6_isIdeal 77 = .ok (.iconst 0, 1) := by decide +kernel
theorem dX6_isIdeal_78 : decode cX6_isIdeal 78 = .ok (.istore 6, 2) := by decide +kernel
theorem dX6_isIdeal_80 : decode cX6_isIdeal 80 = .ok (.iload 6, 2) := by decide +kernel
theorem dX6_isIdeal_82 : decode cX6_isIdeal 82 = .ok (.iconst 4, 1) := by decide +kernel
theorem dX6_isIdeal_83 : decode cX6_isIdeal 83 = .ok (.if_icmp .ge 83, 3) := by decide +kernel
theorem dX6_isIdeal_86 : decode cX6_isIdeal 86 = .ok (.iload_n 3, 1) := by decide +kernel
theorem dX6_isIdeal_87 : decode cX6_isIdeal 87 = .ok (.iload 6, 2) := by decide +kernel
theorem dX6_isIdeal_89 : decode cX6_isIdeal 89 = .ok (.if_icmp .ne 7, 3) := by decide +kernel
theorem dX6_isIdeal_92 : decode cX6_isIdeal 92 = .ok (.lconst 0, 1) := by decide +kernel
theorem dX6_isIdeal_93 : decode cX6_isIdeal 93 = .ok (.goto 39, 3) := by decide +kernel
theorem dX6_isIdeal_96 : decode cX6_isIdeal 96 = .ok (.iload_n 3, 1) := by decide +kernel
theorem dX6_isIdeal_97 : decode cX6_isIdeal 97 = .ok (.iload 6, 2) := by decide +kernel
theorem dX6_isIdeal_99 : decode cX6_isIdeal 99 = .ok (.if_icmp .ge 17, 3) := by decide +kernel
theorem dX6_isIdeal_102 : decode cX6_isIdeal 102 = .ok (.aload_n 0, 1) := by decide +kernel
theorem dX6_isIdeal_103 : decode cX6_isIdeal 103 = .ok (.getfield 29, 3) := by decide +kernel
theorem dX6_isIdeal_106 : decode cX6_isIdeal 106 = .ok (.iload_n 3, 1) := by decide +kernel
theorem dX6_isIdeal_107 : decode cX6_isIdeal 107 = .ok (.iload 6, 2) := by decide +kernel
theorem dX6_isIdeal_109 : decode cX6_isIdeal 109 = .ok (.invokestatic 139, 3) := by decide +kernel
theorem dX6_isIdeal_112 : decode cX6_isIdeal 112 = .ok (.laload, 1) := by decide +kernel
theorem dX6_isIdeal_113 : decode cX6_isIdeal 113 = .ok (.goto 19, 3) := by decide +kernel
theorem dX6_isIdeal_116 : decode cX6_isIdeal 116 = .ok (.aload_n 0, 1) := by decide +kernel
theorem dX6_isIdeal_117 : decode cX6_isIdeal 117 = .ok (.lconst 0, 1) := by decide +kernel
theorem dX6_isIdeal_118 : decode cX6_isIdeal 118 = .ok (.aload_n 0, 1) := by decide +kernel
theorem dX6_isIdeal_119 : decode cX6_isIdeal 119 = .ok (.getfield 29, 3) := by decide +kernel
theorem dX6_isIdeal_122 : decode cX6_isIdeal 122 = .ok (.iload 6, 2) := by decide +kernel
theorem dX6_isIdeal_124 : decode cX6_isIdeal 124 = .ok (.iload_n 3, 1) := by decide +kernel
theorem dX6_isIdeal_125 : decode cX6_isIdeal 125 = .ok (.invokestatic 139, 3) := by decide +kernel
theorem dX6_isIdeal_128 : decode cX6_isIdeal 128 = .ok (.laload, 1) := by decide +kernel
theorem dX6_isIdeal_129 : decode cX6_isIdeal 129 = .ok (.invokevirtual 105, 3) := by decide +kernel
theorem dX6_isIdeal_132 : decode cX6_isIdeal 132 = .ok (.lstore 7, 2) := by decide +kernel
theorem dX6_isIdeal_134 : decode cX6_isIdeal 134 = .ok (.lload 4, 2) := by decide +kernel
theorem dX6_isIdeal_136 : decode cX6_isIdeal 136 = .ok (.aload_n 0, 1) := by decide +kernel
theorem dX6_isIdeal_137 : decode cX6_isIdeal 137 = .ok (.lload 7, 2) := by decide +kernel
theorem dX6_isIdeal_139 : decode cX6_isIdeal 139 = .ok (.aload_n 0, 1) := by decide +kernel
theorem dX6_isIdeal_140 : decode cX6_isIdeal 140 = .ok (.aload_n 0, 1) := by decide +kernel
theorem dX6_isIdeal_141 : decode cX6_isIdeal 141 = .ok (.getfield 73, 3) := by decide +kernel
theorem dX6_isIdeal_144 : decode cX6_isIdeal 144 = .ok (.iload 6, 2) := by decide +kernel
theorem dX6_isIdeal_146 : decode cX6_isIdeal 146 = .ok (.invokevirtual 108, 3) := by decide +kernel
theorem dX6_isIdeal_149 : decode cX6_isIdeal 149 = .ok (.invokevirtual 76, 3) := by decide +kernel
theorem dX6_isIdeal_152 : decode cX6_isIdeal 152 = .ok (.ladd, 1) := by decide +kernel
theorem dX6_isIdeal_153 : decode cX6_isIdeal 153 = .ok (.aload_n 0, 1) := by decide +kernel
theorem dX6_isIdeal_154 : decode cX6_isIdeal 154 = .ok (.getfield 60, 3) := by decide +kernel
theorem dX6_isIdeal_157 : decode cX6_isIdeal 157 = .ok (.lrem, 1) := by decide +kernel
theorem dX6_isIdeal_158 : decode cX6_isIdeal 158 = .ok (.lstore 4, 2) := by decide +kernel
theorem dX6_isIdeal_160 : decode cX6_isIdeal 160 = .ok (.iinc 6 1, 3) := by decide +kernel
theorem dX6_isIdeal_163 : decode cX6_isIdeal 163 = .ok (.goto (-83), 3) := by decide +kernel
theorem dX6_isIdeal_166 : decode cX6_isIdeal 166 = .ok (.iload_n 2, 1) := by decide +kernel
theorem dX6_isIdeal_167 : decode cX6_isIdeal 167 = .ok (.ifCond .eq 14, 3) := by decide +kernel
theorem dX6_isIdeal_170 : decode cX6_isIdeal 170 = .ok (.lload 4, 2) := by decide +kernel
theorem dX6_isIdeal_172 : decode cX6_isIdeal 172 = .ok (.lconst 0, 1) := by decide +kernel
theorem dX6_isIdeal_173 : decode cX6_isIdeal 173 = .ok (.lcmp, 1) := by decide +kernel
theorem dX6_isIdeal_174 : decode cX6_isIdeal 174 = .ok (.ifCond .ne 7, 3) := by decide +kernel
theorem dX6_isIdeal_177 : decode cX6_isIdeal 177 = .ok (.iconst 1, 1) := by decide +kernel
theorem dX6_isIdeal_178 : decode cX6_isIdeal 178 = .ok (.goto 4, 3) := by decide +kernel
theorem dX6_isIdeal_181 : decode cX6_isIdeal 181 = .ok (.iconst 0, 1) := by decide +kernel
theorem dX6_isIdeal_182 : decode cX6_isIdeal 182 = .ok (.istore_n 2, 1) := by decide +kernel
theorem dX6_isIdeal_183 : decode cX6_isIdeal 183 = .ok (.iinc 3 1, 3) := by decide +kernel
theorem dX6_isIdeal_186 : decode cX6_isIdeal 186 = .ok (.goto (-117), 3) := by decide +kernel
theorem dX6_isIdeal_189 : decode cX6_isIdeal 189 = .ok (.iload_n 2, 1) := by decide +kernel
theorem dX6_isIdeal_190 : decode cX6_isIdeal 190 = .ok (.ireturn, 1) := by decide +kernel
theorem dX6_isFar_0 : decode cX6_isFar 0 = .ok (.iload_n 1, 1) := by decide +kernel
theorem dX6_isFar_1 : decode cX6_isFar 1 = .ok (.aload_n 0, 1) := by decide +kernel
theorem dX6_isFar_2 : decode cX6_isFar 2 = .ok (.getfield 73, 3) := by decide +kernel
theorem dX6_isFar_5 : decode cX6_isFar 5 = .ok (.if_icmp .eq 34, 3) := by decide +kernel
theorem dX6_isFar_8 : decode cX6_isFar 8 = .ok (.aload_n 0, 1) := by decide +kernel
theorem dX6_isFar_9 : decode cX6_isFar 9 = .ok (.getfield 56, 3) := by decide +kernel
theorem dX6_isFar_12 : decode cX6_isFar 12 = .ok (.iconst 3, 1) := by decide +kernel
theorem dX6_isFar_13 : decode cX6_isFar 13 = .ok (.if_icmp .ne 30, 3) := by decide +kernel
theorem dX6_isFar_16 : decode cX6_isFar 16 = .ok (.aload_n 0, 1) := by decide +kernel
theorem dX6_isFar_17 : decode cX6_isFar 17 = .ok (.getfield 7, 3) := by decide +kernel
theorem dX6_isFar_20 : decode cX6_isFar 20 = .ok (.iload_n 1, 1) := by decide +kernel
theorem dX6_isFar_21 : decode cX6_isFar 21 = .ok (.iaload, 1) := by decide +kernel
theorem dX6_isFar_22 : decode cX6_isFar 22 = .ok (.iconst 1, 1) := by decide +kernel
theorem dX6_isFar_23 : decode cX6_isFar 23 = .ok (.if_icmp .ne 20, 3) := by decide +kernel
theorem dX6_isFar_26 : decode cX6_isFar 26 = .ok (.aload_n 0, 1) := by decide +kernel
theorem dX6_isFar_27 : decode cX6_isFar 27 = .ok (.iload_n 1, 1) := by decide +kernel
theorem dX6_isFar_28 : decode cX6_isFar 28 = .ok (.aload_n 0, 1) := by decide +kernel
theorem dX6_isFar_29 : decode cX6_isFar 29 = .ok (.getfield 73, 3) := by decide +kernel
theorem dX6_isFar_32 : decode cX6_isFar 32 = .ok (.invokevirtual 194, 3) := by decide +kernel
theorem dX6_isFar_35 : decode cX6_isFar 35 = .ok (.iconst 1, 1) := by decide +kernel
theorem dX6_isFar_36 : decode cX6_isFar 36 = .ok (.if_icmp .ne 7, 3) := by decide +kernel
theorem dX6_isFar_39 : decode cX6_isFar 39 = .ok (.iconst 1, 1) := by decide +kernel
theorem dX6_isFar_40 : decode cX6_isFar 40 = .ok (.goto 4, 3) := by decide +kernel
theorem dX6_isFar_43 : decode cX6_isFar 43 = .ok (.iconst 0, 1) := by decide +kernel
theorem dX6_isFar_44 : decode cX6_isFar 44 = .ok (.ireturn, 1) := by decide +kernel
theorem dX6_parallel_0 : decode cX6_parallel 0 = .ok (.aload_n 0, 1) := by decide +kernel
theorem dX6_parallel_1 : decode cX6_parallel 1 = .ok (.iload_n 1, 1) := by decide +kernel
theorem dX6_parallel_2 : decode cX6_parallel 2 = .ok (.iconst 1, 1) := by decide +kernel
theorem dX6_parallel_3 : decode cX6_parallel 3 = .ok (.invokevirtual 146, 3) := by decide +kernel
theorem dX6_parallel_6 : decode cX6_parallel 6 = .ok (.ifCond .eq 16, 3) := by decide +kernel
theorem dX6_parallel_9 : decode cX6_parallel 9 = .ok (.aload_n 0, 1) := by decide +kernel
theorem dX6_parallel_10 : decode cX6_parallel 10 = .ok (.iload_n 2, 1) := by decide +kernel
theorem dX6_parallel_11 : decode cX6_parallel 11 = .ok (.iconst 1, 1) := by decide +kernel
theorem dX6_parallel_12 : decode cX6_parallel 12 = .ok (.invokevirtual 146, 3) := by decide +kernel
theorem dX6_parallel_15 : decode cX6_parallel 15 = .ok (.ifCond .eq 7, 3) := by decide +kernel
theorem dX6_parallel_18 : decode cX6_parallel 18 = .ok (.iconst 1, 1) := by decide +kernel
theorem dX6_parallel_19 : decode cX6_parallel 19 = .ok (.goto 4, 3) := by decide +kernel
theorem dX6_parallel_22 : decode cX6_parallel 22 = .ok (.iconst 0, 1) := by decide +kernel
theorem dX6_parallel_23 : decode cX6_parallel 23 = .ok (.istore_n 3, 1) := by decide +kernel
theorem dX6_parallel_24 : decode cX6_parallel 24 = .ok (.aload_n 0, 1) := by decide +kernel
theorem dX6_parallel_25 : decode cX6_parallel 25 = .ok (.getfield 56, 3) := by decide +kernel
theorem dX6_parallel_28 : decode cX6_parallel 28 = .ok (.iconst 3, 1) := by decide +kernel
theorem dX6_parallel_29 : decode cX6_parallel 29 = .ok (.if_icmp .ne 43, 3) := by decide +kernel
theorem dX6_parallel_32 : decode cX6_parallel 32 = .ok (.aload_n 0, 1) := by decide +kernel
theorem dX6_parallel_33 : decode cX6_parallel 33 = .ok (.iload_n 1, 1) := by decide +kernel
theorem dX6_parallel_34 : decode cX6_parallel 34 = .ok (.iconst 1, 1) := by decide +kernel
theorem dX6_parallel_35 : decode cX6_parallel 35 = .ok (.invokevirtual 146, 3) := by decide +kernel
theorem dX6_parallel_38 : decode cX6_parallel 38 = .ok (.ifCond .eq 12, 3) := by decide +kernel
theorem dX6_parallel_41 : decode cX6_parallel 41 = .ok (.aload_n 0, 1) := by decide +kernel
theorem dX6_parallel_42 : decode cX6_parallel 42 = .ok (.iload_n 2, 1) := by decide +kernel
theorem dX6_parallel_43 : decode cX6_parallel 43 = .ok (.iconst 2, 1) := by decide +kernel
theorem dX6_parallel_44 : decode cX6_parallel 44 = .ok (.invokevirtual 146, 3) := by decide +kernel
theorem dX6_parallel_47 : decode cX6_parallel 47 = .ok (.ifCond .ne 21, 3) := by decide +kernel
theorem dX6_parallel_50 : decode cX6_parallel 50 = .ok (.aload_n 0, 1) := by decide +kernel
theorem dX6_parallel_51 : decode cX6_parallel 51 = .ok (.iload_n 1, 1) := by decide +kernel
theorem dX6_parallel_52 : decode cX6_parallel 52 = .ok (.iconst 2, 1) := by decide +kernel
theorem dX6_parallel_53 : decode cX6_parallel 53 = .ok (.invokevirtual 146, 3) := by decide +kernel
theorem dX6_parallel_56 : decode cX6_parallel 56 = .ok (.ifCond .eq 16, 3) := by decide +kernel
theorem dX6_parallel_59 : decode cX6_parallel 59 = .ok (.aload_n 0, 1) := by decide +kernel
theorem dX6_parallel_60 : decode cX6_parallel 60 = .ok (.iload_n 2, 1) := by decide +kernel
theorem dX6_parallel_61 : decode cX6_parallel 61 = .ok (.iconst 1, 1) := by decide +kernel
theorem dX6_parallel_62 : decode cX6_parallel 62 = .ok (.invokevirtual 146, 3) := by decide +kernel
theorem dX6_parallel_65 : decode cX6_parallel 65 = .ok (.ifCond .eq 7, 3) := by decide +kernel
theorem dX6_parallel_68 : decode cX6_parallel 68 = .ok (.iconst 1, 1) := by decide +kernel
theorem dX6_parallel_69 : decode cX6_parallel 69 = .ok (.goto 4, 3) := by decide +kernel
theorem dX6_parallel_72 : decode cX6_parallel 72 = .ok (.iconst 0, 1) := by decide +kernel
theorem dX6_parallel_73 : decode cX6_parallel 73 = .ok (.istore 4, 2) := by decide +kernel
theorem dX6_parallel_75 : decode cX6_parallel 75 = .ok (.iload_n 3, 1) := by decide +kernel
theorem dX6_parallel_76 : decode cX6_parallel 76 = .ok (.ifCond .ne 29, 3) := by decide +kernel
theorem dX6_parallel_79 : decode cX6_parallel 79 = .ok (.iload 4, 2) := by decide +kernel
theorem dX6_parallel_81 : decode cX6_parallel 81 = .ok (.ifCond .ne 24, 3) := by decide +kernel
theorem dX6_parallel_84 : decode cX6_parallel 84 = .ok (.aload_n 0, 1) := by decide +kernel
theorem dX6_parallel_85 : decode cX6_parallel 85 = .ok (.iload_n 1, 1) := by decide +kernel
theorem dX6_parallel_86 : decode cX6_parallel 86 = .ok (.iconst 2, 1) := by decide +kernel
theorem dX6_parallel_87 : decode cX6_parallel 87 = .ok (.invokevirtual 146, 3) := by decide +kernel
theorem dX6_parallel_90 : decode cX6_parallel 90 = .ok (.ifCond .eq 12, 3) := by decide +kernel
theorem dX6_parallel_93 : decode cX6_parallel 93 = .ok (.aload_n 0, 1) := by decide +kernel
theorem dX6_parallel_94 : decode cX6_parallel 94 = .ok (.iload_n 2, 1) := by decide +kernel
theorem dX6_parallel_95 : decode cX6_parallel 95 = .ok (.iconst 2, 1) := by decide +kernel
theorem dX6_parallel_96 : decode cX6_parallel 96 = .ok (.invokevirtual 146, 3) := by decide +kernel
theorem dX6_parallel_99 : decode cX6_parallel 99 = .ok (.ifCond .ne 6, 3) := by decide +kernel
theorem dX6_parallel_102 : decode cX6_parallel 102 = .ok (.bipush (-2), 2) := by decide +kernel
theorem dX6_parallel_104 : decode cX6_parallel 104 = .ok (.ireturn, 1) := by decide +kernel
theorem dX6_parallel_105 : decode cX6_parallel 105 = .ok (.aload_n 0, 1) := by decide +kernel
theorem dX6_parallel_106 : decode cX6_parallel 106 = .ok (.getfield 73, 3) := by decide +kernel
theorem dX6_parallel_109 : decode cX6_parallel 109 = .ok (.iconst (-1), 1) := by decide +kernel
theorem dX6_parallel_110 : decode cX6_parallel 110 = .ok (.if_icmp .eq 19, 3) := by decide +kernel
theorem dX6_parallel_113 : decode cX6_parallel 113 = .ok (.aload_n 0, 1) := by decide +kernel
theorem dX6_parallel_114 : decode cX6_parallel 114 = .ok (.iload_n 1, 1) := by decide +kernel
theorem dX6_parallel_115 : decode cX6_parallel 115 = .ok (.invokevirtual 275, 3) := by decide +kernel
theorem dX6_parallel_118 : decode cX6_parallel 118 = .ok (.ifCond .ne 11, 3) := by decide +kernel
theorem dX6_parallel_121 : decode cX6_parallel 121 = .ok (.aload_n 0, 1) := by decide +kernel
theorem dX6_parallel_122 : decode cX6_parallel 122 = .ok (.iload_n 2, 1) := by decide +kernel
theorem dX6_parallel_123 : decode cX6_parallel 123 = .ok (.invokevirtual 275, 3) := by decide +kernel
theorem dX6_parallel_126 : decode cX6_parallel 126 = .ok (.ifCond .eq 5, 3) := by decide +kernel
theorem dX6_parallel_129 : decode cX6_parallel 129 = .ok (.iconst (-1), 1) := by decide +kernel
theorem dX6_parallel_130 : decode cX6_parallel 130 = .ok (.ireturn, 1) := by decide +kernel
theorem dX6_parallel_131 : decode cX6_parallel 131 = .ok (.iload_n 1, 1) := by decide +kernel
theorem dX6_parallel_132 : decode cX6_parallel 132 = .ok (.iload_n 2, 1) := by decide +kernel
theorem dX6_parallel_133 : decode cX6_parallel 133 = .ok (.if_icmp .ne 5, 3) := by decide +kernel
theorem dX6_parallel_136 : decode cX6_parallel 136 = .ok (.iconst 1, 1) := by decide +kernel
theorem dX6_parallel_137 : decode cX6_parallel 137 = .ok (.ireturn, 1) := by decide +kernel
theorem dX6_parallel_138 : decode cX6_parallel 138 = .ok (.aload_n 0, 1) := by decide +kernel
theorem dX6_parallel_139 : decode cX6_parallel 139 = .ok (.iload_n 1, 1) := by decide +kernel
theorem dX6_parallel_140 : decode cX6_parallel 140 = .ok (.iload_n 2, 1) := by decide +kernel
theorem dX6_parallel_141 : decode cX6_parallel 141 = .ok (.invokevirtual 184, 3) := by decide +kernel
theorem dX6_parallel_144 : decode cX6_parallel 144 = .ok (.istore 5, 2) := by decide +kernel
theorem dX6_parallel_146 : decode cX6_parallel 146 = .ok (.iload 5, 2) := by decide +kernel
theorem dX6_parallel_148 : decode cX6_parallel 148 = .ok (.ifCond .ge 15, 3) := by decide +kernel
theorem dX6_parallel_151 : decode cX6_parallel 151 = .ok (.iload_n 3, 1) := by decide +kernel
theorem dX6_parallel_152 : decode cX6_parallel 152 = .ok (.ifCond .eq 7, 3) := by decide +kernel
theorem dX6_parallel_155 : decode cX6_parallel 155 = .ok (.iconst 0, 1) := by decide +kernel
theorem dX6_parallel_156 : decode cX6_parallel 156 = .ok (.goto 21, 3) := by decide +kernel
theorem dX6_parallel_159 : decode cX6_parallel 159 = .ok (.iconst 1, 1) := by decide +kernel
theorem dX6_parallel_160 : decode cX6_parallel 160 = .ok (.goto 17, 3) := by decide +kernel
theorem dX6_parallel_163 : decode cX6_parallel 163 = .ok (.aload_n 0, 1) := by decide +kernel
theorem dX6_parallel_164 : decode cX6_parallel 164 = .ok (.iload 5, 2) := by decide +kernel
theorem dX6_parallel_166 : decode cX6_parallel 166 = .ok (.invokevirtual 278, 3) := by decide +kernel
theorem dX6_parallel_169 : decode cX6_parallel 169 = .ok (.ifCond .eq 7, 3) := by decide +kernel
theorem dX6_parallel_172 : decode cX6_parallel 172 = .ok (.iconst 1, 1) := by decide +kernel
theorem dX6_parallel_173 : decode cX6_parallel 173 = .ok (.goto 4, 3) := by decide +kernel
theorem dX6_parallel_176 : decode cX6_parallel 176 = .ok (.iconst 0, 1) := by decide +kernel
theorem dX6_parallel_177 : decode cX6_parallel 177 = .ok (.ireturn, 1) := by decide +kernel
theorem dX6_middle_0 : decode cX6_middle 0 = .ok (.aload_n 0, 1) := by decide +kernel
theorem dX6_middle_1 : decode cX6_middle 1 = .ok (.iload_n 1, 1) := by decide +kernel
theorem dX6_middle_2 : decode cX6_middle 2 = .ok (.iconst 0, 1) := by decide +kernel
theorem dX6_middle_3 : decode cX6_middle 3 = .ok (.invokevirtual 146, 3) := by decide +kernel
theorem dX6_middle_6 : decode cX6_middle 6 = .ok (.ifCond .eq 12, 3) := by decide +kernel
theorem dX6_middle_9 : decode cX6_middle 9 = .ok (.aload_n 0, 1) := by decide +kernel
theorem dX6_middle_10 : decode cX6_middle 10 = .ok (.iload_n 2, 1) := by decide +kernel
theorem dX6_middle_11 : decode cX6_middle 11 = .ok (.iconst 0, 1) := by decide +kernel
theorem dX6_middle_12 : decode cX6_middle 12 = .ok (.invokevirtual 146, 3) := by decide +kernel
theorem dX6_middle_15 : decode cX6_middle 15 = .ok (.ifCond .ne 6, 3) := by decide +kernel
theorem dX6_middle_18 : decode cX6_middle 18 = .ok (.bipush (-2), 2) := by decide +kernel
theorem dX6_middle_20 : decode cX6_middle 20 = .ok (.ireturn, 1) := by decide +kernel
theorem dX6_middle_21 : decode cX6_middle 21 = .ok (.iload_n 1, 1) := by decide +kernel
theorem dX6_middle_22 : decode cX6_middle 22 = .ok (.iload_n 2, 1) := by decide +kernel
theorem dX6_middle_23 : decode cX6_middle 23 = .ok (.if_icmp .eq 39, 3) := by decide +kernel
theorem dX6_middle_26 : decode cX6_middle 26 = .ok (.aload_n 0, 1) := by decide +kernel
theorem dX6_middle_27 : decode cX6_middle 27 = .ok (.getfield 73, 3) := by decide +kernel
theorem dX6_middle_30 : decode cX6_middle 30 = .ok (.iconst (-1), 1) := by decide +kernel
theorem dX6_middle_31 : decode cX6_middle 31 = .ok (.if_icmp .eq 31, 3) := by decide +kernel
theorem dX6_middle_34 : decode cX6_middle 34 = .ok (.aload_n 0, 1) := by decide +kernel
theorem dX6_middle_35 : decode cX6_middle 35 = .ok (.iload_n 1, 1) := by decide +kernel
theorem dX6_middle_36 : decode cX6_middle 36 = .ok (.aload_n 0, 1) := by decide +kernel
theorem dX6_middle_37 : decode cX6_middle 37 = .ok (.getfield 73, 3) := by decide +kernel
theorem dX6_middle_40 : decode cX6_middle 40 = .ok (.invokevirtual 191, 3) := by decide +kernel
theorem dX6_middle_43 : decode cX6_middle 43 = .ok (.lconst 0, 1) := by decide +kernel
theorem dX6_middle_44 : decode cX6_middle 44 = .ok (.lcmp, 1) := by decide +kernel
theorem dX6_middle_45 : decode cX6_middle 45 = .ok (.ifCond .eq 17, 3) := by decide +kernel
theorem dX6_middle_48 : decode cX6_middle 48 = .ok (.aload_n 0, 1) := by decide +kernel
theorem dX6_middle_49 : decode cX6_middle 49 = .ok (.iload_n 2, 1) := by decide +kernel
theorem dX6_middle_50 : decode cX6_middle 50 = .ok (.aload_n 0, 1) := by decide +kernel
theorem dX6_middle_51 : decode cX6_middle 51 = .ok (.getfield 73, 3) := by decide +kernel
theorem dX6_middle_54 : decode cX6_middle 54 = .ok (.invokevirtual 191, 3) := by decide +kernel
theorem dX6_middle_57 : decode cX6_middle 57 = .ok (.lconst 0, 1) := by decide +kernel
theorem dX6_middle_58 : decode cX6_middle 58 = .ok (.lcmp, 1) := by decide +kernel
theorem dX6_middle_59 : decode cX6_middle 59 = .ok (.ifCond .ne 5, 3) := by decide +kernel
theorem dX6_middle_62 : decode cX6_middle 62 = .ok (.iconst (-1), 1) := by decide +kernel
theorem dX6_middle_63 : decode cX6_middle 63 = .ok (.ireturn, 1) := by decide +kernel
theorem dX6_middle_64 : decode cX6_middle 64 = .ok (.aload_n 0, 1) := by decide +kernel
theorem dX6_middle_65 : decode cX6_middle 65 = .ok (.iload_n 2, 1) := by decide +kernel
theorem dX6_middle_66 : decode cX6_middle 66 = .ok (.aload_n 0, 1) := by decide +kernel
theorem dX6_middle_67 : decode cX6_middle 67 = .ok (.getfield 73, 3) := by decide +kernel
theorem dX6_middle_70 : decode cX6_middle 70 = .ok (.invokevirtual 191, 3) := by decide +kernel
theorem dX6_middle_73 : decode cX6_middle 73 = .ok (.lstore_n 3, 1) := by decide +kernel
theorem dX6_middle_74 : decode cX6_middle 74 = .ok (.aload_n 0, 1) := by decide +kernel
theorem dX6_middle_75 : decode cX6_middle 75 = .ok (.iload_n 1, 1) := by decide +kernel
theorem dX6_middle_76 : decode cX6_middle 76 = .ok (.aload_n 0, 1) := by decide +kernel
theorem dX6_middle_77 : decode cX6_middle 77 = .ok (.getfield 73, 3) := by decide +kernel
theorem dX6_middle_80 : decode cX6_middle 80 = .ok (.invokevirtual 191, 3) := by decide +kernel
theorem dX6_middle_83 : decode cX6_middle 83 = .ok (.lstore 5, 2) := by decide +kernel
theorem dX6_middle_85 : decode cX6_middle 85 = .ok (.aload_n 0, 1) := by decide +kernel
theorem dX6_middle_86 : decode cX6_middle 86 = .ok (.invokevirtual 136, 3) := by decide +kernel
theorem dX6_middle_89 : decode cX6_middle 89 = .ok (.iconst 0, 1) := by decide +kernel
theorem dX6_middle_90 : decode cX6_middle 90 = .ok (.istore 7, 2) := by decide +kernel
theorem dX6_middle_92 : decode cX6_middle 92 = .ok (.iload 7, 2) := by decide +kernel
theorem dX6_middle_94 : decode cX6_middle 94 = .ok (.aload_n 0, 1) := by decide +kernel
theorem dX6_middle_95 : decode cX6_middle 95 = .ok (.invokevirtual 111, 3) := by decide +kernel
theorem dX6_middle_98 : decode cX6_middle 98 = .ok (.if_icmp .ge 47, 3) := by decide +kernel
theorem dX6_middle_101 : decode cX6_middle 101 = .ok (.aload_n 0, 1) := by decide +kernel
theorem dX6_middle_102 : decode cX6_middle 102 = .ok (.getfield 29, 3) := by decide +kernel
theorem dX6_middle_105 : decode cX6_middle 105 = .ok (.iload 7, 2) := by decide +kernel
theorem dX6_middle_107 : decode cX6_middle 107 = .ok (.aload_n 0, 1) := by decide +kernel
theorem dX6_middle_108 : decode cX6_middle 108 = .ok (.lload_n 3, 1) := by decide +kernel
theorem dX6_middle_109 : decode cX6_middle 109 = .ok (.aload_n 0, 1) := by decide +kernel
theorem dX6_middle_110 : decode cX6_middle 110 = .ok (.iload_n 1, 1) := by decide +kernel
theorem dX6_middle_111 : decode cX6_middle 111 = .ok (.iload 7, 2) := by decide +kernel
theorem dX6_middle_113 : decode cX6_middle 113 = .ok (.invokevirtual 108, 3) := by decide +kernel
theorem dX6_middle_116 : decode cX6_middle 116 = .ok (.invokevirtual 76, 3) := by decide +kernel
theorem dX6_middle_119 : decode cX6_middle 119 = .ok (.aload_n 0, 1) := by decide +kernel
theorem dX6_middle_120 : decode cX6_middle 120 = .ok (.lload 5, 2) := by decide +kernel
theorem dX6_middle_122 : decode cX6_middle 122 = .ok (.aload_n 0, 1) := by decide +kernel
theorem dX6_middle_123 : decode cX6_middle 123 = .ok (.iload_n 2, 1) := by decide +kernel
theorem dX6_middle_124 : decode cX6_middle 124 = .ok (.iload 7, 2) := by decide +kernel
theorem dX6_middle_126 : decode cX6_middle 126 = .ok (.invokevirtual 108, 3) := by decide +kernel
theorem dX6_middle_129 : decode cX6_middle 129 = .ok (.invokevirtual 76, 3) := by decide +kernel
theorem dX6_middle_132 : decode cX6_middle 132 = .ok (.ladd, 1) := by decide +kernel
theorem dX6_middle_133 : decode cX6_middle 133 = .ok (.aload_n 0, 1) := by decide +kernel
theorem dX6_middle_134 : decode cX6_middle 134 = .ok (.getfield 60, 3) := by decide +kernel
theorem dX6_middle_137 : decode cX6_middle 137 = .ok (.lrem, 1) := by decide +kernel
theorem dX6_middle_138 : decode cX6_middle 138 = .ok (.lastore, 1) := by decide +kernel
theorem dX6_middle_139 : decode cX6_middle 139 = .ok (.iinc 7 1, 3) := by decide +kernel
theorem dX6_middle_142 : decode cX6_middle 142 = .ok (.goto (-50), 3) := by decide +kernel
theorem dX6_middle_145 : decode cX6_middle 145 = .ok (.aload_n 0, 1) := by decide +kernel
theorem dX6_middle_146 : decode cX6_middle 146 = .ok (.iconst 0, 1) := by decide +kernel
theorem dX6_middle_147 : decode cX6_middle 147 = .ok (.invokevirtual 168, 3) := by decide +kernel
theorem dX6_middle_150 : decode cX6_middle 150 = .ok (.ireturn, 1) := by decide +kernel
theorem dX6_isLine_0 : decode cX6_isLine 0 = .ok (.aload_n 0, 1) := by decide +kernel
theorem dX6_isLine_1 : decode cX6_isLine 1 = .ok (.getfield 20, 3) := by decide +kernel
theorem dX6_isLine_4 : decode cX6_isLine 4 = .ok (.iload_n 1, 1) := by decide +kernel
theorem dX6_isLine_5 : decode cX6_isLine 5 = .ok (.iaload, 1) := by decide +kernel
theorem dX6_isLine_6 : decode cX6_isLine 6 = .ok (.aload_n 0, 1) := by decide +kernel
theorem dX6_isLine_7 : decode cX6_isLine 7 = .ok (.getfield 20, 3) := by decide +kernel
theorem dX6_isLine_10 : decode cX6_isLine 10 = .ok (.iload_n 2, 1) := by decide +kernel
theorem dX6_isLine_11 : decode cX6_isLine 11 = .ok (.iaload, 1) := by decide +kernel
theorem dX6_isLine_12 : decode cX6_isLine 12 = .ok (.if_icmp .ne 5, 3) := by decide +kernel
theorem dX6_isLine_15 : decode cX6_isLine 15 = .ok (.iconst 0, 1) := by decide +kernel
theorem dX6_isLine_16 : decode cX6_isLine 16 = .ok (.ireturn, 1) := by decide +kernel
theorem dX6_isLine_17 : decode cX6_isLine 17 = .ok (.lconst 0, 1) := by decide +kernel
theorem dX6_isLine_18 : decode cX6_isLine 18 = .ok (.lstore 4, 2) := by decide +kernel
theorem dX6_isLine_20 : decode cX6_isLine 20 = .ok (.iconst 0, 1) := by decide +kernel
theorem dX6_isLine_21 : decode cX6_isLine 21 = .ok (.istore 6, 2) := by decide +kernel
theorem dX6_isLine_23 : decode cX6_isLine 23 = .ok (.iload 6, 2) := by decide +kernel
theorem dX6_isLine_25 : decode cX6_isLine 25 = .ok (.iconst 3, 1) := by decide +kernel
theorem dX6_isLine_26 : decode cX6_isLine 26 = .ok (.if_icmp .ge 112, 3) := by decide +kernel
theorem dX6_isLine_29 : decode cX6_isLine 29 = .ok (.iload 6, 2) := by decide +kernel
theorem dX6_isLine_31 : decode cX6_isLine 31 = .ok (.iconst 1, 1) := by decide +kernel
theorem dX6_isLine_32 : decode cX6_isLine 32 = .ok (.iadd, 1) := by decide +kernel
theorem dX6_isLine_33 : decode cX6_isLine 33 = .ok (.iconst 3, 1) := by decide +kernel
theorem dX6_isLine_34 : decode cX6_isLine 34 = .ok (.irem, 1) := by decide +kernel
theorem dX6_isLine_35 : decode cX6_isLine 35 = .ok (.istore 7, 2) := by decide +kernel
theorem dX6_isLine_37 : decode cX6_isLine 37 = .ok (.iload 6, 2) := by decide +kernel
theorem dX6_isLine_39 : decode cX6_isLine 39 = .ok (.iconst 2, 1) := by decide +kernel
theorem dX6_isLine_40 : decode cX6_isLine 40 = .ok (.iadd, 1) := by decide +kernel
theorem dX6_isLine_41 : decode cX6_isLine 41 = .ok (.iconst 3, 1) := by decide +kernel
theorem dX6_isLine_42 : decode cX6_isLine 42 = .ok (.irem, 1) := by decide +kernel
theorem dX6_isLine_43 : decode cX6_isLine 43 = .ok (.istore 8, 2) := by decide +kernel
theorem dX6_isLine_45 : decode cX6_isLine 45 = .ok (.aload_n 0, 1) := by decide +kernel
theorem dX6_isLine_46 : decode cX6_isLine 46 = .ok (.aload_n 0, 1) := by decide +kernel
theorem dX6_isLine_47 : decode cX6_isLine 47 = .ok (.aload_n 0, 1) := by decide +kernel
theorem dX6_isLine_48 : decode cX6_isLine 48 = .ok (.aload_n 0, 1) := by decide +kernel
theorem dX6_isLine_49 : decode cX6_isLine 49 = .ok (.getfield 20, 3) := by decide +kernel
theorem dX6_isLine_52 : decode cX6_isLine 52 = .ok (.iload_n 1, 1) := by decide +kernel
theorem dX6_isLine_53 : decode cX6_isLine 53 = .ok (.iaload, 1) := by decide +kernel
theorem dX6_isLine_54 : decode cX6_isLine 54 = .ok (.iload 7, 2) := by decide +kernel
theorem dX6_isLine_56 : decode cX6_isLine 56 = .ok (.invokevirtual 108, 3) := by decide +kernel
theorem dX6_isLine_59 : decode cX6_isLine 59 = .ok (.aload_n 0, 1) := by decide +kernel
theorem dX6_isLine_60 : decode cX6_isLine 60 = .ok (.aload_n 0, 1) := by decide +kernel
theorem dX6_isLine_61 : decode cX6_isLine 61 = .ok (.getfield 20, 3) := by decide +kernel
theorem dX6_isLine_64 : decode cX6_isLine 64 = .ok (.iload_n 2, 1) := by decide +kernel
theorem dX6_isLine_65 : decode cX6_isLine 65 = .ok (.iaload, 1) := by decide +kernel
theorem dX6_isLine_66 : decode cX6_isLine 66 = .ok (.iload 8, 2) := by decide +kernel
theorem dX6_isLine_68 : decode cX6_isLine 68 = .ok (.invokevirtual 108, 3) := by decide +kernel
theorem dX6_isLine_71 : decode cX6_isLine 71 = .ok (.invokevirtual 76, 3) := by decide +kernel
theorem dX6_isLine_74 : decode cX6_isLine 74 = .ok (.aload_n 0, 1) := by decide +kernel
theorem dX6_isLine_75 : decode cX6_isLine 75 = .ok (.aload_n 0, 1) := by decide +kernel
theorem dX6_isLine_76 : decode cX6_isLine 76 = .ok (.aload_n 0, 1) := by decide +kernel
theorem dX6_isLine_77 : decode cX6_isLine 77 = .ok (.getfield 20, 3) := by decide +kernel
theorem dX6_isLine_80 : decode cX6_isLine 80 = .ok (.iload_n 1, 1) := by decide +kernel
theorem dX6_isLine_81 : decode cX6_isLine 81 = .ok (.iaload, 1) := by decide +kernel
theorem dX6_isLine_82 : decode cX6_isLine 82 = .ok (.iload 8, 2) := by decide +kernel
theorem dX6_isLine_84 : decode cX6_isLine 84 = .ok (.invokevirtual 108, 3) := by decide +kernel
theorem dX6_isLine_87 : decode cX6_isLine 87 = .ok (.aload_n 0, 1) := by decide +kernel
theorem dX6_isLine_88 : decode cX6_isLine 88 = .ok (.aload_n 0, 1) := by decide +kernel
theorem dX6_isLine_89 : decode cX6_isLine 89 = .ok (.getfield 20, 3) := by decide +kernel
theorem dX6_isLine_92 : decode cX6_isLine 92 = .ok (.iload_n 2, 1) := by decide +kernel
theorem dX6_isLine_93 : decode cX6_isLine 93 = .ok (.iaload, 1) := by decide +kernel
theorem dX6_isLine_94 : decode cX6_isLine 94 = .ok (.iload 7, 2) := by decide +kernel
theorem dX6_isLine_96 : decode cX6_isLine 96 = .ok (.invokevirtual 108, 3) := by decide +kernel
theorem dX6_isLine_99 : decode cX6_isLine 99 = .ok (.invokevirtual 76, 3) := by decide +kernel
theorem dX6_isLine_102 : decode cX6_isLine 102 = .ok (.invokevirtual 105, 3) := by decide +kernel
theorem dX6_isLine_105 : decode cX6_isLine 105 = .ok (.lstore 4, 2) := by decide +kernel
theorem dX6_isLine_107 : decode cX6_isLine 107 = .ok (.iload_n 3, 1) := by decide +kernel
theorem dX6_isLine_108 : decode cX6_isLine 108 = .ok (.ifCond .eq 15, 3) := by decide +kernel
theorem dX6_isLine_111 : decode cX6_isLine 111 = .ok (.aload_n 0, 1) := by decide +kernel
theorem dX6_isLine_112 : decode cX6_isLine 112 = .ok (.getfield 35, 3) := by decide +kernel
theorem dX6_isLine_115 : decode cX6_isLine 115 = .ok (.iload 6, 2) := by decide +kernel
theorem dX6_isLine_117 : decode cX6_isLine 117 = .ok (.lload 4, 2) := by decide +kernel
theorem dX6_isLine_119 : decode cX6_isLine 119 = .ok (.lastore, 1) := by decide +kernel
theorem dX6_isLine_120 : decode cX6_isLine 120 = .ok (.goto 12, 3) := by decide +kernel
theorem dX6_isLine_123 : decode cX6_isLine 123 = .ok (.aload_n 0, 1) := by decide +kernel
theorem dX6_isLine_124 : decode cX6_isLine 124 = .ok (.getfield 38, 3) := by decide +kernel
theorem dX6_isLine_127 : decode cX6_isLine 127 = .ok (.iload 6, 2) := by decide +kernel
theorem dX6_isLine_129 : decode cX6_isLine 129 = .ok (.lload 4, 2) := by decide +kernel
theorem dX6_isLine_131 : decode cX6_isLine 131 = .ok (.lastore, 1) := by decide +kernel
theorem dX6_isLine_132 : decode cX6_isLine 132 = .ok (.iinc 6 1, 3) := by decide +kernel
theorem dX6_isLine_135 : decode cX6_isLine 135 = .ok (.goto (-112), 3) := by decide +kernel
theorem dX6_isLine_138 : decode cX6_isLine 138 = .ok (.iconst 1, 1) := by decide +kernel
theorem dX6_isLine_139 : decode cX6_isLine 139 = .ok (.ireturn, 1) := by decide +kernel
theorem dX6_rankOfThree_0 : decode cX6_rankOfThree 0 = .ok (.aload_n 0, 1) := by decide +kernel
theorem dX6_rankOfThree_1 : decode cX6_rankOfThree 1 = .ok (.iconst 0, 1) := by decide +kernel
theorem dX6_rankOfThree_2 : decode cX6_rankOfThree 2 = .ok (.aload_n 0, 1) := by decide +kernel
theorem dX6_rankOfThree_3 : decode cX6_rankOfThree 3 = .ok (.getfield 20, 3) := by decide +kernel
theorem dX6_rankOfThree_6 : decode cX6_rankOfThree 6 = .ok (.iload_n 1, 1) := by decide +kernel
theorem dX6_rankOfThree_7 : decode cX6_rankOfThree 7 = .ok (.iaload, 1) := by decide +kernel
theorem dX6_rankOfThree_8 : decode cX6_rankOfThree 8 = .ok (.iconst 3, 1) := by decide +kernel
theorem dX6_rankOfThree_9 : decode cX6_rankOfThree 9 = .ok (.invokevirtual 197, 3) := by decide +kernel
theorem dX6_rankOfThree_12 : decode cX6_rankOfThree 12 = .ok (.aload_n 0, 1) := by decide +kernel
theorem dX6_rankOfThree_13 : decode cX6_rankOfThree 13 = .ok (.iconst 1, 1) := by decide +kernel
theorem dX6_rankOfThree_14 : decode cX6_rankOfThree 14 = .ok (.aload_n 0, 1) := by decide +kernel
theorem dX6_rankOfThree_15 : decode cX6_rankOfThree 15 = .ok (.getfield 20, 3) := by decide +kernel
theorem dX6_rankOfThree_18 : decode cX6_rankOfThree 18 = .ok (.iload_n 2, 1) := by decide +kernel
theorem dX6_rankOfThree_19 : decode cX6_rankOfThree 19 = .ok (.iaload, 1) := by decide +kernel
theorem dX6_rankOfThree_20 : decode cX6_rankOfThree 20 = .ok (.iconst 3, 1) := by decide +kernel
theorem dX6_rankOfThree_21 : decode cX6_rankOfThree 21 = .ok (.invokevirtual 197, 3) := by decide +kernel
theorem dX6_rankOfThree_24 : decode cX6_rankOfThree 24 = .ok (.aload_n 0, 1) := by decide +kernel
theorem dX6_rankOfThree_25 : decode cX6_rankOfThree 25 = .ok (.iconst 2, 1) := by decide +kernel
theorem dX6_rankOfThree_26 : decode cX6_rankOfThree 26 = .ok (.aload_n 0, 1) := by decide +kernel
theorem dX6_rankOfThree_27 : decode cX6_rankOfThree 27 = .ok (.getfield 20, 3) := by decide +kernel
theorem dX6_rankOfThree_30 : decode cX6_rankOfThree 30 = .ok (.iload_n 3, 1) := by decide +kernel
theorem dX6_rankOfThree_31 : decode cX6_rankOfThree 31 = .ok (.iaload, 1) := by decide +kernel
theorem dX6_rankOfThree_32 : decode cX6_rankOfThree 32 = .ok (.iconst 3, 1) := by decide +kernel
theorem dX6_rankOfThree_33 : decode cX6_rankOfThree 33 = .ok (.invokevirtual 197, 3) := by decide +kernel
theorem dX6_rankOfThree_36 : decode cX6_rankOfThree 36 = .ok (.aload_n 0, 1) := by decide +kernel
theorem dX6_rankOfThree_37 : decode cX6_rankOfThree 37 = .ok (.iconst 3, 1) := by decide +kernel
theorem dX6_rankOfThree_38 : decode cX6_rankOfThree 38 = .ok (.iconst 3, 1) := by decide +kernel
theorem dX6_rankOfThree_39 : decode cX6_rankOfThree 39 = .ok (.iconst 3, 1) := by decide +kernel
theorem dX6_rankOfThree_40 : decode cX6_rankOfThree 40 = .ok (.invokevirtual 115, 3) := by decide +kernel
theorem dX6_rankOfThree_43 : decode cX6_rankOfThree 43 = .ok (.ireturn, 1) := by decide +kernel
theorem dX6_isMet_0 : decode cX6_isMet 0 = .ok (.aload_n 0, 1) := by decide +kernel
theorem dX6_isMet_1 : decode cX6_isMet 1 = .ok (.iload_n 1, 1) := by decide +kernel
theorem dX6_isMet_2 : decode cX6_isMet 2 = .ok (.iload_n 2, 1) := by decide +kernel
theorem dX6_isMet_3 : decode cX6_isMet 3 = .ok (.iconst 1, 1) := by decide +kernel
theorem dX6_isMet_4 : decode cX6_isMet 4 = .ok (.invokevirtual 281, 3) := by decide +kernel
theorem dX6_isMet_7 : decode cX6_isMet 7 = .ok (.ifCond .eq 14, 3) := by decide +kernel
theorem dX6_isMet_10 : decode cX6_isMet 10 = .ok (.aload_n 0, 1) := by decide +kernel
theorem dX6_isMet_11 : decode cX6_isMet 11 = .ok (.iload_n 3, 1) := by decide +kernel
theorem dX6_isMet_12 : decode cX6_isMet 12 = .ok (.iload 4, 2) := by decide +kernel
theorem dX6_isMet_14 : decode cX6_isMet 14 = .ok (.iconst 0, 1) := by decide +kernel
theorem dX6_isMet_15 : decode cX6_isMet 15 = .ok (.invokevirtual 281, 3) := by decide +kernel
theorem dX6_isMet_18 : decode cX6_isMet 18 = .ok (.ifCond .ne 5, 3) := by decide +kernel
theorem dX6_isMet_21 : decode cX6_isMet 21 = .ok (.iconst 0, 1) := by decide +kernel
theorem dX6_isMet_22 : decode cX6_isMet 22 = .ok (.ireturn, 1) := by decide +kernel
theorem dX6_isMet_23 : decode cX6_isMet 23 = .ok (.aload_n 0, 1) := by decide +kernel
theorem dX6_isMet_24 : decode cX6_isMet 24 = .ok (.invokevirtual 156, 3) := by decide +kernel
theorem dX6_isMet_27 : decode cX6_isMet 27 = .ok (.iconst 0, 1) := by decide +kernel
theorem dX6_isMet_28 : decode cX6_isMet 28 = .ok (.istore 6, 2) := by decide +kernel
theorem dX6_isMet_30 : decode cX6_isMet 30 = .ok (.iload 6, 2) := by decide +kernel
theorem dX6_isMet_32 : decode cX6_isMet 32 = .ok (.iconst 3, 1) := by decide +kernel
theorem dX6_isMet_33 : decode cX6_isMet 33 = .ok (.if_icmp .ge 28, 3) := by decide +kernel
theorem dX6_isMet_36 : decode cX6_isMet 36 = .ok (.aload_n 0, 1) := by decide +kernel
theorem dX6_isMet_37 : decode cX6_isMet 37 = .ok (.getfield 41, 3) := by decide +kernel
theorem dX6_isMet_40 : decode cX6_isMet 40 = .ok (.iconst 3, 1) := by decide +kernel
theorem dX6_isMet_41 : decode cX6_isMet 41 = .ok (.iload 5, 2) := by decide +kernel
theorem dX6_isMet_43 : decode cX6_isMet 43 = .ok (.imul, 1) := by decide +kernel
theorem dX6_isMet_44 : decode cX6_isMet 44 = .ok (.iload 6, 2) := by decide +kernel
theorem dX6_isMet_46 : decode cX6_isMet 46 = .ok (.iadd, 1) := by decide +kernel
theorem dX6_isMet_47 : decode cX6_isMet 47 = .ok (.aload_n 0, 1) := by decide +kernel
theorem dX6_isMet_48 : decode cX6_isMet 48 = .ok (.getfield 29, 3) := by decide +kernel
theorem dX6_isMet_51 : decode cX6_isMet 51 = .ok (.iload 6, 2) := by decide +kernel
theorem dX6_isMet_53 : decode cX6_isMet 53 = .ok (.laload, 1) := by decide +kernel
theorem dX6_isMet_54 : decode cX6_isMet 54 = .ok (.lastore, 1) := by decide +kernel
theorem dX6_isMet_55 : decode cX6_isMet 55 = .ok (.iinc 6 1, 3) := by decide +kernel
theorem dX6_isMet_58 : decode cX6_isMet 58 = .ok (.goto (-28), 3) := by decide +kernel
theorem dX6_isMet_61 : decode cX6_isMet 61 = .ok (.aload_n 0, 1) := by decide +kernel
theorem dX6_isMet_62 : decode cX6_isMet 62 = .ok (.iconst 0, 1) := by decide +kernel
theorem dX6_isMet_63 : decode cX6_isMet 63 = .ok (.invokevirtual 130, 3) := by decide +kernel
theorem dX6_isMet_66 : decode cX6_isMet 66 = .ok (.ifCond .ne 7, 3) := by decide +kernel
theorem dX6_isMet_69 : decode cX6_isMet 69 = .ok (.iconst 1, 1) := by decide +kernel
theorem dX6_isMet_70 : decode cX6_isMet 70 = .ok (.goto 4, 3) := by decide +kernel
theorem dX6_isMet_73 : decode cX6_isMet 73 = .ok (.iconst 0, 1) := by decide +kernel
theorem dX6_isMet_74 : decode cX6_isMet 74 = .ok (.ireturn, 1) := by decide +kernel
theorem dX6_areThree_0 : decode cX6_areThree 0 = .ok (.iconst 0, 1) := by decide +kernel
theorem dX6_areThree_1 : decode cX6_areThree 1 = .ok (.istore_n 1, 1) := by decide +kernel
theorem dX6_areThree_2 : decode cX6_areThree 2 = .ok (.iload_n 1, 1) := by decide +kernel
theorem dX6_areThree_3 : decode cX6_areThree 3 = .ok (.iconst 3, 1) := by decide +kernel
theorem dX6_areThree_4 : decode cX6_areThree 4 = .ok (.if_icmp .ge 52, 3) := by decide +kernel
theorem dX6_areThree_7 : decode cX6_areThree 7 = .ok (.aload_n 0, 1) := by decide +kernel
theorem dX6_areThree_8 : decode cX6_areThree 8 = .ok (.iload_n 1, 1) := by decide +kernel
theorem dX6_areThree_9 : decode cX6_areThree 9 = .ok (.iload_n 1, 1) := by decide +kernel
theorem dX6_areThree_10 : decode cX6_areThree 10 = .ok (.iconst 3, 1) := by decide +kernel
theorem dX6_areThree_11 : decode cX6_areThree 11 = .ok (.iadd, 1) := by decide +kernel
theorem dX6_areThree_12 : decode cX6_areThree 12 = .ok (.iconst 1, 1) := by decide +kernel
theorem dX6_areThree_13 : decode cX6_areThree 13 = .ok (.invokevirtual 281, 3) := by decide +kernel
theorem dX6_areThree_16 : decode cX6_areThree 16 = .ok (.ifCond .ne 5, 3) := by decide +kernel
theorem dX6_areThree_19 : decode cX6_areThree 19 = .ok (.iconst 0, 1) := by decide +kernel
theorem dX6_areThree_20 : decode cX6_areThree 20 = .ok (.ireturn, 1) := by decide +kernel
theorem dX6_areThree_21 : decode cX6_areThree 21 = .ok (.iconst 0, 1) := by decide +kernel
theorem dX6_areThree_22 : decode cX6_areThree 22 = .ok (.istore_n 2, 1) := by decide +kernel
theorem dX6_areThree_23 : decode cX6_areThree 23 = .ok (.iload_n 2, 1) := by decide +kernel
theorem dX6_areThree_24 : decode cX6_areThree 24 = .ok (.iconst 3, 1) := by decide +kernel
theorem dX6_areThree_25 : decode cX6_areThree 25 = .ok (.if_icmp .ge 25, 3) := by decide +kernel
theorem dX6_areThree_28 : decode cX6_areThree 28 = .ok (.aload_n 0, 1) := by decide +kernel
theorem dX6_areThree_29 : decode cX6_areThree 29 = .ok (.getfield 41, 3) := by decide +kernel
theorem dX6_areThree_32 : decode cX6_areThree 32 = .ok (.iconst 3, 1) := by decide +kernel
theorem dX6_areThree_33 : decode cX6_areThree 33 = .ok (.iload_n 1, 1) := by decide +kernel
theorem dX6_areThree_34 : decode cX6_areThree 34 = .ok (.imul, 1) := by decide +kernel
theorem dX6_areThree_35 : decode cX6_areThree 35 = .ok (.iload_n 2, 1) := by decide +kernel
theorem dX6_areThree_36 : decode cX6_areThree 36 = .ok (.iadd, 1) := by decide +kernel
theorem dX6_areThree_37 : decode cX6_areThree 37 = .ok (.aload_n 0, 1) := by decide +kernel
theorem dX6_areThree_38 : decode cX6_areThree 38 = .ok (.getfield 35, 3) := by decide +kernel
theorem dX6_areThree_41 : decode cX6_areThree 41 = .ok (.iload_n 2, 1) := by decide +kernel
theorem dX6_areThree_42 : decode cX6_areThree 42 = .ok (.laload, 1) := by decide +kernel
theorem dX6_areThree_43 : decode cX6_areThree 43 = .ok (.lastore, 1) := by decide +kernel
theorem dX6_areThree_44 : decode cX6_areThree 44 = .ok (.iinc 2 1, 3) := by decide +kernel
theorem dX6_areThree_47 : decode cX6_areThree 47 = .ok (.goto (-24), 3) := by decide +kernel
theorem dX6_areThree_50 : decode cX6_areThree 50 = .ok (.iinc 1 1, 3) := by decide +kernel
theorem dX6_areThree_53 : decode cX6_areThree 53 = .ok (.goto (-51), 3) := by decide +kernel
theorem dX6_areThree_56 : decode cX6_areThree 56 = .ok (.iconst 0, 1) := by decide +kernel
theorem dX6_areThree_57 : decode cX6_areThree 57 = .ok (.istore_n 1, 1) := by decide +kernel
theorem dX6_areThree_58 : decode cX6_areThree 58 = .ok (.iload_n 1, 1) := by decide +kernel
theorem dX6_areThree_59 : decode cX6_areThree 59 = .ok (.bipush 9, 2) := by decide +kernel
theorem dX6_areThree_61 : decode cX6_areThree 61 = .ok (.if_icmp .ge 25, 3) := by decide +kernel
theorem dX6_areThree_64 : decode cX6_areThree 64 = .ok (.aload_n 0, 1) := by decide +kernel
theorem dX6_areThree_65 : decode cX6_areThree 65 = .ok (.iload_n 1, 1) := by decide +kernel
theorem dX6_areThree_66 : decode cX6_areThree 66 = .ok (.iconst 3, 1) := by decide +kernel
theorem dX6_areThree_67 : decode cX6_areThree 67 = .ok (.idiv, 1) := by decide +kernel
theorem dX6_areThree_68 : decode cX6_areThree 68 = .ok (.iload_n 1, 1) := by decide +kernel
theorem dX6_areThree_69 : decode cX6_areThree 69 = .ok (.iconst 3, 1) := by decide +kernel
theorem dX6_areThree_70 : decode cX6_areThree 70 = .ok (.irem, 1) := by decide +kernel
theorem dX6_areThree_71 : decode cX6_areThree 71 = .ok (.aload_n 0, 1) := by decide +kernel
theorem dX6_areThree_72 : decode cX6_areThree 72 = .ok (.getfield 41, 3) := by decide +kernel
theorem dX6_areThree_75 : decode cX6_areThree 75 = .ok (.iload_n 1, 1) := by decide +kernel
theorem dX6_areThree_76 : decode cX6_areThree 76 = .ok (.laload, 1) := by decide +kernel
theorem dX6_areThree_77 : decode cX6_areThree 77 = .ok (.invokevirtual 101, 3) := by decide +kernel
theorem dX6_areThree_80 : decode cX6_areThree 80 = .ok (.iinc 1 1, 3) := by decide +kernel
theorem dX6_areThree_83 : decode cX6_areThree 83 = .ok (.goto (-25), 3) := by decide +kernel
theorem dX6_areThree_86 : decode cX6_areThree 86 = .ok (.aload_n 0, 1) := by decide +kernel
theorem dX6_areThree_87 : decode cX6_areThree 87 = .ok (.iconst 3, 1) := by decide +kernel
theorem dX6_areThree_88 : decode cX6_areThree 88 = .ok (.iconst 3, 1) := by decide +kernel
theorem dX6_areThree_89 : decode cX6_areThree 89 = .ok (.iconst 3, 1) := by decide +kernel
theorem dX6_areThree_90 : decode cX6_areThree 90 = .ok (.invokevirtual 115, 3) := by decide +kernel
theorem dX6_areThree_93 : decode cX6_areThree 93 = .ok (.iconst 3, 1) := by decide +kernel
theorem dX6_areThree_94 : decode cX6_areThree 94 = .ok (.if_icmp .ge 7, 3) := by decide +kernel
theorem dX6_areThree_97 : decode cX6_areThree 97 = .ok (.iconst 1, 1) := by decide +kernel
theorem dX6_areThree_98 : decode cX6_areThree 98 = .ok (.goto 4, 3) := by decide +kernel
theorem dX6_areThree_101 : decode cX6_areThree 101 = .ok (.iconst 0, 1) := by decide +kernel
theorem dX6_areThree_102 : decode cX6_areThree 102 = .ok (.ireturn, 1) := by decide +kernel
theorem dX6_holds_0 : decode cX6_holds 0 = .ok (.aload_n 0, 1) := by decide +kernel
theorem dX6_holds_1 : decode cX6_holds 1 = .ok (.getfield 56, 3) := by decide +kernel
theorem dX6_holds_4 : decode cX6_holds 4 = .ok (.iconst 3, 1) := by decide +kernel
theorem dX6_holds_5 : decode cX6_holds 5 = .ok (.if_icmp .eq 12, 3) := by decide +kernel
theorem dX6_holds_8 : decode cX6_holds 8 = .ok (.iload_n 1, 1) := by decide +kernel
theorem dX6_holds_9 : decode cX6_holds 9 = .ok (.ifCond .lt 8, 3) := by decide +kernel
theorem dX6_holds_12 : decode cX6_holds 12 = .ok (.iload_n 1, 1) := by decide +kernel
theorem dX6_holds_13 : decode cX6_holds 13 = .ok (.iconst 2, 1) := by decide +kernel
theorem dX6_holds_14 : decode cX6_holds 14 = .ok (.if_icmp .le 6, 3) := by decide +kernel
theorem dX6_holds_17 : decode cX6_holds 17 = .ok (.bipush (-2), 2) := by decide +kernel
theorem dX6_holds_19 : decode cX6_holds 19 = .ok (.ireturn, 1) := by decide +kernel
theorem dX6_holds_20 : decode cX6_holds 20 = .ok (.aload_n 0, 1) := by decide +kernel
theorem dX6_holds_21 : decode cX6_holds 21 = .ok (.getfield 67, 3) := by decide +kernel
theorem dX6_holds_24 : decode cX6_holds 24 = .ok (.bipush 6, 2) := by decide +kernel
theorem dX6_holds_26 : decode cX6_holds 26 = .ok (.if_icmp .eq 5, 3) := by decide +kernel
theorem dX6_holds_29 : decode cX6_holds 29 = .ok (.iconst (-1), 1) := by decide +kernel
theorem dX6_holds_30 : decode cX6_holds 30 = .ok (.ireturn, 1) := by decide +kernel
theorem dX6_holds_31 : decode cX6_holds 31 = .ok (.iload_n 1, 1) := by decide +kernel
theorem dX6_holds_32 : decode cX6_holds 32 = .ok (.ifCond .ne 33, 3) := by decide +kernel
theorem dX6_holds_35 : decode cX6_holds 35 = .ok (.aload_n 0, 1) := by decide +kernel
theorem dX6_holds_36 : decode cX6_holds 36 = .ok (.iconst 0, 1) := by decide +kernel
theorem dX6_holds_37 : decode cX6_holds 37 = .ok (.iconst 2, 1) := by decide +kernel
theorem dX6_holds_38 : decode cX6_holds 38 = .ok (.iconst 4, 1) := by decide +kernel
theorem dX6_holds_39 : decode cX6_holds 39 = .ok (.invokevirtual 285, 3) := by decide +kernel
theorem dX6_holds_42 : decode cX6_holds 42 = .ok (.iconst 3, 1) := by decide +kernel
theorem dX6_holds_43 : decode cX6_holds 43 = .ok (.if_icmp .ge 18, 3) := by decide +kernel
theorem dX6_holds_46 : decode cX6_holds 46 = .ok (.aload_n 0, 1) := by decide +kernel
theorem dX6_holds_47 : decode cX6_holds 47 = .ok (.iconst 1, 1) := by decide +kernel
theorem dX6_holds_48 : decode cX6_holds 48 = .ok (.iconst 3, 1) := by decide +kernel
theorem dX6_holds_49 : decode cX6_holds 49 = .ok (.iconst 5, 1) := by decide +kernel
theorem dX6_holds_50 : decode cX6_holds 50 = .ok (.invokevirtual 285, 3) := by decide +kernel
theorem dX6_holds_53 : decode cX6_holds 53 = .ok (.iconst 3, 1) := by decide +kernel
theorem dX6_holds_54 : decode cX6_holds 54 = .ok (.if_icmp .ge 7, 3) := by decide +kernel
theorem dX6_holds_57 : decode cX6_holds 57 = .ok (.iconst 1, 1) := by decide +kernel
theorem dX6_holds_58 : decode cX6_holds 58 = .ok (.goto 33, 3) := by decide +kernel
theorem dX6_holds_61 : decode cX6_holds 61 = .ok (.iconst 0, 1) := by decide +kernel
theorem dX6_holds_62 : decode cX6_holds 62 = .ok (.goto 29, 3) := by decide +kernel
theorem dX6_holds_65 : decode cX6_holds 65 = .ok (.iload_n 1, 1) := by decide +kernel
theorem dX6_holds_66 : decode cX6_holds 66 = .ok (.iconst 1, 1) := by decide +kernel
theorem dX6_holds_67 : decode cX6_holds 67 = .ok (.if_icmp .ne 10, 3) := by decide +kernel
theorem dX6_holds_70 : decode cX6_holds 70 = .ok (.aload_n 0, 1) := by decide +kernel
theorem dX6_holds_71 : decode cX6_holds 71 = .ok (.invokevirtual 288, 3) := by decide +kernel
theorem dX6_holds_74 : decode cX6_holds 74 = .ok (.goto 17, 3) := by decide +kernel
theorem dX6_holds_77 : decode cX6_holds 77 = .ok (.aload_n 0, 1) := by decide +kernel
theorem dX6_holds_78 : decode cX6_holds 78 = .ok (.invokevirtual 250, 3) := by decide +kernel
theorem dX6_holds_81 : decode cX6_holds 81 = .ok (.bipush 6, 2) := by decide +kernel
theorem dX6_holds_83 : decode cX6_holds 83 = .ok (.if_icmp .ge 7, 3) := by decide +kernel
theorem dX6_holds_86 : decode cX6_holds 86 = .ok (.iconst 1, 1) := by decide +kernel
theorem dX6_holds_87 : decode cX6_holds 87 = .ok (.goto 4, 3) := by decide +kernel
theorem dX6_holds_90 : decode cX6_holds 90 = .ok (.iconst 0, 1) := by decide +kernel
theorem dX6_holds_91 : decode cX6_holds 91 = .ok (.istore_n 2, 1) := by decide +kernel
theorem dX6_holds_92 : decode cX6_holds 92 = .ok (.iload_n 2, 1) := by decide +kernel
theorem dX6_holds_93 : decode cX6_holds 93 = .ok (.ifCond .eq 59, 3) := by decide +kernel
theorem dX6_holds_96 : decode cX6_holds 96 = .ok (.aload_n 0, 1) := by decide +kernel
theorem dX6_holds_97 : decode cX6_holds 97 = .ok (.iconst 0, 1) := by decide +kernel
theorem dX6_holds_98 : decode cX6_holds 98 = .ok (.iconst 1, 1) := by decide +kernel
theorem dX6_holds_99 : decode cX6_holds 99 = .ok (.iconst 3, 1) := by decide +kernel
theorem dX6_holds_100 : decode cX6_holds 100 = .ok (.iconst 4, 1) := by decide +kernel
theorem dX6_holds_101 : decode cX6_holds 101 = .ok (.iconst 0, 1) := by decide +kernel
theorem dX6_holds_102 : decode cX6_holds 102 = .ok (.invokevirtual 292, 3) := by decide +kernel
theorem dX6_holds_105 : decode cX6_holds 105 = .ok (.ifCond .eq 47, 3) := by decide +kernel
theorem dX6_holds_108 : decode cX6_holds 108 = .ok (.aload_n 0, 1) := by decide +kernel
theorem dX6_holds_109 : decode cX6_holds 109 = .ok (.iconst 1, 1) := by decide +kernel
theorem dX6_holds_110 : decode cX6_holds 110 = .ok (.iconst 2, 1) := by decide +kernel
theorem dX6_holds_111 : decode cX6_holds 111 = .ok (.iconst 4, 1) := by decide +kernel
theorem dX6_holds_112 : decode cX6_holds 112 = .ok (.iconst 5, 1) := by decide +kernel
theorem dX6_holds_113 : decode cX6_holds 113 = .ok (.iconst 1, 1) := by decide +kernel
theorem dX6_holds_114 : decode cX6_holds 114 = .ok (.invokevirtual 292, 3) := by decide +kernel
theorem dX6_holds_117 : decode cX6_holds 117 = .ok (.ifCond .eq 35, 3) := by decide +kernel
theorem dX6_holds_120 : decode cX6_holds 120 = .ok (.iload_n 1, 1) := by decide +kernel
theorem dX6_holds_121 : decode cX6_holds 121 = .ok (.iconst 1, 1) := by decide +kernel
theorem dX6_holds_122 : decode cX6_holds 122 = .ok (.if_icmp .ne 18, 3) := by decide +kernel
theorem dX6_holds_125 : decode cX6_holds 125 = .ok (.aload_n 0, 1) := by decide +kernel
theorem dX6_holds_126 : decode cX6_holds 126 = .ok (.iconst 2, 1) := by decide +kernel
theorem dX6_holds_127 : decode cX6_holds 127 = .ok (.iconst 0, 1) := by decide +kernel
theorem dX6_holds_128 : decode cX6_holds 128 = .ok (.iconst 5, 1) := by decide +kernel
theorem dX6_holds_129 : decode cX6_holds 129 = .ok (.iconst 3, 1) := by decide +kernel
theorem dX6_holds_130 : decode cX6_holds 130 = .ok (.iconst 2, 1) := by decide +kernel
theorem dX6_holds_131 : decode cX6_holds 131 = .ok (.invokevirtual 292, 3) := by decide +kernel
theorem dX6_holds_134 : decode cX6_holds 134 = .ok (.ifCond .eq 18, 3) := by decide +kernel
theorem dX6_holds_137 : decode cX6_holds 137 = .ok (.goto 17, 3) := by decide +kernel
theorem dX6_holds_140 : decode cX6_holds 140 = .ok (.aload_n 0, 1) := by decide +kernel
theorem dX6_holds_141 : decode cX6_holds 141 = .ok (.iconst 2, 1) := by decide +kernel
theorem dX6_holds_142 : decode cX6_holds 142 = .ok (.iconst 3, 1) := by decide +kernel
theorem dX6_holds_143 : decode cX6_holds 143 = .ok (.iconst 5, 1) := by decide +kernel
theorem dX6_holds_144 : decode cX6_holds 144 = .ok (.iconst 0, 1) := by decide +kernel
theorem dX6_holds_145 : decode cX6_holds 145 = .ok (.iconst 2, 1) := by decide +kernel
theorem dX6_holds_146 : decode cX6_holds 146 = .ok (.invokevirtual 292, 3) := by decide +kernel
theorem dX6_holds_149 : decode cX6_holds 149 = .ok (.ifCond .ne 5, 3) := by decide +kernel
theorem dX6_holds_152 : decode cX6_holds 152 = .ok (.iconst (-1), 1) := by decide +kernel
theorem dX6_holds_153 : decode cX6_holds 153 = .ok (.ireturn, 1) := by decide +kernel
theorem dX6_holds_154 : decode cX6_holds 154 = .ok (.iconst 0, 1) := by decide +kernel
theorem dX6_holds_155 : decode cX6_holds 155 = .ok (.istore_n 3, 1) := by decide +kernel
theorem dX6_holds_156 : decode cX6_holds 156 = .ok (.iload_n 3, 1) := by decide +kernel
theorem dX6_holds_157 : decode cX6_holds 157 = .ok (.bipush 9, 2) := by decide +kernel
theorem dX6_holds_159 : decode cX6_holds 159 = .ok (.if_icmp .ge 25, 3) := by decide +kernel
theorem dX6_holds_162 : decode cX6_holds 162 = .ok (.aload_n 0, 1) := by decide +kernel
theorem dX6_holds_163 : decode cX6_holds 163 = .ok (.iload_n 3, 1) := by decide +kernel
theorem dX6_holds_164 : decode cX6_holds 164 = .ok (.iconst 3, 1) := by decide +kernel
theorem dX6_holds_165 : decode cX6_holds 165 = .ok (.idiv, 1) := by decide +kernel
theorem dX6_holds_166 : decode cX6_holds 166 = .ok (.iload_n 3, 1) := by decide +kernel
theorem dX6_holds_167 : decode cX6_holds 167 = .ok (.iconst 3, 1) := by decide +kernel
theorem dX6_holds_168 : decode cX6_holds 168 = .ok (.irem, 1) := by decide +kernel
theorem dX6_holds_169 : decode cX6_holds 169 = .ok (.aload_n 0, 1) := by decide +kernel
theorem dX6_holds_170 : decode cX6_holds 170 = .ok (.getfield 41, 3) := by decide +kernel
theorem dX6_holds_173 : decode cX6_holds 173 = .ok (.iload_n 3, 1) := by decide +kernel
theorem dX6_holds_174 : decode cX6_holds 174 = .ok (.laload, 1) := by decide +kernel
theorem dX6_holds_175 : decode cX6_holds 175 = .ok (.invokevirtual 101, 3) := by decide +kernel
theorem dX6_holds_178 : decode cX6_holds 178 = .ok (.iinc 3 1, 3) := by decide +kernel
theorem dX6_holds_181 : decode cX6_holds 181 = .ok (.goto (-25), 3) := by decide +kernel
theorem dX6_holds_184 : decode cX6_holds 184 = .ok (.aload_n 0, 1) := by decide +kernel
theorem dX6_holds_185 : decode cX6_holds 185 = .ok (.iconst 3, 1) := by decide +kernel
theorem dX6_holds_186 : decode cX6_holds 186 = .ok (.iconst 3, 1) := by decide +kernel
theorem dX6_holds_187 : decode cX6_holds 187 = .ok (.iconst 3, 1) := by decide +kernel
theorem dX6_holds_188 : decode cX6_holds 188 = .ok (.invokevirtual 115, 3) := by decide +kernel
theorem dX6_holds_191 : decode cX6_holds 191 = .ok (.iconst 3, 1) := by decide +kernel
theorem dX6_holds_192 : decode cX6_holds 192 = .ok (.if_icmp .ge 7, 3) := by decide +kernel
theorem dX6_holds_195 : decode cX6_holds 195 = .ok (.iconst 1, 1) := by decide +kernel
theorem dX6_holds_196 : decode cX6_holds 196 = .ok (.goto 4, 3) := by decide +kernel
theorem dX6_holds_199 : decode cX6_holds 199 = .ok (.iconst 0, 1) := by decide +kernel
theorem dX6_holds_200 : decode cX6_holds 200 = .ok (.ireturn, 1) := by decide +kernel
theorem dX6_told_0 : decode cX6_told 0 = .ok (.iload_n 1, 1) := by decide +kernel
theorem dX6_told_1 : decode cX6_told 1 = .ok (.ifCond .ne 10, 3) := by decide +kernel
theorem dX6_told_4 : decode cX6_told 4 = .ok (.aload_n 0, 1) := by decide +kernel
theorem dX6_told_5 : decode cX6_told 5 = .ok (.getfield 56, 3) := by decide +kernel
theorem dX6_told_8 : decode cX6_told 8 = .ok (.goto 66, 3) := by decide +kernel
theorem dX6_told_11 : decode cX6_told 11 = .ok (.iload_n 1, 1) := by decide +kernel
theorem dX6_told_12 : decode cX6_told 12 = .ok (.iconst 1, 1) := by decide +kernel
theorem dX6_told_13 : decode cX6_told 13 = .ok (.if_icmp .ne 11, 3) := by decide +kernel
theorem dX6_told_16 : decode cX6_told 16 = .ok (.aload_n 0, 1) := by decide +kernel
theorem dX6_told_17 : decode cX6_told 17 = .ok (.getfield 60, 3) := by decide +kernel
theorem dX6_told_20 : decode cX6_told 20 = .ok (.l2i, 1) := by decide +kernel
theorem dX6_told_21 : decode cX6_told 21 = .ok (.goto 53, 3) := by decide +kernel
theorem dX6_told_24 : decode cX6_told 24 = .ok (.iload_n 1, 1) := by decide +kernel
theorem dX6_told_25 : decode cX6_told 25 = .ok (.iconst 2, 1) := by decide +kernel
theorem dX6_told_26 : decode cX6_told 26 = .ok (.if_icmp .ne 10, 3) := by decide +kernel
theorem dX6_told_29 : decode cX6_told 29 = .ok (.aload_n 0, 1) := by decide +kernel
theorem dX6_told_30 : decode cX6_told 30 = .ok (.getfield 64, 3) := by decide +kernel
theorem dX6_told_33 : decode cX6_told 33 = .ok (.goto 41, 3) := by decide +kernel
theorem dX6_told_36 : decode cX6_told 36 = .ok (.iload_n 1, 1) := by decide +kernel
theorem dX6_told_37 : decode cX6_told 37 = .ok (.iconst 3, 1) := by decide +kernel
theorem dX6_told_38 : decode cX6_told 38 = .ok (.if_icmp .ne 10, 3) := by decide +kernel
theorem dX6_told_41 : decode cX6_told 41 = .ok (.aload_n 0, 1) := by decide +kernel
theorem dX6_told_42 : decode cX6_told 42 = .ok (.getfield 67, 3) := by decide +kernel
theorem dX6_told_45 : decode cX6_told 45 = .ok (.goto 29, 3) := by decide +kernel
theorem dX6_told_48 : decode cX6_told 48 = .ok (.iload_n 1, 1) := by decide +kernel
theorem dX6_told_49 : decode cX6_told 49 = .ok (.iconst 4, 1) := by decide +kernel
theorem dX6_told_50 : decode cX6_told 50 = .ok (.if_icmp .ne 10, 3) := by decide +kernel
theorem dX6_told_53 : decode cX6_told 53 = .ok (.aload_n 0, 1) := by decide +kernel
theorem dX6_told_54 : decode cX6_told 54 = .ok (.getfield 70, 3) := by decide +kernel
theorem dX6_told_57 : decode cX6_told 57 = .ok (.goto 17, 3) := by decide +kernel
theorem dX6_told_60 : decode cX6_told 60 = .ok (.iload_n 1, 1) := by decide +kernel
theorem dX6_told_61 : decode cX6_told 61 = .ok (.iconst 5, 1) := by decide +kernel
theorem dX6_told_62 : decode cX6_told 62 = .ok (.if_icmp .ne 10, 3) := by decide +kernel
theorem dX6_told_65 : decode cX6_told 65 = .ok (.aload_n 0, 1) := by decide +kernel
theorem dX6_told_66 : decode cX6_told 66 = .ok (.getfield 73, 3) := by decide +kernel
theorem dX6_told_69 : decode cX6_told 69 = .ok (.goto 5, 3) := by decide +kernel
theorem dX6_told_72 : decode cX6_told 72 = .ok (.bipush (-2), 2) := by decide +kernel
theorem dX6_told_74 : decode cX6_told 74 = .ok (.ireturn, 1) := by decide +kernel
