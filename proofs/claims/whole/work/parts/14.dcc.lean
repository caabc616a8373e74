theorem dX5_apply_1 : decode cX5_apply 1 = .ok (.getfield 10, 3) := by decide +kernel
theorem dX5_apply_4 : decode cX5_apply 4 = .ok (.iload_n 1, 1) := by decide +kernel
theorem dX5_apply_5 : decode cX5_apply 5 = .ok (.iconst 3, 1) := by decide +kernel
theorem dX5_apply_6 : decode cX5_apply 6 = .ok (.invokevirtual 166, 3) := by decide +kernel
theorem dX5_apply_9 : decode cX5_apply 9 = .ok (.astore_n 3, 1) := by decide +kernel
theorem dX5_apply_10 : decode cX5_apply 10 = .ok (.aload_n 0, 1) := by decide +kernel
theorem dX5_apply_11 : decode cX5_apply 11 = .ok (.getfield 10, 3) := by decide +kernel
theorem dX5_apply_14 : decode cX5_apply 14 = .ok (.iload_n 2, 1) := by decide +kernel
theorem dX5_apply_15 : decode cX5_apply 15 = .ok (.invokevirtual 66, 3) := by decide +kernel
theorem dX5_apply_18 : decode cX5_apply 18 = .ok (.astore 4, 2) := by decide +kernel
theorem dX5_apply_20 : decode cX5_apply 20 = .ok (.aload_n 3, 1) := by decide +kernel
theorem dX5_apply_21 : decode cX5_apply 21 = .ok (.ifnull 8, 3) := by decide +kernel
theorem dX5_apply_24 : decode cX5_apply 24 = .ok (.aload 4, 2) := by decide +kernel
theorem dX5_apply_26 : decode cX5_apply 26 = .ok (.ifnonnull 6, 3) := by decide +kernel
theorem dX5_apply_29 : decode cX5_apply 29 = .ok (.bipush (-2), 2) := by decide +kernel
theorem dX5_apply_31 : decode cX5_apply 31 = .ok (.ireturn, 1) := by decide +kernel
theorem dX5_apply_32 : decode cX5_apply 32 = .ok (.aload_n 0, 1) := by decide +kernel
theorem dX5_apply_33 : decode cX5_apply 33 = .ok (.getfield 142, 3) := by decide +kernel
theorem dX5_apply_36 : decode cX5_apply 36 = .ok (.aload_n 3, 1) := by decide +kernel
theorem dX5_apply_37 : decode cX5_apply 37 = .ok (.invokevirtual 180, 3) := by decide +kernel
theorem dX5_apply_40 : decode cX5_apply 40 = .ok (.astore 5, 2) := by decide +kernel
theorem dX5_apply_42 : decode cX5_apply 42 = .ok (.aload 5, 2) := by decide +kernel
theorem dX5_apply_44 : decode cX5_apply 44 = .ok (.ifnonnull 5, 3) := by decide +kernel
theorem dX5_apply_47 : decode cX5_apply 47 = .ok (.iconst (-1), 1) := by decide +kernel
theorem dX5_apply_48 : decode cX5_apply 48 = .ok (.ireturn, 1) := by decide +kernel
theorem dX5_apply_49 : decode cX5_apply 49 = .ok (.aload 4, 2) := by decide +kernel
theorem dX5_apply_51 : decode cX5_apply 51 = .ok (.getfield 75, 3) := by decide +kernel
theorem dX5_apply_54 : decode cX5_apply 54 = .ok (.aload_n 0, 1) := by decide +kernel
theorem dX5_apply_55 : decode cX5_apply 55 = .ok (.getfield 109, 3) := by decide +kernel
theorem dX5_apply_58 : decode cX5_apply 58 = .ok (.if_icmp .ne 33, 3) := by decide +kernel
theorem dX5_apply_61 : decode cX5_apply 61 = .ok (.aload_n 0, 1) := by decide +kernel
theorem dX5_apply_62 : decode cX5_apply 62 = .ok (.aload_n 0, 1) := by decide +kernel
theorem dX5_apply_63 : decode cX5_apply 63 = .ok (.getfield 109, 3) := by decide +kernel
theorem dX5_apply_66 : decode cX5_apply 66 = .ok (.aload_n 0, 1) := by decide +kernel
theorem dX5_apply_67 : decode cX5_apply 67 = .ok (.getfield 142, 3) := by decide +kernel
theorem dX5_apply_70 : decode cX5_apply 70 = .ok (.aload_n 0, 1) := by decide +kernel
theorem dX5_apply_71 : decode cX5_apply 71 = .ok (.getfield 142, 3) := by decide +kernel
theorem dX5_apply_74 : decode cX5_apply 74 = .ok (.aload 5, 2) := by decide +kernel
theorem dX5_apply_76 : decode cX5_apply 76 = .ok (.invokevirtual 187, 3) := by decide +kernel
theorem dX5_apply_79 : decode cX5_apply 79 = .ok (.aload 4, 2) := by decide +kernel
theorem dX5_apply_81 : decode cX5_apply 81 = .ok (.getfield 70, 3) := by decide +kernel
theorem dX5_apply_84 : decode cX5_apply 84 = .ok (.invokevirtual 190, 3) := by decide +kernel
theorem dX5_apply_87 : decode cX5_apply 87 = .ok (.invokevirtual 62, 3) := by decide +kernel
theorem dX5_apply_90 : decode cX5_apply 90 = .ok (.ireturn, 1) := by decide +kernel
theorem dX5_apply_91 : decode cX5_apply 91 = .ok (.aload 4, 2) := by decide +kernel
theorem dX5_apply_93 : decode cX5_apply 93 = .ok (.getfield 75, 3) := by decide +kernel
theorem dX5_apply_96 : decode cX5_apply 96 = .ok (.tableswitch 98 0 3 #[32, 51, 98, 70], 32) := by decide +kernel
theorem dX5_apply_128 : decode cX5_apply 128 = .ok (.aload_n 0, 1) := by decide +kernel
theorem dX5_apply_129 : decode cX5_apply 129 = .ok (.iconst 0, 1) := by decide +kernel
theorem dX5_apply_130 : decode cX5_apply 130 = .ok (.aload_n 0, 1) := by decide +kernel
theorem dX5_apply_131 : decode cX5_apply 131 = .ok (.getfield 142, 3) := by decide +kernel
theorem dX5_apply_134 : decode cX5_apply 134 = .ok (.aload_n 3, 1) := by decide +kernel
theorem dX5_apply_135 : decode cX5_apply 135 = .ok (.aload 4, 2) := by decide +kernel
theorem dX5_apply_137 : decode cX5_apply 137 = .ok (.getfield 70, 3) := by decide +kernel
theorem dX5_apply_140 : decode cX5_apply 140 = .ok (.invokevirtual 190, 3) := by decide +kernel
theorem dX5_apply_143 : decode cX5_apply 143 = .ok (.invokevirtual 62, 3) := by decide +kernel
theorem dX5_apply_146 : decode cX5_apply 146 = .ok (.ireturn, 1) := by decide +kernel
theorem dX5_apply_147 : decode cX5_apply 147 = .ok (.aload_n 0, 1) := by decide +kernel
theorem dX5_apply_148 : decode cX5_apply 148 = .ok (.iconst 1, 1) := by decide +kernel
theorem dX5_apply_149 : decode cX5_apply 149 = .ok (.aload_n 0, 1) := by decide +kernel
theorem dX5_apply_150 : decode cX5_apply 150 = .ok (.getfield 86, 3) := by decide +kernel
theorem dX5_apply_153 : decode cX5_apply 153 = .ok (.aload_n 3, 1) := by decide +kernel
theorem dX5_apply_154 : decode cX5_apply 154 = .ok (.aload 4, 2) := by decide +kernel
theorem dX5_apply_156 : decode cX5_apply 156 = .ok (.getfield 70, 3) := by decide +kernel
theorem dX5_apply_159 : decode cX5_apply 159 = .ok (.invokevirtual 193, 3) := by decide +kernel
theorem dX5_apply_162 : decode cX5_apply 162 = .ok (.invokevirtual 62, 3) := by decide +kernel
theorem dX5_apply_165 : decode cX5_apply 165 = .ok (.ireturn, 1) := by decide +kernel
theorem dX5_apply_166 : decode cX5_apply 166 = .ok (.aload_n 0, 1) := by decide +kernel
theorem dX5_apply_167 : decode cX5_apply 167 = .ok (.iconst 3, 1) := by decide +kernel
theorem dX5_apply_168 : decode cX5_apply 168 = .ok (.aload_n 0, 1) := by decide +kernel
theorem dX5_apply_169 : decode cX5_apply 169 = .ok (.getfield 142, 3) := by decide +kernel
theorem dX5_apply_172 : decode cX5_apply 172 = .ok (.aload_n 0, 1) := by decide +kernel
theorem dX5_apply_173 : decode cX5_apply 173 = .ok (.getfield 142, 3) := by decide +kernel
theorem dX5_apply_176 : decode cX5_apply 176 = .ok (.aload_n 3, 1) := by decide +kernel
theorem dX5_apply_177 : decode cX5_apply 177 = .ok (.aload 4, 2) := by decide +kernel
theorem dX5_apply_179 : decode cX5_apply 179 = .ok (.getfield 70, 3) := by decide +kernel
theorem dX5_apply_182 : decode cX5_apply 182 = .ok (.invokevirtual 184, 3) := by decide +kernel
theorem dX5_apply_185 : decode cX5_apply 185 = .ok (.aload 5, 2) := by decide +kernel
theorem dX5_apply_187 : decode cX5_apply 187 = .ok (.invokevirtual 184, 3) := by decide +kernel
theorem dX5_apply_190 : decode cX5_apply 190 = .ok (.invokevirtual 62, 3) := by decide +kernel
theorem dX5_apply_193 : decode cX5_apply 193 = .ok (.ireturn, 1) := by decide +kernel
theorem dX5_apply_194 : decode cX5_apply 194 = .ok (.aload_n 0, 1) := by decide +kernel
theorem dX5_apply_195 : decode cX5_apply 195 = .ok (.iconst 4, 1) := by decide +kernel
theorem dX5_apply_196 : decode cX5_apply 196 = .ok (.aload_n 0, 1) := by decide +kernel
theorem dX5_apply_197 : decode cX5_apply 197 = .ok (.getfield 142, 3) := by decide +kernel
theorem dX5_apply_200 : decode cX5_apply 200 = .ok (.aload_n 0, 1) := by decide +kernel
theorem dX5_apply_201 : decode cX5_apply 201 = .ok (.getfield 142, 3) := by decide +kernel
theorem dX5_apply_204 : decode cX5_apply 204 = .ok (.aload_n 0, 1) := by decide +kernel
theorem dX5_apply_205 : decode cX5_apply 205 = .ok (.getfield 142, 3) := by decide +kernel
theorem dX5_apply_208 : decode cX5_apply 208 = .ok (.aload 5, 2) := by decide +kernel
theorem dX5_apply_210 : decode cX5_apply 210 = .ok (.invokevirtual 187, 3) := by decide +kernel
theorem dX5_apply_213 : decode cX5_apply 213 = .ok (.aload 4, 2) := by decide +kernel
theorem dX5_apply_215 : decode cX5_apply 215 = .ok (.getfield 70, 3) := by decide +kernel
theorem dX5_apply_218 : decode cX5_apply 218 = .ok (.invokevirtual 184, 3) := by decide +kernel
theorem dX5_apply_221 : decode cX5_apply 221 = .ok (.aload 5, 2) := by decide +kernel
theorem dX5_apply_223 : decode cX5_apply 223 = .ok (.invokevirtual 184, 3) := by decide +kernel
theorem dX5_apply_226 : decode cX5_apply 226 = .ok (.invokevirtual 62, 3) := by decide +kernel
theorem dX5_apply_229 : decode cX5_apply 229 = .ok (.ireturn, 1) := by decide +kernel
theorem dX5_compose_0 : decode cX5_compose 0 = .ok (.aload_n 0, 1) := by decide +kernel
theorem dX5_compose_1 : decode cX5_compose 1 = .ok (.getfield 10, 3) := by decide +kernel
theorem dX5_compose_4 : decode cX5_compose 4 = .ok (.iload_n 1, 1) := by decide +kernel
theorem dX5_compose_5 : decode cX5_compose 5 = .ok (.iconst 3, 1) := by decide +kernel
theorem dX5_compose_6 : decode cX5_compose 6 = .ok (.invokevirtual 166, 3) := by decide +kernel
theorem dX5_compose_9 : decode cX5_compose 9 = .ok (.astore_n 3, 1) := by decide +kernel
theorem dX5_compose_10 : decode cX5_compose 10 = .ok (.aload_n 0, 1) := by decide +kernel
theorem dX5_compose_11 : decode cX5_compose 11 = .ok (.getfield 10, 3) := by decide +kernel
theorem dX5_compose_14 : decode cX5_compose 14 = .ok (.iload_n 2, 1) := by decide +kernel
theorem dX5_compose_15 : decode cX5_compose 15 = .ok (.iconst 3, 1) := by decide +kernel
theorem dX5_compose_16 : decode cX5_compose 16 = .ok (.invokevirtual 166, 3) := by decide +kernel
theorem dX5_compose_19 : decode cX5_compose 19 = .ok (.astore 4, 2) := by decide +kernel
theorem dX5_compose_21 : decode cX5_compose 21 = .ok (.aload_n 3, 1) := by decide +kernel
theorem dX5_compose_22 : decode cX5_compose 22 = .ok (.ifnull 8, 3) := by decide +kernel
theorem dX5_compose_25 : decode cX5_compose 25 = .ok (.aload 4, 2) := by decide +kernel
theorem dX5_compose_27 : decode cX5_compose 27 = .ok (.ifnonnull 6, 3) := by decide +kernel
theorem dX5_compose_30 : decode cX5_compose 30 = .ok (.bipush (-2), 2) := by decide +kernel
theorem dX5_compose_32 : decode cX5_compose 32 = .ok (.ireturn, 1) := by decide +kernel
theorem dX5_compose_33 : decode cX5_compose 33 = .ok (.aload_n 0, 1) := by decide +kernel
theorem dX5_compose_34 : decode cX5_compose 34 = .ok (.iconst 3, 1) := by decide +kernel
theorem dX5_compose_35 : decode cX5_compose 35 = .ok (.aload_n 0, 1) := by decide +kernel
theorem dX5_compose_36 : decode cX5_compose 36 = .ok (.getfield 142, 3) := by decide +kernel
theorem dX5_compose_39 : decode cX5_compose 39 = .ok (.aload_n 3, 1) := by decide +kernel
theorem dX5_compose_40 : decode cX5_compose 40 = .ok (.aload 4, 2) := by decide +kernel
theorem dX5_compose_42 : decode cX5_compose 42 = .ok (.invokevirtual 184, 3) := by decide +kernel
theorem dX5_compose_45 : decode cX5_compose 45 = .ok (.invokevirtual 62, 3) := by decide +kernel
theorem dX5_compose_48 : decode cX5_compose 48 = .ok (.ireturn, 1) := by decide +kernel
theorem dX5_inverse_0 : decode cX5_inverse 0 = .ok (.aload_n 0, 1) := by decide +kernel
theorem dX5_inverse_1 : decode cX5_inverse 1 = .ok (.getfield 10, 3) := by decide +kernel
theorem dX5_inverse_4 : decode cX5_inverse 4 = .ok (.iload_n 1, 1) := by decide +kernel
theorem dX5_inverse_5 : decode cX5_inverse 5 = .ok (.iconst 3, 1) := by decide +kernel
theorem dX5_inverse_6 : decode cX5_inverse 6 = .ok (.invokevirtual 166, 3) := by decide +kernel
theorem dX5_inverse_9 : decode cX5_inverse 9 = .ok (.astore_n 2, 1) := by decide +kernel
theorem dX5_inverse_10 : decode cX5_inverse 10 = .ok (.aload_n 2, 1) := by decide +kernel
theorem dX5_inverse_11 : decode cX5_inverse 11 = .ok (.ifnonnull 8, 3) := by decide +kernel
theorem dX5_inverse_14 : decode cX5_inverse 14 = .ok (.bipush (-2), 2) := by decide +kernel
theorem dX5_inverse_16 : decode cX5_inverse 16 = .ok (.goto 16, 3) := by decide +kernel
theorem dX5_inverse_19 : decode cX5_inverse 19 = .ok (.aload_n 0, 1) := by decide +kernel
theorem dX5_inverse_20 : decode cX5_inverse 20 = .ok (.iconst 3, 1) := by decide +kernel
theorem dX5_inverse_21 : decode cX5_inverse 21 = .ok (.aload_n 0, 1) := by decide +kernel
theorem dX5_inverse_22 : decode cX5_inverse 22 = .ok (.getfield 142, 3) := by decide +kernel
theorem dX5_inverse_25 : decode cX5_inverse 25 = .ok (.aload_n 2, 1) := by decide +kernel
theorem dX5_inverse_26 : decode cX5_inverse 26 = .ok (.invokevirtual 180, 3) := by decide +kernel
theorem dX5_inverse_29 : decode cX5_inverse 29 = .ok (.invokevirtual 62, 3) := by decide +kernel
theorem dX5_inverse_32 : decode cX5_inverse 32 = .ok (.ireturn, 1) := by decide +kernel
theorem dX5_order_0 : decode cX5_order 0 = .ok (.aload_n 0, 1) := by decide +kernel
theorem dX5_order_1 : decode cX5_order 1 = .ok (.getfield 10, 3) := by decide +kernel
theorem dX5_order_4 : decode cX5_order 4 = .ok (.iload_n 1, 1) := by decide +kernel
theorem dX5_order_5 : decode cX5_order 5 = .ok (.iconst 3, 1) := by decide +kernel
theorem dX5_order_6 : decode cX5_order 6 = .ok (.invokevirtual 166, 3) := by decide +kernel
theorem dX5_order_9 : decode cX5_order 9 = .ok (.astore_n 2, 1) := by decide +kernel
theorem dX5_order_10 : decode cX5_order 10 = .ok (.aload_n 2, 1) := by decide +kernel
theorem dX5_order_11 : decode cX5_order 11 = .ok (.ifnonnull 6, 3) := by decide +kernel
theorem dX5_order_14 : decode cX5_order 14 = .ok (.bipush (-2), 2) := by decide +kernel
theorem dX5_order_16 : decode cX5_order 16 = .ok (.ireturn, 1) := by decide +kernel
theorem dX5_order_17 : decode cX5_order 17 = .ok (.iconst 1, 1) := by decide +kernel
theorem dX5_order_18 : decode cX5_order 18 = .ok (.istore_n 3, 1) := by decide +kernel
theorem dX5_order_19 : decode cX5_order 19 = .ok (.iconst 0, 1) := by decide +kernel
theorem dX5_order_20 : decode cX5_order 20 = .ok (.istore 4, 2) := by decide +kernel
theorem dX5_order_22 : decode cX5_order 22 = .ok (.iload 4, 2) := by decide +kernel
theorem dX5_order_24 : decode cX5_order 24 = .ok (.aload_n 0, 1) := by decide +kernel
theorem dX5_order_25 : decode cX5_order 25 = .ok (.getfield 96, 3) := by decide +kernel
theorem dX5_order_28 : decode cX5_order 28 = .ok (.iconst 2, 1) := by decide +kernel
theorem dX5_order_29 : decode cX5_order 29 = .ok (.iadd, 1) := by decide +kernel
theorem dX5_order_30 : decode cX5_order 30 = .ok (.if_icmp .ge 56, 3) := by decide +kernel
theorem dX5_order_33 : decode cX5_order 33 = .ok (.aload_n 0, 1) := by decide +kernel
theorem dX5_order_34 : decode cX5_order 34 = .ok (.getfield 142, 3) := by decide +kernel
theorem dX5_order_37 : decode cX5_order 37 = .ok (.aload_n 2, 1) := by decide +kernel
theorem dX5_order_38 : decode cX5_order 38 = .ok (.aload_n 0, 1) := by decide +kernel
theorem dX5_order_39 : decode cX5_order 39 = .ok (.getfield 142, 3) := by decide +kernel
theorem dX5_order_42 : decode cX5_order 42 = .ok (.iload 4, 2) := by decide +kernel
theorem dX5_order_44 : decode cX5_order 44 = .ok (.invokevirtual 196, 3) := by decide +kernel
theorem dX5_order_47 : decode cX5_order 47 = .ok (.sipush 1000, 3) := by decide +kernel
theorem dX5_order_50 : decode cX5_order 50 = .ok (.iload_n 3, 1) := by decide +kernel
theorem dX5_order_51 : decode cX5_order 51 = .ok (.idiv, 1) := by decide +kernel
theorem dX5_order_52 : decode cX5_order 52 = .ok (.invokevirtual 200, 3) := by decide +kernel
theorem dX5_order_55 : decode cX5_order 55 = .ok (.istore 5, 2) := by decide +kernel
theorem dX5_order_57 : decode cX5_order 57 = .ok (.iload 5, 2) := by decide +kernel
theorem dX5_order_59 : decode cX5_order 59 = .ok (.ifCond .ne 5, 3) := by decide +kernel
theorem dX5_order_62 : decode cX5_order 62 = .ok (.iconst (-1), 1) := by decide +kernel
theorem dX5_order_63 : decode cX5_order 63 = .ok (.ireturn, 1) := by decide +kernel
theorem dX5_order_64 : decode cX5_order 64 = .ok (.iload_n 3, 1) := by decide +kernel
theorem dX5_order_65 : decode cX5_order 65 = .ok (.iload 5, 2) := by decide +kernel
theorem dX5_order_67 : decode cX5_order 67 = .ok (.imul, 1) := by decide +kernel
theorem dX5_order_68 : decode cX5_order 68 = .ok (.istore_n 3, 1) := by decide +kernel
theorem dX5_order_69 : decode cX5_order 69 = .ok (.aload_n 0, 1) := by decide +kernel
theorem dX5_order_70 : decode cX5_order 70 = .ok (.getfield 142, 3) := by decide +kernel
theorem dX5_order_73 : decode cX5_order 73 = .ok (.aload_n 2, 1) := by decide +kernel
theorem dX5_order_74 : decode cX5_order 74 = .ok (.iload 5, 2) := by decide +kernel
theorem dX5_order_76 : decode cX5_order 76 = .ok (.invokevirtual 204, 3) := by decide +kernel
theorem dX5_order_79 : decode cX5_order 79 = .ok (.astore_n 2, 1) := by decide +kernel
theorem dX5_order_80 : decode cX5_order 80 = .ok (.iinc 4 1, 3) := by decide +kernel
theorem dX5_order_83 : decode cX5_order 83 = .ok (.goto (-61), 3) := by decide +kernel
theorem dX5_order_86 : decode cX5_order 86 = .ok (.iload_n 3, 1) := by decide +kernel
theorem dX5_order_87 : decode cX5_order 87 = .ok (.ireturn, 1) := by decide +kernel
theorem dX5_gather_0 : decode cX5_gather 0 = .ok (.aload_n 0, 1) := by decide +kernel
theorem dX5_gather_1 : decode cX5_gather 1 = .ok (.getfield 10, 3) := by decide +kernel
theorem dX5_gather_4 : decode cX5_gather 4 = .ok (.iload_n 1, 1) := by decide +kernel
theorem dX5_gather_5 : decode cX5_gather 5 = .ok (.iconst 0, 1) := by decide +kernel
theorem dX5_gather_6 : decode cX5_gather 6 = .ok (.invokevirtual 166, 3) := by decide +kernel
theorem dX5_gather_9 : decode cX5_gather 9 = .ok (.ifnonnull 6, 3) := by decide +kernel
theorem dX5_gather_12 : decode cX5_gather 12 = .ok (.bipush (-2), 2) := by decide +kernel
theorem dX5_gather_14 : decode cX5_gather 14 = .ok (.ireturn, 1) := by decide +kernel
theorem dX5_gather_15 : decode cX5_gather 15 = .ok (.aload_n 0, 1) := by decide +kernel
theorem dX5_gather_16 : decode cX5_gather 16 = .ok (.getfield 207, 3) := by decide +kernel
theorem dX5_gather_19 : decode cX5_gather 19 = .ok (.bipush 9, 2) := by decide +kernel
theorem dX5_gather_21 : decode cX5_gather 21 = .ok (.if_icmp .lt 6, 3) := by decide +kernel
theorem dX5_gather_24 : decode cX5_gather 24 = .ok (.bipush (-3), 2) := by decide +kernel
theorem dX5_gather_26 : decode cX5_gather 26 = .ok (.ireturn, 1) := by decide +kernel
theorem dX5_gather_27 : decode cX5_gather 27 = .ok (.aload_n 0, 1) := by decide +kernel
theorem dX5_gather_28 : decode cX5_gather 28 = .ok (.getfield 20, 3) := by decide +kernel
theorem dX5_gather_31 : decode cX5_gather 31 = .ok (.aload_n 0, 1) := by decide +kernel
theorem dX5_gather_32 : decode cX5_gather 32 = .ok (.getfield 207, 3) := by decide +kernel
theorem dX5_gather_35 : decode cX5_gather 35 = .ok (.iload_n 1, 1) := by decide +kernel
theorem dX5_gather_36 : decode cX5_gather 36 = .ok (.iastore, 1) := by decide +kernel
theorem dX5_gather_37 : decode cX5_gather 37 = .ok (.aload_n 0, 1) := by decide +kernel
theorem dX5_gather_38 : decode cX5_gather 38 = .ok (.dup, 1) := by decide +kernel
theorem dX5_gather_39 : decode cX5_gather 39 = .ok (.getfield 207, 3) := by decide +kernel
theorem dX5_gather_42 : decode cX5_gather 42 = .ok (.iconst 1, 1) := by decide +kernel
theorem dX5_gather_43 : decode cX5_gather 43 = .ok (.iadd, 1) := by decide +kernel
theorem dX5_gather_44 : decode cX5_gather 44 = .ok (.putfield 207, 3) := by decide +kernel
theorem dX5_gather_47 : decode cX5_gather 47 = .ok (.aload_n 0, 1) := by decide +kernel
theorem dX5_gather_48 : decode cX5_gather 48 = .ok (.getfield 207, 3) := by decide +kernel
theorem dX5_gather_51 : decode cX5_gather 51 = .ok (.ireturn, 1) := by decide +kernel
theorem dX5_forget_0 : decode cX5_forget 0 = .ok (.aload_n 0, 1) := by decide +kernel
theorem dX5_forget_1 : decode cX5_forget 1 = .ok (.getfield 207, 3) := by decide +kernel
theorem dX5_forget_4 : decode cX5_forget 4 = .ok (.istore_n 1, 1) := by decide +kernel
theorem dX5_forget_5 : decode cX5_forget 5 = .ok (.aload_n 0, 1) := by decide +kernel
theorem dX5_forget_6 : decode cX5_forget 6 = .ok (.iconst 0, 1) := by decide +kernel
theorem dX5_forget_7 : decode cX5_forget 7 = .ok (.putfield 207, 3) := by decide +kernel
theorem dX5_forget_10 : decode cX5_forget 10 = .ok (.iload_n 1, 1) := by decide +kernel
theorem dX5_forget_11 : decode cX5_forget 11 = .ok (.ireturn, 1) := by decide +kernel
theorem dX5_quadric_0 : decode cX5_quadric 0 = .ok (.aload_n 0, 1) := by decide +kernel
theorem dX5_quadric_1 : decode cX5_quadric 1 = .ok (.aload_n 0, 1) := by decide +kernel
theorem dX5_quadric_2 : decode cX5_quadric 2 = .ok (.getfield 20, 3) := by decide +kernel
theorem dX5_quadric_5 : decode cX5_quadric 5 = .ok (.aload_n 0, 1) := by decide +kernel
theorem dX5_quadric_6 : decode cX5_quadric 6 = .ok (.getfield 207, 3) := by decide +kernel
theorem dX5_quadric_9 : decode cX5_quadric 9 = .ok (.invokevirtual 172, 3) := by decide +kernel
theorem dX5_quadric_12 : decode cX5_quadric 12 = .ok (.astore_n 1, 1) := by decide +kernel
theorem dX5_quadric_13 : decode cX5_quadric 13 = .ok (.aload_n 0, 1) := by decide +kernel
theorem dX5_quadric_14 : decode cX5_quadric 14 = .ok (.iconst 4, 1) := by decide +kernel
theorem dX5_quadric_15 : decode cX5_quadric 15 = .ok (.aload_n 0, 1) := by decide +kernel
theorem dX5_quadric_16 : decode cX5_quadric 16 = .ok (.getfield 86, 3) := by decide +kernel
theorem dX5_quadric_19 : decode cX5_quadric 19 = .ok (.aload_n 1, 1) := by decide +kernel
theorem dX5_quadric_20 : decode cX5_quadric 20 = .ok (.invokevirtual 210, 3) := by decide +kernel
theorem dX5_quadric_23 : decode cX5_quadric 23 = .ok (.invokevirtual 62, 3) := by decide +kernel
theorem dX5_quadric_26 : decode cX5_quadric 26 = .ok (.ireturn, 1) := by decide +kernel
theorem dX5_rank_0 : decode cX5_rank 0 = .ok (.aload_n 0, 1) := by decide +kernel
theorem dX5_rank_1 : decode cX5_rank 1 = .ok (.getfield 10, 3) := by decide +kernel
theorem dX5_rank_4 : decode cX5_rank 4 = .ok (.iload_n 1, 1) := by decide +kernel
theorem dX5_rank_5 : decode cX5_rank 5 = .ok (.iconst 4, 1) := by decide +kernel
theorem dX5_rank_6 : decode cX5_rank 6 = .ok (.invokevirtual 166, 3) := by decide +kernel
theorem dX5_rank_9 : decode cX5_rank 9 = .ok (.astore_n 2, 1) := by decide +kernel
theorem dX5_rank_10 : decode cX5_rank 10 = .ok (.aload_n 2, 1) := by decide +kernel
theorem dX5_rank_11 : decode cX5_rank 11 = .ok (.ifnonnull 8, 3) := by decide +kernel
theorem dX5_rank_14 : decode cX5_rank 14 = .ok (.bipush (-2), 2) := by decide +kernel
theorem dX5_rank_16 : decode cX5_rank 16 = .ok (.goto 11, 3) := by decide +kernel
theorem dX5_rank_19 : decode cX5_rank 19 = .ok (.aload_n 0, 1) := by decide +kernel
theorem dX5_rank_20 : decode cX5_rank 20 = .ok (.getfield 142, 3) := by decide +kernel
theorem dX5_rank_23 : decode cX5_rank 23 = .ok (.aload_n 2, 1) := by decide +kernel
theorem dX5_rank_24 : decode cX5_rank 24 = .ok (.invokevirtual 213, 3) := by decide +kernel
theorem dX5_rank_27 : decode cX5_rank 27 = .ok (.ireturn, 1) := by decide +kernel
theorem dX5_polar_0 : decode cX5_polar 0 = .ok (.aload_n 0, 1) := by decide +kernel
theorem dX5_polar_1 : decode cX5_polar 1 = .ok (.getfield 10, 3) := by decide +kernel
theorem dX5_polar_4 : decode cX5_polar 4 = .ok (.iload_n 1, 1) := by decide +kernel
theorem dX5_polar_5 : decode cX5_polar 5 = .ok (.iconst 4, 1) := by decide +kernel
theorem dX5_polar_6 : decode cX5_polar 6 = .ok (.invokevirtual 166, 3) := by decide +kernel
theorem dX5_polar_9 : decode cX5_polar 9 = .ok (.astore_n 3, 1) := by decide +kernel
theorem dX5_polar_10 : decode cX5_polar 10 = .ok (.aload_n 0, 1) := by decide +kernel
theorem dX5_polar_11 : decode cX5_polar 11 = .ok (.getfield 10, 3) := by decide +kernel
theorem dX5_polar_14 : decode cX5_polar 14 = .ok (.iload_n 2, 1) := by decide +kernel
theorem dX5_polar_15 : decode cX5_polar 15 = .ok (.invokevirtual 66, 3) := by decide +kernel
theorem dX5_polar_18 : decode cX5_polar 18 = .ok (.astore 4, 2) := by decide +kernel
theorem dX5_polar_20 : decode cX5_polar 20 = .ok (.aload_n 3, 1) := by decide +kernel
theorem dX5_polar_21 : decode cX5_polar 21 = .ok (.ifnull 8, 3) := by decide +kernel
theorem dX5_polar_24 : decode cX5_polar 24 = .ok (.aload 4, 2) := by decide +kernel
theorem dX5_polar_26 : decode cX5_polar 26 = .ok (.ifnonnull 6, 3) := by decide +kernel
theorem dX5_polar_29 : decode cX5_polar 29 = .ok (.bipush (-2), 2) := by decide +kernel
theorem dX5_polar_31 : decode cX5_polar 31 = .ok (.ireturn, 1) := by decide +kernel
theorem dX5_polar_32 : decode cX5_polar 32 = .ok (.aload 4, 2) := by decide +kernel
theorem dX5_polar_34 : decode cX5_polar 34 = .ok (.getfield 75, 3) := by decide +kernel
theorem dX5_polar_37 : decode cX5_polar 37 = .ok (.ifCond .ne 25, 3) := by decide +kernel
theorem dX5_polar_40 : decode cX5_polar 40 = .ok (.aload_n 0, 1) := by decide +kernel
theorem dX5_polar_41 : decode cX5_polar 41 = .ok (.aload_n 0, 1) := by decide +kernel
theorem dX5_polar_42 : decode cX5_polar 42 = .ok (.getfield 109, 3) := by decide +kernel
theorem dX5_polar_45 : decode cX5_polar 45 = .ok (.aload_n 0, 1) := by decide +kernel
theorem dX5_polar_46 : decode cX5_polar 46 = .ok (.getfield 142, 3) := by decide +kernel
theorem dX5_polar_49 : decode cX5_polar 49 = .ok (.aload_n 3, 1) := by decide +kernel
theorem dX5_polar_50 : decode cX5_polar 50 = .ok (.aload 4, 2) := by decide +kernel
theorem dX5_polar_52 : decode cX5_polar 52 = .ok (.getfield 70, 3) := by decide +kernel
theorem dX5_polar_55 : decode cX5_polar 55 = .ok (.invokevirtual 190, 3) := by decide +kernel
theorem dX5_polar_58 : decode cX5_polar 58 = .ok (.invokevirtual 62, 3) := by decide +kernel
theorem dX5_polar_61 : decode cX5_polar 61 = .ok (.ireturn, 1) := by decide +kernel
theorem dX5_polar_62 : decode cX5_polar 62 = .ok (.aload 4, 2) := by decide +kernel
theorem dX5_polar_64 : decode cX5_polar 64 = .ok (.getfield 75, 3) := by decide +kernel
theorem dX5_polar_67 : decode cX5_polar 67 = .ok (.aload_n 0, 1) := by decide +kernel
theorem dX5_polar_68 : decode cX5_polar 68 = .ok (.getfield 109, 3) := by decide +kernel
theorem dX5_polar_71 : decode cX5_polar 71 = .ok (.if_icmp .eq 6, 3) := by decide +kernel
theorem dX5_polar_74 : decode cX5_polar 74 = .ok (.bipush (-2), 2) := by decide +kernel
theorem dX5_polar_76 : decode cX5_polar 76 = .ok (.ireturn, 1) := by decide +kernel
theorem dX5_polar_77 : decode cX5_polar 77 = .ok (.aload_n 0, 1) := by decide +kernel
theorem dX5_polar_78 : decode cX5_polar 78 = .ok (.getfield 142, 3) := by decide +kernel
theorem dX5_polar_81 : decode cX5_polar 81 = .ok (.aload_n 3, 1) := by decide +kernel
theorem dX5_polar_82 : decode cX5_polar 82 = .ok (.invokevirtual 180, 3) := by decide +kernel
theorem dX5_polar_85 : decode cX5_polar 85 = .ok (.astore 5, 2) := by decide +kernel
theorem dX5_polar_87 : decode cX5_polar 87 = .ok (.aload 5, 2) := by decide +kernel
theorem dX5_polar_89 : decode cX5_polar 89 = .ok (.ifnonnull 7, 3) := by decide +kernel
theorem dX5_polar_92 : decode cX5_polar 92 = .ok (.iconst (-1), 1) := by decide +kernel
theorem dX5_polar_93 : decode cX5_polar 93 = .ok (.goto 22, 3) := by decide +kernel
theorem dX5_polar_96 : decode cX5_polar 96 = .ok (.aload_n 0, 1) := by decide +kernel
theorem dX5_polar_97 : decode cX5_polar 97 = .ok (.iconst 0, 1) := by decide +kernel
theorem dX5_polar_98 : decode cX5_polar 98 = .ok (.aload_n 0, 1) := by decide +kernel
theorem dX5_polar_99 : decode cX5_polar 99 = .ok (.getfield 142, 3) := by decide +kernel
theorem dX5_polar_102 : decode cX5_polar 102 = .ok (.aload 5, 2) := by decide +kernel
theorem dX5_polar_104 : decode cX5_polar 104 = .ok (.aload 4, 2) := by decide +kernel
theorem dX5_polar_106 : decode cX5_polar 106 = .ok (.getfield 70, 3) := by decide +kernel
theorem dX5_polar_109 : decode cX5_polar 109 = .ok (.invokevirtual 190, 3) := by decide +kernel
theorem dX5_polar_112 : decode cX5_polar 112 = .ok (.invokevirtual 62, 3) := by decide +kernel
theorem dX5_polar_115 : decode cX5_polar 115 = .ok (.ireturn, 1) := by decide +kernel
theorem dX5_touches_0 : decode cX5_touches 0 = .ok (.aload_n 0, 1) := by decide +kernel
theorem dX5_touches_1 : decode cX5_touches 1 = .ok (.getfield 10, 3) := by decide +kernel
theorem dX5_touches_4 : decode cX5_touches 4 = .ok (.iload_n 1, 1) := by decide +kernel
theorem dX5_touches_5 : decode cX5_touches 5 = .ok (.iconst 4, 1) := by decide +kernel
theorem dX5_touches_6 : decode cX5_touches 6 = .ok (.invokevirtual 166, 3) := by decide +kernel
theorem dX5_touches_9 : decode cX5_touches 9 = .ok (.astore_n 3, 1) := by decide +kernel
theorem dX5_touches_10 : decode cX5_touches 10 = .ok (.aload_n 0, 1) := by decide +kernel
theorem dX5_touches_11 : decode cX5_touches 11 = .ok (.getfield 10, 3) := by decide +kernel
theorem dX5_touches_14 : decode cX5_touches 14 = .ok (.iload_n 2, 1) := by decide +kernel
theorem dX5_touches_15 : decode cX5_touches 15 = .ok (.iconst 1, 1) := by decide +kernel
theorem dX5_touches_16 : decode cX5_touches 16 = .ok (.invokevirtual 166, 3) := by decide +kernel
theorem dX5_touches_19 : decode cX5_touches 19 = .ok (.astore 4, 2) := by decide +kernel
theorem dX5_touches_21 : decode cX5_touches 21 = .ok (.aload_n 3, 1) := by decide +kernel
theorem dX5_touches_22 : decode cX5_touches 22 = .ok (.ifnull 8, 3) := by decide +kernel
theorem dX5_touches_25 : decode cX5_touches 25 = .ok (.aload 4, 2) := by decide +kernel
theorem dX5_touches_27 : decode cX5_touches 27 = .ok (.ifnonnull 7, 3) := by decide +kernel
theorem dX5_touches_30 : decode cX5_touches 30 = .ok (.ldc2_w 140, 3) := by decide +kernel
theorem dX5_touches_33 : decode cX5_touches 33 = .ok (.lreturn, 1) := by decide +kernel
theorem dX5_touches_34 : decode cX5_touches 34 = .ok (.aload_n 0, 1) := by decide +kernel
theorem dX5_touches_35 : decode cX5_touches 35 = .ok (.getfield 86, 3) := by decide +kernel
theorem dX5_touches_38 : decode cX5_touches 38 = .ok (.aload_n 3, 1) := by decide +kernel
theorem dX5_touches_39 : decode cX5_touches 39 = .ok (.aload_n 0, 1) := by decide +kernel
theorem dX5_touches_40 : decode cX5_touches 40 = .ok (.getfield 86, 3) := by decide +kernel
theorem dX5_touches_43 : decode cX5_touches 43 = .ok (.aload 4, 2) := by decide +kernel
theorem dX5_touches_45 : decode cX5_touches 45 = .ok (.invokevirtual 217, 3) := by decide +kernel
theorem dX5_touches_48 : decode cX5_touches 48 = .ok (.invokevirtual 221, 3) := by decide +kernel
theorem dX5_touches_51 : decode cX5_touches 51 = .ok (.astore 5, 2) := by decide +kernel
theorem dX5_touches_53 : decode cX5_touches 53 = .ok (.aload 5, 2) := by decide +kernel
theorem dX5_touches_55 : decode cX5_touches 55 = .ok (.ifnonnull 15, 3) := by decide +kernel
theorem dX5_touches_58 : decode cX5_touches 58 = .ok (.aload_n 0, 1) := by decide +kernel
theorem dX5_touches_59 : decode cX5_touches 59 = .ok (.getfield 40, 3) := by decide +kernel
theorem dX5_touches_62 : decode cX5_touches 62 = .ok (.getfield 158, 3) := by decide +kernel
theorem dX5_touches_65 : decode cX5_touches 65 = .ok (.lconst 1, 1) := by decide +kernel
theorem dX5_touches_66 : decode cX5_touches 66 = .ok (.ladd, 1) := by decide +kernel
theorem dX5_touches_67 : decode cX5_touches 67 = .ok (.goto 7, 3) := by decide +kernel
theorem dX5_touches_70 : decode cX5_touches 70 = .ok (.aload 5, 2) := by decide +kernel
theorem dX5_touches_72 : decode cX5_touches 72 = .ok (.arraylength, 1) := by decide +kernel
theorem dX5_touches_73 : decode cX5_touches 73 = .ok (.i2l, 1) := by decide +kernel
theorem dX5_touches_74 : decode cX5_touches 74 = .ok (.lreturn, 1) := by decide +kernel
theorem dX5_common_0 : decode cX5_common 0 = .ok (.aload_n 0, 1) := by decide +kernel
theorem dX5_common_1 : decode cX5_common 1 = .ok (.getfield 10, 3) := by decide +kernel
theorem dX5_common_4 : decode cX5_common 4 = .ok (.iload_n 1, 1) := by decide +kernel
theorem dX5_common_5 : decode cX5_common 5 = .ok (.iconst 4, 1) := by decide +kernel
theorem dX5_common_6 : decode cX5_common 6 = .ok (.invokevirtual 166, 3) := by decide +kernel
theorem dX5_common_9 : decode cX5_common 9 = .ok (.astore 4, 2) := by decide +kernel
theorem dX5_common_11 : decode cX5_common 11 = .ok (.aload_n 0, 1) := by decide +kernel
theorem dX5_common_12 : decode cX5_common 12 = .ok (.getfield 10, 3) := by decide +kernel
theorem dX5_common_15 : decode cX5_common 15 = .ok (.iload_n 2, 1) := by decide +kernel
theorem dX5_common_16 : decode cX5_common 16 = .ok (.iconst 1, 1) := by decide +kernel
theorem dX5_common_17 : decode cX5_common 17 = .ok (.invokevirtual 166, 3) := by decide +kernel
theorem dX5_common_20 : decode cX5_common 20 = .ok (.astore 5, 2) := by decide +kernel
theorem dX5_common_22 : decode cX5_common 22 = .ok (.aload 4, 2) := by decide +kernel
theorem dX5_common_24 : decode cX5_common 24 = .ok (.ifnull 12, 3) := by decide +kernel
theorem dX5_common_27 : decode cX5_common 27 = .ok (.aload 5, 2) := by decide +kernel
theorem dX5_common_29 : decode cX5_common 29 = .ok (.ifnull 7, 3) := by decide +kernel
theorem dX5_common_32 : decode cX5_common 32 = .ok (.iload_n 3, 1) := by decide +kernel
theorem dX5_common_33 : decode cX5_common 33 = .ok (.ifCond .ge 6, 3) := by decide +kernel
theorem dX5_common_36 : decode cX5_common 36 = .ok (.bipush (-2), 2) := by decide +kernel
theorem dX5_common_38 : decode cX5_common 38 = .ok (.ireturn, 1) := by decide +kernel
theorem dX5_common_39 : decode cX5_common 39 = .ok (.aload_n 0, 1) := by decide +kernel
theorem dX5_common_40 : decode cX5_common 40 = .ok (.getfield 86, 3) := by decide +kernel
theorem dX5_common_43 : decode cX5_common 43 = .ok (.aload 5, 2) := by decide +kernel
theorem dX5_common_45 : decode cX5_common 45 = .ok (.invokevirtual 217, 3) := by decide +kernel
theorem dX5_common_48 : decode cX5_common 48 = .ok (.astore 6, 2) := by decide +kernel
theorem dX5_common_50 : decode cX5_common 50 = .ok (.aload_n 0, 1) := by decide +kernel
theorem dX5_common_51 : decode cX5_common 51 = .ok (.getfield 86, 3) := by decide +kernel
theorem dX5_common_54 : decode cX5_common 54 = .ok (.aload 4, 2) := by decide +kernel
theorem dX5_common_56 : decode cX5_common 56 = .ok (.aload 6, 2) := by decide +kernel
theorem dX5_common_58 : decode cX5_common 58 = .ok (.invokevirtual 221, 3) := by decide +kernel
theorem dX5_common_61 : decode cX5_common 61 = .ok (.astore 7, 2) := by decide +kernel
theorem dX5_common_63 : decode cX5_common 63 = .ok (.aload 7, 2) := by decide +kernel
theorem dX5_common_65 : decode cX5_common 65 = .ok (.ifnonnull 37, 3) := by decide +kernel
theorem dX5_common_68 : decode cX5_common 68 = .ok (.iload_n 3, 1) := by decide +kernel
theorem dX5_common_69 : decode cX5_common 69 = .ok (.i2l, 1) := by decide +kernel
theorem dX5_common_70 : decode cX5_common 70 = .ok (.aload_n 0, 1) := by decide +kernel
theorem dX5_common_71 : decode cX5_common 71 = .ok (.getfield 40, 3) := by decide +kernel
theorem dX5_common_74 : decode cX5_common 74 = .ok (.getfield 158, 3) := by decide +kernel
theorem dX5_common_77 : decode cX5_common 77 = .ok (.lcmp, 1) := by decide +kernel
theorem dX5_common_78 : decode cX5_common 78 = .ok (.ifCond .le 7, 3) := by decide +kernel
theorem dX5_common_81 : decode cX5_common 81 = .ok (.iconst (-1), 1) := by decide +kernel
theorem dX5_common_82 : decode cX5_common 82 = .ok (.goto 19, 3) := by decide +kernel
theorem dX5_common_85 : decode cX5_common 85 = .ok (.aload_n 0, 1) := by decide +kernel
theorem dX5_common_86 : decode cX5_common 86 = .ok (.iconst 0, 1) := by decide +kernel
theorem dX5_common_87 : decode cX5_common 87 = .ok (.aload_n 0, 1) := by decide +kernel
theorem dX5_common_88 : decode cX5_common 88 = .ok (.getfield 86, 3) := by decide +kernel
theorem dX5_common_91 : decode cX5_common 91 = .ok (.aload 6, 2) := by decide +kernel
theorem dX5_common_93 : decode cX5_common 93 = .ok (.iload_n 3, 1) := by decide +kernel
theorem dX5_common_94 : decode cX5_common 94 = .ok (.i2l, 1) := by decide +kernel
theorem dX5_common_95 : decode cX5_common 95 = .ok (.invokevirtual 225, 3) := by decide +kernel
theorem dX5_common_98 : decode cX5_common 98 = .ok (.invokevirtual 62, 3) := by decide +kernel
theorem dX5_common_101 : decode cX5_common 101 = .ok (.ireturn, 1) := by decide +kernel
theorem dX5_common_102 : decode cX5_common 102 = .ok (.iload_n 3, 1) := by decide +kernel
theorem dX5_common_103 : decode cX5_common 103 = .ok (.aload 7, 2) := by decide +kernel
theorem dX5_common_105 : decode cX5_common 105 = .ok (.arraylength, 1) := by decide +kernel
theorem dX5_common_106 : decode cX5_common 106 = .ok (.if_icmp .lt 7, 3) := by decide +kernel
theorem dX5_common_109 : decode cX5_common 109 = .ok (.iconst (-1), 1) := by decide +kernel
theorem dX5_common_110 : decode cX5_common 110 = .ok (.goto 21, 3) := by decide +kernel
theorem dX5_common_113 : decode cX5_common 113 = .ok (.aload_n 0, 1) := by decide +kernel
theorem dX5_common_114 : decode cX5_common 114 = .ok (.iconst 0, 1) := by decide +kernel
theorem dX5_common_115 : decode cX5_common 115 = .ok (.aload_n 0, 1) := by decide +kernel
theorem dX5_common_116 : decode cX5_common 116 = .ok (.getfield 86, 3) := by decide +kernel
theorem dX5_common_119 : decode cX5_common 119 = .ok (.aload 6, 2) := by decide +kernel
theorem dX5_common_121 : decode cX5_common 121 = .ok (.aload 7, 2) := by decide +kernel
theorem dX5_common_123 : decode cX5_common 123 = .ok (.iload_n 3, 1) := by decide +kernel
theorem dX5_common_124 : decode cX5_common 124 = .ok (.laload, 1) := by decide +kernel
theorem dX5_common_125 : decode cX5_common 125 = .ok (.invokevirtual 225, 3) := by decide +kernel
theorem dX5_common_128 : decode cX5_common 128 = .ok (.invokevirtual 62, 3) := by decide +kernel
theorem dX5_common_131 : decode cX5_common 131 = .ok (.ireturn, 1) := by decide +kernel
theorem dX5_root_0 : decode cX5_root 0 = .ok (.aload_n 0, 1) := by decide +kernel
theorem dX5_root_1 : decode cX5_root 1 = .ok (.getfield 40, 3) := by decide +kernel
theorem dX5_root_4 : decode cX5_root 4 = .ok (.aload_n 0, 1) := by decide +kernel
theorem dX5_root_5 : decode cX5_root 5 = .ok (.getfield 40, 3) := by decide +kernel
theorem dX5_root_8 : decode cX5_root 8 = .ok (.lload_n 1, 1) := by decide +kernel
theorem dX5_root_9 : decode cX5_root 9 = .ok (.invokevirtual 44, 3) := by decide +kernel
theorem dX5_root_12 : decode cX5_root 12 = .ok (.invokevirtual 228, 3) := by decide +kernel
theorem dX5_root_15 : decode cX5_root 15 = .ok (.l2i, 1) := by decide +kernel
theorem dX5_root_16 : decode cX5_root 16 = .ok (.ireturn, 1) := by decide +kernel
theorem dX5_dual_0 : decode cX5_dual 0 = .ok (.aload_n 0, 1) := by decide +kernel
theorem dX5_dual_1 : decode cX5_dual 1 = .ok (.getfield 10, 3) := by decide +kernel
theorem dX5_dual_4 : decode cX5_dual 4 = .ok (.iload_n 1, 1) := by decide +kernel
theorem dX5_dual_5 : decode cX5_dual 5 = .ok (.invokevirtual 66, 3) := by decide +kernel
theorem dX5_dual_8 : decode cX5_dual 8 = .ok (.astore_n 2, 1) := by decide +kernel
theorem dX5_dual_9 : decode cX5_dual 9 = .ok (.aload_n 2, 1) := by decide +kernel
theorem dX5_dual_10 : decode cX5_dual 10 = .ok (.ifnonnull 6, 3) := by decide +kernel
theorem dX5_dual_13 : decode cX5_dual 13 = .ok (.bipush (-2), 2) := by decide +kernel
theorem dX5_dual_15 : decode cX5_dual 15 = .ok (.ireturn, 1) := by decide +kernel
theorem dX5_dual_16 : decode cX5_dual 16 = .ok (.aload_n 2, 1) := by decide +kernel
theorem dX5_dual_17 : decode cX5_dual 17 = .ok (.getfield 75, 3) := by decide +kernel
theorem dX5_dual_20 : decode cX5_dual 20 = .ok (.ifCond .ne 16, 3) := by decide +kernel
theorem dX5_dual_23 : decode cX5_dual 23 = .ok (.aload_n 0, 1) := by decide +kernel
theorem dX5_dual_24 : decode cX5_dual 24 = .ok (.aload_n 0, 1) := by decide +kernel
theorem dX5_dual_25 : decode cX5_dual 25 = .ok (.getfield 109, 3) := by decide +kernel
theorem dX5_dual_28 : decode cX5_dual 28 = .ok (.aload_n 2, 1) := by decide +kernel
theorem dX5_dual_29 : decode cX5_dual 29 = .ok (.getfield 70, 3) := by decide +kernel
theorem dX5_dual_32 : decode cX5_dual 32 = .ok (.invokevirtual 62, 3) := by decide +kernel
theorem dX5_dual_35 : decode cX5_dual 35 = .ok (.ireturn, 1) := by decide +kernel
theorem dX5_dual_36 : decode cX5_dual 36 = .ok (.aload_n 2, 1) := by decide +kernel
theorem dX5_dual_37 : decode cX5_dual 37 = .ok (.getfield 75, 3) := by decide +kernel
theorem dX5_dual_40 : decode cX5_dual 40 = .ok (.aload_n 0, 1) := by decide +kernel
theorem dX5_dual_41 : decode cX5_dual 41 = .ok (.getfield 109, 3) := by decide +kernel
theorem dX5_dual_44 : decode cX5_dual 44 = .ok (.if_icmp .ne 13, 3) := by decide +kernel
theorem dX5_dual_47 : decode cX5_dual 47 = .ok (.aload_n 0, 1) := by decide +kernel
theorem dX5_dual_48 : decode cX5_dual 48 = .ok (.iconst 0, 1) := by decide +kernel
theorem dX5_dual_49 : decode cX5_dual 49 = .ok (.aload_n 2, 1) := by decide +kernel
theorem dX5_dual_50 : decode cX5_dual 50 = .ok (.getfield 70, 3) := by decide +kernel
theorem dX5_dual_53 : decode cX5_dual 53 = .ok (.invokevirtual 62, 3) := by decide +kernel
theorem dX5_dual_56 : decode cX5_dual 56 = .ok (.ireturn, 1) := by decide +kernel
theorem dX5_dual_57 : decode cX5_dual 57 = .ok (.aload_n 2, 1) := by decide +kernel
theorem dX5_dual_58 : decode cX5_dual 58 = .ok (.getfield 75, 3) := by decide +kernel
theorem dX5_dual_61 : decode cX5_dual 61 = .ok (.iconst 1, 1) := by decide +kernel
theorem dX5_dual_62 : decode cX5_dual 62 = .ok (.if_icmp .ne 20, 3) := by decide +kernel
theorem dX5_dual_65 : decode cX5_dual 65 = .ok (.aload_n 0, 1) := by decide +kernel
theorem dX5_dual_66 : decode cX5_dual 66 = .ok (.iconst 1, 1) := by decide +kernel
theorem dX5_dual_67 : decode cX5_dual 67 = .ok (.aload_n 0, 1) := by decide +kernel
theorem dX5_dual_68 : decode cX5_dual 68 = .ok (.getfield 86, 3) := by decide +kernel
theorem dX5_dual_71 : decode cX5_dual 71 = .ok (.aload_n 2, 1) := by decide +kernel
theorem dX5_dual_72 : decode cX5_dual 72 = .ok (.getfield 70, 3) := by decide +kernel
theorem dX5_dual_75 : decode cX5_dual 75 = .ok (.invokevirtual 231, 3) := by decide +kernel
theorem dX5_dual_78 : decode cX5_dual 78 = .ok (.invokevirtual 62, 3) := by decide +kernel
theorem dX5_dual_81 : decode cX5_dual 81 = .ok (.ireturn, 1) := by decide +kernel
theorem dX5_dual_82 : decode cX5_dual 82 = .ok (.aload_n 0, 1) := by decide +kernel
theorem dX5_dual_83 : decode cX5_dual 83 = .ok (.getfield 142, 3) := by decide +kernel
theorem dX5_dual_86 : decode cX5_dual 86 = .ok (.aload_n 2, 1) := by decide +kernel
theorem dX5_dual_87 : decode cX5_dual 87 = .ok (.getfield 70, 3) := by decide +kernel
theorem dX5_dual_90 : decode cX5_dual 90 = .ok (.invokevirtual 180, 3) := by decide +kernel
theorem dX5_dual_93 : decode cX5_dual 93 = .ok (.astore_n 3, 1) := by decide +kernel
theorem dX5_dual_94 : decode cX5_dual 94 = .ok (.aload_n 3, 1) := by decide +kernel
theorem dX5_dual_95 : decode cX5_dual 95 = .ok (.ifnonnull 5, 3) := by decide +kernel
theorem dX5_dual_98 : decode cX5_dual 98 = .ok (.iconst (-1), 1) := by decide +kernel
theorem dX5_dual_99 : decode cX5_dual 99 = .ok (.ireturn, 1) := by decide +kernel
theorem dX5_dual_100 : decode cX5_dual 100 = .ok (.aload_n 0, 1) := by decide +kernel
theorem dX5_dual_101 : decode cX5_dual 101 = .ok (.aload_n 2, 1) := by decide +kernel
theorem dX5_dual_102 : decode cX5_dual 102 = .ok (.getfield 75, 3) := by decide +kernel
theorem dX5_dual_105 : decode cX5_dual 105 = .ok (.aload_n 2, 1) := by decide +kernel
theorem dX5_dual_106 : decode cX5_dual 106 = .ok (.getfield 75, 3) := by decide +kernel
theorem dX5_dual_109 : decode cX5_dual 109 = .ok (.iconst 3, 1) := by decide +kernel
theorem dX5_dual_110 : decode cX5_dual 110 = .ok (.if_icmp .ne 14, 3) := by decide +kernel
theorem dX5_dual_113 : decode cX5_dual 113 = .ok (.aload_n 0, 1) := by decide +kernel
theorem dX5_dual_114 : decode cX5_dual 114 = .ok (.getfield 142, 3) := by decide +kernel
theorem dX5_dual_117 : decode cX5_dual 117 = .ok (.aload_n 3, 1) := by decide +kernel
theorem dX5_dual_118 : decode cX5_dual 118 = .ok (.invokevirtual 187, 3) := by decide +kernel
theorem dX5_dual_121 : decode cX5_dual 121 = .ok (.goto 4, 3) := by decide +kernel
theorem dX5_dual_124 : decode cX5_dual 124 = .ok (.aload_n 3, 1) := by decide +kernel
theorem dX5_dual_125 : decode cX5_dual 125 = .ok (.invokevirtual 62, 3) := by decide +kernel
theorem dX5_dual_128 : decode cX5_dual 128 = .ok (.ireturn, 1) := by decide +kernel
theorem dX5_ideal_0 : decode cX5_ideal 0 = .ok (.aload_n 0, 1) := by decide +kernel
theorem dX5_ideal_1 : decode cX5_ideal 1 = .ok (.getfield 10, 3) := by decide +kernel
theorem dX5_ideal_4 : decode cX5_ideal 4 = .ok (.iload_n 1, 1) := by decide +kernel
theorem dX5_ideal_5 : decode cX5_ideal 5 = .ok (.aload_n 0, 1) := by decide +kernel
theorem dX5_ideal_6 : decode cX5_ideal 6 = .ok (.getfield 109, 3) := by decide +kernel
theorem dX5_ideal_9 : decode cX5_ideal 9 = .ok (.invokevirtual 166, 3) := by decide +kernel
theorem dX5_ideal_12 : decode cX5_ideal 12 = .ok (.ifnonnull 6, 3) := by decide +kernel
theorem dX5_ideal_15 : decode cX5_ideal 15 = .ok (.bipush (-2), 2) := by decide +kernel
theorem dX5_ideal_17 : decode cX5_ideal 17 = .ok (.ireturn, 1) := by decide +kernel
theorem dX5_ideal_18 : decode cX5_ideal 18 = .ok (.aload_n 0, 1) := by decide +kernel
theorem dX5_ideal_19 : decode cX5_ideal 19 = .ok (.getfield 234, 3) := by decide +kernel
theorem dX5_ideal_22 : decode cX5_ideal 22 = .ok (.istore_n 2, 1) := by decide +kernel
theorem dX5_ideal_23 : decode cX5_ideal 23 = .ok (.aload_n 0, 1) := by decide +kernel
theorem dX5_ideal_24 : decode cX5_ideal 24 = .ok (.iload_n 1, 1) := by decide +kernel
theorem dX5_ideal_25 : decode cX5_ideal 25 = .ok (.putfield 234, 3) := by decide +kernel
theorem dX5_ideal_28 : decode cX5_ideal 28 = .ok (.iload_n 2, 1) := by decide +kernel
theorem dX5_ideal_29 : decode cX5_ideal 29 = .ok (.ireturn, 1) := by decide +kernel
theorem dX5_parallel_0 : decode cX5_parallel 0 = .ok (.aload_n 0, 1) := by decide +kernel
theorem dX5_parallel_1 : decode cX5_parallel 1 = .ok (.getfield 10, 3) := by decide +kernel
theorem dX5_parallel_4 : decode cX5_parallel 4 = .ok (.iload_n 1, 1) := by decide +kernel
theorem dX5_parallel_5 : decode cX5_parallel 5 = .ok (.iload_n 2, 1) := by decide +kernel
theorem dX5_parallel_6 : decode cX5_parallel 6 = .ok (.invokevirtual 79, 3) := by decide +kernel
theorem dX5_parallel_9 : decode cX5_parallel 9 = .ok (.astore_n 3, 1) := by decide +kernel
theorem dX5_parallel_10 : decode cX5_parallel 10 = .ok (.aload_n 0, 1) := by decide +kernel
theorem dX5_parallel_11 : decode cX5_parallel 11 = .ok (.getfield 10, 3) := by decide +kernel
theorem dX5_parallel_14 : decode cX5_parallel 14 = .ok (.iload_n 1, 1) := by decide +kernel
theorem dX5_parallel_15 : decode cX5_parallel 15 = .ok (.iload_n 2, 1) := by decide +kernel
theorem dX5_parallel_16 : decode cX5_parallel 16 = .ok (.invokevirtual 83, 3) := by decide +kernel
theorem dX5_parallel_19 : decode cX5_parallel 19 = .ok (.astore 4, 2) := by decide +kernel
theorem dX5_parallel_21 : decode cX5_parallel 21 = .ok (.aload_n 3, 1) := by decide +kernel
theorem dX5_parallel_22 : decode cX5_parallel 22 = .ok (.ifnull 25, 3) := by decide +kernel
theorem dX5_parallel_25 : decode cX5_parallel 25 = .ok (.aload 4, 2) := by decide +kernel
theorem dX5_parallel_27 : decode cX5_parallel 27 = .ok (.ifnull 20, 3) := by decide +kernel
theorem dX5_parallel_30 : decode cX5_parallel 30 = .ok (.aload_n 0, 1) := by decide +kernel
theorem dX5_parallel_31 : decode cX5_parallel 31 = .ok (.aload_n 3, 1) := by decide +kernel
theorem dX5_parallel_32 : decode cX5_parallel 32 = .ok (.invokevirtual 105, 3) := by decide +kernel
theorem dX5_parallel_35 : decode cX5_parallel 35 = .ok (.ifCond .eq 12, 3) := by decide +kernel
theorem dX5_parallel_38 : decode cX5_parallel 38 = .ok (.aload_n 0, 1) := by decide +kernel
theorem dX5_parallel_39 : decode cX5_parallel 39 = .ok (.aload 4, 2) := by decide +kernel
theorem dX5_parallel_41 : decode cX5_parallel 41 = .ok (.invokevirtual 105, 3) := by decide +kernel
theorem dX5_parallel_44 : decode cX5_parallel 44 = .ok (.ifCond .ne 6, 3) := by decide +kernel
theorem dX5_parallel_47 : decode cX5_parallel 47 = .ok (.bipush (-2), 2) := by decide +kernel
theorem dX5_parallel_49 : decode cX5_parallel 49 = .ok (.ireturn, 1) := by decide +kernel
theorem dX5_parallel_50 : decode cX5_parallel 50 = .ok (.aload_n 0, 1) := by decide +kernel
theorem dX5_parallel_51 : decode cX5_parallel 51 = .ok (.getfield 10, 3) := by decide +kernel
theorem dX5_parallel_54 : decode cX5_parallel 54 = .ok (.aload_n 0, 1) := by decide +kernel
theorem dX5_parallel_55 : decode cX5_parallel 55 = .ok (.getfield 234, 3) := by decide +kernel
theorem dX5_parallel_58 : decode cX5_parallel 58 = .ok (.aload_n 0, 1) := by decide +kernel
theorem dX5_parallel_59 : decode cX5_parallel 59 = .ok (.getfield 109, 3) := by decide +kernel
theorem dX5_parallel_62 : decode cX5_parallel 62 = .ok (.invokevirtual 166, 3) := by decide +kernel
theorem dX5_parallel_65 : decode cX5_parallel 65 = .ok (.astore 5, 2) := by decide +kernel
theorem dX5_parallel_67 : decode cX5_parallel 67 = .ok (.aload 5, 2) := by decide +kernel
theorem dX5_parallel_69 : decode cX5_parallel 69 = .ok (.ifnull 24, 3) := by decide +kernel
theorem dX5_parallel_72 : decode cX5_parallel 72 = .ok (.aload_n 0, 1) := by decide +kernel
theorem dX5_parallel_73 : decode cX5_parallel 73 = .ok (.aload_n 3, 1) := by decide +kernel
theorem dX5_parallel_74 : decode cX5_parallel 74 = .ok (.aload 5, 2) := by decide +kernel
theorem dX5_parallel_76 : decode cX5_parallel 76 = .ok (.invokevirtual 237, 3) := by decide +kernel
theorem dX5_parallel_79 : decode cX5_parallel 79 = .ok (.ifCond .ne 14, 3) := by decide +kernel
theorem dX5_parallel_82 : decode cX5_parallel 82 = .ok (.aload_n 0, 1) := by decide +kernel
theorem dX5_parallel_83 : decode cX5_parallel 83 = .ok (.aload 4, 2) := by decide +kernel
theorem dX5_parallel_85 : decode cX5_parallel 85 = .ok (.aload 5, 2) := by decide +kernel
theorem dX5_parallel_87 : decode cX5_parallel 87 = .ok (.invokevirtual 237, 3) := by decide +kernel
theorem dX5_parallel_90 : decode cX5_parallel 90 = .ok (.ifCond .eq 5, 3) := by decide +kernel
theorem dX5_parallel_93 : decode cX5_parallel 93 = .ok (.iconst (-1), 1) := by decide +kernel
theorem dX5_parallel_94 : decode cX5_parallel 94 = .ok (.ireturn, 1) := by decide +kernel
theorem dX5_parallel_95 : decode cX5_parallel 95 = .ok (.iload_n 1, 1) := by decide +kernel
theorem dX5_parallel_96 : decode cX5_parallel 96 = .ok (.iload_n 2, 1) := by decide +kernel
theorem dX5_parallel_97 : decode cX5_parallel 97 = .ok (.if_icmp .eq 15, 3) := by decide +kernel
theorem dX5_parallel_100 : decode cX5_parallel 100 = .ok (.aload_n 0, 1) := by decide +kernel
theorem dX5_parallel_101 : decode cX5_parallel 101 = .ok (.aload_n 3, 1) := by decide +kernel
theorem dX5_parallel_102 : decode cX5_parallel 102 = .ok (.aload 4, 2) := by decide +kernel
theorem dX5_parallel_104 : decode cX5_parallel 104 = .ok (.aload 5, 2) := by decide +kernel
theorem dX5_parallel_106 : decode cX5_parallel 106 = .ok (.invokevirtual 241, 3) := by decide +kernel
theorem dX5_parallel_109 : decode cX5_parallel 109 = .ok (.ifCond .eq 7, 3) := by decide +kernel
theorem dX5_parallel_112 : decode cX5_parallel 112 = .ok (.iconst 1, 1) := by decide +kernel
theorem dX5_parallel_113 : decode cX5_parallel 113 = .ok (.goto 4, 3) := by decide +kernel
theorem dX5_parallel_116 : decode cX5_parallel 116 = .ok (.iconst 0, 1) := by decide +kernel
theorem dX5_parallel_117 : decode cX5_parallel 117 = .ok (.invokestatic 129, 3) := by decide +kernel
theorem dX5_parallel_120 : decode cX5_parallel 120 = .ok (.ireturn, 1) := by decide +kernel
theorem dX5_middle_0 : decode cX5_middle 0 = .ok (.aload_n 0, 1) := by decide +kernel
theorem dX5_middle_1 : decode cX5_middle 1 = .ok (.getfield 10, 3) := by decide +kernel
theorem dX5_middle_4 : decode cX5_middle 4 = .ok (.iload_n 1, 1) := by decide +kernel
theorem dX5_middle_5 : decode cX5_middle 5 = .ok (.iconst 0, 1) := by decide +kernel
theorem dX5_middle_6 : decode cX5_middle 6 = .ok (.invokevirtual 166, 3) := by decide +kernel
theorem dX5_middle_9 : decode cX5_middle 9 = .ok (.astore_n 3, 1) := by decide +kernel
theorem dX5_middle_10 : decode cX5_middle 10 = .ok (.aload_n 0, 1) := by decide +kernel
theorem dX5_middle_11 : decode cX5_middle 11 = .ok (.getfield 10, 3) := by decide +kernel
theorem dX5_middle_14 : decode cX5_middle 14 = .ok (.iload_n 2, 1) := by decide +kernel
theorem dX5_middle_15 : decode cX5_middle 15 = .ok (.iconst 0, 1) := by decide +kernel
theorem dX5_middle_16 : decode cX5_middle 16 = .ok (.invokevirtual 166, 3) := by decide +kernel
theorem dX5_middle_19 : decode cX5_middle 19 = .ok (.astore 4, 2) := by decide +kernel
theorem dX5_middle_21 : decode cX5_middle 21 = .ok (.aload_n 3, 1) := by decide +kernel
theorem dX5_middle_22 : decode cX5_middle 22 = .ok (.ifnull 8, 3) := by decide +kernel
theorem dX5_middle_25 : decode cX5_middle 25 = .ok (.aload 4, 2) := by decide +kernel
theorem dX5_middle_27 : decode cX5_middle 27 = .ok (.ifnonnull 6, 3) := by decide +kernel
theorem dX5_middle_30 : decode cX5_middle 30 = .ok (.bipush (-2), 2) := by decide +kernel
theorem dX5_middle_32 : decode cX5_middle 32 = .ok (.ireturn, 1) := by decide +kernel
theorem dX5_middle_33 : decode cX5_middle 33 = .ok (.aload_n 0, 1) := by decide +kernel
theorem dX5_middle_34 : decode cX5_middle 34 = .ok (.getfield 10, 3) := by decide +kernel
theorem dX5_middle_37 : decode cX5_middle 37 = .ok (.aload_n 0, 1) := by decide +kernel
theorem dX5_middle_38 : decode cX5_middle 38 = .ok (.getfield 234, 3) := by decide +kernel
theorem dX5_middle_41 : decode cX5_middle 41 = .ok (.aload_n 0, 1) := by decide +kernel
theorem dX5_middle_42 : decode cX5_middle 42 = .ok (.getfield 109, 3) := by decide +kernel
theorem dX5_middle_45 : decode cX5_middle 45 = .ok (.invokevirtual 166, 3) := by decide +kernel
theorem dX5_middle_48 : decode cX5_middle 48 = .ok (.astore 5, 2) := by decide +kernel
theorem dX5_middle_50 : decode cX5_middle 50 = .ok (.aload 5, 2) := by decide +kernel
theorem dX5_middle_52 : decode cX5_middle 52 = .ok (.ifnull 8, 3) := by decide +kernel
theorem dX5_middle_55 : decode cX5_middle 55 = .ok (.iload_n 1, 1) := by decide +kernel
theorem dX5_middle_56 : decode cX5_middle 56 = .ok (.iload_n 2, 1) := by decide +kernel
theorem dX5_middle_57 : decode cX5_middle 57 = .ok (.if_icmp .ne 5, 3) := by decide +kernel
theorem dX5_middle_60 : decode cX5_middle 60 = .ok (.iconst (-1), 1) := by decide +kernel
theorem dX5_middle_61 : decode cX5_middle 61 = .ok (.ireturn, 1) := by decide +kernel
theorem dX5_middle_62 : decode cX5_middle 62 = .ok (.aload_n 0, 1) := by decide +kernel
theorem dX5_middle_63 : decode cX5_middle 63 = .ok (.getfield 142, 3) := by decide +kernel
theorem dX5_middle_66 : decode cX5_middle 66 = .ok (.aload 5, 2) := by decide +kernel
theorem dX5_middle_68 : decode cX5_middle 68 = .ok (.aload_n 3, 1) := by decide +kernel
theorem dX5_middle_69 : decode cX5_middle 69 = .ok (.invokevirtual 245, 3) := by decide +kernel
theorem dX5_middle_72 : decode cX5_middle 72 = .ok (.lstore 6, 2) := by decide +kernel
theorem dX5_middle_74 : decode cX5_middle 74 = .ok (.aload_n 0, 1) := by decide +kernel
theorem dX5_middle_75 : decode cX5_middle 75 = .ok (.getfield 142, 3) := by decide +kernel
theorem dX5_middle_78 : decode cX5_middle 78 = .ok (.aload 5, 2) := by decide +kernel
theorem dX5_middle_80 : decode cX5_middle 80 = .ok (.aload 4, 2) := by decide +kernel
theorem dX5_middle_82 : decode cX5_middle 82 = .ok (.invokevirtual 245, 3) := by decide +kernel
theorem dX5_middle_85 : decode cX5_middle 85 = .ok (.lstore 8, 2) := by decide +kernel
theorem dX5_middle_87 : decode cX5_middle 87 = .ok (.lload 6, 2) := by decide +kernel
theorem dX5_middle_89 : decode cX5_middle 89 = .ok (.lconst 0, 1) := by decide +kernel
theorem dX5_middle_90 : decode cX5_middle 90 = .ok (.lcmp, 1) := by decide +kernel
theorem dX5_middle_91 : decode cX5_middle 91 = .ok (.ifCond .eq 10, 3) := by decide +kernel
theorem dX5_middle_94 : decode cX5_middle 94 = .ok (.lload 8, 2) := by decide +kernel
theorem dX5_middle_96 : decode cX5_middle 96 = .ok (.lconst 0, 1) := by decide +kernel
theorem dX5_middle_97 : decode cX5_middle 97 = .ok (.lcmp, 1) := by decide +kernel
theorem dX5_middle_98 : decode cX5_middle 98 = .ok (.ifCond .ne 7, 3) := by decide +kernel
theorem dX5_middle_101 : decode cX5_middle 101 = .ok (.iconst (-1), 1) := by decide +kernel
theorem dX5_middle_102 : decode cX5_middle 102 = .ok (.goto 22, 3) := by decide +kernel
theorem dX5_middle_105 : decode cX5_middle 105 = .ok (.aload_n 0, 1) := by decide +kernel
theorem dX5_middle_106 : decode cX5_middle 106 = .ok (.iconst 0, 1) := by decide +kernel
theorem dX5_middle_107 : decode cX5_middle 107 = .ok (.aload_n 0, 1) := by decide +kernel
theorem dX5_middle_108 : decode cX5_middle 108 = .ok (.getfield 142, 3) := by decide +kernel
theorem dX5_middle_111 : decode cX5_middle 111 = .ok (.lload 8, 2) := by decide +kernel
theorem dX5_middle_113 : decode cX5_middle 113 = .ok (.aload_n 3, 1) := by decide +kernel
theorem dX5_middle_114 : decode cX5_middle 114 = .ok (.lload 6, 2) := by decide +kernel
theorem dX5_middle_116 : decode cX5_middle 116 = .ok (.aload 4, 2) := by decide +kernel
theorem dX5_middle_118 : decode cX5_middle 118 = .ok (.invokevirtual 249, 3) := by decide +kernel
theorem dX5_middle_121 : decode cX5_middle 121 = .ok (.invokevirtual 62, 3) := by decide +kernel
theorem dX5_middle_124 : decode cX5_middle 124 = .ok (.ireturn, 1) := by decide +kernel
theorem dX5_holds_0 : decode cX5_holds 0 = .ok (.aload_n 0, 1) := by decide +kernel
theorem dX5_holds_1 : decode cX5_holds 1 = .ok (.getfield 96, 3) := by decide +kernel
theorem dX5_holds_4 : decode cX5_holds 4 = .ok (.iconst 2, 1) := by decide +kernel
theorem dX5_holds_5 : decode cX5_holds 5 = .ok (.if_icmp .ne 12, 3) := by decide +kernel
theorem dX5_holds_8 : decode cX5_holds 8 = .ok (.iload_n 1, 1) := by decide +kernel
theorem dX5_holds_9 : decode cX5_holds 9 = .ok (.ifCond .lt 8, 3) := by decide +kernel
theorem dX5_holds_12 : decode cX5_holds 12 = .ok (.iload_n 1, 1) := by decide +kernel
theorem dX5_holds_13 : decode cX5_holds 13 = .ok (.iconst 2, 1) := by decide +kernel
theorem dX5_holds_14 : decode cX5_holds 14 = .ok (.if_icmp .le 6, 3) := by decide +kernel
theorem dX5_holds_17 : decode cX5_holds 17 = .ok (.bipush (-2), 2) := by decide +kernel
theorem dX5_holds_19 : decode cX5_holds 19 = .ok (.ireturn, 1) := by decide +kernel
theorem dX5_holds_20 : decode cX5_holds 20 = .ok (.aload_n 0, 1) := by decide +kernel
theorem dX5_holds_21 : decode cX5_holds 21 = .ok (.getfield 207, 3) := by decide +kernel
theorem dX5_holds_24 : decode cX5_holds 24 = .ok (.bipush 6, 2) := by decide +kernel
theorem dX5_holds_26 : decode cX5_holds 26 = .ok (.if_icmp .eq 5, 3) := by decide +kernel
theorem dX5_holds_29 : decode cX5_holds 29 = .ok (.iconst (-1), 1) := by decide +kernel
theorem dX5_holds_30 : decode cX5_holds 30 = .ok (.ireturn, 1) := by decide +kernel
theorem dX5_holds_31 : decode cX5_holds 31 = .ok (.aload_n 0, 1) := by decide +kernel
theorem dX5_holds_32 : decode cX5_holds 32 = .ok (.aload_n 0, 1) := by decide +kernel
theorem dX5_holds_33 : decode cX5_holds 33 = .ok (.getfield 20, 3) := by decide +kernel
theorem dX5_holds_36 : decode cX5_holds 36 = .ok (.bipush 6, 2) := by decide +kernel
theorem dX5_holds_38 : decode cX5_holds 38 = .ok (.invokevirtual 172, 3) := by decide +kernel
theorem dX5_holds_41 : decode cX5_holds 41 = .ok (.astore_n 2, 1) := by decide +kernel
theorem dX5_holds_42 : decode cX5_holds 42 = .ok (.aload_n 0, 1) := by decide +kernel
theorem dX5_holds_43 : decode cX5_holds 43 = .ok (.iload_n 1, 1) := by decide +kernel
theorem dX5_holds_44 : decode cX5_holds 44 = .ok (.aload_n 2, 1) := by decide +kernel
theorem dX5_holds_45 : decode cX5_holds 45 = .ok (.invokevirtual 253, 3) := by decide +kernel
theorem dX5_holds_48 : decode cX5_holds 48 = .ok (.ifCond .ne 5, 3) := by decide +kernel
theorem dX5_holds_51 : decode cX5_holds 51 = .ok (.iconst (-1), 1) := by decide +kernel
theorem dX5_holds_52 : decode cX5_holds 52 = .ok (.ireturn, 1) := by decide +kernel
theorem dX5_holds_53 : decode cX5_holds 53 = .ok (.iload_n 1, 1) := by decide +kernel
theorem dX5_holds_54 : decode cX5_holds 54 = .ok (.iconst 1, 1) := by decide +kernel
theorem dX5_holds_55 : decode cX5_holds 55 = .ok (.if_icmp .ne 9, 3) := by decide +kernel
theorem dX5_holds_58 : decode cX5_holds 58 = .ok (.getstatic 257, 3) := by decide +kernel
theorem dX5_holds_61 : decode cX5_holds 61 = .ok (.goto 6, 3) := by decide +kernel
theorem dX5_holds_64 : decode cX5_holds 64 = .ok (.getstatic 260, 3) := by decide +kernel
theorem dX5_holds_67 : decode cX5_holds 67 = .ok (.astore_n 3, 1) := by decide +kernel
theorem dX5_holds_68 : decode cX5_holds 68 = .ok (.iconst 3, 1) := by decide +kernel
theorem dX5_holds_69 : decode cX5_holds 69 = .ok (.anewarray 263, 3) := by decide +kernel
theorem dX5_holds_72 : decode cX5_holds 72 = .ok (.astore 4, 2) := by decide +kernel
theorem dX5_holds_74 : decode cX5_holds 74 = .ok (.iconst 0, 1) := by decide +kernel
theorem dX5_holds_75 : decode cX5_holds 75 = .ok (.istore 5, 2) := by decide +kernel
theorem dX5_holds_77 : decode cX5_holds 77 = .ok (.iload 5, 2) := by decide +kernel
theorem dX5_holds_79 : decode cX5_holds 79 = .ok (.aload 4, 2) := by decide +kernel
theorem dX5_holds_81 : decode cX5_holds 81 = .ok (.arraylength, 1) := by decide +kernel
theorem dX5_holds_82 : decode cX5_holds 82 = .ok (.if_icmp .ge 94, 3) := by decide +kernel
theorem dX5_holds_85 : decode cX5_holds 85 = .ok (.aload_n 0, 1) := by decide +kernel
theorem dX5_holds_86 : decode cX5_holds 86 = .ok (.getfield 86, 3) := by decide +kernel
theorem dX5_holds_89 : decode cX5_holds 89 = .ok (.aload_n 2, 1) := by decide +kernel
theorem dX5_holds_90 : decode cX5_holds 90 = .ok (.aload_n 3, 1) := by decide +kernel
theorem dX5_holds_91 : decode cX5_holds 91 = .ok (.iconst 4, 1) := by decide +kernel
theorem dX5_holds_92 : decode cX5_holds 92 = .ok (.iload 5, 2) := by decide +kernel
theorem dX5_holds_94 : decode cX5_holds 94 = .ok (.imul, 1) := by decide +kernel
theorem dX5_holds_95 : decode cX5_holds 95 = .ok (.iaload, 1) := by decide +kernel
theorem dX5_holds_96 : decode cX5_holds 96 = .ok (.aaload, 1) := by decide +kernel
theorem dX5_holds_97 : decode cX5_holds 97 = .ok (.aload_n 2, 1) := by decide +kernel
theorem dX5_holds_98 : decode cX5_holds 98 = .ok (.aload_n 3, 1) := by decide +kernel
theorem dX5_holds_99 : decode cX5_holds 99 = .ok (.iconst 4, 1) := by decide +kernel
theorem dX5_holds_100 : decode cX5_holds 100 = .ok (.iload 5, 2) := by decide +kernel
theorem dX5_holds_102 : decode cX5_holds 102 = .ok (.imul, 1) := by decide +kernel
theorem dX5_holds_103 : decode cX5_holds 103 = .ok (.iconst 1, 1) := by decide +kernel
theorem dX5_holds_104 : decode cX5_holds 104 = .ok (.iadd, 1) := by decide +kernel
theorem dX5_holds_105 : decode cX5_holds 105 = .ok (.iaload, 1) := by decide +kernel
theorem dX5_holds_106 : decode cX5_holds 106 = .ok (.aaload, 1) := by decide +kernel
theorem dX5_holds_107 : decode cX5_holds 107 = .ok (.invokevirtual 90, 3) := by decide +kernel
theorem dX5_holds_110 : decode cX5_holds 110 = .ok (.astore 6, 2) := by decide +kernel
theorem dX5_holds_112 : decode cX5_holds 112 = .ok (.aload_n 0, 1) := by decide +kernel
theorem dX5_holds_113 : decode cX5_holds 113 = .ok (.getfield 86, 3) := by decide +kernel
theorem dX5_holds_116 : decode cX5_holds 116 = .ok (.aload_n 2, 1) := by decide +kernel
theorem dX5_holds_117 : decode cX5_holds 117 = .ok (.aload_n 3, 1) := by decide +kernel
theorem dX5_holds_118 : decode cX5_holds 118 = .ok (.iconst 4, 1) := by decide +kernel
theorem dX5_holds_119 : decode cX5_holds 119 = .ok (.iload 5, 2) := by decide +kernel
theorem dX5_holds_121 : decode cX5_holds 121 = .ok (.imul, 1) := by decide +kernel
theorem dX5_holds_122 : decode cX5_holds 122 = .ok (.iconst 2, 1) := by decide +kernel
theorem dX5_holds_123 : decode cX5_holds 123 = .ok (.iadd, 1) := by decide +kernel
theorem dX5_holds_124 : decode cX5_holds 124 = .ok (.iaload, 1) := by decide +kernel
theorem dX5_holds_125 : decode cX5_holds 125 = .ok (.aaload, 1) := by decide +kernel
theorem dX5_holds_126 : decode cX5_holds 126 = .ok (.aload_n 2, 1) := by decide +kernel
theorem dX5_holds_127 : decode cX5_holds 127 = .ok (.aload_n 3, 1) := by decide +kernel
theorem dX5_holds_128 : decode cX5_holds 128 = .ok (.iconst 4, 1) := by decide +kernel
theorem dX5_holds_129 : decode cX5_holds 129 = .ok (.iload 5, 2) := by decide +kernel
theorem dX5_holds_131 : decode cX5_holds 131 = .ok (.imul, 1) := by decide +kernel
theorem dX5_holds_132 : decode cX5_holds 132 = .ok (.iconst 3, 1) := by decide +kernel
theorem dX5_holds_133 : decode cX5_holds 133 = .ok (.iadd, 1) := by decide +kernel
theorem dX5_holds_134 : decode cX5_holds 134 = .ok (.iaload, 1) := by decide +kernel
theorem dX5_holds_135 : decode cX5_holds 135 = .ok (.aaload, 1) := by decide +kernel
theorem dX5_holds_136 : decode cX5_holds 136 = .ok (.invokevirtual 90, 3) := by decide +kernel
theorem dX5_holds_139 : decode cX5_holds 139 = .ok (.astore 7, 2) := by decide +kernel
theorem dX5_holds_141 : decode cX5_holds 141 = .ok (.aload 4, 2) := by decide +kernel
theorem dX5_holds_143 : decode cX5_holds 143 = .ok (.iload 5, 2) := by decide +kernel
theorem dX5_holds_145 : decode cX5_holds 145 = .ok (.aload_n 0, 1) := by decide +kernel
theorem dX5_holds_146 : decode cX5_holds 146 = .ok (.getfield 86, 3) := by decide +kernel
theorem dX5_holds_149 : decode cX5_holds 149 = .ok (.aload 6, 2) := by decide +kernel
theorem dX5_holds_151 : decode cX5_holds 151 = .ok (.aload 7, 2) := by decide +kernel
theorem dX5_holds_153 : decode cX5_holds 153 = .ok (.invokevirtual 112, 3) := by decide +kernel
theorem dX5_holds_156 : decode cX5_holds 156 = .ok (.aastore, 1) := by decide +kernel
theorem dX5_holds_157 : decode cX5_holds 157 = .ok (.aload 4, 2) := by decide +kernel
theorem dX5_holds_159 : decode cX5_holds 159 = .ok (.iload 5, 2) := by decide +kernel
theorem dX5_holds_161 : decode cX5_holds 161 = .ok (.aaload, 1) := by decide +kernel
theorem dX5_holds_162 : decode cX5_holds 162 = .ok (.invokestatic 264, 3) := by decide +kernel
theorem dX5_holds_165 : decode cX5_holds 165 = .ok (.ifCond .eq 5, 3) := by decide +kernel
theorem dX5_holds_168 : decode cX5_holds 168 = .ok (.iconst (-1), 1) := by decide +kernel
theorem dX5_holds_169 : decode cX5_holds 169 = .ok (.ireturn, 1) := by decide +kernel
theorem dX5_holds_170 : decode cX5_holds 170 = .ok (.iinc 5 1, 3) := by decide +kernel
theorem dX5_holds_173 : decode cX5_holds 173 = .ok (.goto (-96), 3) := by decide +kernel
theorem dX5_holds_176 : decode cX5_holds 176 = .ok (.aload_n 0, 1) := by decide +kernel
theorem dX5_holds_177 : decode cX5_holds 177 = .ok (.getfield 142, 3) := by decide +kernel
theorem dX5_holds_180 : decode cX5_holds 180 = .ok (.aload 4, 2) := by decide +kernel
theorem dX5_holds_182 : decode cX5_holds 182 = .ok (.invokevirtual 146, 3) := by decide +kernel
theorem dX5_holds_185 : decode cX5_holds 185 = .ok (.iconst 3, 1) := by decide +kernel
theorem dX5_holds_186 : decode cX5_holds 186 = .ok (.if_icmp .ge 7, 3) := by decide +kernel
theorem dX5_holds_189 : decode cX5_holds 189 = .ok (.iconst 1, 1) := by decide +kernel
theorem dX5_holds_190 : decode cX5_holds 190 = .ok (.goto 4, 3) := by decide +kernel
theorem dX5_holds_193 : decode cX5_holds 193 = .ok (.iconst 0, 1) := by decide +kernel
theorem dX5_holds_194 : decode cX5_holds 194 = .ok (.invokestatic 129, 3) := by decide +kernel
theorem dX5_holds_197 : decode cX5_holds 197 = .ok (.ireturn, 1) := by decide +kernel
theorem dX5_told_0 : decode cX5_told 0 = .ok (.iload_n 1, 1) := by decide +kernel
theorem dX5_told_1 : decode cX5_told 1 = .ok (.tableswitch 76 0 5 #[39, 44, 53, 61, 66, 71], 39) := by decide +kernel
theorem dX5_told_40 : decode cX5_told 40 = .ok (.aload_n 0, 1) := by decide +kernel
theorem dX5_told_41 : decode cX5_told 41 = .ok (.getfield 96, 3) := by decide +kernel
theorem dX5_told_44 : decode cX5_told 44 = .ok (.ireturn, 1) := by decide +kernel
theorem dX5_told_45 : decode cX5_told 45 = .ok (.aload_n 0, 1) := by decide +kernel
theorem dX5_told_46 : decode cX5_told 46 = .ok (.getfield 40, 3) := by decide +kernel
theorem dX5_told_49 : decode cX5_told 49 = .ok (.getfield 158, 3) := by decide +kernel
theorem dX5_told_52 : decode cX5_told 52 = .ok (.l2i, 1) := by decide +kernel
theorem dX5_told_53 : decode cX5_told 53 = .ok (.ireturn, 1) := by decide +kernel
theorem dX5_told_54 : decode cX5_told 54 = .ok (.aload_n 0, 1) := by decide +kernel
theorem dX5_told_55 : decode cX5_told 55 = .ok (.getfield 10, 3) := by decide +kernel
theorem dX5_told_58 : decode cX5_told 58 = .ok (.getfield 268, 3) := by decide +kernel
theorem dX5_told_61 : decode cX5_told 61 = .ok (.ireturn, 1) := by decide +kernel
theorem dX5_told_62 : decode cX5_told 62 = .ok (.aload_n 0, 1) := by decide +kernel
theorem dX5_told_63 : decode cX5_told 63 = .ok (.getfield 207, 3) := by decide +kernel
theorem dX5_told_66 : decode cX5_told 66 = .ok (.ireturn, 1) := by decide +kernel
theorem dX5_told_67 : decode cX5_told 67 = .ok (.aload_n 0, 1) := by decide +kernel
theorem dX5_told_68 : decode cX5_told 68 = .ok (.getfield 169, 3) := by decide +kernel
theorem dX5_told_71 : decode cX5_told 71 = .ok (.ireturn, 1) := by decide +kernel
theorem dX5_told_72 : decode cX5_told 72 = .ok (.aload_n 0, 1) := by decide +kernel
theorem dX5_told_73 : decode cX5_told 73 = .ok (.getfield 234, 3) := by decide +kernel
theorem dX5_told_76 : decode cX5_told 76 = .ok (.ireturn, 1) := by decide +kernel
theorem dX5_told_77 : decode cX5_told 77 = .ok (.bipush (-2), 2) := by decide +kernel
theorem dX5_told_79 : decode cX5_told 79 = .ok (.ireturn, 1) := by decide +kernel
theorem dX5_startAnew_0 : decode cX5_startAnew 0 = .ok (.aload_n 0, 1) := by decide +kernel
theorem dX5_startAnew_1 : decode cX5_startAnew 1 = .ok (.iload_n 1, 1) := by decide +kernel
theorem dX5_startAnew_2 : decode cX5_startAnew 2 = .ok (.putfield 96, 3) := by decide +kernel
theorem dX5_startAnew_5 : decode cX5_startAnew 5 = .ok (.aload_n 0, 1) := by decide +kernel
theorem dX5_startAnew_6 : decode cX5_startAnew 6 = .ok (.iload_n 1, 1) := by decide +kernel
theorem dX5_startAnew_7 : decode cX5_startAnew 7 = .ok (.iconst 1, 1) := by decide +kernel
theorem dX5_startAnew_8 : decode cX5_startAnew 8 = .ok (.isub, 1) := by decide +kernel
theorem dX5_startAnew_9 : decode cX5_startAnew 9 = .ok (.putfield 109, 3) := by decide +kernel
theorem dX5_startAnew_12 : decode cX5_startAnew 12 = .ok (.aload_n 0, 1) := by decide +kernel
theorem dX5_startAnew_13 : decode cX5_startAnew 13 = .ok (.new 35, 3) := by decide +kernel
theorem dX5_startAnew_16 : decode cX5_startAnew 16 = .ok (.dup, 1) := by decide +kernel
theorem dX5_startAnew_17 : decode cX5_startAnew 17 = .ok (.iload_n 2, 1) := by decide +kernel
theorem dX5_startAnew_18 : decode cX5_startAnew 18 = .ok (.invokespecial 271, 3) := by decide +kernel
theorem dX5_startAnew_21 : decode cX5_startAnew 21 = .ok (.putfield 40, 3) := by decide +kernel
theorem dX5_startAnew_24 : decode cX5_startAnew 24 = .ok (.aload_n 0, 1) := by decide +kernel
theorem dX5_startAnew_25 : decode cX5_startAnew 25 = .ok (.new 147, 3) := by decide +kernel
theorem dX5_startAnew_28 : decode cX5_startAnew 28 = .ok (.dup, 1) := by decide +kernel
theorem dX5_startAnew_29 : decode cX5_startAnew 29 = .ok (.aload_n 0, 1) := by decide +kernel
theorem dX5_startAnew_30 : decode cX5_startAnew 30 = .ok (.getfield 40, 3) := by decide +kernel
theorem dX5_startAnew_33 : decode cX5_startAnew 33 = .ok (.iload_n 1, 1) := by decide +kernel
theorem dX5_startAnew_34 : decode cX5_startAnew 34 = .ok (.iconst 1, 1) := by decide +kernel
theorem dX5_startAnew_35 : decode cX5_startAnew 35 = .ok (.iadd, 1) := by decide +kernel
theorem dX5_startAnew_36 : decode cX5_startAnew 36 = .ok (.invokespecial 274, 3) := by decide +kernel
theorem dX5_startAnew_39 : decode cX5_startAnew 39 = .ok (.putfield 142, 3) := by decide +kernel
theorem dX5_startAnew_42 : decode cX5_startAnew 42 = .ok (.aload_n 0, 1) := by decide +kernel
theorem dX5_startAnew_43 : decode cX5_startAnew 43 = .ok (.new 91, 3) := by decide +kernel
theorem dX5_startAnew_46 : decode cX5_startAnew 46 = .ok (.dup, 1) := by decide +kernel
theorem dX5_startAnew_47 : decode cX5_startAnew 47 = .ok (.aload_n 0, 1) := by decide +kernel
theorem dX5_startAnew_48 : decode cX5_startAnew 48 = .ok (.getfield 142, 3) := by decide +kernel
theorem dX5_startAnew_51 : decode cX5_startAnew 51 = .ok (.invokespecial 277, 3) := by decide +kernel
theorem dX5_startAnew_54 : decode cX5_startAnew 54 = .ok (.putfield 86, 3) := by decide +kernel
theorem dX5_startAnew_57 : decode cX5_startAnew 57 = .ok (.aload_n 0, 1) := by decide +kernel
theorem dX5_startAnew_58 : decode cX5_startAnew 58 = .ok (.getfield 10, 3) := by decide +kernel
theorem dX5_startAnew_61 : decode cX5_startAnew 61 = .ok (.invokevirtual 280, 3) := by decide +kernel
theorem dX5_startAnew_64 : decode cX5_startAnew 64 = .ok (.aload_n 0, 1) := by decide +kernel
theorem dX5_startAnew_65 : decode cX5_startAnew 65 = .ok (.getfield 16, 3) := by decide +kernel
theorem dX5_startAnew_68 : decode cX5_startAnew 68 = .ok (.lconst 0, 1) := by decide +kernel
theorem dX5_startAnew_69 : decode cX5_startAnew 69 = .ok (.invokestatic 283, 3) := by decide +kernel
theorem dX5_startAnew_72 : decode cX5_startAnew 72 = .ok (.aload_n 0, 1) := by decide +kernel
theorem dX5_startAnew_73 : decode cX5_startAnew 73 = .ok (.iconst 0, 1) := by decide +kernel
theorem dX5_startAnew_74 : decode cX5_startAnew 74 = .ok (.putfield 207, 3) := by decide +kernel
theorem dX5_startAnew_77 : decode cX5_startAnew 77 = .ok (.aload_n 0, 1) := by decide +kernel
theorem dX5_startAnew_78 : decode cX5_startAnew 78 = .ok (.iconst 0, 1) := by decide +kernel
theorem dX5_startAnew_79 : decode cX5_startAnew 79 = .ok (.putfield 169, 3) := by decide +kernel
theorem dX5_startAnew_82 : decode cX5_startAnew 82 = .ok (.aload_n 0, 1) := by decide +kernel
theorem dX5_startAnew_83 : decode cX5_startAnew 83 = .ok (.iconst (-1), 1) := by decide +kernel
theorem dX5_startAnew_84 : decode cX5_startAnew 84 = .ok (.putfield 234, 3) := by decide +kernel
theorem dX5_startAnew_87 : decode cX5_startAnew 87 = .ok (.return_, 1) := by decide +kernel
theorem dX5_oneIf_0 : decode cX5_oneIf 0 = .ok (.iload_n 0, 1) := by decide +kernel
theorem dX5_oneIf_1 : decode cX5_oneIf 1 = .ok (.ifCond .eq 7, 3) := by decide +kernel
theorem dX5_oneIf_4 : decode cX5_oneIf 4 = .ok (.iconst 1, 1) := by decide +kernel
theorem dX5_oneIf_5 : decode cX5_oneIf 5 = .ok (.goto 4, 3) := by decide +kernel
theorem dX5_oneIf_8 : decode cX5_oneIf 8 = .ok (.iconst 0, 1) := by decide +kernel
theorem dX5_oneIf_9 : decode cX5_oneIf 9 = .ok (.ireturn, 1) := by decide +kernel
theorem dX5_lengthOf_0 : decode cX5_lengthOf 0 = .ok (.aload_n 0, 1) := by decide +kernel
theorem dX5_lengthOf_1 : decode cX5_lengthOf 1 = .ok (.getfield 96, 3) := by decide +kernel
theorem dX5_lengthOf_4 : decode cX5_lengthOf 4 = .ok (.iconst 1, 1) := by decide +kernel
theorem dX5_lengthOf_5 : decode cX5_lengthOf 5 = .ok (.iadd, 1) := by decide +kernel
theorem dX5_lengthOf_6 : decode cX5_lengthOf 6 = .ok (.istore_n 2, 1) := by decide +kernel
theorem dX5_lengthOf_7 : decode cX5_lengthOf 7 = .ok (.iload_n 1, 1) := by decide +kernel
theorem dX5_lengthOf_8 : decode cX5_lengthOf 8 = .ok (.tableswitch 71 0 4 #[36, 38, 53, 67, 67], 36) := by decide +kernel
theorem dX5_lengthOf_44 : decode cX5_lengthOf 44 = .ok (.iload_n 2, 1) := by decide +kernel
theorem dX5_lengthOf_45 : decode cX5_lengthOf 45 = .ok (.ireturn, 1) := by decide +kernel
theorem dX5_lengthOf_46 : decode cX5_lengthOf 46 = .ok (.aload_n 0, 1) := by decide +kernel
theorem dX5_lengthOf_47 : decode cX5_lengthOf 47 = .ok (.getfield 96, 3) := by decide +kernel
theorem dX5_lengthOf_50 : decode cX5_lengthOf 50 = .ok (.iconst 2, 1) := by decide +kernel
theorem dX5_lengthOf_51 : decode cX5_lengthOf 51 = .ok (.if_icmp .ne 7, 3) := by decide +kernel
theorem dX5_lengthOf_54 : decode cX5_lengthOf 54 = .ok (.iconst 3, 1) := by decide +kernel
theorem dX5_lengthOf_55 : decode cX5_lengthOf 55 = .ok (.goto 5, 3) := by decide +kernel
theorem dX5_lengthOf_58 : decode cX5_lengthOf 58 = .ok (.bipush 6, 2) := by decide +kernel
theorem dX5_lengthOf_60 : decode cX5_lengthOf 60 = .ok (.ireturn, 1) := by decide +kernel
theorem dX5_lengthOf_61 : decode cX5_lengthOf 61 = .ok (.aload_n 0, 1) := by decide +kernel
theorem dX5_lengthOf_62 : decode cX5_lengthOf 62 = .ok (.getfield 96, 3) := by decide +kernel
theorem dX5_lengthOf_65 : decode cX5_lengthOf 65 = .ok (.iconst 2, 1) := by decide +kernel
theorem dX5_lengthOf_66 : decode cX5_lengthOf 66 = .ok (.if_icmp .ne 7, 3) := by decide +kernel
theorem dX5_lengthOf_69 : decode cX5_lengthOf 69 = .ok (.iconst 0, 1) := by decide +kernel
theorem dX5_lengthOf_70 : decode cX5_lengthOf 70 = .ok (.goto 4, 3) := by decide +kernel
theorem dX5_lengthOf_73 : decode cX5_lengthOf 73 = .ok (.iload_n 2, 1) := by decide +kernel
theorem dX5_lengthOf_74 : decode cX5_lengthOf 74 = .ok (.ireturn, 1) := by decide +kernel
theorem dX5_lengthOf_75 : decode cX5_lengthOf 75 = .ok (.iload_n 2, 1) := by decide +kernel
theorem dX5_lengthOf_76 : decode cX5_lengthOf 76 = .ok (.iload_n 2, 1) := by decide +kernel
theorem dX5_lengthOf_77 : decode cX5_lengthOf 77 = .ok (.imul, 1) := by decide +kernel
theorem dX5_lengthOf_78 : decode cX5_lengthOf 78 = .ok (.ireturn, 1) := by decide +kernel
theorem dX5_lengthOf_79 : decode cX5_lengthOf 79 = .ok (.iconst 0, 1) := by decide +kernel
theorem dX5_lengthOf_80 : decode cX5_lengthOf 80 = .ok (.ireturn, 1) := by decide +kernel
theorem dX5_isRowOf_0 : decode cX5_isRowOf 0 = .ok (.iload_n 1, 1) := by decide +kernel
theorem dX5_isRowOf_1 : decode cX5_isRowOf 1 = .ok (.tableswitch 93 1 4 #[31, 93, 57, 80], 31) := by decide +kernel
theorem dX5_isRowOf_32 : decode cX5_isRowOf 32 = .ok (.aload_n 0, 1) := by decide +kernel
theorem dX5_isRowOf_33 : decode cX5_isRowOf 33 = .ok (.getfield 96, 3) := by decide +kernel
theorem dX5_isRowOf_36 : decode cX5_isRowOf 36 = .ok (.iconst 2, 1) := by decide +kernel
theorem dX5_isRowOf_37 : decode cX5_isRowOf 37 = .ok (.if_icmp .eq 15, 3) := by decide +kernel
theorem dX5_isRowOf_40 : decode cX5_isRowOf 40 = .ok (.aload_n 0, 1) := by decide +kernel
theorem dX5_isRowOf_41 : decode cX5_isRowOf 41 = .ok (.getfield 86, 3) := by decide +kernel
theorem dX5_isRowOf_44 : decode cX5_isRowOf 44 = .ok (.aload_n 2, 1) := by decide +kernel
theorem dX5_isRowOf_45 : decode cX5_isRowOf 45 = .ok (.aload_n 2, 1) := by decide +kernel
theorem dX5_isRowOf_46 : decode cX5_isRowOf 46 = .ok (.invokevirtual 125, 3) := by decide +kernel
theorem dX5_isRowOf_49 : decode cX5_isRowOf 49 = .ok (.ifCond .eq 7, 3) := by decide +kernel
theorem dX5_isRowOf_52 : decode cX5_isRowOf 52 = .ok (.iconst 1, 1) := by decide +kernel
theorem dX5_isRowOf_53 : decode cX5_isRowOf 53 = .ok (.goto 4, 3) := by decide +kernel
theorem dX5_isRowOf_56 : decode cX5_isRowOf 56 = .ok (.iconst 0, 1) := by decide +kernel
theorem dX5_isRowOf_57 : decode cX5_isRowOf 57 = .ok (.ireturn, 1) := by decide +kernel
theorem dX5_isRowOf_58 : decode cX5_isRowOf 58 = .ok (.aload_n 0, 1) := by decide +kernel
theorem dX5_isRowOf_59 : decode cX5_isRowOf 59 = .ok (.getfield 142, 3) := by decide +kernel
theorem dX5_isRowOf_62 : decode cX5_isRowOf 62 = .ok (.aload_n 2, 1) := by decide +kernel
theorem dX5_isRowOf_63 : decode cX5_isRowOf 63 = .ok (.invokevirtual 213, 3) := by decide +kernel
theorem dX5_isRowOf_66 : decode cX5_isRowOf 66 = .ok (.aload_n 0, 1) := by decide +kernel
theorem dX5_isRowOf_67 : decode cX5_isRowOf 67 = .ok (.getfield 96, 3) := by decide +kernel
theorem dX5_isRowOf_70 : decode cX5_isRowOf 70 = .ok (.iconst 1, 1) := by decide +kernel
theorem dX5_isRowOf_71 : decode cX5_isRowOf 71 = .ok (.iadd, 1) := by decide +kernel
theorem dX5_isRowOf_72 : decode cX5_isRowOf 72 = .ok (.if_icmp .ne 7, 3) := by decide +kernel
theorem dX5_isRowOf_75 : decode cX5_isRowOf 75 = .ok (.iconst 1, 1) := by decide +kernel
theorem dX5_isRowOf_76 : decode cX5_isRowOf 76 = .ok (.goto 4, 3) := by decide +kernel
theorem dX5_isRowOf_79 : decode cX5_isRowOf 79 = .ok (.iconst 0, 1) := by decide +kernel
theorem dX5_isRowOf_80 : decode cX5_isRowOf 80 = .ok (.ireturn, 1) := by decide +kernel
theorem dX5_isRowOf_81 : decode cX5_isRowOf 81 = .ok (.aload_n 2, 1) := by decide +kernel
theorem dX5_isRowOf_82 : decode cX5_isRowOf 82 = .ok (.aload_n 0, 1) := by decide +kernel
theorem dX5_isRowOf_83 : decode cX5_isRowOf 83 = .ok (.getfield 142, 3) := by decide +kernel
theorem dX5_isRowOf_86 : decode cX5_isRowOf 86 = .ok (.aload_n 2, 1) := by decide +kernel
theorem dX5_isRowOf_87 : decode cX5_isRowOf 87 = .ok (.invokevirtual 187, 3) := by decide +kernel
theorem dX5_isRowOf_90 : decode cX5_isRowOf 90 = .ok (.invokestatic 287, 3) := by decide +kernel
theorem dX5_isRowOf_93 : decode cX5_isRowOf 93 = .ok (.ireturn, 1) := by decide +kernel
theorem dX5_isRowOf_94 : decode cX5_isRowOf 94 = .ok (.iconst 1, 1) := by decide +kernel
theorem dX5_isRowOf_95 : decode cX5_isRowOf 95 = .ok (.ireturn, 1) := by decide +kernel
theorem dX5_keep_0 : decode cX5_keep 0 = .ok (.aload_n 2, 1) := by decide +kernel
theorem dX5_keep_1 : decode cX5_keep 1 = .ok (.ifnull 10, 3) := by decide +kernel
theorem dX5_keep_4 : decode cX5_keep 4 = .ok (.aload_n 2, 1) := by decide +kernel
theorem dX5_keep_5 : decode cX5_keep 5 = .ok (.invokestatic 264, 3) := by decide +kernel
theorem dX5_keep_8 : decode cX5_keep 8 = .ok (.ifCond .eq 5, 3) := by decide +kernel
theorem dX5_keep_11 : decode cX5_keep 11 = .ok (.iconst (-1), 1) := by decide +kernel
theorem dX5_keep_12 : decode cX5_keep 12 = .ok (.ireturn, 1) := by decide +kernel
theorem dX5_keep_13 : decode cX5_keep 13 = .ok (.aload_n 0, 1) := by decide +kernel
theorem dX5_keep_14 : decode cX5_keep 14 = .ok (.getfield 10, 3) := by decide +kernel
theorem dX5_keep_17 : decode cX5_keep 17 = .ok (.iload_n 1, 1) := by decide +kernel
theorem dX5_keep_18 : decode cX5_keep 18 = .ok (.aload_n 0, 1) := by decide +kernel
theorem dX5_keep_19 : decode cX5_keep 19 = .ok (.getfield 142, 3) := by decide +kernel
theorem dX5_keep_22 : decode cX5_keep 22 = .ok (.aload_n 2, 1) := by decide +kernel
theorem dX5_keep_23 : decode cX5_keep 23 = .ok (.invokevirtual 290, 3) := by decide +kernel
theorem dX5_keep_26 : decode cX5_keep 26 = .ok (.invokevirtual 293, 3) := by decide +kernel
theorem dX5_keep_29 : decode cX5_keep 29 = .ok (.ireturn, 1) := by decide +kernel
theorem dX5_isBetweenLineAndFlat_0 : decode cX5_isBetweenLineAndFlat 0 = .ok (.aload_n 1, 1) := by decide +kernel
theorem dX5_isBetweenLineAndFlat_1 : decode cX5_isBetweenLineAndFlat 1 = .ok (.getfield 75, 3) := by decide +kernel
theorem dX5_isBetweenLineAndFlat_4 : decode cX5_isBetweenLineAndFlat 4 = .ok (.iconst 1, 1) := by decide +kernel
theorem dX5_isBetweenLineAndFlat_5 : decode cX5_isBetweenLineAndFlat 5 = .ok (.if_icmp .lt 18, 3) := by decide +kernel
theorem dX5_isBetweenLineAndFlat_8 : decode cX5_isBetweenLineAndFlat 8 = .ok (.aload_n 1, 1) := by decide +kernel
theorem dX5_isBetweenLineAndFlat_9 : decode cX5_isBetweenLineAndFlat 9 = .ok (.getfield 75, 3) := by decide +kernel
theorem dX5_isBetweenLineAndFlat_12 : decode cX5_isBetweenLineAndFlat 12 = .ok (.aload_n 0, 1) := by decide +kernel
theorem dX5_isBetweenLineAndFlat_13 : decode cX5_isBetweenLineAndFlat 13 = .ok (.getfield 109, 3) := by decide +kernel
theorem dX5_isBetweenLineAndFlat_16 : decode cX5_isBetweenLineAndFlat 16 = .ok (.if_icmp .gt 7, 3) := by decide +kernel
theorem dX5_isBetweenLineAndFlat_19 : decode cX5_isBetweenLineAndFlat 19 = .ok (.iconst 1, 1) := by decide +kernel
theorem dX5_isBetweenLineAndFlat_20 : decode cX5_isBetweenLineAndFlat 20 = .ok (.goto 4, 3) := by decide +kernel
theorem dX5_isBetweenLineAndFlat_23 : decode cX5_isBetweenLineAndFlat 23 = .ok (.iconst 0, 1) := by decide +kernel
theorem dX5_isBetweenLineAndFlat_24 : decode cX5_isBetweenLineAndFlat 24 = .ok (.ireturn, 1) := by decide +kernel
theorem dX5_pointIsOn_0 : decode cX5_pointIsOn 0 = .ok (.aload_n 2, 1) := by decide +kernel
theorem dX5_pointIsOn_1 : decode cX5_pointIsOn 1 = .ok (.getfield 75, 3) := by decide +kernel
theorem dX5_pointIsOn_4 : decode cX5_pointIsOn 4 = .ok (.aload_n 0, 1) := by decide +kernel
theorem dX5_pointIsOn_5 : decode cX5_pointIsOn 5 = .ok (.getfield 109, 3) := by decide +kernel
theorem dX5_pointIsOn_8 : decode cX5_pointIsOn 8 = .ok (.if_icmp .ne 29, 3) := by decide +kernel
theorem dX5_pointIsOn_11 : decode cX5_pointIsOn 11 = .ok (.aload_n 0, 1) := by decide +kernel
theorem dX5_pointIsOn_12 : decode cX5_pointIsOn 12 = .ok (.getfield 142, 3) := by decide +kernel
theorem dX5_pointIsOn_15 : decode cX5_pointIsOn 15 = .ok (.aload_n 1, 1) := by decide +kernel
theorem dX5_pointIsOn_16 : decode cX5_pointIsOn 16 = .ok (.aload_n 2, 1) := by decide +kernel
theorem dX5_pointIsOn_17 : decode cX5_pointIsOn 17 = .ok (.getfield 70, 3) := by decide +kernel
theorem dX5_pointIsOn_20 : decode cX5_pointIsOn 20 = .ok (.invokevirtual 245, 3) := by decide +kernel
theorem dX5_pointIsOn_23 : decode cX5_pointIsOn 23 = .ok (.lconst 0, 1) := by decide +kernel
theorem dX5_pointIsOn_24 : decode cX5_pointIsOn 24 = .ok (.lcmp, 1) := by decide +kernel
theorem dX5_pointIsOn_25 : decode cX5_pointIsOn 25 = .ok (.ifCond .ne 7, 3) := by decide +kernel
theorem dX5_pointIsOn_28 : decode cX5_pointIsOn 28 = .ok (.iconst 1, 1) := by decide +kernel
theorem dX5_pointIsOn_29 : decode cX5_pointIsOn 29 = .ok (.goto 4, 3) := by decide +kernel
theorem dX5_pointIsOn_32 : decode cX5_pointIsOn 32 = .ok (.iconst 0, 1) := by decide +kernel
theorem dX5_pointIsOn_33 : decode cX5_pointIsOn 33 = .ok (.invokestatic 129, 3) := by decide +kernel
theorem dX5_pointIsOn_36 : decode cX5_pointIsOn 36 = .ok (.ireturn, 1) := by decide +kernel
theorem dX5_pointIsOn_37 : decode cX5_pointIsOn 37 = .ok (.aload_n 2, 1) := by decide +kernel
theorem dX5_pointIsOn_38 : decode cX5_pointIsOn 38 = .ok (.getfield 75, 3) := by decide +kernel
theorem dX5_pointIsOn_41 : decode cX5_pointIsOn 41 = .ok (.iconst 1, 1) := by decide +kernel
theorem dX5_pointIsOn_42 : decode cX5_pointIsOn 42 = .ok (.if_icmp .ne 19, 3) := by decide +kernel
theorem dX5_pointIsOn_45 : decode cX5_pointIsOn 45 = .ok (.aload_n 0, 1) := by decide +kernel
theorem dX5_pointIsOn_46 : decode cX5_pointIsOn 46 = .ok (.getfield 86, 3) := by decide +kernel
theorem dX5_pointIsOn_49 : decode cX5_pointIsOn 49 = .ok (.aload_n 1, 1) := by decide +kernel
theorem dX5_pointIsOn_50 : decode cX5_pointIsOn 50 = .ok (.aload_n 2, 1) := by decide +kernel
theorem dX5_pointIsOn_51 : decode cX5_pointIsOn 51 = .ok (.getfield 70, 3) := by decide +kernel
theorem dX5_pointIsOn_54 : decode cX5_pointIsOn 54 = .ok (.invokevirtual 296, 3) := by decide +kernel
theorem dX5_pointIsOn_57 : decode cX5_pointIsOn 57 = .ok (.invokestatic 129, 3) := by decide +kernel
theorem dX5_pointIsOn_60 : decode cX5_pointIsOn 60 = .ok (.ireturn, 1) := by decide +kernel
theorem dX5_pointIsOn_61 : decode cX5_pointIsOn 61 = .ok (.aload_n 2, 1) := by decide +kernel
theorem dX5_pointIsOn_62 : decode cX5_pointIsOn 62 = .ok (.getfield 75, 3) := by decide +kernel
theorem dX5_pointIsOn_65 : decode cX5_pointIsOn 65 = .ok (.iconst 4, 1) := by decide +kernel
theorem dX5_pointIsOn_66 : decode cX5_pointIsOn 66 = .ok (.if_icmp .ne 30, 3) := by decide +kernel
theorem dX5_pointIsOn_69 : decode cX5_pointIsOn 69 = .ok (.aload_n 0, 1) := by decide +kernel
theorem dX5_pointIsOn_70 : decode cX5_pointIsOn 70 = .ok (.getfield 142, 3) := by decide +kernel
theorem dX5_pointIsOn_73 : decode cX5_pointIsOn 73 = .ok (.aload_n 2, 1) := by decide +kernel
theorem dX5_pointIsOn_74 : decode cX5_pointIsOn 74 = .ok (.getfield 70, 3) := by decide +kernel
theorem dX5_pointIsOn_77 : decode cX5_pointIsOn 77 = .ok (.aload_n 1, 1) := by decide +kernel
theorem dX5_pointIsOn_78 : decode cX5_pointIsOn 78 = .ok (.aload_n 1, 1) := by decide +kernel
theorem dX5_pointIsOn_79 : decode cX5_pointIsOn 79 = .ok (.invokevirtual 299, 3) := by decide +kernel
theorem dX5_pointIsOn_82 : decode cX5_pointIsOn 82 = .ok (.lconst 0, 1) := by decide +kernel
theorem dX5_pointIsOn_83 : decode cX5_pointIsOn 83 = .ok (.lcmp, 1) := by decide +kernel
theorem dX5_pointIsOn_84 : decode cX5_pointIsOn 84 = .ok (.ifCond .ne 7, 3) := by decide +kernel
theorem dX5_pointIsOn_87 : decode cX5_pointIsOn 87 = .ok (.iconst 1, 1) := by decide +kernel
theorem dX5_pointIsOn_88 : decode cX5_pointIsOn 88 = .ok (.goto 4, 3) := by decide +kernel
theorem dX5_pointIsOn_91 : decode cX5_pointIsOn 91 = .ok (.iconst 0, 1) := by decide +kernel
theorem dX5_pointIsOn_92 : decode cX5_pointIsOn 92 = .ok (.invokestatic 129, 3) := by decide +kernel
theorem dX5_pointIsOn_95 : decode cX5_pointIsOn 95 = .ok (.ireturn, 1) := by decide +kernel
theorem dX5_pointIsOn_96 : decode cX5_pointIsOn 96 = .ok (.bipush (-2), 2) := by decide +kernel
theorem dX5_pointIsOn_98 : decode cX5_pointIsOn 98 = .ok (.ireturn, 1) := by decide +kernel
theorem dX5_rowsOfOneSort_0 : decode cX5_rowsOfOneSort 0 = .ok (.aload_n 0, 1) := by decide +kernel
theorem dX5_rowsOfOneSort_1 : decode cX5_rowsOfOneSort 1 = .ok (.getfield 10, 3) := by decide +kernel
theorem dX5_rowsOfOneSort_4 : decode cX5_rowsOfOneSort 4 = .ok (.aload_n 1, 1) := by decide +kernel
theorem dX5_rowsOfOneSort_5 : decode cX5_rowsOfOneSort 5 = .ok (.iconst 0, 1) := by decide +kernel
theorem dX5_rowsOfOneSort_6 : decode cX5_rowsOfOneSort 6 = .ok (.iaload, 1) := by decide +kernel
theorem dX5_rowsOfOneSort_7 : decode cX5_rowsOfOneSort 7 = .ok (.invokevirtual 66, 3) := by decide +kernel
theorem dX5_rowsOfOneSort_10 : decode cX5_rowsOfOneSort 10 = .ok (.astore_n 2, 1) := by decide +kernel
theorem dX5_rowsOfOneSort_11 : decode cX5_rowsOfOneSort 11 = .ok (.aload_n 2, 1) := by decide +kernel
theorem dX5_rowsOfOneSort_12 : decode cX5_rowsOfOneSort 12 = .ok (.ifnull 21, 3) := by decide +kernel
theorem dX5_rowsOfOneSort_15 : decode cX5_rowsOfOneSort 15 = .ok (.aload_n 2, 1) := by decide +kernel
theorem dX5_rowsOfOneSort_16 : decode cX5_rowsOfOneSort 16 = .ok (.getfield 75, 3) := by decide +kernel
theorem dX5_rowsOfOneSort_19 : decode cX5_rowsOfOneSort 19 = .ok (.ifCond .eq 16, 3) := by decide +kernel
theorem dX5_rowsOfOneSort_22 : decode cX5_rowsOfOneSort 22 = .ok (.aload_n 2, 1) := by decide +kernel
theorem dX5_rowsOfOneSort_23 : decode cX5_rowsOfOneSort 23 = .ok (.getfield 75, 3) := by decide +kernel
theorem dX5_rowsOfOneSort_26 : decode cX5_rowsOfOneSort 26 = .ok (.aload_n 0, 1) := by decide +kernel
theorem dX5_rowsOfOneSort_27 : decode cX5_rowsOfOneSort 27 = .ok (.getfield 109, 3) := by decide +kernel
theorem dX5_rowsOfOneSort_30 : decode cX5_rowsOfOneSort 30 = .ok (.if_icmp .eq 5, 3) := by decide +kernel
theorem dX5_rowsOfOneSort_33 : decode cX5_rowsOfOneSort 33 = .ok (.aconst_null, 1) := by decide +kernel
theorem dX5_rowsOfOneSort_34 : decode cX5_rowsOfOneSort 34 = .ok (.areturn, 1) := by decide +kernel
theorem dX5_rowsOfOneSort_35 : decode cX5_rowsOfOneSort 35 = .ok (.aload_n 1, 1) := by decide +kernel
theorem dX5_rowsOfOneSort_36 : decode cX5_rowsOfOneSort 36 = .ok (.arraylength, 1) := by decide +kernel
theorem dX5_rowsOfOneSort_37 : decode cX5_rowsOfOneSort 37 = .ok (.anewarray 263, 3) := by decide +kernel
theorem dX5_rowsOfOneSort_40 : decode cX5_rowsOfOneSort 40 = .ok (.astore_n 3, 1) := by decide +kernel
theorem dX5_rowsOfOneSort_41 : decode cX5_rowsOfOneSort 41 = .ok (.iconst 0, 1) := by decide +kernel
theorem dX5_rowsOfOneSort_42 : decode cX5_rowsOfOneSort 42 = .ok (.istore 4, 2) := by decide +kernel
theorem dX5_rowsOfOneSort_44 : decode cX5_rowsOfOneSort 44 = .ok (.iload 4, 2) := by decide +kernel
theorem dX5_rowsOfOneSort_46 : decode cX5_rowsOfOneSort 46 = .ok (.aload_n 1, 1) := by decide +kernel
theorem dX5_rowsOfOneSort_47 : decode cX5_rowsOfOneSort 47 = .ok (.arraylength, 1) := by decide +kernel
theorem dX5_rowsOfOneSort_48 : decode cX5_rowsOfOneSort 48 = .ok (.if_icmp .ge 37, 3) := by decide +kernel
theorem dX5_rowsOfOneSort_51 : decode cX5_rowsOfOneSort 51 = .ok (.aload_n 3, 1) := by decide +kernel
theorem dX5_rowsOfOneSort_52 : decode cX5_rowsOfOneSort 52 = .ok (.iload 4, 2) := by decide +kernel
theorem dX5_rowsOfOneSort_54 : decode cX5_rowsOfOneSort 54 = .ok (.aload_n 0, 1) := by decide +kernel
theorem dX5_rowsOfOneSort_55 : decode cX5_rowsOfOneSort 55 = .ok (.getfield 10, 3) := by decide +kernel
theorem dX5_rowsOfOneSort_58 : decode cX5_rowsOfOneSort 58 = .ok (.aload_n 1, 1) := by decide +kernel
theorem dX5_rowsOfOneSort_59 : decode cX5_rowsOfOneSort 59 = .ok (.iload 4, 2) := by decide +kernel
theorem dX5_rowsOfOneSort_61 : decode cX5_rowsOfOneSort 61 = .ok (.iaload, 1) := by decide +kernel
theorem dX5_rowsOfOneSort_62 : decode cX5_rowsOfOneSort 62 = .ok (.aload_n 2, 1) := by decide +kernel
theorem dX5_rowsOfOneSort_63 : decode cX5_rowsOfOneSort 63 = .ok (.getfield 75, 3) := by decide +kernel
theorem dX5_rowsOfOneSort_66 : decode cX5_rowsOfOneSort 66 = .ok (.invokevirtual 166, 3) := by decide +kernel
theorem dX5_rowsOfOneSort_69 : decode cX5_rowsOfOneSort 69 = .ok (.aastore, 1) := by decide +kernel
theorem dX5_rowsOfOneSort_70 : decode cX5_rowsOfOneSort 70 = .ok (.aload_n 3, 1) := by decide +kernel
theorem dX5_rowsOfOneSort_71 : decode cX5_rowsOfOneSort 71 = .ok (.iload 4, 2) := by decide +kernel
theorem dX5_rowsOfOneSort_73 : decode cX5_rowsOfOneSort 73 = .ok (.aaload, 1) := by decide +kernel
theorem dX5_rowsOfOneSort_74 : decode cX5_rowsOfOneSort 74 = .ok (.ifnonnull 5, 3) := by decide +kernel
theorem dX5_rowsOfOneSort_77 : decode cX5_rowsOfOneSort 77 = .ok (.aconst_null, 1) := by decide +kernel
theorem dX5_rowsOfOneSort_78 : decode cX5_rowsOfOneSort 78 = .ok (.areturn, 1) := by decide +kernel
theorem dX5_rowsOfOneSort_79 : decode cX5_rowsOfOneSort 79 = .ok (.iinc 4 1, 3) := by decide +kernel
theorem dX5_rowsOfOneSort_82 : decode cX5_rowsOfOneSort 82 = .ok (.goto (-38), 3) := by decide +kernel
theorem dX5_rowsOfOneSort_85 : decode cX5_rowsOfOneSort 85 = .ok (.aload_n 3, 1) := by decide +kernel
theorem dX5_rowsOfOneSort_86 : decode cX5_rowsOfOneSort 86 = .ok (.areturn, 1) := by decide +kernel
theorem dX5_pointRows_0 : decode cX5_pointRows 0 = .ok (.iload_n 2, 1) := by decide +kernel
theorem dX5_pointRows_1 : decode cX5_pointRows 1 = .ok (.anewarray 263, 3) := by decide +kernel
theorem dX5_pointRows_4 : decode cX5_pointRows 4 = .ok (.astore_n 3, 1) := by decide +kernel
theorem dX5_pointRows_5 : decode cX5_pointRows 5 = .ok (.iconst 0, 1) := by decide +kernel
theorem dX5_pointRows_6 : decode cX5_pointRows 6 = .ok (.istore 4, 2) := by decide +kernel
theorem dX5_pointRows_8 : decode cX5_pointRows 8 = .ok (.iload 4, 2) := by decide +kernel
theorem dX5_pointRows_10 : decode cX5_pointRows 10 = .ok (.iload_n 2, 1) := by decide +kernel
theorem dX5_pointRows_11 : decode cX5_pointRows 11 = .ok (.if_icmp .ge 45, 3) := by decide +kernel
theorem dX5_pointRows_14 : decode cX5_pointRows 14 = .ok (.aload_n 0, 1) := by decide +kernel
theorem dX5_pointRows_15 : decode cX5_pointRows 15 = .ok (.getfield 10, 3) := by decide +kernel
theorem dX5_pointRows_18 : decode cX5_pointRows 18 = .ok (.aload_n 1, 1) := by decide +kernel
theorem dX5_pointRows_19 : decode cX5_pointRows 19 = .ok (.iload 4, 2) := by decide +kernel
theorem dX5_pointRows_21 : decode cX5_pointRows 21 = .ok (.iaload, 1) := by decide +kernel
theorem dX5_pointRows_22 : decode cX5_pointRows 22 = .ok (.iconst 0, 1) := by decide +kernel
theorem dX5_pointRows_23 : decode cX5_pointRows 23 = .ok (.invokevirtual 166, 3) := by decide +kernel
theorem dX5_pointRows_26 : decode cX5_pointRows 26 = .ok (.astore 5, 2) := by decide +kernel
theorem dX5_pointRows_28 : decode cX5_pointRows 28 = .ok (.aload_n 3, 1) := by decide +kernel
theorem dX5_pointRows_29 : decode cX5_pointRows 29 = .ok (.iload 4, 2) := by decide +kernel
theorem dX5_pointRows_31 : decode cX5_pointRows 31 = .ok (.aload 5, 2) := by decide +kernel
theorem dX5_pointRows_33 : decode cX5_pointRows 33 = .ok (.ifnonnull 14, 3) := by decide +kernel
theorem dX5_pointRows_36 : decode cX5_pointRows 36 = .ok (.aload_n 0, 1) := by decide +kernel
theorem dX5_pointRows_37 : decode cX5_pointRows 37 = .ok (.getfield 96, 3) := by decide +kernel
theorem dX5_pointRows_40 : decode cX5_pointRows 40 = .ok (.iconst 1, 1) := by decide +kernel
theorem dX5_pointRows_41 : decode cX5_pointRows 41 = .ok (.iadd, 1) := by decide +kernel
theorem dX5_pointRows_42 : decode cX5_pointRows 42 = .ok (.newarray .long, 2) := by decide +kernel
theorem dX5_pointRows_44 : decode cX5_pointRows 44 = .ok (.goto 5, 3) := by decide +kernel
theorem dX5_pointRows_47 : decode cX5_pointRows 47 = .ok (.aload 5, 2) := by decide +kernel
theorem dX5_pointRows_49 : decode cX5_pointRows 49 = .ok (.aastore, 1) := by decide +kernel
theorem dX5_pointRows_50 : decode cX5_pointRows 50 = .ok (.iinc 4 1, 3) := by decide +kernel
theorem dX5_pointRows_53 : decode cX5_pointRows 53 = .ok (.goto (-45), 3) := by decide +kernel
theorem dX5_pointRows_56 : decode cX5_pointRows 56 = .ok (.aload_n 3, 1) := by decide +kernel
theorem dX5_pointRows_57 : decode cX5_pointRows 57 = .ok (.areturn, 1) := by decide +kernel
theorem dX5_liesFar_0 : decode cX5_liesFar 0 = .ok (.aload_n 1, 1) := by decide +kernel
theorem dX5_liesFar_1 : decode cX5_liesFar 1 = .ok (.getfield 75, 3) := by decide +kernel
theorem dX5_liesFar_4 : decode cX5_liesFar 4 = .ok (.aload_n 0, 1) := by decide +kernel
theorem dX5_liesFar_5 : decode cX5_liesFar 5 = .ok (.getfield 109, 3) := by decide +kernel
theorem dX5_liesFar_8 : decode cX5_liesFar 8 = .ok (.if_icmp .ne 12, 3) := by decide +kernel
theorem dX5_liesFar_11 : decode cX5_liesFar 11 = .ok (.aload_n 1, 1) := by decide +kernel
theorem dX5_liesFar_12 : decode cX5_liesFar 12 = .ok (.getfield 70, 3) := by decide +kernel
theorem dX5_liesFar_15 : decode cX5_liesFar 15 = .ok (.aload_n 2, 1) := by decide +kernel
theorem dX5_liesFar_16 : decode cX5_liesFar 16 = .ok (.invokestatic 287, 3) := by decide +kernel
theorem dX5_liesFar_19 : decode cX5_liesFar 19 = .ok (.ireturn, 1) := by decide +kernel
theorem dX5_liesFar_20 : decode cX5_liesFar 20 = .ok (.aload_n 0, 1) := by decide +kernel
theorem dX5_liesFar_21 : decode cX5_liesFar 21 = .ok (.getfield 86, 3) := by decide +kernel
theorem dX5_liesFar_24 : decode cX5_liesFar 24 = .ok (.aload_n 1, 1) := by decide +kernel
theorem dX5_liesFar_25 : decode cX5_liesFar 25 = .ok (.getfield 70, 3) := by decide +kernel
theorem dX5_liesFar_28 : decode cX5_liesFar 28 = .ok (.aload_n 2, 1) := by decide +kernel
theorem dX5_liesFar_29 : decode cX5_liesFar 29 = .ok (.invokevirtual 133, 3) := by decide +kernel
theorem dX5_liesFar_32 : decode cX5_liesFar 32 = .ok (.ireturn, 1) := by decide +kernel
theorem dX5_meetFar_0 : decode cX5_meetFar 0 = .ok (.aload_n 1, 1) := by decide +kernel
theorem dX5_meetFar_1 : decode cX5_meetFar 1 = .ok (.getfield 75, 3) := by decide +kernel
theorem dX5_meetFar_4 : decode cX5_meetFar 4 = .ok (.aload_n 0, 1) := by decide +kernel
theorem dX5_meetFar_5 : decode cX5_meetFar 5 = .ok (.getfield 109, 3) := by decide +kernel
theorem dX5_meetFar_8 : decode cX5_meetFar 8 = .ok (.if_icmp .ne 62, 3) := by decide +kernel
theorem dX5_meetFar_11 : decode cX5_meetFar 11 = .ok (.aload_n 0, 1) := by decide +kernel
theorem dX5_meetFar_12 : decode cX5_meetFar 12 = .ok (.getfield 86, 3) := by decide +kernel
theorem dX5_meetFar_15 : decode cX5_meetFar 15 = .ok (.aload_n 1, 1) := by decide +kernel
theorem dX5_meetFar_16 : decode cX5_meetFar 16 = .ok (.getfield 70, 3) := by decide +kernel
theorem dX5_meetFar_19 : decode cX5_meetFar 19 = .ok (.aload_n 2, 1) := by decide +kernel
theorem dX5_meetFar_20 : decode cX5_meetFar 20 = .ok (.getfield 70, 3) := by decide +kernel
theorem dX5_meetFar_23 : decode cX5_meetFar 23 = .ok (.invokevirtual 112, 3) := by decide +kernel
theorem dX5_meetFar_26 : decode cX5_meetFar 26 = .ok (.astore 4, 2) := by decide +kernel
theorem dX5_meetFar_28 : decode cX5_meetFar 28 = .ok (.aload_n 0, 1) := by decide +kernel
theorem dX5_meetFar_29 : decode cX5_meetFar 29 = .ok (.getfield 96, 3) := by decide +kernel
theorem dX5_meetFar_32 : decode cX5_meetFar 32 = .ok (.iconst 2, 1) := by decide +kernel
theorem dX5_meetFar_33 : decode cX5_meetFar 33 = .ok (.if_icmp .ne 26, 3) := by decide +kernel
theorem dX5_meetFar_36 : decode cX5_meetFar 36 = .ok (.aload_n 0, 1) := by decide +kernel
theorem dX5_meetFar_37 : decode cX5_meetFar 37 = .ok (.getfield 142, 3) := by decide +kernel
theorem dX5_meetFar_40 : decode cX5_meetFar 40 = .ok (.aload 4, 2) := by decide +kernel
theorem dX5_meetFar_42 : decode cX5_meetFar 42 = .ok (.aload_n 3, 1) := by decide +kernel
theorem dX5_meetFar_43 : decode cX5_meetFar 43 = .ok (.invokevirtual 245, 3) := by decide +kernel
theorem dX5_meetFar_46 : decode cX5_meetFar 46 = .ok (.lconst 0, 1) := by decide +kernel
theorem dX5_meetFar_47 : decode cX5_meetFar 47 = .ok (.lcmp, 1) := by decide +kernel
theorem dX5_meetFar_48 : decode cX5_meetFar 48 = .ok (.ifCond .ne 7, 3) := by decide +kernel
theorem dX5_meetFar_51 : decode cX5_meetFar 51 = .ok (.iconst 1, 1) := by decide +kernel
theorem dX5_meetFar_52 : decode cX5_meetFar 52 = .ok (.goto 17, 3) := by decide +kernel
theorem dX5_meetFar_55 : decode cX5_meetFar 55 = .ok (.iconst 0, 1) := by decide +kernel
theorem dX5_meetFar_56 : decode cX5_meetFar 56 = .ok (.goto 13, 3) := by decide +kernel
theorem dX5_meetFar_59 : decode cX5_meetFar 59 = .ok (.aload_n 0, 1) := by decide +kernel
theorem dX5_meetFar_60 : decode cX5_meetFar 60 = .ok (.getfield 86, 3) := by decide +kernel
theorem dX5_meetFar_63 : decode cX5_meetFar 63 = .ok (.aload 4, 2) := by decide +kernel
theorem dX5_meetFar_65 : decode cX5_meetFar 65 = .ok (.aload_n 3, 1) := by decide +kernel
theorem dX5_meetFar_66 : decode cX5_meetFar 66 = .ok (.invokevirtual 133, 3) := by decide +kernel
theorem dX5_meetFar_69 : decode cX5_meetFar 69 = .ok (.ireturn, 1) := by decide +kernel
theorem dX5_meetFar_70 : decode cX5_meetFar 70 = .ok (.aload_n 2, 1) := by decide +kernel
theorem dX5_meetFar_71 : decode cX5_meetFar 71 = .ok (.getfield 75, 3) := by decide +kernel
theorem dX5_meetFar_74 : decode cX5_meetFar 74 = .ok (.iconst 2, 1) := by decide +kernel
theorem dX5_meetFar_75 : decode cX5_meetFar 75 = .ok (.if_icmp .ne 21, 3) := by decide +kernel
theorem dX5_meetFar_78 : decode cX5_meetFar 78 = .ok (.aload_n 0, 1) := by decide +kernel
theorem dX5_meetFar_79 : decode cX5_meetFar 79 = .ok (.getfield 86, 3) := by decide +kernel
theorem dX5_meetFar_82 : decode cX5_meetFar 82 = .ok (.aload_n 1, 1) := by decide +kernel
theorem dX5_meetFar_83 : decode cX5_meetFar 83 = .ok (.getfield 70, 3) := by decide +kernel
theorem dX5_meetFar_86 : decode cX5_meetFar 86 = .ok (.aload_n 2, 1) := by decide +kernel
theorem dX5_meetFar_87 : decode cX5_meetFar 87 = .ok (.getfield 70, 3) := by decide +kernel
theorem dX5_meetFar_90 : decode cX5_meetFar 90 = .ok (.invokevirtual 115, 3) := by decide +kernel
theorem dX5_meetFar_93 : decode cX5_meetFar 93 = .ok (.goto 18, 3) := by decide +kernel
theorem dX5_meetFar_96 : decode cX5_meetFar 96 = .ok (.aload_n 0, 1) := by decide +kernel
theorem dX5_meetFar_97 : decode cX5_meetFar 97 = .ok (.getfield 86, 3) := by decide +kernel
theorem dX5_meetFar_100 : decode cX5_meetFar 100 = .ok (.aload_n 1, 1) := by decide +kernel
theorem dX5_meetFar_101 : decode cX5_meetFar 101 = .ok (.getfield 70, 3) := by decide +kernel
theorem dX5_meetFar_104 : decode cX5_meetFar 104 = .ok (.aload_n 2, 1) := by decide +kernel
theorem dX5_meetFar_105 : decode cX5_meetFar 105 = .ok (.getfield 70, 3) := by decide +kernel
theorem dX5_meetFar_108 : decode cX5_meetFar 108 = .ok (.invokevirtual 118, 3) := by decide +kernel
theorem dX5_meetFar_111 : decode cX5_meetFar 111 = .ok (.astore 4, 2) := by decide +kernel
theorem dX5_meetFar_113 : decode cX5_meetFar 113 = .ok (.aload 4, 2) := by decide +kernel
theorem dX5_meetFar_115 : decode cX5_meetFar 115 = .ok (.ifnull 22, 3) := by decide +kernel
theorem dX5_meetFar_118 : decode cX5_meetFar 118 = .ok (.aload_n 0, 1) := by decide +kernel
theorem dX5_meetFar_119 : decode cX5_meetFar 119 = .ok (.getfield 142, 3) := by decide +kernel
theorem dX5_meetFar_122 : decode cX5_meetFar 122 = .ok (.aload 4, 2) := by decide +kernel
theorem dX5_meetFar_124 : decode cX5_meetFar 124 = .ok (.aload_n 3, 1) := by decide +kernel
theorem dX5_meetFar_125 : decode cX5_meetFar 125 = .ok (.invokevirtual 245, 3) := by decide +kernel
theorem dX5_meetFar_128 : decode cX5_meetFar 128 = .ok (.lconst 0, 1) := by decide +kernel
theorem dX5_meetFar_129 : decode cX5_meetFar 129 = .ok (.lcmp, 1) := by decide +kernel
theorem dX5_meetFar_130 : decode cX5_meetFar 130 = .ok (.ifCond .ne 7, 3) := by decide +kernel
theorem dX5_meetFar_133 : decode cX5_meetFar 133 = .ok (.iconst 1, 1) := by decide +kernel
theorem dX5_meetFar_134 : decode cX5_meetFar 134 = .ok (.goto 4, 3) := by decide +kernel
theorem dX5_meetFar_137 : decode cX5_meetFar 137 = .ok (.iconst 0, 1) := by decide +kernel
theorem dX5_meetFar_138 : decode cX5_meetFar 138 = .ok (.ireturn, 1) := by decide +kernel
theorem dX5_isSupposed_0 : decode cX5_isSupposed 0 = .ok (.iload_n 1, 1) := by decide +kernel
theorem dX5_isSupposed_1 : decode cX5_isSupposed 1 = .ok (.iconst 2, 1) := by decide +kernel
theorem dX5_isSupposed_2 : decode cX5_isSupposed 2 = .ok (.if_icmp .ne 29, 3) := by decide +kernel
theorem dX5_isSupposed_5 : decode cX5_isSupposed 5 = .ok (.aload_n 0, 1) := by decide +kernel
theorem dX5_isSupposed_6 : decode cX5_isSupposed 6 = .ok (.getfield 142, 3) := by decide +kernel
theorem dX5_isSupposed_9 : decode cX5_isSupposed 9 = .ok (.aload_n 0, 1) := by decide +kernel
theorem dX5_isSupposed_10 : decode cX5_isSupposed 10 = .ok (.getfield 86, 3) := by decide +kernel
theorem dX5_isSupposed_13 : decode cX5_isSupposed 13 = .ok (.aload_n 2, 1) := by decide +kernel
theorem dX5_isSupposed_14 : decode cX5_isSupposed 14 = .ok (.invokevirtual 303, 3) := by decide +kernel
theorem dX5_isSupposed_17 : decode cX5_isSupposed 17 = .ok (.invokevirtual 146, 3) := by decide +kernel
theorem dX5_isSupposed_20 : decode cX5_isSupposed 20 = .ok (.bipush 6, 2) := by decide +kernel
theorem dX5_isSupposed_22 : decode cX5_isSupposed 22 = .ok (.if_icmp .ge 7, 3) := by decide +kernel
theorem dX5_isSupposed_25 : decode cX5_isSupposed 25 = .ok (.iconst 1, 1) := by decide +kernel
theorem dX5_isSupposed_26 : decode cX5_isSupposed 26 = .ok (.goto 4, 3) := by decide +kernel
theorem dX5_isSupposed_29 : decode cX5_isSupposed 29 = .ok (.iconst 0, 1) := by decide +kernel
theorem dX5_isSupposed_30 : decode cX5_isSupposed 30 = .ok (.ireturn, 1) := by decide +kernel
theorem dX5_isSupposed_31 : decode cX5_isSupposed 31 = .ok (.iload_n 1, 1) := by decide +kernel
theorem dX5_isSupposed_32 : decode cX5_isSupposed 32 = .ok (.ifCond .ne 75, 3) := by decide +kernel
theorem dX5_isSupposed_35 : decode cX5_isSupposed 35 = .ok (.aload_n 0, 1) := by decide +kernel
theorem dX5_isSupposed_36 : decode cX5_isSupposed 36 = .ok (.getfield 142, 3) := by decide +kernel
theorem dX5_isSupposed_39 : decode cX5_isSupposed 39 = .ok (.iconst 3, 1) := by decide +kernel
theorem dX5_isSupposed_40 : decode cX5_isSupposed 40 = .ok (.anewarray 263, 3) := by decide +kernel
theorem dX5_isSupposed_43 : decode cX5_isSupposed 43 = .ok (.dup, 1) := by decide +kernel
theorem dX5_isSupposed_44 : decode cX5_isSupposed 44 = .ok (.iconst 0, 1) := by decide +kernel
theorem dX5_isSupposed_45 : decode cX5_isSupposed 45 = .ok (.aload_n 2, 1) := by decide +kernel
theorem dX5_isSupposed_46 : decode cX5_isSupposed 46 = .ok (.iconst 0, 1) := by decide +kernel
theorem dX5_isSupposed_47 : decode cX5_isSupposed 47 = .ok (.aaload, 1) := by decide +kernel
theorem dX5_isSupposed_48 : decode cX5_isSupposed 48 = .ok (.aastore, 1) := by decide +kernel
theorem dX5_isSupposed_49 : decode cX5_isSupposed 49 = .ok (.dup, 1) := by decide +kernel
theorem dX5_isSupposed_50 : decode cX5_isSupposed 50 = .ok (.iconst 1, 1) := by decide +kernel
theorem dX5_isSupposed_51 : decode cX5_isSupposed 51 = .ok (.aload_n 2, 1) := by decide +kernel
theorem dX5_isSupposed_52 : decode cX5_isSupposed 52 = .ok (.iconst 2, 1) := by decide +kernel
theorem dX5_isSupposed_53 : decode cX5_isSupposed 53 = .ok (.aaload, 1) := by decide +kernel
theorem dX5_isSupposed_54 : decode cX5_isSupposed 54 = .ok (.aastore, 1) := by decide +kernel
theorem dX5_isSupposed_55 : decode cX5_isSupposed 55 = .ok (.dup, 1) := by decide +kernel
theorem dX5_isSupposed_56 : decode cX5_isSupposed 56 = .ok (.iconst 2, 1) := by decide +kernel
theorem dX5_isSupposed_57 : decode cX5_isSupposed 57 = .ok (.aload_n 2, 1) := by decide +kernel
theorem dX5_isSupposed_58 : decode cX5_isSupposed 58 = .ok (.iconst 4, 1) := by decide +kernel
theorem dX5_isSupposed_59 : decode cX5_isSupposed 59 = .ok (.aaload, 1) := by decide +kernel
theorem dX5_isSupposed_60 : decode cX5_isSupposed 60 = .ok (.aastore, 1) := by decide +kernel
theorem dX5_isSupposed_61 : decode cX5_isSupposed 61 = .ok (.invokevirtual 146, 3) := by decide +kernel
theorem dX5_isSupposed_64 : decode cX5_isSupposed 64 = .ok (.iconst 3, 1) := by decide +kernel
theorem dX5_isSupposed_65 : decode cX5_isSupposed 65 = .ok (.if_icmp .ge 40, 3) := by decide +kernel
theorem dX5_isSupposed_68 : decode cX5_isSupposed 68 = .ok (.aload_n 0, 1) := by decide +kernel
theorem dX5_isSupposed_69 : decode cX5_isSupposed 69 = .ok (.getfield 142, 3) := by decide +kernel
theorem dX5_isSupposed_72 : decode cX5_isSupposed 72 = .ok (.iconst 3, 1) := by decide +kernel
theorem dX5_isSupposed_73 : decode cX5_isSupposed 73 = .ok (.anewarray 263, 3) := by decide +kernel
theorem dX5_isSupposed_76 : decode cX5_isSupposed 76 = .ok (.dup, 1) := by decide +kernel
theorem dX5_isSupposed_77 : decode cX5_isSupposed 77 = .ok (.iconst 0, 1) := by decide +kernel
theorem dX5_isSupposed_78 : decode cX5_isSupposed 78 = .ok (.aload_n 2, 1) := by decide +kernel
theorem dX5_isSupposed_79 : decode cX5_isSupposed 79 = .ok (.iconst 1, 1) := by decide +kernel
theorem dX5_isSupposed_80 : decode cX5_isSupposed 80 = .ok (.aaload, 1) := by decide +kernel
theorem dX5_isSupposed_81 : decode cX5_isSupposed 81 = .ok (.aastore, 1) := by decide +kernel
theorem dX5_isSupposed_82 : decode cX5_isSupposed 82 = .ok (.dup, 1) := by decide +kernel
theorem dX5_isSupposed_83 : decode cX5_isSupposed 83 = .ok (.iconst 1, 1) := by decide +kernel
theorem dX5_isSupposed_84 : decode cX5_isSupposed 84 = .ok (.aload_n 2, 1) := by decide +kernel
theorem dX5_isSupposed_85 : decode cX5_isSupposed 85 = .ok (.iconst 3, 1) := by decide +kernel
theorem dX5_isSupposed_86 : decode cX5_isSupposed 86 = .ok (.aaload, 1) := by decide +kernel
theorem dX5_isSupposed_87 : decode cX5_isSupposed 87 = .ok (.aastore, 1) := by decide +kernel
theorem dX5_isSupposed_88 : decode cX5_isSupposed 88 = .ok (.dup, 1) := by decide +kernel
theorem dX5_isSupposed_89 : decode cX5_isSupposed 89 = .ok (.iconst 2, 1) := by decide +kernel
theorem dX5_isSupposed_90 : decode cX5_isSupposed 90 = .ok (.aload_n 2, 1) := by decide +kernel
theorem dX5_isSupposed_91 : decode cX5_isSupposed 91 = .ok (.iconst 5, 1) := by decide +kernel
theorem dX5_isSupposed_92 : decode cX5_isSupposed 92 = .ok (.aaload, 1) := by decide +kernel
theorem dX5_isSupposed_93 : decode cX5_isSupposed 93 = .ok (.aastore, 1) := by decide +kernel
theorem dX5_isSupposed_94 : decode cX5_isSupposed 94 = .ok (.invokevirtual 146, 3) := by decide +kernel
theorem dX5_isSupposed_97 : decode cX5_isSupposed 97 = .ok (.iconst 3, 1) := by decide +kernel
theorem dX5_isSupposed_98 : decode cX5_isSupposed 98 = .ok (.if_icmp .ge 7, 3) := by decide +kernel
theorem dX5_isSupposed_101 : decode cX5_isSupposed 101 = .ok (.iconst 1, 1) := by decide +kernel
theorem dX5_isSupposed_102 : decode cX5_isSupposed 102 = .ok (.goto 4, 3) := by decide +kernel
theorem dX5_isSupposed_105 : decode cX5_isSupposed 105 = .ok (.iconst 0, 1) := by decide +kernel
theorem dX5_isSupposed_106 : decode cX5_isSupposed 106 = .ok (.ireturn, 1) := by decide +kernel
theorem dX5_isSupposed_107 : decode cX5_isSupposed 107 = .ok (.iconst 3, 1) := by decide +kernel
theorem dX5_isSupposed_108 : decode cX5_isSupposed 108 = .ok (.anewarray 263, 3) := by decide +kernel
theorem dX5_isSupposed_111 : decode cX5_isSupposed 111 = .ok (.astore_n 3, 1) := by decide +kernel
theorem dX5_isSupposed_112 : decode cX5_isSupposed 112 = .ok (.iconst 0, 1) := by decide +kernel
theorem dX5_isSupposed_113 : decode cX5_isSupposed 113 = .ok (.istore 4, 2) := by decide +kernel
theorem dX5_isSupposed_115 : decode cX5_isSupposed 115 = .ok (.iload 4, 2) := by decide +kernel
theorem dX5_isSupposed_117 : decode cX5_isSupposed 117 = .ok (.aload_n 3, 1) := by decide +kernel
theorem dX5_isSupposed_118 : decode cX5_isSupposed 118 = .ok (.arraylength, 1) := by decide +kernel
theorem dX5_isSupposed_119 : decode cX5_isSupposed 119 = .ok (.if_icmp .ge 42, 3) := by decide +kernel
theorem dX5_isSupposed_122 : decode cX5_isSupposed 122 = .ok (.aload_n 3, 1) := by decide +kernel
theorem dX5_isSupposed_123 : decode cX5_isSupposed 123 = .ok (.iload 4, 2) := by decide +kernel
theorem dX5_isSupposed_125 : decode cX5_isSupposed 125 = .ok (.aload_n 0, 1) := by decide +kernel
theorem dX5_isSupposed_126 : decode cX5_isSupposed 126 = .ok (.getfield 86, 3) := by decide +kernel
theorem dX5_isSupposed_129 : decode cX5_isSupposed 129 = .ok (.aload_n 2, 1) := by decide +kernel
theorem dX5_isSupposed_130 : decode cX5_isSupposed 130 = .ok (.iload 4, 2) := by decide +kernel
theorem dX5_isSupposed_132 : decode cX5_isSupposed 132 = .ok (.aaload, 1) := by decide +kernel
theorem dX5_isSupposed_133 : decode cX5_isSupposed 133 = .ok (.aload_n 2, 1) := by decide +kernel
theorem dX5_isSupposed_134 : decode cX5_isSupposed 134 = .ok (.iload 4, 2) := by decide +kernel
theorem dX5_isSupposed_136 : decode cX5_isSupposed 136 = .ok (.iconst 3, 1) := by decide +kernel
theorem dX5_isSupposed_137 : decode cX5_isSupposed 137 = .ok (.iadd, 1) := by decide +kernel
theorem dX5_isSupposed_138 : decode cX5_isSupposed 138 = .ok (.aaload, 1) := by decide +kernel
theorem dX5_isSupposed_139 : decode cX5_isSupposed 139 = .ok (.invokevirtual 90, 3) := by decide +kernel
theorem dX5_isSupposed_142 : decode cX5_isSupposed 142 = .ok (.aastore, 1) := by decide +kernel
theorem dX5_isSupposed_143 : decode cX5_isSupposed 143 = .ok (.aload_n 3, 1) := by decide +kernel
theorem dX5_isSupposed_144 : decode cX5_isSupposed 144 = .ok (.iload 4, 2) := by decide +kernel
theorem dX5_isSupposed_146 : decode cX5_isSupposed 146 = .ok (.aaload, 1) := by decide +kernel
theorem dX5_isSupposed_147 : decode cX5_isSupposed 147 = .ok (.invokestatic 264, 3) := by decide +kernel
theorem dX5_isSupposed_150 : decode cX5_isSupposed 150 = .ok (.ifCond .eq 5, 3) := by decide +kernel
theorem dX5_isSupposed_153 : decode cX5_isSupposed 153 = .ok (.iconst 0, 1) := by decide +kernel
theorem dX5_isSupposed_154 : decode cX5_isSupposed 154 = .ok (.ireturn, 1) := by decide +kernel
theorem dX5_isSupposed_155 : decode cX5_isSupposed 155 = .ok (.iinc 4 1, 3) := by decide +kernel
theorem dX5_isSupposed_158 : decode cX5_isSupposed 158 = .ok (.goto (-43), 3) := by decide +kernel
theorem dX5_isSupposed_161 : decode cX5_isSupposed 161 = .ok (.aload_n 0, 1) := by decide +kernel
theorem dX5_isSupposed_162 : decode cX5_isSupposed 162 = .ok (.getfield 142, 3) := by decide +kernel
theorem dX5_isSupposed_165 : decode cX5_isSupposed 165 = .ok (.aload_n 3, 1) := by decide +kernel
theorem dX5_isSupposed_166 : decode cX5_isSupposed 166 = .ok (.invokevirtual 146, 3) := by decide +kernel
theorem dX5_isSupposed_169 : decode cX5_isSupposed 169 = .ok (.iconst 3, 1) := by decide +kernel
theorem dX5_isSupposed_170 : decode cX5_isSupposed 170 = .ok (.if_icmp .ge 7, 3) := by decide +kernel
theorem dX5_isSupposed_173 : decode cX5_isSupposed 173 = .ok (.iconst 1, 1) := by decide +kernel
theorem dX5_isSupposed_174 : decode cX5_isSupposed 174 = .ok (.goto 4, 3) := by decide +kernel
theorem dX5_isSupposed_177 : decode cX5_isSupposed 177 = .ok (.iconst 0, 1) := by decide +kernel
theorem dX5_isSupposed_178 : decode cX5_isSupposed 178 = .ok (.ireturn, 1) := by decide +kernel
theorem dJ9_floorMod_f86c9_0 : decode cJ9_floorMod_f86c9 0 = .ok (.lload_n 0, 1) := by decide +kernel
theorem dJ9_floorMod_f86c9_1 : decode cJ9_floorMod_f86c9 1 = .ok (.lload_n 2, 1) := by decide +kernel
theorem dJ9_floorMod_f86c9_2 : decode cJ9_floorMod_f86c9 2 = .ok (.lrem, 1) := by decide +kernel
theorem dJ9_floorMod_f86c9_3 : decode cJ9_floorMod_f86c9 3 = .ok (.lstore 4, 2) := by decide +kernel
theorem dJ9_floorMod_f86c9_5 : decode cJ9_floorMod_f86c9 5 = .ok (.lload_n 0, 1) := by decide +kernel
theorem dJ9_floorMod_f86c9_6 : decode cJ9_floorMod_f86c9 6 = .ok (.lload_n 2, 1) := by decide +kernel
theorem dJ9_floorMod_f86c9_7 : decode cJ9_floorMod_f86c9 7 = .ok (.lxor, 1) := by decide +kernel
theorem dJ9_floorMod_f86c9_8 : decode cJ9_floorMod_f86c9 8 = .ok (.lconst 0, 1) := by decide +kernel
theorem dJ9_floorMod_f86c9_9 : decode cJ9_floorMod_f86c9 9 = .ok (.lcmp, 1) := by decide +kernel
theorem dJ9_floorMod_f86c9_10 : decode cJ9_floorMod_f86c9 10 = .ok (.ifCond .ge 15, 3) := by decide +kernel
theorem dJ9_floorMod_f86c9_13 : decode cJ9_floorMod_f86c9 13 = .ok (.lload 4, 2) := by decide +kernel
theorem dJ9_floorMod_f86c9_15 : decode cJ9_floorMod_f86c9 15 = .ok (.lconst 0, 1) := by decide +kernel
theorem dJ9_floorMod_f86c9_16 : decode cJ9_floorMod_f86c9 16 = .ok (.lcmp, 1) := by decide +kernel
theorem dJ9_floorMod_f86c9_17 : decode cJ9_floorMod_f86c9 17 = .ok (.ifCond .eq 8, 3) := by decide +kernel
theorem dJ9_floorMod_f86c9_20 : decode cJ9_floorMod_f86c9 20 = .ok (.lload 4, 2) := by decide +kernel
theorem dJ9_floorMod_f86c9_22 : decode cJ9_floorMod_f86c9 22 = .ok (.lload_n 2, 1) := by decide +kernel
theorem dJ9_floorMod_f86c9_23 : decode cJ9_floorMod_f86c9 23 = .ok (.ladd, 1) := by decide +kernel
theorem dJ9_floorMod_f86c9_24 : decode cJ9_floorMod_f86c9 24 = .ok (.lreturn, 1) := by decide +kernel
theorem dJ9_floorMod_f86c9_25 : decode cJ9_floorMod_f86c9 25 = .ok (.lload 4, 2) := by decide +kernel
theorem dJ9_floorMod_f86c9_27 : decode cJ9_floorMod_f86c9 27 = .ok (.lreturn, 1) := by decide +kernel
theorem dJ9_max_7cf53_0 : decode cJ9_max_7cf53 0 = .ok (.iload_n 0, 1) := by decide +kernel
theorem dJ9_max_7cf53_1 : decode cJ9_max_7cf53 1 = .ok (.iload_n 1, 1) := by decide +kernel
theorem dJ9_max_7cf53_2 : decode cJ9_max_7cf53 2 = .ok (.if_icmp .lt 7, 3) := by decide +kernel
theorem dJ9_max_7cf53_5 : decode cJ9_max_7cf53 5 = .ok (.iload_n 0, 1) := by decide +kernel
theorem dJ9_max_7cf53_6 : decode cJ9_max_7cf53 6 = .ok (.goto 4, 3) := by decide +kernel
theorem dJ9_max_7cf53_9 : decode cJ9_max_7cf53 9 = .ok (.iload_n 1, 1) := by decide +kernel
theorem dJ9_max_7cf53_10 : decode cJ9_max_7cf53 10 = .ok (.ireturn, 1) := by decide +kernel
theorem dJ9_max_f86c9_0 : decode cJ9_max_f86c9 0 = .ok (.lload_n 0, 1) := by decide +kernel
theorem dJ9_max_f86c9_1 : decode cJ9_max_f86c9 1 = .ok (.lload_n 2, 1) := by decide +kernel
theorem dJ9_max_f86c9_2 : decode cJ9_max_f86c9 2 = .ok (.lcmp, 1) := by decide +kernel
theorem dJ9_max_f86c9_3 : decode cJ9_max_f86c9 3 = .ok (.ifCond .lt 7, 3) := by decide +kernel
theorem dJ9_max_f86c9_6 : decode cJ9_max_f86c9 6 = .ok (.lload_n 0, 1) := by decide +kernel
theorem dJ9_max_f86c9_7 : decode cJ9_max_f86c9 7 = .ok (.goto 4, 3) := by decide +kernel
theorem dJ9_max_f86c9_10 : decode cJ9_max_f86c9 10 = .ok (.lload_n 2, 1) := by decide +kernel
theorem dJ9_max_f86c9_11 : decode cJ9_max_f86c9 11 = .ok (.lreturn, 1) := by decide +kernel
theorem dJ9_min_7cf53_0 : decode cJ9_min_7cf53 0 = .ok (.iload_n 0, 1) := by decide +kernel
theorem dJ9_min_7cf53_1 : decode cJ9_min_7cf53 1 = .ok (.iload_n 1, 1) := by decide +kernel
theorem dJ9_min_7cf53_2 : decode cJ9_min_7cf53 2 = .ok (.if_icmp .gt 7, 3) := by decide +kernel
theorem dJ9_min_7cf53_5 : decode cJ9_min_7cf53 5 = .ok (.iload_n 0, 1) := by decide +kernel
theorem dJ9_min_7cf53_6 : decode cJ9_min_7cf53 6 = .ok (.goto 4, 3) := by decide +kernel
theorem dJ9_min_7cf53_9 : decode cJ9_min_7cf53 9 = .ok (.iload_n 1, 1) := by decide +kernel
theorem dJ9_min_7cf53_10 : decode cJ9_min_7cf53 10 = .ok (.ireturn, 1) := by decide +kernel
theorem dJ9_min_f86c9_0 : decode cJ9_min_f86c9 0 = .ok (.lload_n 0, 1) := by decide +kernel
theorem dJ9_min_f86c9_1 : decode cJ9_min_f86c9 1 = .ok (.lload_n 2, 1) := by decide +kernel
theorem dJ9_min_f86c9_2 : decode cJ9_min_f86c9 2 = .ok (.lcmp, 1) := by decide +kernel
theorem dJ9_min_f86c9_3 : decode cJ9_min_f86c9 3 = .ok (.ifCond .gt 7, 3) := by decide +kernel
theorem dJ9_min_f86c9_6 : decode cJ9_min_f86c9 6 = .ok (.lload_n 0, 1) := by decide +kernel
theorem dJ9_min_f86c9_7 : decode cJ9_min_f86c9 7 = .ok (.goto 4, 3) := by decide +kernel
theorem dJ9_min_f86c9_10 : decode cJ9_min_f86c9 10 = .ok (.lload_n 2, 1) := by decide +kernel
theorem dJ9_min_f86c9_11 : decode cJ9_min_f86c9 11 = .ok (.lreturn, 1) := by decide +kernel
theorem dJ7_fill_d0a16_0 : decode cJ7_fill_d0a16 0 = .ok (.iconst 0, 1) := by decide +kernel
theorem dJ7_fill_d0a16_1 : decode cJ7_fill_d0a16 1 = .ok (.istore_n 3, 1) := by decide +kernel
theorem dJ7_fill_d0a16_2 : decode cJ7_fill_d0a16 2 = .ok (.aload_n 0, 1) := by decide +kernel
theorem dJ7_fill_d0a16_3 : decode cJ7_fill_d0a16 3 = .ok (.arraylength, 1) := by decide +kernel
theorem dJ7_fill_d0a16_4 : decode cJ7_fill_d0a16 4 = .ok (.istore 4, 2) := by decide +kernel
theorem dJ7_fill_d0a16_6 : decode cJ7_fill_d0a16 6 = .ok (.iload_n 3, 1) := by decide +kernel
theorem dJ7_fill_d0a16_7 : decode cJ7_fill_d0a16 7 = .ok (.iload 4, 2) := by decide +kernel
theorem dJ7_fill_d0a16_9 : decode cJ7_fill_d0a16 9 = .ok (.if_icmp .ge 13, 3) := by decide +kernel
theorem dJ7_fill_d0a16_12 : decode cJ7_fill_d0a16 12 = .ok (.aload_n 0, 1) := by decide +kernel
theorem dJ7_fill_d0a16_13 : decode cJ7_fill_d0a16 13 = .ok (.iload_n 3, 1) := by decide +kernel
theorem dJ7_fill_d0a16_14 : decode cJ7_fill_d0a16 14 = .ok (.lload_n 1, 1) := by decide +kernel
theorem dJ7_fill_d0a16_15 : decode cJ7_fill_d0a16 15 = .ok (.lastore, 1) := by decide +kernel
theorem dJ7_fill_d0a16_16 : decode cJ7_fill_d0a16 16 = .ok (.iinc 3 1, 3) := by decide +kernel
theorem dJ7_fill_d0a16_19 : decode cJ7_fill_d0a16 19 = .ok (.goto (-13), 3) := by decide +kernel
theorem dJ7_fill_d0a16_22 : decode cJ7_fill_d0a16 22 = .ok (.return_, 1) := by decide +kernel
theorem dJ7_copyOf_c38d5_0 : decode cJ7_copyOf_c38d5 0 = .ok (.iload_n 1, 1) := by decide +kernel
theorem dJ7_copyOf_c38d5_1 : decode cJ7_copyOf_c38d5 1 = .ok (.aload_n 0, 1) := by decide +kernel
theorem dJ7_copyOf_c38d5_2 : decode cJ7_copyOf_c38d5 2 = .ok (.arraylength, 1) := by decide +kernel
theorem dJ7_copyOf_c38d5_3 : decode cJ7_copyOf_c38d5 3 = .ok (.if_icmp .ne 11, 3) := by decide +kernel
theorem dJ7_copyOf_c38d5_6 : decode cJ7_copyOf_c38d5 6 = .ok (.aload_n 0, 1) := by decide +kernel
theorem dJ7_copyOf_c38d5_7 : decode cJ7_copyOf_c38d5 7 = .ok (.invokevirtual 319, 3) := by decide +kernel
theorem dJ7_copyOf_c38d5_10 : decode cJ7_copyOf_c38d5 10 = .ok (.checkcast 320, 3) := by decide +kernel
theorem dJ7_copyOf_c38d5_13 : decode cJ7_copyOf_c38d5 13 = .ok (.areturn, 1) := by decide +kernel
theorem dJ7_copyOf_c38d5_14 : decode cJ7_copyOf_c38d5 14 = .ok (.iload_n 1, 1) := by decide +kernel
theorem dJ7_copyOf_c38d5_15 : decode cJ7_copyOf_c38d5 15 = .ok (.newarray .long, 2) := by decide +kernel
theorem dJ7_copyOf_c38d5_17 : decode cJ7_copyOf_c38d5 17 = .ok (.astore_n 2, 1) := by decide +kernel
theorem dJ7_copyOf_c38d5_18 : decode cJ7_copyOf_c38d5 18 = .ok (.aload_n 0, 1) := by decide +kernel
theorem dJ7_copyOf_c38d5_19 : decode cJ7_copyOf_c38d5 19 = .ok (.iconst 0, 1) := by decide +kernel
theorem dJ7_copyOf_c38d5_20 : decode cJ7_copyOf_c38d5 20 = .ok (.aload_n 2, 1) := by decide +kernel
theorem dJ7_copyOf_c38d5_21 : decode cJ7_copyOf_c38d5 21 = .ok (.iconst 0, 1) := by decide +kernel
theorem dJ7_copyOf_c38d5_22 : decode cJ7_copyOf_c38d5 22 = .ok (.aload_n 0, 1) := by decide +kernel
theorem dJ7_copyOf_c38d5_23 : decode cJ7_copyOf_c38d5 23 = .ok (.arraylength, 1) := by decide +kernel
theorem dJ7_copyOf_c38d5_24 : decode cJ7_copyOf_c38d5 24 = .ok (.iload_n 1, 1) := by decide +kernel
theorem dJ7_copyOf_c38d5_25 : decode cJ7_copyOf_c38d5 25 = .ok (.invokestatic 304, 3) := by decide +kernel
theorem dJ7_copyOf_c38d5_28 : decode cJ7_copyOf_c38d5 28 = .ok (.invokestatic 150, 3) := by decide +kernel
theorem dJ7_copyOf_c38d5_31 : decode cJ7_copyOf_c38d5 31 = .ok (.aload_n 2, 1) := by decide +kernel
theorem dJ7_copyOf_c38d5_32 : decode cJ7_copyOf_c38d5 32 = .ok (.areturn, 1) := by decide +kernel
