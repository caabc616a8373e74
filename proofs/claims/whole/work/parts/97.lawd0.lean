theorem dL_0 : decode code 0 = .ok (.new 7, 3) := by decide +kernel
theorem dL_3 : decode code 3 = .ok (.dup, 1) := by decide +kernel
theorem dL_4 : decode code 4 = .ok (.invokespecial 9, 3) := by decide +kernel
theorem dL_7 : decode code 7 = .ok (.astore_n 1, 1) := by decide +kernel
theorem dL_8 : decode code 8 = .ok (.new 10, 3) := by decide +kernel
theorem dL_11 : decode code 11 = .ok (.dup, 1) := by decide +kernel
theorem dL_12 : decode code 12 = .ok (.invokespecial 12, 3) := by decide +kernel
theorem dL_15 : decode code 15 = .ok (.astore_n 2, 1) := by decide +kernel
theorem dL_16 : decode code 16 = .ok (.iconst 0, 1) := by decide +kernel
theorem dL_17 : decode code 17 = .ok (.istore_n 3, 1) := by decide +kernel
theorem dL_18 : decode code 18 = .ok (.iload_n 3, 1) := by decide +kernel
theorem dL_19 : decode code 19 = .ok (.aload_n 0, 1) := by decide +kernel
theorem dL_20 : decode code 20 = .ok (.arraylength, 1) := by decide +kernel
theorem dL_21 : decode code 21 = .ok (.bipush 6, 2) := by decide +kernel
theorem dL_23 : decode code 23 = .ok (.isub, 1) := by decide +kernel
theorem dL_24 : decode code 24 = .ok (.if_icmp .gt 1112, 3) := by decide +kernel
theorem dL_27 : decode code 27 = .ok (.aload_n 0, 1) := by decide +kernel
theorem dL_28 : decode code 28 = .ok (.iload_n 3, 1) := by decide +kernel
theorem dL_29 : decode code 29 = .ok (.iaload, 1) := by decide +kernel
theorem dL_30 : decode code 30 = .ok (.bipush 31, 2) := by decide +kernel
theorem dL_32 : decode code 32 = .ok (.iand, 1) := by decide +kernel
theorem dL_33 : decode code 33 = .ok (.tableswitch 1097 0 29 #[135, 168, 231, 254, 287, 310, 343, 376, 409, 463, 546, 579, 592, 625, 658, 681, 704, 727, 740, 753, 776, 809, 843, 886, 939, 962, 985, 1018, 1051, 1074], 135) := by decide +kernel
theorem dL_168 : decode code 168 = .ok (.aload_n 1, 1) := by decide +kernel
theorem dL_169 : decode code 169 = .ok (.aload_n 0, 1) := by decide +kernel
theorem dL_170 : decode code 170 = .ok (.iload_n 3, 1) := by decide +kernel
theorem dL_171 : decode code 171 = .ok (.iconst 1, 1) := by decide +kernel
theorem dL_172 : decode code 172 = .ok (.iadd, 1) := by decide +kernel
theorem dL_173 : decode code 173 = .ok (.iaload, 1) := by decide +kernel
theorem dL_174 : decode code 174 = .ok (.aload_n 0, 1) := by decide +kernel
theorem dL_175 : decode code 175 = .ok (.iload_n 3, 1) := by decide +kernel
theorem dL_176 : decode code 176 = .ok (.iconst 2, 1) := by decide +kernel
theorem dL_177 : decode code 177 = .ok (.iadd, 1) := by decide +kernel
theorem dL_178 : decode code 178 = .ok (.iaload, 1) := by decide +kernel
theorem dL_179 : decode code 179 = .ok (.invokevirtual 13, 3) := by decide +kernel
theorem dL_182 : decode code 182 = .ok (.aload_n 2, 1) := by decide +kernel
theorem dL_183 : decode code 183 = .ok (.aload_n 0, 1) := by decide +kernel
theorem dL_184 : decode code 184 = .ok (.iload_n 3, 1) := by decide +kernel
theorem dL_185 : decode code 185 = .ok (.iconst 1, 1) := by decide +kernel
theorem dL_186 : decode code 186 = .ok (.iadd, 1) := by decide +kernel
theorem dL_187 : decode code 187 = .ok (.iaload, 1) := by decide +kernel
theorem dL_188 : decode code 188 = .ok (.aload_n 0, 1) := by decide +kernel
theorem dL_189 : decode code 189 = .ok (.iload_n 3, 1) := by decide +kernel
theorem dL_190 : decode code 190 = .ok (.iconst 2, 1) := by decide +kernel
theorem dL_191 : decode code 191 = .ok (.iadd, 1) := by decide +kernel
theorem dL_192 : decode code 192 = .ok (.iaload, 1) := by decide +kernel
theorem dL_193 : decode code 193 = .ok (.invokevirtual 17, 3) := by decide +kernel
theorem dL_196 : decode code 196 = .ok (.if_icmp .eq 934, 3) := by decide +kernel
theorem dL_199 : decode code 199 = .ok (.iconst 0, 1) := by decide +kernel
theorem dL_200 : decode code 200 = .ok (.ireturn, 1) := by decide +kernel
theorem dL_201 : decode code 201 = .ok (.aload_n 1, 1) := by decide +kernel
theorem dL_202 : decode code 202 = .ok (.aload_n 0, 1) := by decide +kernel
theorem dL_203 : decode code 203 = .ok (.iload_n 3, 1) := by decide +kernel
theorem dL_204 : decode code 204 = .ok (.iconst 1, 1) := by decide +kernel
theorem dL_205 : decode code 205 = .ok (.iadd, 1) := by decide +kernel
theorem dL_206 : decode code 206 = .ok (.iaload, 1) := by decide +kernel
theorem dL_207 : decode code 207 = .ok (.aload_n 0, 1) := by decide +kernel
theorem dL_208 : decode code 208 = .ok (.iload_n 3, 1) := by decide +kernel
theorem dL_209 : decode code 209 = .ok (.iconst 2, 1) := by decide +kernel
theorem dL_210 : decode code 210 = .ok (.iadd, 1) := by decide +kernel
theorem dL_211 : decode code 211 = .ok (.iaload, 1) := by decide +kernel
theorem dL_212 : decode code 212 = .ok (.i2l, 1) := by decide +kernel
theorem dL_213 : decode code 213 = .ok (.bipush 32, 2) := by decide +kernel
theorem dL_215 : decode code 215 = .ok (.lshl, 1) := by decide +kernel
theorem dL_216 : decode code 216 = .ok (.aload_n 0, 1) := by decide +kernel
theorem dL_217 : decode code 217 = .ok (.iload_n 3, 1) := by decide +kernel
theorem dL_218 : decode code 218 = .ok (.iconst 3, 1) := by decide +kernel
theorem dL_219 : decode code 219 = .ok (.iadd, 1) := by decide +kernel
theorem dL_220 : decode code 220 = .ok (.iaload, 1) := by decide +kernel
theorem dL_221 : decode code 221 = .ok (.i2l, 1) := by decide +kernel
theorem dL_222 : decode code 222 = .ok (.ldc2_w 18, 3) := by decide +kernel
theorem dL_225 : decode code 225 = .ok (.land, 1) := by decide +kernel
theorem dL_226 : decode code 226 = .ok (.lor, 1) := by decide +kernel
theorem dL_227 : decode code 227 = .ok (.invokevirtual 20, 3) := by decide +kernel
theorem dL_230 : decode code 230 = .ok (.aload_n 2, 1) := by decide +kernel
theorem dL_231 : decode code 231 = .ok (.aload_n 0, 1) := by decide +kernel
theorem dL_232 : decode code 232 = .ok (.iload_n 3, 1) := by decide +kernel
theorem dL_233 : decode code 233 = .ok (.iconst 1, 1) := by decide +kernel
theorem dL_234 : decode code 234 = .ok (.iadd, 1) := by decide +kernel
theorem dL_235 : decode code 235 = .ok (.iaload, 1) := by decide +kernel
theorem dL_236 : decode code 236 = .ok (.aload_n 0, 1) := by decide +kernel
theorem dL_237 : decode code 237 = .ok (.iload_n 3, 1) := by decide +kernel
theorem dL_238 : decode code 238 = .ok (.iconst 2, 1) := by decide +kernel
theorem dL_239 : decode code 239 = .ok (.iadd, 1) := by decide +kernel
theorem dL_240 : decode code 240 = .ok (.iaload, 1) := by decide +kernel
theorem dL_241 : decode code 241 = .ok (.i2l, 1) := by decide +kernel
theorem dL_242 : decode code 242 = .ok (.bipush 32, 2) := by decide +kernel
theorem dL_244 : decode code 244 = .ok (.lshl, 1) := by decide +kernel
theorem dL_245 : decode code 245 = .ok (.aload_n 0, 1) := by decide +kernel
theorem dL_246 : decode code 246 = .ok (.iload_n 3, 1) := by decide +kernel
theorem dL_247 : decode code 247 = .ok (.iconst 3, 1) := by decide +kernel
theorem dL_248 : decode code 248 = .ok (.iadd, 1) := by decide +kernel
theorem dL_249 : decode code 249 = .ok (.iaload, 1) := by decide +kernel
theorem dL_250 : decode code 250 = .ok (.i2l, 1) := by decide +kernel
theorem dL_251 : decode code 251 = .ok (.ldc2_w 18, 3) := by decide +kernel
theorem dL_254 : decode code 254 = .ok (.land, 1) := by decide +kernel
theorem dL_255 : decode code 255 = .ok (.lor, 1) := by decide +kernel
theorem dL_256 : decode code 256 = .ok (.invokevirtual 24, 3) := by decide +kernel
theorem dL_259 : decode code 259 = .ok (.if_icmp .eq 871, 3) := by decide +kernel
theorem dL_262 : decode code 262 = .ok (.iconst 0, 1) := by decide +kernel
