theorem dX9_init_0 : decode cX9_init 0 = .ok (.aload_n 0, 1) := by decide +kernel
theorem dX9_init_1 : decode cX9_init 1 = .ok (.invokespecial 1, 3) := by decide +kernel
theorem dX9_init_4 : decode cX9_init 4 = .ok (.aload_n 0, 1) := by decide +kernel
theorem dX9_init_5 : decode cX9_init 5 = .ok (.bipush 7, 2) := by decide +kernel
theorem dX9_init_7 : decode cX9_init 7 = .ok (.newarray .int, 2) := by decide +kernel
theorem dX9_init_9 : decode cX9_init 9 = .ok (.putfield 7, 3) := by decide +kernel
theorem dX9_init_12 : decode cX9_init 12 = .ok (.aload_n 0, 1) := by decide +kernel
theorem dX9_init_13 : decode cX9_init 13 = .ok (.bipush 12, 2) := by decide +kernel
theorem dX9_init_15 : decode cX9_init 15 = .ok (.newarray .int, 2) := by decide +kernel
theorem dX9_init_17 : decode cX9_init 17 = .ok (.putfield 13, 3) := by decide +kernel
theorem dX9_init_20 : decode cX9_init 20 = .ok (.aload_n 0, 1) := by decide +kernel
theorem dX9_init_21 : decode cX9_init 21 = .ok (.bipush 12, 2) := by decide +kernel
theorem dX9_init_23 : decode cX9_init 23 = .ok (.newarray .int, 2) := by decide +kernel
theorem dX9_init_25 : decode cX9_init 25 = .ok (.putfield 16, 3) := by decide +kernel
theorem dX9_init_28 : decode cX9_init 28 = .ok (.aload_n 0, 1) := by decide +kernel
theorem dX9_init_29 : decode cX9_init 29 = .ok (.bipush 6, 2) := by decide +kernel
theorem dX9_init_31 : decode cX9_init 31 = .ok (.newarray .int, 2) := by decide +kernel
theorem dX9_init_33 : decode cX9_init 33 = .ok (.putfield 19, 3) := by decide +kernel
theorem dX9_init_36 : decode cX9_init 36 = .ok (.aload_n 0, 1) := by decide +kernel
theorem dX9_init_37 : decode cX9_init 37 = .ok (.bipush 6, 2) := by decide +kernel
theorem dX9_init_39 : decode cX9_init 39 = .ok (.newarray .int, 2) := by decide +kernel
theorem dX9_init_41 : decode cX9_init 41 = .ok (.putfield 22, 3) := by decide +kernel
theorem dX9_init_44 : decode cX9_init 44 = .ok (.aload_n 0, 1) := by decide +kernel
theorem dX9_init_45 : decode cX9_init 45 = .ok (.iconst 2, 1) := by decide +kernel
theorem dX9_init_46 : decode cX9_init 46 = .ok (.newarray .int, 2) := by decide +kernel
theorem dX9_init_48 : decode cX9_init 48 = .ok (.putfield 25, 3) := by decide +kernel
theorem dX9_init_51 : decode cX9_init 51 = .ok (.aload_n 0, 1) := by decide +kernel
theorem dX9_init_52 : decode cX9_init 52 = .ok (.iconst 5, 1) := by decide +kernel
theorem dX9_init_53 : decode cX9_init 53 = .ok (.newarray .int, 2) := by decide +kernel
theorem dX9_init_55 : decode cX9_init 55 = .ok (.putfield 28, 3) := by decide +kernel
theorem dX9_init_58 : decode cX9_init 58 = .ok (.aload_n 0, 1) := by decide +kernel
theorem dX9_init_59 : decode cX9_init 59 = .ok (.iconst 5, 1) := by decide +kernel
theorem dX9_init_60 : decode cX9_init 60 = .ok (.newarray .int, 2) := by decide +kernel
theorem dX9_init_62 : decode cX9_init 62 = .ok (.putfield 31, 3) := by decide +kernel
theorem dX9_init_65 : decode cX9_init 65 = .ok (.aload_n 0, 1) := by decide +kernel
theorem dX9_init_66 : decode cX9_init 66 = .ok (.iconst 5, 1) := by decide +kernel
theorem dX9_init_67 : decode cX9_init 67 = .ok (.newarray .int, 2) := by decide +kernel
theorem dX9_init_69 : decode cX9_init 69 = .ok (.putfield 34, 3) := by decide +kernel
theorem dX9_init_72 : decode cX9_init 72 = .ok (.aload_n 0, 1) := by decide +kernel
theorem dX9_init_73 : decode cX9_init 73 = .ok (.iconst 5, 1) := by decide +kernel
theorem dX9_init_74 : decode cX9_init 74 = .ok (.newarray .int, 2) := by decide +kernel
theorem dX9_init_76 : decode cX9_init 76 = .ok (.putfield 37, 3) := by decide +kernel
theorem dX9_init_79 : decode cX9_init 79 = .ok (.aload_n 0, 1) := by decide +kernel
theorem dX9_init_80 : decode cX9_init 80 = .ok (.iconst 5, 1) := by decide +kernel
theorem dX9_init_81 : decode cX9_init 81 = .ok (.newarray .int, 2) := by decide +kernel
theorem dX9_init_83 : decode cX9_init 83 = .ok (.putfield 40, 3) := by decide +kernel
theorem dX9_init_86 : decode cX9_init 86 = .ok (.aload_n 0, 1) := by decide +kernel
theorem dX9_init_87 : decode cX9_init 87 = .ok (.iconst 5, 1) := by decide +kernel
theorem dX9_init_88 : decode cX9_init 88 = .ok (.newarray .int, 2) := by decide +kernel
theorem dX9_init_90 : decode cX9_init 90 = .ok (.putfield 43, 3) := by decide +kernel
theorem dX9_init_93 : decode cX9_init 93 = .ok (.aload_n 0, 1) := by decide +kernel
theorem dX9_init_94 : decode cX9_init 94 = .ok (.iconst 5, 1) := by decide +kernel
theorem dX9_init_95 : decode cX9_init 95 = .ok (.newarray .int, 2) := by decide +kernel
theorem dX9_init_97 : decode cX9_init 97 = .ok (.putfield 46, 3) := by decide +kernel
theorem dX9_init_100 : decode cX9_init 100 = .ok (.aload_n 0, 1) := by decide +kernel
theorem dX9_init_101 : decode cX9_init 101 = .ok (.iconst 3, 1) := by decide +kernel
theorem dX9_init_102 : decode cX9_init 102 = .ok (.newarray .int, 2) := by decide +kernel
theorem dX9_init_104 : decode cX9_init 104 = .ok (.putfield 49, 3) := by decide +kernel
theorem dX9_init_107 : decode cX9_init 107 = .ok (.aload_n 0, 1) := by decide +kernel
theorem dX9_init_108 : decode cX9_init 108 = .ok (.iconst 3, 1) := by decide +kernel
theorem dX9_init_109 : decode cX9_init 109 = .ok (.newarray .int, 2) := by decide +kernel
theorem dX9_init_111 : decode cX9_init 111 = .ok (.putfield 52, 3) := by decide +kernel
theorem dX9_init_114 : decode cX9_init 114 = .ok (.aload_n 0, 1) := by decide +kernel
theorem dX9_init_115 : decode cX9_init 115 = .ok (.bipush 96, 2) := by decide +kernel
theorem dX9_init_117 : decode cX9_init 117 = .ok (.newarray .int, 2) := by decide +kernel
theorem dX9_init_119 : decode cX9_init 119 = .ok (.putfield 55, 3) := by decide +kernel
theorem dX9_init_122 : decode cX9_init 122 = .ok (.aload_n 0, 1) := by decide +kernel
theorem dX9_init_123 : decode cX9_init 123 = .ok (.bipush 48, 2) := by decide +kernel
theorem dX9_init_125 : decode cX9_init 125 = .ok (.newarray .int, 2) := by decide +kernel
theorem dX9_init_127 : decode cX9_init 127 = .ok (.putfield 58, 3) := by decide +kernel
theorem dX9_init_130 : decode cX9_init 130 = .ok (.aload_n 0, 1) := by decide +kernel
theorem dX9_init_131 : decode cX9_init 131 = .ok (.bipush 48, 2) := by decide +kernel
theorem dX9_init_133 : decode cX9_init 133 = .ok (.newarray .int, 2) := by decide +kernel
theorem dX9_init_135 : decode cX9_init 135 = .ok (.putfield 61, 3) := by decide +kernel
theorem dX9_init_138 : decode cX9_init 138 = .ok (.aload_n 0, 1) := by decide +kernel
theorem dX9_init_139 : decode cX9_init 139 = .ok (.sipush 336, 3) := by decide +kernel
theorem dX9_init_142 : decode cX9_init 142 = .ok (.newarray .int, 2) := by decide +kernel
theorem dX9_init_144 : decode cX9_init 144 = .ok (.putfield 64, 3) := by decide +kernel
theorem dX9_init_147 : decode cX9_init 147 = .ok (.aload_n 0, 1) := by decide +kernel
theorem dX9_init_148 : decode cX9_init 148 = .ok (.sipush 180, 3) := by decide +kernel
theorem dX9_init_151 : decode cX9_init 151 = .ok (.newarray .int, 2) := by decide +kernel
theorem dX9_init_153 : decode cX9_init 153 = .ok (.putfield 67, 3) := by decide +kernel
theorem dX9_init_156 : decode cX9_init 156 = .ok (.aload_n 0, 1) := by decide +kernel
theorem dX9_init_157 : decode cX9_init 157 = .ok (.bipush 8, 2) := by decide +kernel
theorem dX9_init_159 : decode cX9_init 159 = .ok (.newarray .int, 2) := by decide +kernel
theorem dX9_init_161 : decode cX9_init 161 = .ok (.putfield 70, 3) := by decide +kernel
theorem dX9_init_164 : decode cX9_init 164 = .ok (.aload_n 0, 1) := by decide +kernel
theorem dX9_init_165 : decode cX9_init 165 = .ok (.bipush 8, 2) := by decide +kernel
theorem dX9_init_167 : decode cX9_init 167 = .ok (.newarray .int, 2) := by decide +kernel
theorem dX9_init_169 : decode cX9_init 169 = .ok (.putfield 73, 3) := by decide +kernel
theorem dX9_init_172 : decode cX9_init 172 = .ok (.aload_n 0, 1) := by decide +kernel
theorem dX9_init_173 : decode cX9_init 173 = .ok (.bipush 12, 2) := by decide +kernel
theorem dX9_init_175 : decode cX9_init 175 = .ok (.newarray .int, 2) := by decide +kernel
theorem dX9_init_177 : decode cX9_init 177 = .ok (.putfield 76, 3) := by decide +kernel
theorem dX9_init_180 : decode cX9_init 180 = .ok (.aload_n 0, 1) := by decide +kernel
theorem dX9_init_181 : decode cX9_init 181 = .ok (.iconst 5, 1) := by decide +kernel
theorem dX9_init_182 : decode cX9_init 182 = .ok (.newarray .int, 2) := by decide +kernel
theorem dX9_init_184 : decode cX9_init 184 = .ok (.putfield 79, 3) := by decide +kernel
theorem dX9_init_187 : decode cX9_init 187 = .ok (.aload_n 0, 1) := by decide +kernel
theorem dX9_init_188 : decode cX9_init 188 = .ok (.iconst 5, 1) := by decide +kernel
theorem dX9_init_189 : decode cX9_init 189 = .ok (.newarray .int, 2) := by decide +kernel
theorem dX9_init_191 : decode cX9_init 191 = .ok (.putfield 82, 3) := by decide +kernel
theorem dX9_init_194 : decode cX9_init 194 = .ok (.aload_n 0, 1) := by decide +kernel
theorem dX9_init_195 : decode cX9_init 195 = .ok (.iconst 5, 1) := by decide +kernel
theorem dX9_init_196 : decode cX9_init 196 = .ok (.newarray .int, 2) := by decide +kernel
theorem dX9_init_198 : decode cX9_init 198 = .ok (.putfield 85, 3) := by decide +kernel
theorem dX9_init_201 : decode cX9_init 201 = .ok (.aload_n 0, 1) := by decide +kernel
theorem dX9_init_202 : decode cX9_init 202 = .ok (.iconst 5, 1) := by decide +kernel
theorem dX9_init_203 : decode cX9_init 203 = .ok (.newarray .int, 2) := by decide +kernel
theorem dX9_init_205 : decode cX9_init 205 = .ok (.putfield 88, 3) := by decide +kernel
theorem dX9_init_208 : decode cX9_init 208 = .ok (.aload_n 0, 1) := by decide +kernel
theorem dX9_init_209 : decode cX9_init 209 = .ok (.bipush 30, 2) := by decide +kernel
theorem dX9_init_211 : decode cX9_init 211 = .ok (.newarray .int, 2) := by decide +kernel
theorem dX9_init_213 : decode cX9_init 213 = .ok (.putfield 91, 3) := by decide +kernel
theorem dX9_init_216 : decode cX9_init 216 = .ok (.aload_n 0, 1) := by decide +kernel
theorem dX9_init_217 : decode cX9_init 217 = .ok (.bipush 12, 2) := by decide +kernel
theorem dX9_init_219 : decode cX9_init 219 = .ok (.newarray .int, 2) := by decide +kernel
theorem dX9_init_221 : decode cX9_init 221 = .ok (.putfield 94, 3) := by decide +kernel
theorem dX9_init_224 : decode cX9_init 224 = .ok (.aload_n 0, 1) := by decide +kernel
theorem dX9_init_225 : decode cX9_init 225 = .ok (.sipush 144, 3) := by decide +kernel
theorem dX9_init_228 : decode cX9_init 228 = .ok (.newarray .int, 2) := by decide +kernel
theorem dX9_init_230 : decode cX9_init 230 = .ok (.putfield 97, 3) := by decide +kernel
theorem dX9_init_233 : decode cX9_init 233 = .ok (.aload_n 0, 1) := by decide +kernel
theorem dX9_init_234 : decode cX9_init 234 = .ok (.bipush 52, 2) := by decide +kernel
theorem dX9_init_236 : decode cX9_init 236 = .ok (.newarray .int, 2) := by decide +kernel
theorem dX9_init_238 : decode cX9_init 238 = .ok (.putfield 100, 3) := by decide +kernel
theorem dX9_init_241 : decode cX9_init 241 = .ok (.aload_n 0, 1) := by decide +kernel
theorem dX9_init_242 : decode cX9_init 242 = .ok (.bipush 25, 2) := by decide +kernel
theorem dX9_init_244 : decode cX9_init 244 = .ok (.newarray .int, 2) := by decide +kernel
theorem dX9_init_246 : decode cX9_init 246 = .ok (.putfield 103, 3) := by decide +kernel
theorem dX9_init_249 : decode cX9_init 249 = .ok (.aload_n 0, 1) := by decide +kernel
theorem dX9_init_250 : decode cX9_init 250 = .ok (.bipush 25, 2) := by decide +kernel
theorem dX9_init_252 : decode cX9_init 252 = .ok (.newarray .int, 2) := by decide +kernel
theorem dX9_init_254 : decode cX9_init 254 = .ok (.putfield 106, 3) := by decide +kernel
theorem dX9_init_257 : decode cX9_init 257 = .ok (.iconst 0, 1) := by decide +kernel
theorem dX9_init_258 : decode cX9_init 258 = .ok (.istore_n 1, 1) := by decide +kernel
theorem dX9_init_259 : decode cX9_init 259 = .ok (.iload_n 1, 1) := by decide +kernel
theorem dX9_init_260 : decode cX9_init 260 = .ok (.bipush 12, 2) := by decide +kernel
theorem dX9_init_262 : decode cX9_init 262 = .ok (.if_icmp .ge 17, 3) := by decide +kernel
theorem dX9_init_265 : decode cX9_init 265 = .ok (.aload_n 0, 1) := by decide +kernel
theorem dX9_init_266 : decode cX9_init 266 = .ok (.getfield 13, 3) := by decide +kernel
theorem dX9_init_269 : decode cX9_init 269 = .ok (.iload_n 1, 1) := by decide +kernel
theorem dX9_init_270 : decode cX9_init 270 = .ok (.bipush 20, 2) := by decide +kernel
theorem dX9_init_272 : decode cX9_init 272 = .ok (.iastore, 1) := by decide +kernel
theorem dX9_init_273 : decode cX9_init 273 = .ok (.iinc 1 1, 3) := by decide +kernel
theorem dX9_init_276 : decode cX9_init 276 = .ok (.goto (-17), 3) := by decide +kernel
theorem dX9_init_279 : decode cX9_init 279 = .ok (.aload_n 0, 1) := by decide +kernel
theorem dX9_init_280 : decode cX9_init 280 = .ok (.getfield 25, 3) := by decide +kernel
theorem dX9_init_283 : decode cX9_init 283 = .ok (.iconst 0, 1) := by decide +kernel
theorem dX9_init_284 : decode cX9_init 284 = .ok (.bipush 60, 2) := by decide +kernel
theorem dX9_init_286 : decode cX9_init 286 = .ok (.iastore, 1) := by decide +kernel
theorem dX9_init_287 : decode cX9_init 287 = .ok (.aload_n 0, 1) := by decide +kernel
theorem dX9_init_288 : decode cX9_init 288 = .ok (.getfield 25, 3) := by decide +kernel
theorem dX9_init_291 : decode cX9_init 291 = .ok (.iconst 1, 1) := by decide +kernel
theorem dX9_init_292 : decode cX9_init 292 = .ok (.iconst 2, 1) := by decide +kernel
theorem dX9_init_293 : decode cX9_init 293 = .ok (.iastore, 1) := by decide +kernel
theorem dX9_init_294 : decode cX9_init 294 = .ok (.return_, 1) := by decide +kernel
theorem dX9_no_0 : decode cX9_no 0 = .ok (.aload_n 0, 1) := by decide +kernel
theorem dX9_no_1 : decode cX9_no 1 = .ok (.getfield 7, 3) := by decide +kernel
theorem dX9_no_4 : decode cX9_no 4 = .ok (.iload_n 1, 1) := by decide +kernel
theorem dX9_no_5 : decode cX9_no 5 = .ok (.ineg, 1) := by decide +kernel
theorem dX9_no_6 : decode cX9_no 6 = .ok (.dup2, 1) := by decide +kernel
theorem dX9_no_7 : decode cX9_no 7 = .ok (.iaload, 1) := by decide +kernel
theorem dX9_no_8 : decode cX9_no 8 = .ok (.iconst 1, 1) := by decide +kernel
theorem dX9_no_9 : decode cX9_no 9 = .ok (.iadd, 1) := by decide +kernel
theorem dX9_no_10 : decode cX9_no 10 = .ok (.iastore, 1) := by decide +kernel
theorem dX9_no_11 : decode cX9_no 11 = .ok (.iload_n 1, 1) := by decide +kernel
theorem dX9_no_12 : decode cX9_no 12 = .ok (.ireturn, 1) := by decide +kernel
theorem dX9_lower_0 : decode cX9_lower 0 = .ok (.aload_n 0, 1) := by decide +kernel
theorem dX9_lower_1 : decode cX9_lower 1 = .ok (.getfield 7, 3) := by decide +kernel
theorem dX9_lower_4 : decode cX9_lower 4 = .ok (.iload_n 1, 1) := by decide +kernel
theorem dX9_lower_5 : decode cX9_lower 5 = .ok (.ineg, 1) := by decide +kernel
theorem dX9_lower_6 : decode cX9_lower 6 = .ok (.dup2, 1) := by decide +kernel
theorem dX9_lower_7 : decode cX9_lower 7 = .ok (.iaload, 1) := by decide +kernel
theorem dX9_lower_8 : decode cX9_lower 8 = .ok (.iconst 1, 1) := by decide +kernel
theorem dX9_lower_9 : decode cX9_lower 9 = .ok (.iadd, 1) := by decide +kernel
theorem dX9_lower_10 : decode cX9_lower 10 = .ok (.iastore, 1) := by decide +kernel
theorem dX9_lower_11 : decode cX9_lower 11 = .ok (.ldc 109, 2) := by decide +kernel
theorem dX9_lower_13 : decode cX9_lower 13 = .ok (.iload_n 1, 1) := by decide +kernel
theorem dX9_lower_14 : decode cX9_lower 14 = .ok (.isub, 1) := by decide +kernel
theorem dX9_lower_15 : decode cX9_lower 15 = .ok (.ireturn, 1) := by decide +kernel
theorem dX9_isIn_0 : decode cX9_isIn 0 = .ok (.iload_n 0, 1) := by decide +kernel
theorem dX9_isIn_1 : decode cX9_isIn 1 = .ok (.iload_n 1, 1) := by decide +kernel
theorem dX9_isIn_2 : decode cX9_isIn 2 = .ok (.if_icmp .lt 12, 3) := by decide +kernel
theorem dX9_isIn_5 : decode cX9_isIn 5 = .ok (.iload_n 0, 1) := by decide +kernel
theorem dX9_isIn_6 : decode cX9_isIn 6 = .ok (.iload_n 2, 1) := by decide +kernel
theorem dX9_isIn_7 : decode cX9_isIn 7 = .ok (.if_icmp .gt 7, 3) := by decide +kernel
theorem dX9_isIn_10 : decode cX9_isIn 10 = .ok (.iconst 1, 1) := by decide +kernel
theorem dX9_isIn_11 : decode cX9_isIn 11 = .ok (.goto 4, 3) := by decide +kernel
theorem dX9_isIn_14 : decode cX9_isIn 14 = .ok (.iconst 0, 1) := by decide +kernel
theorem dX9_isIn_15 : decode cX9_isIn 15 = .ok (.ireturn, 1) := by decide +kernel
theorem dX9_bound_0 : decode cX9_bound 0 = .ok (.iload_n 0, 1) := by decide +kernel
theorem dX9_bound_1 : decode cX9_bound 1 = .ok (.iload_n 1, 1) := by decide +kernel
theorem dX9_bound_2 : decode cX9_bound 2 = .ok (.if_icmp .ge 8, 3) := by decide +kernel
theorem dX9_bound_5 : decode cX9_bound 5 = .ok (.bipush (-4), 2) := by decide +kernel
theorem dX9_bound_7 : decode cX9_bound 7 = .ok (.goto 14, 3) := by decide +kernel
theorem dX9_bound_10 : decode cX9_bound 10 = .ok (.iload_n 0, 1) := by decide +kernel
theorem dX9_bound_11 : decode cX9_bound 11 = .ok (.iload_n 2, 1) := by decide +kernel
theorem dX9_bound_12 : decode cX9_bound 12 = .ok (.if_icmp .le 8, 3) := by decide +kernel
theorem dX9_bound_15 : decode cX9_bound 15 = .ok (.bipush (-6), 2) := by decide +kernel
theorem dX9_bound_17 : decode cX9_bound 17 = .ok (.goto 4, 3) := by decide +kernel
theorem dX9_bound_20 : decode cX9_bound 20 = .ok (.iconst 0, 1) := by decide +kernel
theorem dX9_bound_21 : decode cX9_bound 21 = .ok (.ireturn, 1) := by decide +kernel
theorem dX9_bits_0 : decode cX9_bits 0 = .ok (.iconst 0, 1) := by decide +kernel
theorem dX9_bits_1 : decode cX9_bits 1 = .ok (.istore_n 1, 1) := by decide +kernel
theorem dX9_bits_2 : decode cX9_bits 2 = .ok (.iconst 0, 1) := by decide +kernel
theorem dX9_bits_3 : decode cX9_bits 3 = .ok (.istore_n 2, 1) := by decide +kernel
theorem dX9_bits_4 : decode cX9_bits 4 = .ok (.iload_n 2, 1) := by decide +kernel
theorem dX9_bits_5 : decode cX9_bits 5 = .ok (.bipush 31, 2) := by decide +kernel
theorem dX9_bits_7 : decode cX9_bits 7 = .ok (.if_icmp .ge 17, 3) := by decide +kernel
theorem dX9_bits_10 : decode cX9_bits 10 = .ok (.iload_n 1, 1) := by decide +kernel
theorem dX9_bits_11 : decode cX9_bits 11 = .ok (.iload_n 0, 1) := by decide +kernel
theorem dX9_bits_12 : decode cX9_bits 12 = .ok (.iload_n 2, 1) := by decide +kernel
theorem dX9_bits_13 : decode cX9_bits 13 = .ok (.ishr, 1) := by decide +kernel
theorem dX9_bits_14 : decode cX9_bits 14 = .ok (.iconst 1, 1) := by decide +kernel
theorem dX9_bits_15 : decode cX9_bits 15 = .ok (.iand, 1) := by decide +kernel
theorem dX9_bits_16 : decode cX9_bits 16 = .ok (.iadd, 1) := by decide +kernel
theorem dX9_bits_17 : decode cX9_bits 17 = .ok (.istore_n 1, 1) := by decide +kernel
theorem dX9_bits_18 : decode cX9_bits 18 = .ok (.iinc 2 1, 3) := by decide +kernel
theorem dX9_bits_21 : decode cX9_bits 21 = .ok (.goto (-17), 3) := by decide +kernel
theorem dX9_bits_24 : decode cX9_bits 24 = .ok (.iload_n 1, 1) := by decide +kernel
theorem dX9_bits_25 : decode cX9_bits 25 = .ok (.ireturn, 1) := by decide +kernel
theorem dX9_isHour_0 : decode cX9_isHour 0 = .ok (.iload_n 0, 1) := by decide +kernel
theorem dX9_isHour_1 : decode cX9_isHour 1 = .ok (.ifCond .lt 13, 3) := by decide +kernel
theorem dX9_isHour_4 : decode cX9_isHour 4 = .ok (.iload_n 0, 1) := by decide +kernel
theorem dX9_isHour_5 : decode cX9_isHour 5 = .ok (.bipush 12, 2) := by decide +kernel
theorem dX9_isHour_7 : decode cX9_isHour 7 = .ok (.if_icmp .ge 7, 3) := by decide +kernel
theorem dX9_isHour_10 : decode cX9_isHour 10 = .ok (.iconst 1, 1) := by decide +kernel
theorem dX9_isHour_11 : decode cX9_isHour 11 = .ok (.goto 4, 3) := by decide +kernel
theorem dX9_isHour_14 : decode cX9_isHour 14 = .ok (.iconst 0, 1) := by decide +kernel
theorem dX9_isHour_15 : decode cX9_isHour 15 = .ok (.ireturn, 1) := by decide +kernel
theorem dX9_isRing_0 : decode cX9_isRing 0 = .ok (.iload_n 1, 1) := by decide +kernel
theorem dX9_isRing_1 : decode cX9_isRing 1 = .ok (.ifCond .lt 15, 3) := by decide +kernel
theorem dX9_isRing_4 : decode cX9_isRing 4 = .ok (.iload_n 1, 1) := by decide +kernel
theorem dX9_isRing_5 : decode cX9_isRing 5 = .ok (.aload_n 0, 1) := by decide +kernel
theorem dX9_isRing_6 : decode cX9_isRing 6 = .ok (.getfield 110, 3) := by decide +kernel
theorem dX9_isRing_9 : decode cX9_isRing 9 = .ok (.if_icmp .ge 7, 3) := by decide +kernel
theorem dX9_isRing_12 : decode cX9_isRing 12 = .ok (.iconst 1, 1) := by decide +kernel
theorem dX9_isRing_13 : decode cX9_isRing 13 = .ok (.goto 4, 3) := by decide +kernel
theorem dX9_isRing_16 : decode cX9_isRing 16 = .ok (.iconst 0, 1) := by decide +kernel
theorem dX9_isRing_17 : decode cX9_isRing 17 = .ok (.ireturn, 1) := by decide +kernel
theorem dX9_isBoat_0 : decode cX9_isBoat 0 = .ok (.iload_n 1, 1) := by decide +kernel
theorem dX9_isBoat_1 : decode cX9_isBoat 1 = .ok (.ifCond .lt 15, 3) := by decide +kernel
theorem dX9_isBoat_4 : decode cX9_isBoat 4 = .ok (.iload_n 1, 1) := by decide +kernel
theorem dX9_isBoat_5 : decode cX9_isBoat 5 = .ok (.aload_n 0, 1) := by decide +kernel
theorem dX9_isBoat_6 : decode cX9_isBoat 6 = .ok (.getfield 114, 3) := by decide +kernel
theorem dX9_isBoat_9 : decode cX9_isBoat 9 = .ok (.if_icmp .ge 7, 3) := by decide +kernel
theorem dX9_isBoat_12 : decode cX9_isBoat 12 = .ok (.iconst 1, 1) := by decide +kernel
theorem dX9_isBoat_13 : decode cX9_isBoat 13 = .ok (.goto 4, 3) := by decide +kernel
theorem dX9_isBoat_16 : decode cX9_isBoat 16 = .ok (.iconst 0, 1) := by decide +kernel
theorem dX9_isBoat_17 : decode cX9_isBoat 17 = .ok (.ireturn, 1) := by decide +kernel
theorem dX9_feed_0 : decode cX9_feed 0 = .ok (.iload_n 1, 1) := by decide +kernel
theorem dX9_feed_1 : decode cX9_feed 1 = .ok (.iconst 0, 1) := by decide +kernel
theorem dX9_feed_2 : decode cX9_feed 2 = .ok (.sipush 255, 3) := by decide +kernel
theorem dX9_feed_5 : decode cX9_feed 5 = .ok (.invokestatic 117, 3) := by decide +kernel
theorem dX9_feed_8 : decode cX9_feed 8 = .ok (.istore_n 2, 1) := by decide +kernel
theorem dX9_feed_9 : decode cX9_feed 9 = .ok (.iload_n 2, 1) := by decide +kernel
theorem dX9_feed_10 : decode cX9_feed 10 = .ok (.ifCond .ne 15, 3) := by decide +kernel
theorem dX9_feed_13 : decode cX9_feed 13 = .ok (.aload_n 0, 1) := by decide +kernel
theorem dX9_feed_14 : decode cX9_feed 14 = .ok (.getfield 121, 3) := by decide +kernel
theorem dX9_feed_17 : decode cX9_feed 17 = .ok (.bipush 96, 2) := by decide +kernel
theorem dX9_feed_19 : decode cX9_feed 19 = .ok (.if_icmp .ne 6, 3) := by decide +kernel
theorem dX9_feed_22 : decode cX9_feed 22 = .ok (.bipush (-6), 2) := by decide +kernel
theorem dX9_feed_24 : decode cX9_feed 24 = .ok (.istore_n 2, 1) := by decide +kernel
theorem dX9_feed_25 : decode cX9_feed 25 = .ok (.iload_n 2, 1) := by decide +kernel
theorem dX9_feed_26 : decode cX9_feed 26 = .ok (.ifCond .eq 9, 3) := by decide +kernel
theorem dX9_feed_29 : decode cX9_feed 29 = .ok (.aload_n 0, 1) := by decide +kernel
theorem dX9_feed_30 : decode cX9_feed 30 = .ok (.iload_n 2, 1) := by decide +kernel
theorem dX9_feed_31 : decode cX9_feed 31 = .ok (.invokevirtual 124, 3) := by decide +kernel
theorem dX9_feed_34 : decode cX9_feed 34 = .ok (.ireturn, 1) := by decide +kernel
theorem dX9_feed_35 : decode cX9_feed 35 = .ok (.aload_n 0, 1) := by decide +kernel
theorem dX9_feed_36 : decode cX9_feed 36 = .ok (.getfield 55, 3) := by decide +kernel
theorem dX9_feed_39 : decode cX9_feed 39 = .ok (.aload_n 0, 1) := by decide +kernel
theorem dX9_feed_40 : decode cX9_feed 40 = .ok (.getfield 121, 3) := by decide +kernel
theorem dX9_feed_43 : decode cX9_feed 43 = .ok (.iload_n 1, 1) := by decide +kernel
theorem dX9_feed_44 : decode cX9_feed 44 = .ok (.iastore, 1) := by decide +kernel
theorem dX9_feed_45 : decode cX9_feed 45 = .ok (.aload_n 0, 1) := by decide +kernel
theorem dX9_feed_46 : decode cX9_feed 46 = .ok (.dup, 1) := by decide +kernel
theorem dX9_feed_47 : decode cX9_feed 47 = .ok (.getfield 121, 3) := by decide +kernel
theorem dX9_feed_50 : decode cX9_feed 50 = .ok (.iconst 1, 1) := by decide +kernel
theorem dX9_feed_51 : decode cX9_feed 51 = .ok (.iadd, 1) := by decide +kernel
theorem dX9_feed_52 : decode cX9_feed 52 = .ok (.putfield 121, 3) := by decide +kernel
theorem dX9_feed_55 : decode cX9_feed 55 = .ok (.aload_n 0, 1) := by decide +kernel
theorem dX9_feed_56 : decode cX9_feed 56 = .ok (.getfield 121, 3) := by decide +kernel
theorem dX9_feed_59 : decode cX9_feed 59 = .ok (.ireturn, 1) := by decide +kernel
theorem dX9_next_0 : decode cX9_next 0 = .ok (.aload_n 0, 1) := by decide +kernel
theorem dX9_next_1 : decode cX9_next 1 = .ok (.getfield 128, 3) := by decide +kernel
theorem dX9_next_4 : decode cX9_next 4 = .ok (.aload_n 0, 1) := by decide +kernel
theorem dX9_next_5 : decode cX9_next 5 = .ok (.getfield 121, 3) := by decide +kernel
theorem dX9_next_8 : decode cX9_next 8 = .ok (.if_icmp .ge 15, 3) := by decide +kernel
theorem dX9_next_11 : decode cX9_next 11 = .ok (.aload_n 0, 1) := by decide +kernel
theorem dX9_next_12 : decode cX9_next 12 = .ok (.getfield 55, 3) := by decide +kernel
theorem dX9_next_15 : decode cX9_next 15 = .ok (.aload_n 0, 1) := by decide +kernel
theorem dX9_next_16 : decode cX9_next 16 = .ok (.getfield 128, 3) := by decide +kernel
theorem dX9_next_19 : decode cX9_next 19 = .ok (.iaload, 1) := by decide +kernel
theorem dX9_next_20 : decode cX9_next 20 = .ok (.goto 4, 3) := by decide +kernel
theorem dX9_next_23 : decode cX9_next 23 = .ok (.iconst (-1), 1) := by decide +kernel
theorem dX9_next_24 : decode cX9_next 24 = .ok (.ireturn, 1) := by decide +kernel
theorem dX9_readsDigits_0 : decode cX9_readsDigits 0 = .ok (.iconst 0, 1) := by decide +kernel
theorem dX9_readsDigits_1 : decode cX9_readsDigits 1 = .ok (.istore_n 3, 1) := by decide +kernel
theorem dX9_readsDigits_2 : decode cX9_readsDigits 2 = .ok (.iconst 0, 1) := by decide +kernel
theorem dX9_readsDigits_3 : decode cX9_readsDigits 3 = .ok (.istore 4, 2) := by decide +kernel
theorem dX9_readsDigits_5 : decode cX9_readsDigits 5 = .ok (.iload 4, 2) := by decide +kernel
theorem dX9_readsDigits_7 : decode cX9_readsDigits 7 = .ok (.iload_n 2, 1) := by decide +kernel
theorem dX9_readsDigits_8 : decode cX9_readsDigits 8 = .ok (.if_icmp .ge 48, 3) := by decide +kernel
theorem dX9_readsDigits_11 : decode cX9_readsDigits 11 = .ok (.aload_n 0, 1) := by decide +kernel
theorem dX9_readsDigits_12 : decode cX9_readsDigits 12 = .ok (.invokevirtual 131, 3) := by decide +kernel
theorem dX9_readsDigits_15 : decode cX9_readsDigits 15 = .ok (.bipush 48, 2) := by decide +kernel
theorem dX9_readsDigits_17 : decode cX9_readsDigits 17 = .ok (.bipush 57, 2) := by decide +kernel
theorem dX9_readsDigits_19 : decode cX9_readsDigits 19 = .ok (.invokestatic 135, 3) := by decide +kernel
theorem dX9_readsDigits_22 : decode cX9_readsDigits 22 = .ok (.ifCond .ne 5, 3) := by decide +kernel
theorem dX9_readsDigits_25 : decode cX9_readsDigits 25 = .ok (.iconst 0, 1) := by decide +kernel
theorem dX9_readsDigits_26 : decode cX9_readsDigits 26 = .ok (.ireturn, 1) := by decide +kernel
theorem dX9_readsDigits_27 : decode cX9_readsDigits 27 = .ok (.bipush 10, 2) := by decide +kernel
theorem dX9_readsDigits_29 : decode cX9_readsDigits 29 = .ok (.iload_n 3, 1) := by decide +kernel
theorem dX9_readsDigits_30 : decode cX9_readsDigits 30 = .ok (.imul, 1) := by decide +kernel
theorem dX9_readsDigits_31 : decode cX9_readsDigits 31 = .ok (.aload_n 0, 1) := by decide +kernel
theorem dX9_readsDigits_32 : decode cX9_readsDigits 32 = .ok (.invokevirtual 131, 3) := by decide +kernel
theorem dX9_readsDigits_35 : decode cX9_readsDigits 35 = .ok (.iadd, 1) := by decide +kernel
theorem dX9_readsDigits_36 : decode cX9_readsDigits 36 = .ok (.bipush 48, 2) := by decide +kernel
theorem dX9_readsDigits_38 : decode cX9_readsDigits 38 = .ok (.isub, 1) := by decide +kernel
theorem dX9_readsDigits_39 : decode cX9_readsDigits 39 = .ok (.istore_n 3, 1) := by decide +kernel
theorem dX9_readsDigits_40 : decode cX9_readsDigits 40 = .ok (.aload_n 0, 1) := by decide +kernel
theorem dX9_readsDigits_41 : decode cX9_readsDigits 41 = .ok (.dup, 1) := by decide +kernel
theorem dX9_readsDigits_42 : decode cX9_readsDigits 42 = .ok (.getfield 128, 3) := by decide +kernel
theorem dX9_readsDigits_45 : decode cX9_readsDigits 45 = .ok (.iconst 1, 1) := by decide +kernel
theorem dX9_readsDigits_46 : decode cX9_readsDigits 46 = .ok (.iadd, 1) := by decide +kernel
theorem dX9_readsDigits_47 : decode cX9_readsDigits 47 = .ok (.putfield 128, 3) := by decide +kernel
theorem dX9_readsDigits_50 : decode cX9_readsDigits 50 = .ok (.iinc 4 1, 3) := by decide +kernel
theorem dX9_readsDigits_53 : decode cX9_readsDigits 53 = .ok (.goto (-48), 3) := by decide +kernel
theorem dX9_readsDigits_56 : decode cX9_readsDigits 56 = .ok (.aload_n 0, 1) := by decide +kernel
theorem dX9_readsDigits_57 : decode cX9_readsDigits 57 = .ok (.getfield 64, 3) := by decide +kernel
theorem dX9_readsDigits_60 : decode cX9_readsDigits 60 = .ok (.iload_n 1, 1) := by decide +kernel
theorem dX9_readsDigits_61 : decode cX9_readsDigits 61 = .ok (.iload_n 3, 1) := by decide +kernel
theorem dX9_readsDigits_62 : decode cX9_readsDigits 62 = .ok (.iastore, 1) := by decide +kernel
theorem dX9_readsDigits_63 : decode cX9_readsDigits 63 = .ok (.iconst 1, 1) := by decide +kernel
theorem dX9_readsDigits_64 : decode cX9_readsDigits 64 = .ok (.ireturn, 1) := by decide +kernel
theorem dX9_readsWind_0 : decode cX9_readsWind 0 = .ok (.aload_n 0, 1) := by decide +kernel
theorem dX9_readsWind_1 : decode cX9_readsWind 1 = .ok (.iload_n 1, 1) := by decide +kernel
theorem dX9_readsWind_2 : decode cX9_readsWind 2 = .ok (.iconst 2, 1) := by decide +kernel
theorem dX9_readsWind_3 : decode cX9_readsWind 3 = .ok (.invokevirtual 139, 3) := by decide +kernel
theorem dX9_readsWind_6 : decode cX9_readsWind 6 = .ok (.ifCond .ne 5, 3) := by decide +kernel
theorem dX9_readsWind_9 : decode cX9_readsWind 9 = .ok (.iconst 0, 1) := by decide +kernel
theorem dX9_readsWind_10 : decode cX9_readsWind 10 = .ok (.ireturn, 1) := by decide +kernel
theorem dX9_readsWind_11 : decode cX9_readsWind 11 = .ok (.aload_n 0, 1) := by decide +kernel
theorem dX9_readsWind_12 : decode cX9_readsWind 12 = .ok (.invokevirtual 131, 3) := by decide +kernel
theorem dX9_readsWind_15 : decode cX9_readsWind 15 = .ok (.bipush 43, 2) := by decide +kernel
theorem dX9_readsWind_17 : decode cX9_readsWind 17 = .ok (.if_icmp .ne 7, 3) := by decide +kernel
theorem dX9_readsWind_20 : decode cX9_readsWind 20 = .ok (.iconst 1, 1) := by decide +kernel
theorem dX9_readsWind_21 : decode cX9_readsWind 21 = .ok (.goto 17, 3) := by decide +kernel
theorem dX9_readsWind_24 : decode cX9_readsWind 24 = .ok (.aload_n 0, 1) := by decide +kernel
theorem dX9_readsWind_25 : decode cX9_readsWind 25 = .ok (.invokevirtual 131, 3) := by decide +kernel
theorem dX9_readsWind_28 : decode cX9_readsWind 28 = .ok (.bipush 45, 2) := by decide +kernel
theorem dX9_readsWind_30 : decode cX9_readsWind 30 = .ok (.if_icmp .ne 7, 3) := by decide +kernel
theorem dX9_readsWind_33 : decode cX9_readsWind 33 = .ok (.iconst (-1), 1) := by decide +kernel
theorem dX9_readsWind_34 : decode cX9_readsWind 34 = .ok (.goto 4, 3) := by decide +kernel
theorem dX9_readsWind_37 : decode cX9_readsWind 37 = .ok (.iconst 0, 1) := by decide +kernel
theorem dX9_readsWind_38 : decode cX9_readsWind 38 = .ok (.istore_n 2, 1) := by decide +kernel
theorem dX9_readsWind_39 : decode cX9_readsWind 39 = .ok (.iload_n 2, 1) := by decide +kernel
theorem dX9_readsWind_40 : decode cX9_readsWind 40 = .ok (.ifCond .ne 5, 3) := by decide +kernel
theorem dX9_readsWind_43 : decode cX9_readsWind 43 = .ok (.iconst 0, 1) := by decide +kernel
theorem dX9_readsWind_44 : decode cX9_readsWind 44 = .ok (.ireturn, 1) := by decide +kernel
theorem dX9_readsWind_45 : decode cX9_readsWind 45 = .ok (.aload_n 0, 1) := by decide +kernel
theorem dX9_readsWind_46 : decode cX9_readsWind 46 = .ok (.dup, 1) := by decide +kernel
theorem dX9_readsWind_47 : decode cX9_readsWind 47 = .ok (.getfield 128, 3) := by decide +kernel
theorem dX9_readsWind_50 : decode cX9_readsWind 50 = .ok (.iconst 1, 1) := by decide +kernel
theorem dX9_readsWind_51 : decode cX9_readsWind 51 = .ok (.iadd, 1) := by decide +kernel
theorem dX9_readsWind_52 : decode cX9_readsWind 52 = .ok (.putfield 128, 3) := by decide +kernel
theorem dX9_readsWind_55 : decode cX9_readsWind 55 = .ok (.aload_n 0, 1) := by decide +kernel
theorem dX9_readsWind_56 : decode cX9_readsWind 56 = .ok (.iload_n 1, 1) := by decide +kernel
theorem dX9_readsWind_57 : decode cX9_readsWind 57 = .ok (.iconst 1, 1) := by decide +kernel
theorem dX9_readsWind_58 : decode cX9_readsWind 58 = .ok (.iadd, 1) := by decide +kernel
theorem dX9_readsWind_59 : decode cX9_readsWind 59 = .ok (.iconst 1, 1) := by decide +kernel
theorem dX9_readsWind_60 : decode cX9_readsWind 60 = .ok (.invokevirtual 139, 3) := by decide +kernel
theorem dX9_readsWind_63 : decode cX9_readsWind 63 = .ok (.ifCond .ne 5, 3) := by decide +kernel
theorem dX9_readsWind_66 : decode cX9_readsWind 66 = .ok (.iconst 0, 1) := by decide +kernel
theorem dX9_readsWind_67 : decode cX9_readsWind 67 = .ok (.ireturn, 1) := by decide +kernel
theorem dX9_readsWind_68 : decode cX9_readsWind 68 = .ok (.aload_n 0, 1) := by decide +kernel
theorem dX9_readsWind_69 : decode cX9_readsWind 69 = .ok (.getfield 64, 3) := by decide +kernel
theorem dX9_readsWind_72 : decode cX9_readsWind 72 = .ok (.iload_n 1, 1) := by decide +kernel
theorem dX9_readsWind_73 : decode cX9_readsWind 73 = .ok (.iconst 1, 1) := by decide +kernel
theorem dX9_readsWind_74 : decode cX9_readsWind 74 = .ok (.iadd, 1) := by decide +kernel
theorem dX9_readsWind_75 : decode cX9_readsWind 75 = .ok (.dup2, 1) := by decide +kernel
theorem dX9_readsWind_76 : decode cX9_readsWind 76 = .ok (.iaload, 1) := by decide +kernel
theorem dX9_readsWind_77 : decode cX9_readsWind 77 = .ok (.iload_n 2, 1) := by decide +kernel
theorem dX9_readsWind_78 : decode cX9_readsWind 78 = .ok (.imul, 1) := by decide +kernel
theorem dX9_readsWind_79 : decode cX9_readsWind 79 = .ok (.iastore, 1) := by decide +kernel
theorem dX9_readsWind_80 : decode cX9_readsWind 80 = .ok (.iconst 1, 1) := by decide +kernel
theorem dX9_readsWind_81 : decode cX9_readsWind 81 = .ok (.ireturn, 1) := by decide +kernel
theorem dX9_readsBoat_0 : decode cX9_readsBoat 0 = .ok (.iconst 0, 1) := by decide +kernel
theorem dX9_readsBoat_1 : decode cX9_readsBoat 1 = .ok (.istore_n 2, 1) := by decide +kernel
theorem dX9_readsBoat_2 : decode cX9_readsBoat 2 = .ok (.iload_n 2, 1) := by decide +kernel
theorem dX9_readsBoat_3 : decode cX9_readsBoat 3 = .ok (.bipush 7, 2) := by decide +kernel
theorem dX9_readsBoat_5 : decode cX9_readsBoat 5 = .ok (.if_icmp .ge 31, 3) := by decide +kernel
theorem dX9_readsBoat_8 : decode cX9_readsBoat 8 = .ok (.aload_n 0, 1) := by decide +kernel
theorem dX9_readsBoat_9 : decode cX9_readsBoat 9 = .ok (.iload_n 1, 1) := by decide +kernel
theorem dX9_readsBoat_10 : decode cX9_readsBoat 10 = .ok (.iload_n 2, 1) := by decide +kernel
theorem dX9_readsBoat_11 : decode cX9_readsBoat 11 = .ok (.iadd, 1) := by decide +kernel
theorem dX9_readsBoat_12 : decode cX9_readsBoat 12 = .ok (.iload_n 2, 1) := by decide +kernel
theorem dX9_readsBoat_13 : decode cX9_readsBoat 13 = .ok (.iconst 4, 1) := by decide +kernel
theorem dX9_readsBoat_14 : decode cX9_readsBoat 14 = .ok (.if_icmp .ge 7, 3) := by decide +kernel
theorem dX9_readsBoat_17 : decode cX9_readsBoat 17 = .ok (.iconst 1, 1) := by decide +kernel
theorem dX9_readsBoat_18 : decode cX9_readsBoat 18 = .ok (.goto 4, 3) := by decide +kernel
theorem dX9_readsBoat_21 : decode cX9_readsBoat 21 = .ok (.iconst 2, 1) := by decide +kernel
theorem dX9_readsBoat_22 : decode cX9_readsBoat 22 = .ok (.invokevirtual 139, 3) := by decide +kernel
theorem dX9_readsBoat_25 : decode cX9_readsBoat 25 = .ok (.ifCond .ne 5, 3) := by decide +kernel
theorem dX9_readsBoat_28 : decode cX9_readsBoat 28 = .ok (.iconst 0, 1) := by decide +kernel
theorem dX9_readsBoat_29 : decode cX9_readsBoat 29 = .ok (.ireturn, 1) := by decide +kernel
theorem dX9_readsBoat_30 : decode cX9_readsBoat 30 = .ok (.iinc 2 1, 3) := by decide +kernel
theorem dX9_readsBoat_33 : decode cX9_readsBoat 33 = .ok (.goto (-31), 3) := by decide +kernel
theorem dX9_readsBoat_36 : decode cX9_readsBoat 36 = .ok (.iconst 1, 1) := by decide +kernel
theorem dX9_readsBoat_37 : decode cX9_readsBoat 37 = .ok (.ireturn, 1) := by decide +kernel
theorem dX9_readsAll_0 : decode cX9_readsAll 0 = .ok (.iload_n 1, 1) := by decide +kernel
theorem dX9_readsAll_1 : decode cX9_readsAll 1 = .ok (.lookupswitch 115 #[(98, 83), (108, 89), (114, 51), (116, 51), (119, 77)], 51) := by decide +kernel
theorem dX9_readsAll_52 : decode cX9_readsAll 52 = .ok (.aload_n 0, 1) := by decide +kernel
theorem dX9_readsAll_53 : decode cX9_readsAll 53 = .ok (.iload_n 2, 1) := by decide +kernel
theorem dX9_readsAll_54 : decode cX9_readsAll 54 = .ok (.iconst 2, 1) := by decide +kernel
theorem dX9_readsAll_55 : decode cX9_readsAll 55 = .ok (.invokevirtual 139, 3) := by decide +kernel
theorem dX9_readsAll_58 : decode cX9_readsAll 58 = .ok (.ifCond .eq 18, 3) := by decide +kernel
theorem dX9_readsAll_61 : decode cX9_readsAll 61 = .ok (.aload_n 0, 1) := by decide +kernel
theorem dX9_readsAll_62 : decode cX9_readsAll 62 = .ok (.iload_n 2, 1) := by decide +kernel
theorem dX9_readsAll_63 : decode cX9_readsAll 63 = .ok (.iconst 1, 1) := by decide +kernel
theorem dX9_readsAll_64 : decode cX9_readsAll 64 = .ok (.iadd, 1) := by decide +kernel
theorem dX9_readsAll_65 : decode cX9_readsAll 65 = .ok (.iconst 2, 1) := by decide +kernel
theorem dX9_readsAll_66 : decode cX9_readsAll 66 = .ok (.invokevirtual 139, 3) := by decide +kernel
theorem dX9_readsAll_69 : decode cX9_readsAll 69 = .ok (.ifCond .eq 7, 3) := by decide +kernel
theorem dX9_readsAll_72 : decode cX9_readsAll 72 = .ok (.iconst 1, 1) := by decide +kernel
theorem dX9_readsAll_73 : decode cX9_readsAll 73 = .ok (.goto 4, 3) := by decide +kernel
theorem dX9_readsAll_76 : decode cX9_readsAll 76 = .ok (.iconst 0, 1) := by decide +kernel
theorem dX9_readsAll_77 : decode cX9_readsAll 77 = .ok (.ireturn, 1) := by decide +kernel
theorem dX9_readsAll_78 : decode cX9_readsAll 78 = .ok (.aload_n 0, 1) := by decide +kernel
theorem dX9_readsAll_79 : decode cX9_readsAll 79 = .ok (.iload_n 2, 1) := by decide +kernel
theorem dX9_readsAll_80 : decode cX9_readsAll 80 = .ok (.invokevirtual 143, 3) := by decide +kernel
theorem dX9_readsAll_83 : decode cX9_readsAll 83 = .ok (.ireturn, 1) := by decide +kernel
theorem dX9_readsAll_84 : decode cX9_readsAll 84 = .ok (.aload_n 0, 1) := by decide +kernel
theorem dX9_readsAll_85 : decode cX9_readsAll 85 = .ok (.iload_n 2, 1) := by decide +kernel
theorem dX9_readsAll_86 : decode cX9_readsAll 86 = .ok (.invokevirtual 147, 3) := by decide +kernel
theorem dX9_readsAll_89 : decode cX9_readsAll 89 = .ok (.ireturn, 1) := by decide +kernel
theorem dX9_readsAll_90 : decode cX9_readsAll 90 = .ok (.aload_n 0, 1) := by decide +kernel
theorem dX9_readsAll_91 : decode cX9_readsAll 91 = .ok (.iload_n 2, 1) := by decide +kernel
theorem dX9_readsAll_92 : decode cX9_readsAll 92 = .ok (.iconst 1, 1) := by decide +kernel
theorem dX9_readsAll_93 : decode cX9_readsAll 93 = .ok (.invokevirtual 139, 3) := by decide +kernel
theorem dX9_readsAll_96 : decode cX9_readsAll 96 = .ok (.ifCond .eq 18, 3) := by decide +kernel
theorem dX9_readsAll_99 : decode cX9_readsAll 99 = .ok (.aload_n 0, 1) := by decide +kernel
theorem dX9_readsAll_100 : decode cX9_readsAll 100 = .ok (.iload_n 2, 1) := by decide +kernel
theorem dX9_readsAll_101 : decode cX9_readsAll 101 = .ok (.iconst 1, 1) := by decide +kernel
theorem dX9_readsAll_102 : decode cX9_readsAll 102 = .ok (.iadd, 1) := by decide +kernel
theorem dX9_readsAll_103 : decode cX9_readsAll 103 = .ok (.iconst 2, 1) := by decide +kernel
theorem dX9_readsAll_104 : decode cX9_readsAll 104 = .ok (.invokevirtual 139, 3) := by decide +kernel
theorem dX9_readsAll_107 : decode cX9_readsAll 107 = .ok (.ifCond .eq 7, 3) := by decide +kernel
theorem dX9_readsAll_110 : decode cX9_readsAll 110 = .ok (.iconst 1, 1) := by decide +kernel
theorem dX9_readsAll_111 : decode cX9_readsAll 111 = .ok (.goto 4, 3) := by decide +kernel
theorem dX9_readsAll_114 : decode cX9_readsAll 114 = .ok (.iconst 0, 1) := by decide +kernel
theorem dX9_readsAll_115 : decode cX9_readsAll 115 = .ok (.ireturn, 1) := by decide +kernel
theorem dX9_readsAll_116 : decode cX9_readsAll 116 = .ok (.aload_n 0, 1) := by decide +kernel
theorem dX9_readsAll_117 : decode cX9_readsAll 117 = .ok (.iload_n 2, 1) := by decide +kernel
theorem dX9_readsAll_118 : decode cX9_readsAll 118 = .ok (.iconst 2, 1) := by decide +kernel
theorem dX9_readsAll_119 : decode cX9_readsAll 119 = .ok (.invokevirtual 139, 3) := by decide +kernel
theorem dX9_readsAll_122 : decode cX9_readsAll 122 = .ok (.ireturn, 1) := by decide +kernel
theorem dX9_statement_0 : decode cX9_statement 0 = .ok (.aload_n 0, 1) := by decide +kernel
theorem dX9_statement_1 : decode cX9_statement 1 = .ok (.invokevirtual 131, 3) := by decide +kernel
theorem dX9_statement_4 : decode cX9_statement 4 = .ok (.istore_n 1, 1) := by decide +kernel
theorem dX9_statement_5 : decode cX9_statement 5 = .ok (.iload_n 1, 1) := by decide +kernel
theorem dX9_statement_6 : decode cX9_statement 6 = .ok (.bipush 116, 2) := by decide +kernel
theorem dX9_statement_8 : decode cX9_statement 8 = .ok (.if_icmp .eq 35, 3) := by decide +kernel
theorem dX9_statement_11 : decode cX9_statement 11 = .ok (.iload_n 1, 1) := by decide +kernel
theorem dX9_statement_12 : decode cX9_statement 12 = .ok (.bipush 119, 2) := by decide +kernel
theorem dX9_statement_14 : decode cX9_statement 14 = .ok (.if_icmp .eq 29, 3) := by decide +kernel
theorem dX9_statement_17 : decode cX9_statement 17 = .ok (.iload_n 1, 1) := by decide +kernel
theorem dX9_statement_18 : decode cX9_statement 18 = .ok (.bipush 114, 2) := by decide +kernel
theorem dX9_statement_20 : decode cX9_statement 20 = .ok (.if_icmp .eq 23, 3) := by decide +kernel
theorem dX9_statement_23 : decode cX9_statement 23 = .ok (.iload_n 1, 1) := by decide +kernel
theorem dX9_statement_24 : decode cX9_statement 24 = .ok (.bipush 98, 2) := by decide +kernel
theorem dX9_statement_26 : decode cX9_statement 26 = .ok (.if_icmp .eq 17, 3) := by decide +kernel
theorem dX9_statement_29 : decode cX9_statement 29 = .ok (.iload_n 1, 1) := by decide +kernel
theorem dX9_statement_30 : decode cX9_statement 30 = .ok (.bipush 108, 2) := by decide +kernel
theorem dX9_statement_32 : decode cX9_statement 32 = .ok (.if_icmp .eq 11, 3) := by decide +kernel
theorem dX9_statement_35 : decode cX9_statement 35 = .ok (.iload_n 1, 1) := by decide +kernel
theorem dX9_statement_36 : decode cX9_statement 36 = .ok (.bipush 101, 2) := by decide +kernel
theorem dX9_statement_38 : decode cX9_statement 38 = .ok (.if_icmp .eq 5, 3) := by decide +kernel
theorem dX9_statement_41 : decode cX9_statement 41 = .ok (.iconst 0, 1) := by decide +kernel
theorem dX9_statement_42 : decode cX9_statement 42 = .ok (.ireturn, 1) := by decide +kernel
theorem dX9_statement_43 : decode cX9_statement 43 = .ok (.aload_n 0, 1) := by decide +kernel
theorem dX9_statement_44 : decode cX9_statement 44 = .ok (.getfield 58, 3) := by decide +kernel
theorem dX9_statement_47 : decode cX9_statement 47 = .ok (.aload_n 0, 1) := by decide +kernel
theorem dX9_statement_48 : decode cX9_statement 48 = .ok (.getfield 150, 3) := by decide +kernel
theorem dX9_statement_51 : decode cX9_statement 51 = .ok (.iload_n 1, 1) := by decide +kernel
theorem dX9_statement_52 : decode cX9_statement 52 = .ok (.iastore, 1) := by decide +kernel
theorem dX9_statement_53 : decode cX9_statement 53 = .ok (.aload_n 0, 1) := by decide +kernel
theorem dX9_statement_54 : decode cX9_statement 54 = .ok (.getfield 61, 3) := by decide +kernel
theorem dX9_statement_57 : decode cX9_statement 57 = .ok (.aload_n 0, 1) := by decide +kernel
theorem dX9_statement_58 : decode cX9_statement 58 = .ok (.getfield 150, 3) := by decide +kernel
theorem dX9_statement_61 : decode cX9_statement 61 = .ok (.aload_n 0, 1) := by decide +kernel
theorem dX9_statement_62 : decode cX9_statement 62 = .ok (.getfield 128, 3) := by decide +kernel
theorem dX9_statement_65 : decode cX9_statement 65 = .ok (.iastore, 1) := by decide +kernel
theorem dX9_statement_66 : decode cX9_statement 66 = .ok (.aload_n 0, 1) := by decide +kernel
theorem dX9_statement_67 : decode cX9_statement 67 = .ok (.dup, 1) := by decide +kernel
theorem dX9_statement_68 : decode cX9_statement 68 = .ok (.getfield 128, 3) := by decide +kernel
theorem dX9_statement_71 : decode cX9_statement 71 = .ok (.iconst 1, 1) := by decide +kernel
theorem dX9_statement_72 : decode cX9_statement 72 = .ok (.iadd, 1) := by decide +kernel
theorem dX9_statement_73 : decode cX9_statement 73 = .ok (.putfield 128, 3) := by decide +kernel
theorem dX9_statement_76 : decode cX9_statement 76 = .ok (.aload_n 0, 1) := by decide +kernel
theorem dX9_statement_77 : decode cX9_statement 77 = .ok (.iload_n 1, 1) := by decide +kernel
theorem dX9_statement_78 : decode cX9_statement 78 = .ok (.bipush 7, 2) := by decide +kernel
theorem dX9_statement_80 : decode cX9_statement 80 = .ok (.aload_n 0, 1) := by decide +kernel
theorem dX9_statement_81 : decode cX9_statement 81 = .ok (.getfield 150, 3) := by decide +kernel
theorem dX9_statement_84 : decode cX9_statement 84 = .ok (.imul, 1) := by decide +kernel
theorem dX9_statement_85 : decode cX9_statement 85 = .ok (.invokevirtual 153, 3) := by decide +kernel
theorem dX9_statement_88 : decode cX9_statement 88 = .ok (.ifCond .eq 12, 3) := by decide +kernel
theorem dX9_statement_91 : decode cX9_statement 91 = .ok (.aload_n 0, 1) := by decide +kernel
theorem dX9_statement_92 : decode cX9_statement 92 = .ok (.invokevirtual 131, 3) := by decide +kernel
theorem dX9_statement_95 : decode cX9_statement 95 = .ok (.bipush 59, 2) := by decide +kernel
theorem dX9_statement_97 : decode cX9_statement 97 = .ok (.if_icmp .eq 5, 3) := by decide +kernel
theorem dX9_statement_100 : decode cX9_statement 100 = .ok (.iconst 0, 1) := by decide +kernel
theorem dX9_statement_101 : decode cX9_statement 101 = .ok (.ireturn, 1) := by decide +kernel
theorem dX9_statement_102 : decode cX9_statement 102 = .ok (.aload_n 0, 1) := by decide +kernel
theorem dX9_statement_103 : decode cX9_statement 103 = .ok (.dup, 1) := by decide +kernel
theorem dX9_statement_104 : decode cX9_statement 104 = .ok (.getfield 128, 3) := by decide +kernel
theorem dX9_statement_107 : decode cX9_statement 107 = .ok (.iconst 1, 1) := by decide +kernel
theorem dX9_statement_108 : decode cX9_statement 108 = .ok (.iadd, 1) := by decide +kernel
theorem dX9_statement_109 : decode cX9_statement 109 = .ok (.putfield 128, 3) := by decide +kernel
theorem dX9_statement_112 : decode cX9_statement 112 = .ok (.iconst 1, 1) := by decide +kernel
theorem dX9_statement_113 : decode cX9_statement 113 = .ok (.ireturn, 1) := by decide +kernel
theorem dX9_comesRing_0 : decode cX9_comesRing 0 = .ok (.aload_n 0, 1) := by decide +kernel
theorem dX9_comesRing_1 : decode cX9_comesRing 1 = .ok (.getfield 64, 3) := by decide +kernel
theorem dX9_comesRing_4 : decode cX9_comesRing 4 = .ok (.iload_n 1, 1) := by decide +kernel
theorem dX9_comesRing_5 : decode cX9_comesRing 5 = .ok (.iconst 1, 1) := by decide +kernel
theorem dX9_comesRing_6 : decode cX9_comesRing 6 = .ok (.iadd, 1) := by decide +kernel
theorem dX9_comesRing_7 : decode cX9_comesRing 7 = .ok (.iaload, 1) := by decide +kernel
theorem dX9_comesRing_8 : decode cX9_comesRing 8 = .ok (.bipush 60, 2) := by decide +kernel
theorem dX9_comesRing_10 : decode cX9_comesRing 10 = .ok (.if_icmp .gt 12, 3) := by decide +kernel
theorem dX9_comesRing_13 : decode cX9_comesRing 13 = .ok (.aload_n 0, 1) := by decide +kernel
theorem dX9_comesRing_14 : decode cX9_comesRing 14 = .ok (.getfield 110, 3) := by decide +kernel
theorem dX9_comesRing_17 : decode cX9_comesRing 17 = .ok (.bipush 6, 2) := by decide +kernel
theorem dX9_comesRing_19 : decode cX9_comesRing 19 = .ok (.if_icmp .ne 5, 3) := by decide +kernel
theorem dX9_comesRing_22 : decode cX9_comesRing 22 = .ok (.iconst 0, 1) := by decide +kernel
theorem dX9_comesRing_23 : decode cX9_comesRing 23 = .ok (.ireturn, 1) := by decide +kernel
theorem dX9_comesRing_24 : decode cX9_comesRing 24 = .ok (.aload_n 0, 1) := by decide +kernel
theorem dX9_comesRing_25 : decode cX9_comesRing 25 = .ok (.getfield 19, 3) := by decide +kernel
theorem dX9_comesRing_28 : decode cX9_comesRing 28 = .ok (.aload_n 0, 1) := by decide +kernel
theorem dX9_comesRing_29 : decode cX9_comesRing 29 = .ok (.getfield 110, 3) := by decide +kernel
theorem dX9_comesRing_32 : decode cX9_comesRing 32 = .ok (.aload_n 0, 1) := by decide +kernel
theorem dX9_comesRing_33 : decode cX9_comesRing 33 = .ok (.getfield 64, 3) := by decide +kernel
theorem dX9_comesRing_36 : decode cX9_comesRing 36 = .ok (.iload_n 1, 1) := by decide +kernel
theorem dX9_comesRing_37 : decode cX9_comesRing 37 = .ok (.iaload, 1) := by decide +kernel
theorem dX9_comesRing_38 : decode cX9_comesRing 38 = .ok (.iastore, 1) := by decide +kernel
theorem dX9_comesRing_39 : decode cX9_comesRing 39 = .ok (.aload_n 0, 1) := by decide +kernel
theorem dX9_comesRing_40 : decode cX9_comesRing 40 = .ok (.getfield 22, 3) := by decide +kernel
theorem dX9_comesRing_43 : decode cX9_comesRing 43 = .ok (.aload_n 0, 1) := by decide +kernel
theorem dX9_comesRing_44 : decode cX9_comesRing 44 = .ok (.getfield 110, 3) := by decide +kernel
theorem dX9_comesRing_47 : decode cX9_comesRing 47 = .ok (.aload_n 0, 1) := by decide +kernel
theorem dX9_comesRing_48 : decode cX9_comesRing 48 = .ok (.getfield 64, 3) := by decide +kernel
theorem dX9_comesRing_51 : decode cX9_comesRing 51 = .ok (.iload_n 1, 1) := by decide +kernel
theorem dX9_comesRing_52 : decode cX9_comesRing 52 = .ok (.iconst 1, 1) := by decide +kernel
theorem dX9_comesRing_53 : decode cX9_comesRing 53 = .ok (.iadd, 1) := by decide +kernel
theorem dX9_comesRing_54 : decode cX9_comesRing 54 = .ok (.iaload, 1) := by decide +kernel
theorem dX9_comesRing_55 : decode cX9_comesRing 55 = .ok (.iastore, 1) := by decide +kernel
theorem dX9_comesRing_56 : decode cX9_comesRing 56 = .ok (.aload_n 0, 1) := by decide +kernel
theorem dX9_comesRing_57 : decode cX9_comesRing 57 = .ok (.dup, 1) := by decide +kernel
theorem dX9_comesRing_58 : decode cX9_comesRing 58 = .ok (.getfield 110, 3) := by decide +kernel
theorem dX9_comesRing_61 : decode cX9_comesRing 61 = .ok (.iconst 1, 1) := by decide +kernel
theorem dX9_comesRing_62 : decode cX9_comesRing 62 = .ok (.iadd, 1) := by decide +kernel
theorem dX9_comesRing_63 : decode cX9_comesRing 63 = .ok (.putfield 110, 3) := by decide +kernel
theorem dX9_comesRing_66 : decode cX9_comesRing 66 = .ok (.iconst 1, 1) := by decide +kernel
theorem dX9_comesRing_67 : decode cX9_comesRing 67 = .ok (.ireturn, 1) := by decide +kernel
theorem dX9_comesBoat_0 : decode cX9_comesBoat 0 = .ok (.aload_n 0, 1) := by decide +kernel
theorem dX9_comesBoat_1 : decode cX9_comesBoat 1 = .ok (.getfield 64, 3) := by decide +kernel
theorem dX9_comesBoat_4 : decode cX9_comesBoat 4 = .ok (.iload_n 1, 1) := by decide +kernel
theorem dX9_comesBoat_5 : decode cX9_comesBoat 5 = .ok (.iaload, 1) := by decide +kernel
theorem dX9_comesBoat_6 : decode cX9_comesBoat 6 = .ok (.iconst 5, 1) := by decide +kernel
theorem dX9_comesBoat_7 : decode cX9_comesBoat 7 = .ok (.if_icmp .gt 58, 3) := by decide +kernel
theorem dX9_comesBoat_10 : decode cX9_comesBoat 10 = .ok (.aload_n 0, 1) := by decide +kernel
theorem dX9_comesBoat_11 : decode cX9_comesBoat 11 = .ok (.aload_n 0, 1) := by decide +kernel
theorem dX9_comesBoat_12 : decode cX9_comesBoat 12 = .ok (.getfield 64, 3) := by decide +kernel
theorem dX9_comesBoat_15 : decode cX9_comesBoat 15 = .ok (.iload_n 1, 1) := by decide +kernel
theorem dX9_comesBoat_16 : decode cX9_comesBoat 16 = .ok (.iconst 2, 1) := by decide +kernel
theorem dX9_comesBoat_17 : decode cX9_comesBoat 17 = .ok (.iadd, 1) := by decide +kernel
theorem dX9_comesBoat_18 : decode cX9_comesBoat 18 = .ok (.iaload, 1) := by decide +kernel
theorem dX9_comesBoat_19 : decode cX9_comesBoat 19 = .ok (.invokevirtual 156, 3) := by decide +kernel
theorem dX9_comesBoat_22 : decode cX9_comesBoat 22 = .ok (.ifCond .eq 43, 3) := by decide +kernel
theorem dX9_comesBoat_25 : decode cX9_comesBoat 25 = .ok (.aload_n 0, 1) := by decide +kernel
theorem dX9_comesBoat_26 : decode cX9_comesBoat 26 = .ok (.aload_n 0, 1) := by decide +kernel
theorem dX9_comesBoat_27 : decode cX9_comesBoat 27 = .ok (.getfield 64, 3) := by decide +kernel
theorem dX9_comesBoat_30 : decode cX9_comesBoat 30 = .ok (.iload_n 1, 1) := by decide +kernel
theorem dX9_comesBoat_31 : decode cX9_comesBoat 31 = .ok (.iconst 3, 1) := by decide +kernel
theorem dX9_comesBoat_32 : decode cX9_comesBoat 32 = .ok (.iadd, 1) := by decide +kernel
theorem dX9_comesBoat_33 : decode cX9_comesBoat 33 = .ok (.iaload, 1) := by decide +kernel
theorem dX9_comesBoat_34 : decode cX9_comesBoat 34 = .ok (.invokevirtual 156, 3) := by decide +kernel
theorem dX9_comesBoat_37 : decode cX9_comesBoat 37 = .ok (.ifCond .eq 28, 3) := by decide +kernel
theorem dX9_comesBoat_40 : decode cX9_comesBoat 40 = .ok (.aload_n 0, 1) := by decide +kernel
theorem dX9_comesBoat_41 : decode cX9_comesBoat 41 = .ok (.getfield 64, 3) := by decide +kernel
theorem dX9_comesBoat_44 : decode cX9_comesBoat 44 = .ok (.iload_n 1, 1) := by decide +kernel
theorem dX9_comesBoat_45 : decode cX9_comesBoat 45 = .ok (.iconst 5, 1) := by decide +kernel
theorem dX9_comesBoat_46 : decode cX9_comesBoat 46 = .ok (.iadd, 1) := by decide +kernel
theorem dX9_comesBoat_47 : decode cX9_comesBoat 47 = .ok (.iaload, 1) := by decide +kernel
theorem dX9_comesBoat_48 : decode cX9_comesBoat 48 = .ok (.iconst 1, 1) := by decide +kernel
theorem dX9_comesBoat_49 : decode cX9_comesBoat 49 = .ok (.bipush 20, 2) := by decide +kernel
theorem dX9_comesBoat_51 : decode cX9_comesBoat 51 = .ok (.invokestatic 135, 3) := by decide +kernel
theorem dX9_comesBoat_54 : decode cX9_comesBoat 54 = .ok (.ifCond .eq 11, 3) := by decide +kernel
theorem dX9_comesBoat_57 : decode cX9_comesBoat 57 = .ok (.aload_n 0, 1) := by decide +kernel
theorem dX9_comesBoat_58 : decode cX9_comesBoat 58 = .ok (.getfield 114, 3) := by decide +kernel
theorem dX9_comesBoat_61 : decode cX9_comesBoat 61 = .ok (.iconst 5, 1) := by decide +kernel
theorem dX9_comesBoat_62 : decode cX9_comesBoat 62 = .ok (.if_icmp .ne 5, 3) := by decide +kernel
theorem dX9_comesBoat_65 : decode cX9_comesBoat 65 = .ok (.iconst 0, 1) := by decide +kernel
theorem dX9_comesBoat_66 : decode cX9_comesBoat 66 = .ok (.ireturn, 1) := by decide +kernel
theorem dX9_comesBoat_67 : decode cX9_comesBoat 67 = .ok (.aload_n 0, 1) := by decide +kernel
theorem dX9_comesBoat_68 : decode cX9_comesBoat 68 = .ok (.getfield 28, 3) := by decide +kernel
theorem dX9_comesBoat_71 : decode cX9_comesBoat 71 = .ok (.aload_n 0, 1) := by decide +kernel
theorem dX9_comesBoat_72 : decode cX9_comesBoat 72 = .ok (.getfield 114, 3) := by decide +kernel
theorem dX9_comesBoat_75 : decode cX9_comesBoat 75 = .ok (.aload_n 0, 1) := by decide +kernel
theorem dX9_comesBoat_76 : decode cX9_comesBoat 76 = .ok (.getfield 64, 3) := by decide +kernel
theorem dX9_comesBoat_79 : decode cX9_comesBoat 79 = .ok (.iload_n 1, 1) := by decide +kernel
theorem dX9_comesBoat_80 : decode cX9_comesBoat 80 = .ok (.iaload, 1) := by decide +kernel
theorem dX9_comesBoat_81 : decode cX9_comesBoat 81 = .ok (.iastore, 1) := by decide +kernel
theorem dX9_comesBoat_82 : decode cX9_comesBoat 82 = .ok (.aload_n 0, 1) := by decide +kernel
theorem dX9_comesBoat_83 : decode cX9_comesBoat 83 = .ok (.getfield 31, 3) := by decide +kernel
theorem dX9_comesBoat_86 : decode cX9_comesBoat 86 = .ok (.aload_n 0, 1) := by decide +kernel
theorem dX9_comesBoat_87 : decode cX9_comesBoat 87 = .ok (.getfield 114, 3) := by decide +kernel
theorem dX9_comesBoat_90 : decode cX9_comesBoat 90 = .ok (.aload_n 0, 1) := by decide +kernel
theorem dX9_comesBoat_91 : decode cX9_comesBoat 91 = .ok (.getfield 64, 3) := by decide +kernel
theorem dX9_comesBoat_94 : decode cX9_comesBoat 94 = .ok (.iload_n 1, 1) := by decide +kernel
theorem dX9_comesBoat_95 : decode cX9_comesBoat 95 = .ok (.iconst 1, 1) := by decide +kernel
theorem dX9_comesBoat_96 : decode cX9_comesBoat 96 = .ok (.iadd, 1) := by decide +kernel
theorem dX9_comesBoat_97 : decode cX9_comesBoat 97 = .ok (.iaload, 1) := by decide +kernel
theorem dX9_comesBoat_98 : decode cX9_comesBoat 98 = .ok (.iastore, 1) := by decide +kernel
theorem dX9_comesBoat_99 : decode cX9_comesBoat 99 = .ok (.aload_n 0, 1) := by decide +kernel
theorem dX9_comesBoat_100 : decode cX9_comesBoat 100 = .ok (.getfield 34, 3) := by decide +kernel
theorem dX9_comesBoat_103 : decode cX9_comesBoat 103 = .ok (.aload_n 0, 1) := by decide +kernel
theorem dX9_comesBoat_104 : decode cX9_comesBoat 104 = .ok (.getfield 114, 3) := by decide +kernel
theorem dX9_comesBoat_107 : decode cX9_comesBoat 107 = .ok (.aload_n 0, 1) := by decide +kernel
theorem dX9_comesBoat_108 : decode cX9_comesBoat 108 = .ok (.getfield 64, 3) := by decide +kernel
theorem dX9_comesBoat_111 : decode cX9_comesBoat 111 = .ok (.iload_n 1, 1) := by decide +kernel
theorem dX9_comesBoat_112 : decode cX9_comesBoat 112 = .ok (.iconst 2, 1) := by decide +kernel
theorem dX9_comesBoat_113 : decode cX9_comesBoat 113 = .ok (.iadd, 1) := by decide +kernel
theorem dX9_comesBoat_114 : decode cX9_comesBoat 114 = .ok (.iaload, 1) := by decide +kernel
theorem dX9_comesBoat_115 : decode cX9_comesBoat 115 = .ok (.iastore, 1) := by decide +kernel
theorem dX9_comesBoat_116 : decode cX9_comesBoat 116 = .ok (.aload_n 0, 1) := by decide +kernel
theorem dX9_comesBoat_117 : decode cX9_comesBoat 117 = .ok (.getfield 37, 3) := by decide +kernel
theorem dX9_comesBoat_120 : decode cX9_comesBoat 120 = .ok (.aload_n 0, 1) := by decide +kernel
theorem dX9_comesBoat_121 : decode cX9_comesBoat 121 = .ok (.getfield 114, 3) := by decide +kernel
theorem dX9_comesBoat_124 : decode cX9_comesBoat 124 = .ok (.aload_n 0, 1) := by decide +kernel
theorem dX9_comesBoat_125 : decode cX9_comesBoat 125 = .ok (.getfield 64, 3) := by decide +kernel
theorem dX9_comesBoat_128 : decode cX9_comesBoat 128 = .ok (.iload_n 1, 1) := by decide +kernel
theorem dX9_comesBoat_129 : decode cX9_comesBoat 129 = .ok (.iconst 3, 1) := by decide +kernel
theorem dX9_comesBoat_130 : decode cX9_comesBoat 130 = .ok (.iadd, 1) := by decide +kernel
theorem dX9_comesBoat_131 : decode cX9_comesBoat 131 = .ok (.iaload, 1) := by decide +kernel
theorem dX9_comesBoat_132 : decode cX9_comesBoat 132 = .ok (.iastore, 1) := by decide +kernel
theorem dX9_comesBoat_133 : decode cX9_comesBoat 133 = .ok (.aload_n 0, 1) := by decide +kernel
theorem dX9_comesBoat_134 : decode cX9_comesBoat 134 = .ok (.getfield 40, 3) := by decide +kernel
theorem dX9_comesBoat_137 : decode cX9_comesBoat 137 = .ok (.aload_n 0, 1) := by decide +kernel
theorem dX9_comesBoat_138 : decode cX9_comesBoat 138 = .ok (.getfield 114, 3) := by decide +kernel
theorem dX9_comesBoat_141 : decode cX9_comesBoat 141 = .ok (.aload_n 0, 1) := by decide +kernel
theorem dX9_comesBoat_142 : decode cX9_comesBoat 142 = .ok (.getfield 64, 3) := by decide +kernel
theorem dX9_comesBoat_145 : decode cX9_comesBoat 145 = .ok (.iload_n 1, 1) := by decide +kernel
theorem dX9_comesBoat_146 : decode cX9_comesBoat 146 = .ok (.iconst 4, 1) := by decide +kernel
theorem dX9_comesBoat_147 : decode cX9_comesBoat 147 = .ok (.iadd, 1) := by decide +kernel
theorem dX9_comesBoat_148 : decode cX9_comesBoat 148 = .ok (.iaload, 1) := by decide +kernel
theorem dX9_comesBoat_149 : decode cX9_comesBoat 149 = .ok (.iastore, 1) := by decide +kernel
theorem dX9_comesBoat_150 : decode cX9_comesBoat 150 = .ok (.aload_n 0, 1) := by decide +kernel
theorem dX9_comesBoat_151 : decode cX9_comesBoat 151 = .ok (.getfield 43, 3) := by decide +kernel
theorem dX9_comesBoat_154 : decode cX9_comesBoat 154 = .ok (.aload_n 0, 1) := by decide +kernel
theorem dX9_comesBoat_155 : decode cX9_comesBoat 155 = .ok (.getfield 114, 3) := by decide +kernel
theorem dX9_comesBoat_158 : decode cX9_comesBoat 158 = .ok (.aload_n 0, 1) := by decide +kernel
theorem dX9_comesBoat_159 : decode cX9_comesBoat 159 = .ok (.getfield 64, 3) := by decide +kernel
theorem dX9_comesBoat_162 : decode cX9_comesBoat 162 = .ok (.iload_n 1, 1) := by decide +kernel
theorem dX9_comesBoat_163 : decode cX9_comesBoat 163 = .ok (.iconst 5, 1) := by decide +kernel
theorem dX9_comesBoat_164 : decode cX9_comesBoat 164 = .ok (.iadd, 1) := by decide +kernel
theorem dX9_comesBoat_165 : decode cX9_comesBoat 165 = .ok (.iaload, 1) := by decide +kernel
theorem dX9_comesBoat_166 : decode cX9_comesBoat 166 = .ok (.iastore, 1) := by decide +kernel
theorem dX9_comesBoat_167 : decode cX9_comesBoat 167 = .ok (.aload_n 0, 1) := by decide +kernel
theorem dX9_comesBoat_168 : decode cX9_comesBoat 168 = .ok (.getfield 46, 3) := by decide +kernel
theorem dX9_comesBoat_171 : decode cX9_comesBoat 171 = .ok (.aload_n 0, 1) := by decide +kernel
theorem dX9_comesBoat_172 : decode cX9_comesBoat 172 = .ok (.getfield 114, 3) := by decide +kernel
theorem dX9_comesBoat_175 : decode cX9_comesBoat 175 = .ok (.aload_n 0, 1) := by decide +kernel
theorem dX9_comesBoat_176 : decode cX9_comesBoat 176 = .ok (.getfield 64, 3) := by decide +kernel
theorem dX9_comesBoat_179 : decode cX9_comesBoat 179 = .ok (.iload_n 1, 1) := by decide +kernel
theorem dX9_comesBoat_180 : decode cX9_comesBoat 180 = .ok (.bipush 6, 2) := by decide +kernel
theorem dX9_comesBoat_182 : decode cX9_comesBoat 182 = .ok (.iadd, 1) := by decide +kernel
theorem dX9_comesBoat_183 : decode cX9_comesBoat 183 = .ok (.iaload, 1) := by decide +kernel
theorem dX9_comesBoat_184 : decode cX9_comesBoat 184 = .ok (.iastore, 1) := by decide +kernel
theorem dX9_comesBoat_185 : decode cX9_comesBoat 185 = .ok (.aload_n 0, 1) := by decide +kernel
theorem dX9_comesBoat_186 : decode cX9_comesBoat 186 = .ok (.dup, 1) := by decide +kernel
theorem dX9_comesBoat_187 : decode cX9_comesBoat 187 = .ok (.getfield 114, 3) := by decide +kernel
theorem dX9_comesBoat_190 : decode cX9_comesBoat 190 = .ok (.iconst 1, 1) := by decide +kernel
theorem dX9_comesBoat_191 : decode cX9_comesBoat 191 = .ok (.iadd, 1) := by decide +kernel
theorem dX9_comesBoat_192 : decode cX9_comesBoat 192 = .ok (.putfield 114, 3) := by decide +kernel
theorem dX9_comesBoat_195 : decode cX9_comesBoat 195 = .ok (.iconst 1, 1) := by decide +kernel
theorem dX9_comesBoat_196 : decode cX9_comesBoat 196 = .ok (.ireturn, 1) := by decide +kernel
theorem dX9_comes_0 : decode cX9_comes 0 = .ok (.bipush 7, 2) := by decide +kernel
theorem dX9_comes_2 : decode cX9_comes 2 = .ok (.iload_n 1, 1) := by decide +kernel
theorem dX9_comes_3 : decode cX9_comes 3 = .ok (.imul, 1) := by decide +kernel
theorem dX9_comes_4 : decode cX9_comes 4 = .ok (.istore_n 2, 1) := by decide +kernel
theorem dX9_comes_5 : decode cX9_comes 5 = .ok (.aload_n 0, 1) := by decide +kernel
theorem dX9_comes_6 : decode cX9_comes 6 = .ok (.getfield 64, 3) := by decide +kernel
theorem dX9_comes_9 : decode cX9_comes 9 = .ok (.iload_n 2, 1) := by decide +kernel
theorem dX9_comes_10 : decode cX9_comes 10 = .ok (.iaload, 1) := by decide +kernel
theorem dX9_comes_11 : decode cX9_comes 11 = .ok (.istore_n 3, 1) := by decide +kernel
theorem dX9_comes_12 : decode cX9_comes 12 = .ok (.aload_n 0, 1) := by decide +kernel
theorem dX9_comes_13 : decode cX9_comes 13 = .ok (.getfield 64, 3) := by decide +kernel
theorem dX9_comes_16 : decode cX9_comes 16 = .ok (.iload_n 2, 1) := by decide +kernel
theorem dX9_comes_17 : decode cX9_comes 17 = .ok (.iconst 1, 1) := by decide +kernel
theorem dX9_comes_18 : decode cX9_comes 18 = .ok (.iadd, 1) := by decide +kernel
theorem dX9_comes_19 : decode cX9_comes 19 = .ok (.iaload, 1) := by decide +kernel
theorem dX9_comes_20 : decode cX9_comes 20 = .ok (.istore 4, 2) := by decide +kernel
theorem dX9_comes_22 : decode cX9_comes 22 = .ok (.aload_n 0, 1) := by decide +kernel
theorem dX9_comes_23 : decode cX9_comes 23 = .ok (.getfield 58, 3) := by decide +kernel
theorem dX9_comes_26 : decode cX9_comes 26 = .ok (.iload_n 1, 1) := by decide +kernel
theorem dX9_comes_27 : decode cX9_comes 27 = .ok (.iaload, 1) := by decide +kernel
theorem dX9_comes_28 : decode cX9_comes 28 = .ok (.lookupswitch 129 #[(98, 103), (108, 109), (114, 97), (116, 52), (119, 78)], 52) := by decide +kernel
theorem dX9_comes_80 : decode cX9_comes 80 = .ok (.iload_n 3, 1) := by decide +kernel
theorem dX9_comes_81 : decode cX9_comes 81 = .ok (.invokestatic 159, 3) := by decide +kernel
theorem dX9_comes_84 : decode cX9_comes 84 = .ok (.ifCond .eq 10, 3) := by decide +kernel
theorem dX9_comes_87 : decode cX9_comes 87 = .ok (.iload 4, 2) := by decide +kernel
theorem dX9_comes_89 : decode cX9_comes 89 = .ok (.bipush 40, 2) := by decide +kernel
theorem dX9_comes_91 : decode cX9_comes 91 = .ok (.if_icmp .le 5, 3) := by decide +kernel
theorem dX9_comes_94 : decode cX9_comes 94 = .ok (.iconst 0, 1) := by decide +kernel
theorem dX9_comes_95 : decode cX9_comes 95 = .ok (.ireturn, 1) := by decide +kernel
theorem dX9_comes_96 : decode cX9_comes 96 = .ok (.aload_n 0, 1) := by decide +kernel
theorem dX9_comes_97 : decode cX9_comes 97 = .ok (.getfield 13, 3) := by decide +kernel
theorem dX9_comes_100 : decode cX9_comes 100 = .ok (.iload_n 3, 1) := by decide +kernel
theorem dX9_comes_101 : decode cX9_comes 101 = .ok (.iload 4, 2) := by decide +kernel
theorem dX9_comes_103 : decode cX9_comes 103 = .ok (.iastore, 1) := by decide +kernel
theorem dX9_comes_104 : decode cX9_comes 104 = .ok (.iconst 1, 1) := by decide +kernel
theorem dX9_comes_105 : decode cX9_comes 105 = .ok (.ireturn, 1) := by decide +kernel
theorem dX9_comes_106 : decode cX9_comes 106 = .ok (.iload_n 3, 1) := by decide +kernel
theorem dX9_comes_107 : decode cX9_comes 107 = .ok (.invokestatic 159, 3) := by decide +kernel
theorem dX9_comes_110 : decode cX9_comes 110 = .ok (.ifCond .ne 5, 3) := by decide +kernel
theorem dX9_comes_113 : decode cX9_comes 113 = .ok (.iconst 0, 1) := by decide +kernel
theorem dX9_comes_114 : decode cX9_comes 114 = .ok (.ireturn, 1) := by decide +kernel
theorem dX9_comes_115 : decode cX9_comes 115 = .ok (.aload_n 0, 1) := by decide +kernel
theorem dX9_comes_116 : decode cX9_comes 116 = .ok (.getfield 16, 3) := by decide +kernel
theorem dX9_comes_119 : decode cX9_comes 119 = .ok (.iload_n 3, 1) := by decide +kernel
theorem dX9_comes_120 : decode cX9_comes 120 = .ok (.iload 4, 2) := by decide +kernel
theorem dX9_comes_122 : decode cX9_comes 122 = .ok (.iastore, 1) := by decide +kernel
theorem dX9_comes_123 : decode cX9_comes 123 = .ok (.iconst 1, 1) := by decide +kernel
theorem dX9_comes_124 : decode cX9_comes 124 = .ok (.ireturn, 1) := by decide +kernel
theorem dX9_comes_125 : decode cX9_comes 125 = .ok (.aload_n 0, 1) := by decide +kernel
theorem dX9_comes_126 : decode cX9_comes 126 = .ok (.iload_n 2, 1) := by decide +kernel
theorem dX9_comes_127 : decode cX9_comes 127 = .ok (.invokevirtual 162, 3) := by decide +kernel
theorem dX9_comes_130 : decode cX9_comes 130 = .ok (.ireturn, 1) := by decide +kernel
theorem dX9_comes_131 : decode cX9_comes 131 = .ok (.aload_n 0, 1) := by decide +kernel
theorem dX9_comes_132 : decode cX9_comes 132 = .ok (.iload_n 2, 1) := by decide +kernel
theorem dX9_comes_133 : decode cX9_comes 133 = .ok (.invokevirtual 165, 3) := by decide +kernel
theorem dX9_comes_136 : decode cX9_comes 136 = .ok (.ireturn, 1) := by decide +kernel
theorem dX9_comes_137 : decode cX9_comes 137 = .ok (.aload_n 0, 1) := by decide +kernel
theorem dX9_comes_138 : decode cX9_comes 138 = .ok (.iload_n 3, 1) := by decide +kernel
theorem dX9_comes_139 : decode cX9_comes 139 = .ok (.invokevirtual 168, 3) := by decide +kernel
theorem dX9_comes_142 : decode cX9_comes 142 = .ok (.ifCond .ne 5, 3) := by decide +kernel
theorem dX9_comes_145 : decode cX9_comes 145 = .ok (.iconst 0, 1) := by decide +kernel
theorem dX9_comes_146 : decode cX9_comes 146 = .ok (.ireturn, 1) := by decide +kernel
theorem dX9_comes_147 : decode cX9_comes 147 = .ok (.aload_n 0, 1) := by decide +kernel
theorem dX9_comes_148 : decode cX9_comes 148 = .ok (.getfield 40, 3) := by decide +kernel
theorem dX9_comes_151 : decode cX9_comes 151 = .ok (.iload_n 3, 1) := by decide +kernel
theorem dX9_comes_152 : decode cX9_comes 152 = .ok (.iload 4, 2) := by decide +kernel
theorem dX9_comes_154 : decode cX9_comes 154 = .ok (.iastore, 1) := by decide +kernel
theorem dX9_comes_155 : decode cX9_comes 155 = .ok (.iconst 1, 1) := by decide +kernel
theorem dX9_comes_156 : decode cX9_comes 156 = .ok (.ireturn, 1) := by decide +kernel
theorem dX9_comes_157 : decode cX9_comes 157 = .ok (.aload_n 0, 1) := by decide +kernel
theorem dX9_comes_158 : decode cX9_comes 158 = .ok (.getfield 25, 3) := by decide +kernel
theorem dX9_comes_161 : decode cX9_comes 161 = .ok (.iconst 0, 1) := by decide +kernel
theorem dX9_comes_162 : decode cX9_comes 162 = .ok (.iload_n 3, 1) := by decide +kernel
theorem dX9_comes_163 : decode cX9_comes 163 = .ok (.iastore, 1) := by decide +kernel
theorem dX9_comes_164 : decode cX9_comes 164 = .ok (.iload_n 3, 1) := by decide +kernel
theorem dX9_comes_165 : decode cX9_comes 165 = .ok (.bipush 60, 2) := by decide +kernel
theorem dX9_comes_167 : decode cX9_comes 167 = .ok (.if_icmp .gt 7, 3) := by decide +kernel
theorem dX9_comes_170 : decode cX9_comes 170 = .ok (.iconst 1, 1) := by decide +kernel
theorem dX9_comes_171 : decode cX9_comes 171 = .ok (.goto 4, 3) := by decide +kernel
theorem dX9_comes_174 : decode cX9_comes 174 = .ok (.iconst 0, 1) := by decide +kernel
theorem dX9_comes_175 : decode cX9_comes 175 = .ok (.ireturn, 1) := by decide +kernel
theorem dX9_quay_0 : decode cX9_quay 0 = .ok (.aload_n 0, 1) := by decide +kernel
theorem dX9_quay_1 : decode cX9_quay 1 = .ok (.iconst 0, 1) := by decide +kernel
theorem dX9_quay_2 : decode cX9_quay 2 = .ok (.putfield 128, 3) := by decide +kernel
theorem dX9_quay_5 : decode cX9_quay 5 = .ok (.aload_n 0, 1) := by decide +kernel
theorem dX9_quay_6 : decode cX9_quay 6 = .ok (.iconst 0, 1) := by decide +kernel
theorem dX9_quay_7 : decode cX9_quay 7 = .ok (.putfield 150, 3) := by decide +kernel
theorem dX9_quay_10 : decode cX9_quay 10 = .ok (.iconst 1, 1) := by decide +kernel
theorem dX9_quay_11 : decode cX9_quay 11 = .ok (.istore_n 1, 1) := by decide +kernel
theorem dX9_quay_12 : decode cX9_quay 12 = .ok (.iload_n 1, 1) := by decide +kernel
theorem dX9_quay_13 : decode cX9_quay 13 = .ok (.ifCond .eq 47, 3) := by decide +kernel
theorem dX9_quay_16 : decode cX9_quay 16 = .ok (.aload_n 0, 1) := by decide +kernel
theorem dX9_quay_17 : decode cX9_quay 17 = .ok (.getfield 128, 3) := by decide +kernel
theorem dX9_quay_20 : decode cX9_quay 20 = .ok (.aload_n 0, 1) := by decide +kernel
theorem dX9_quay_21 : decode cX9_quay 21 = .ok (.getfield 121, 3) := by decide +kernel
theorem dX9_quay_24 : decode cX9_quay 24 = .ok (.if_icmp .lt 10, 3) := by decide +kernel
theorem dX9_quay_27 : decode cX9_quay 27 = .ok (.aload_n 0, 1) := by decide +kernel
theorem dX9_quay_28 : decode cX9_quay 28 = .ok (.getfield 150, 3) := by decide +kernel
theorem dX9_quay_31 : decode cX9_quay 31 = .ok (.ifCond .ne 29, 3) := by decide +kernel
theorem dX9_quay_34 : decode cX9_quay 34 = .ok (.aload_n 0, 1) := by decide +kernel
theorem dX9_quay_35 : decode cX9_quay 35 = .ok (.invokevirtual 171, 3) := by decide +kernel
theorem dX9_quay_38 : decode cX9_quay 38 = .ok (.istore_n 1, 1) := by decide +kernel
theorem dX9_quay_39 : decode cX9_quay 39 = .ok (.aload_n 0, 1) := by decide +kernel
theorem dX9_quay_40 : decode cX9_quay 40 = .ok (.dup, 1) := by decide +kernel
theorem dX9_quay_41 : decode cX9_quay 41 = .ok (.getfield 150, 3) := by decide +kernel
theorem dX9_quay_44 : decode cX9_quay 44 = .ok (.iload_n 1, 1) := by decide +kernel
theorem dX9_quay_45 : decode cX9_quay 45 = .ok (.ifCond .eq 7, 3) := by decide +kernel
theorem dX9_quay_48 : decode cX9_quay 48 = .ok (.iconst 1, 1) := by decide +kernel
theorem dX9_quay_49 : decode cX9_quay 49 = .ok (.goto 4, 3) := by decide +kernel
theorem dX9_quay_52 : decode cX9_quay 52 = .ok (.iconst 0, 1) := by decide +kernel
theorem dX9_quay_53 : decode cX9_quay 53 = .ok (.iadd, 1) := by decide +kernel
theorem dX9_quay_54 : decode cX9_quay 54 = .ok (.putfield 150, 3) := by decide +kernel
theorem dX9_quay_57 : decode cX9_quay 57 = .ok (.goto (-45), 3) := by decide +kernel
theorem dX9_quay_60 : decode cX9_quay 60 = .ok (.aload_n 0, 1) := by decide +kernel
theorem dX9_quay_61 : decode cX9_quay 61 = .ok (.iconst 0, 1) := by decide +kernel
theorem dX9_quay_62 : decode cX9_quay 62 = .ok (.putfield 121, 3) := by decide +kernel
theorem dX9_quay_65 : decode cX9_quay 65 = .ok (.iload_n 1, 1) := by decide +kernel
theorem dX9_quay_66 : decode cX9_quay 66 = .ok (.ifCond .ne 12, 3) := by decide +kernel
theorem dX9_quay_69 : decode cX9_quay 69 = .ok (.sipush (-1000), 3) := by decide +kernel
theorem dX9_quay_72 : decode cX9_quay 72 = .ok (.aload_n 0, 1) := by decide +kernel
theorem dX9_quay_73 : decode cX9_quay 73 = .ok (.getfield 128, 3) := by decide +kernel
theorem dX9_quay_76 : decode cX9_quay 76 = .ok (.isub, 1) := by decide +kernel
theorem dX9_quay_77 : decode cX9_quay 77 = .ok (.ireturn, 1) := by decide +kernel
theorem dX9_quay_78 : decode cX9_quay 78 = .ok (.aload_n 0, 1) := by decide +kernel
theorem dX9_quay_79 : decode cX9_quay 79 = .ok (.iconst 1, 1) := by decide +kernel
theorem dX9_quay_80 : decode cX9_quay 80 = .ok (.iconst 1, 1) := by decide +kernel
theorem dX9_quay_81 : decode cX9_quay 81 = .ok (.invokevirtual 175, 3) := by decide +kernel
theorem dX9_quay_84 : decode cX9_quay 84 = .ok (.iconst 0, 1) := by decide +kernel
theorem dX9_quay_85 : decode cX9_quay 85 = .ok (.istore_n 2, 1) := by decide +kernel
theorem dX9_quay_86 : decode cX9_quay 86 = .ok (.iload_n 2, 1) := by decide +kernel
theorem dX9_quay_87 : decode cX9_quay 87 = .ok (.aload_n 0, 1) := by decide +kernel
theorem dX9_quay_88 : decode cX9_quay 88 = .ok (.getfield 150, 3) := by decide +kernel
theorem dX9_quay_91 : decode cX9_quay 91 = .ok (.if_icmp .ge 37, 3) := by decide +kernel
theorem dX9_quay_94 : decode cX9_quay 94 = .ok (.aload_n 0, 1) := by decide +kernel
theorem dX9_quay_95 : decode cX9_quay 95 = .ok (.iload_n 2, 1) := by decide +kernel
theorem dX9_quay_96 : decode cX9_quay 96 = .ok (.invokevirtual 179, 3) := by decide +kernel
theorem dX9_quay_99 : decode cX9_quay 99 = .ok (.ifCond .eq 6, 3) := by decide +kernel
theorem dX9_quay_102 : decode cX9_quay 102 = .ok (.goto 20, 3) := by decide +kernel
theorem dX9_quay_105 : decode cX9_quay 105 = .ok (.aload_n 0, 1) := by decide +kernel
theorem dX9_quay_106 : decode cX9_quay 106 = .ok (.iconst 1, 1) := by decide +kernel
theorem dX9_quay_107 : decode cX9_quay 107 = .ok (.iconst 0, 1) := by decide +kernel
theorem dX9_quay_108 : decode cX9_quay 108 = .ok (.invokevirtual 175, 3) := by decide +kernel
theorem dX9_quay_111 : decode cX9_quay 111 = .ok (.sipush (-2000), 3) := by decide +kernel
theorem dX9_quay_114 : decode cX9_quay 114 = .ok (.aload_n 0, 1) := by decide +kernel
theorem dX9_quay_115 : decode cX9_quay 115 = .ok (.getfield 61, 3) := by decide +kernel
theorem dX9_quay_118 : decode cX9_quay 118 = .ok (.iload_n 2, 1) := by decide +kernel
theorem dX9_quay_119 : decode cX9_quay 119 = .ok (.iaload, 1) := by decide +kernel
theorem dX9_quay_120 : decode cX9_quay 120 = .ok (.isub, 1) := by decide +kernel
theorem dX9_quay_121 : decode cX9_quay 121 = .ok (.ireturn, 1) := by decide +kernel
theorem dX9_quay_122 : decode cX9_quay 122 = .ok (.iinc 2 1, 3) := by decide +kernel
theorem dX9_quay_125 : decode cX9_quay 125 = .ok (.goto (-39), 3) := by decide +kernel
theorem dX9_quay_128 : decode cX9_quay 128 = .ok (.aload_n 0, 1) := by decide +kernel
theorem dX9_quay_129 : decode cX9_quay 129 = .ok (.iconst 0, 1) := by decide +kernel
theorem dX9_quay_130 : decode cX9_quay 130 = .ok (.putfield 182, 3) := by decide +kernel
theorem dX9_quay_133 : decode cX9_quay 133 = .ok (.aload_n 0, 1) := by decide +kernel
theorem dX9_quay_134 : decode cX9_quay 134 = .ok (.getfield 150, 3) := by decide +kernel
theorem dX9_quay_137 : decode cX9_quay 137 = .ok (.ireturn, 1) := by decide +kernel
theorem dX9_passes_0 : decode cX9_passes 0 = .ok (.iconst 0, 1) := by decide +kernel
theorem dX9_passes_1 : decode cX9_passes 1 = .ok (.istore_n 2, 1) := by decide +kernel
theorem dX9_passes_2 : decode cX9_passes 2 = .ok (.iload_n 2, 1) := by decide +kernel
theorem dX9_passes_3 : decode cX9_passes 3 = .ok (.aload_n 1, 1) := by decide +kernel
theorem dX9_passes_4 : decode cX9_passes 4 = .ok (.arraylength, 1) := by decide +kernel
theorem dX9_passes_5 : decode cX9_passes 5 = .ok (.if_icmp .ge 53, 3) := by decide +kernel
theorem dX9_passes_8 : decode cX9_passes 8 = .ok (.aload_n 0, 1) := by decide +kernel
theorem dX9_passes_9 : decode cX9_passes 9 = .ok (.getfield 185, 3) := by decide +kernel
theorem dX9_passes_12 : decode cX9_passes 12 = .ok (.ifCond .eq 18, 3) := by decide +kernel
theorem dX9_passes_15 : decode cX9_passes 15 = .ok (.aload_n 0, 1) := by decide +kernel
theorem dX9_passes_16 : decode cX9_passes 16 = .ok (.getfield 67, 3) := by decide +kernel
theorem dX9_passes_19 : decode cX9_passes 19 = .ok (.aload_n 0, 1) := by decide +kernel
theorem dX9_passes_20 : decode cX9_passes 20 = .ok (.getfield 189, 3) := by decide +kernel
theorem dX9_passes_23 : decode cX9_passes 23 = .ok (.aload_n 1, 1) := by decide +kernel
theorem dX9_passes_24 : decode cX9_passes 24 = .ok (.iload_n 2, 1) := by decide +kernel
theorem dX9_passes_25 : decode cX9_passes 25 = .ok (.iaload, 1) := by decide +kernel
theorem dX9_passes_26 : decode cX9_passes 26 = .ok (.iastore, 1) := by decide +kernel
theorem dX9_passes_27 : decode cX9_passes 27 = .ok (.goto 15, 3) := by decide +kernel
theorem dX9_passes_30 : decode cX9_passes 30 = .ok (.aload_n 1, 1) := by decide +kernel
theorem dX9_passes_31 : decode cX9_passes 31 = .ok (.iload_n 2, 1) := by decide +kernel
theorem dX9_passes_32 : decode cX9_passes 32 = .ok (.aload_n 0, 1) := by decide +kernel
theorem dX9_passes_33 : decode cX9_passes 33 = .ok (.getfield 67, 3) := by decide +kernel
theorem dX9_passes_36 : decode cX9_passes 36 = .ok (.aload_n 0, 1) := by decide +kernel
theorem dX9_passes_37 : decode cX9_passes 37 = .ok (.getfield 189, 3) := by decide +kernel
theorem dX9_passes_40 : decode cX9_passes 40 = .ok (.iaload, 1) := by decide +kernel
theorem dX9_passes_41 : decode cX9_passes 41 = .ok (.iastore, 1) := by decide +kernel
theorem dX9_passes_42 : decode cX9_passes 42 = .ok (.aload_n 0, 1) := by decide +kernel
theorem dX9_passes_43 : decode cX9_passes 43 = .ok (.dup, 1) := by decide +kernel
theorem dX9_passes_44 : decode cX9_passes 44 = .ok (.getfield 189, 3) := by decide +kernel
theorem dX9_passes_47 : decode cX9_passes 47 = .ok (.iconst 1, 1) := by decide +kernel
theorem dX9_passes_48 : decode cX9_passes 48 = .ok (.iadd, 1) := by decide +kernel
theorem dX9_passes_49 : decode cX9_passes 49 = .ok (.putfield 189, 3) := by decide +kernel
theorem dX9_passes_52 : decode cX9_passes 52 = .ok (.iinc 2 1, 3) := by decide +kernel
theorem dX9_passes_55 : decode cX9_passes 55 = .ok (.goto (-53), 3) := by decide +kernel
theorem dX9_passes_58 : decode cX9_passes 58 = .ok (.return_, 1) := by decide +kernel
theorem dX9_passOne_0 : decode cX9_passOne 0 = .ok (.aload_n 0, 1) := by decide +kernel
theorem dX9_passOne_1 : decode cX9_passOne 1 = .ok (.getfield 185, 3) := by decide +kernel
theorem dX9_passOne_4 : decode cX9_passOne 4 = .ok (.ifCond .eq 7, 3) := by decide +kernel
theorem dX9_passOne_7 : decode cX9_passOne 7 = .ok (.iload_n 1, 1) := by decide +kernel
theorem dX9_passOne_8 : decode cX9_passOne 8 = .ok (.goto 12, 3) := by decide +kernel
theorem dX9_passOne_11 : decode cX9_passOne 11 = .ok (.aload_n 0, 1) := by decide +kernel
theorem dX9_passOne_12 : decode cX9_passOne 12 = .ok (.getfield 67, 3) := by decide +kernel
theorem dX9_passOne_15 : decode cX9_passOne 15 = .ok (.aload_n 0, 1) := by decide +kernel
theorem dX9_passOne_16 : decode cX9_passOne 16 = .ok (.getfield 189, 3) := by decide +kernel
theorem dX9_passOne_19 : decode cX9_passOne 19 = .ok (.iaload, 1) := by decide +kernel
theorem dX9_passOne_20 : decode cX9_passOne 20 = .ok (.istore_n 2, 1) := by decide +kernel
theorem dX9_passOne_21 : decode cX9_passOne 21 = .ok (.aload_n 0, 1) := by decide +kernel
theorem dX9_passOne_22 : decode cX9_passOne 22 = .ok (.getfield 185, 3) := by decide +kernel
theorem dX9_passOne_25 : decode cX9_passOne 25 = .ok (.ifCond .eq 13, 3) := by decide +kernel
theorem dX9_passOne_28 : decode cX9_passOne 28 = .ok (.aload_n 0, 1) := by decide +kernel
theorem dX9_passOne_29 : decode cX9_passOne 29 = .ok (.getfield 67, 3) := by decide +kernel
theorem dX9_passOne_32 : decode cX9_passOne 32 = .ok (.aload_n 0, 1) := by decide +kernel
theorem dX9_passOne_33 : decode cX9_passOne 33 = .ok (.getfield 189, 3) := by decide +kernel
theorem dX9_passOne_36 : decode cX9_passOne 36 = .ok (.iload_n 1, 1) := by decide +kernel
theorem dX9_passOne_37 : decode cX9_passOne 37 = .ok (.iastore, 1) := by decide +kernel
theorem dX9_passOne_38 : decode cX9_passOne 38 = .ok (.aload_n 0, 1) := by decide +kernel
theorem dX9_passOne_39 : decode cX9_passOne 39 = .ok (.dup, 1) := by decide +kernel
theorem dX9_passOne_40 : decode cX9_passOne 40 = .ok (.getfield 189, 3) := by decide +kernel
theorem dX9_passOne_43 : decode cX9_passOne 43 = .ok (.iconst 1, 1) := by decide +kernel
theorem dX9_passOne_44 : decode cX9_passOne 44 = .ok (.iadd, 1) := by decide +kernel
theorem dX9_passOne_45 : decode cX9_passOne 45 = .ok (.putfield 189, 3) := by decide +kernel
theorem dX9_passOne_48 : decode cX9_passOne 48 = .ok (.iload_n 2, 1) := by decide +kernel
theorem dX9_passOne_49 : decode cX9_passOne 49 = .ok (.ireturn, 1) := by decide +kernel
theorem dX9_passesAll_0 : decode cX9_passesAll 0 = .ok (.aload_n 0, 1) := by decide +kernel
theorem dX9_passesAll_1 : decode cX9_passesAll 1 = .ok (.bipush 90, 2) := by decide +kernel
theorem dX9_passesAll_3 : decode cX9_passesAll 3 = .ok (.iload_n 1, 1) := by decide +kernel
theorem dX9_passesAll_4 : decode cX9_passesAll 4 = .ok (.imul, 1) := by decide +kernel
theorem dX9_passesAll_5 : decode cX9_passesAll 5 = .ok (.putfield 189, 3) := by decide +kernel
theorem dX9_passesAll_8 : decode cX9_passesAll 8 = .ok (.aload_n 0, 1) := by decide +kernel
theorem dX9_passesAll_9 : decode cX9_passesAll 9 = .ok (.iload_n 2, 1) := by decide +kernel
theorem dX9_passesAll_10 : decode cX9_passesAll 10 = .ok (.putfield 185, 3) := by decide +kernel
theorem dX9_passesAll_13 : decode cX9_passesAll 13 = .ok (.aload_n 0, 1) := by decide +kernel
theorem dX9_passesAll_14 : decode cX9_passesAll 14 = .ok (.aload_n 0, 1) := by decide +kernel
theorem dX9_passesAll_15 : decode cX9_passesAll 15 = .ok (.getfield 13, 3) := by decide +kernel
theorem dX9_passesAll_18 : decode cX9_passesAll 18 = .ok (.invokevirtual 192, 3) := by decide +kernel
theorem dX9_passesAll_21 : decode cX9_passesAll 21 = .ok (.aload_n 0, 1) := by decide +kernel
theorem dX9_passesAll_22 : decode cX9_passesAll 22 = .ok (.aload_n 0, 1) := by decide +kernel
theorem dX9_passesAll_23 : decode cX9_passesAll 23 = .ok (.getfield 16, 3) := by decide +kernel
theorem dX9_passesAll_26 : decode cX9_passesAll 26 = .ok (.invokevirtual 192, 3) := by decide +kernel
theorem dX9_passesAll_29 : decode cX9_passesAll 29 = .ok (.aload_n 0, 1) := by decide +kernel
theorem dX9_passesAll_30 : decode cX9_passesAll 30 = .ok (.aload_n 0, 1) := by decide +kernel
theorem dX9_passesAll_31 : decode cX9_passesAll 31 = .ok (.getfield 19, 3) := by decide +kernel
theorem dX9_passesAll_34 : decode cX9_passesAll 34 = .ok (.invokevirtual 192, 3) := by decide +kernel
theorem dX9_passesAll_37 : decode cX9_passesAll 37 = .ok (.aload_n 0, 1) := by decide +kernel
theorem dX9_passesAll_38 : decode cX9_passesAll 38 = .ok (.aload_n 0, 1) := by decide +kernel
theorem dX9_passesAll_39 : decode cX9_passesAll 39 = .ok (.getfield 22, 3) := by decide +kernel
theorem dX9_passesAll_42 : decode cX9_passesAll 42 = .ok (.invokevirtual 192, 3) := by decide +kernel
theorem dX9_passesAll_45 : decode cX9_passesAll 45 = .ok (.aload_n 0, 1) := by decide +kernel
theorem dX9_passesAll_46 : decode cX9_passesAll 46 = .ok (.aload_n 0, 1) := by decide +kernel
theorem dX9_passesAll_47 : decode cX9_passesAll 47 = .ok (.getfield 25, 3) := by decide +kernel
theorem dX9_passesAll_50 : decode cX9_passesAll 50 = .ok (.invokevirtual 192, 3) := by decide +kernel
theorem dX9_passesAll_53 : decode cX9_passesAll 53 = .ok (.aload_n 0, 1) := by decide +kernel
theorem dX9_passesAll_54 : decode cX9_passesAll 54 = .ok (.aload_n 0, 1) := by decide +kernel
theorem dX9_passesAll_55 : decode cX9_passesAll 55 = .ok (.getfield 28, 3) := by decide +kernel
theorem dX9_passesAll_58 : decode cX9_passesAll 58 = .ok (.invokevirtual 192, 3) := by decide +kernel
theorem dX9_passesAll_61 : decode cX9_passesAll 61 = .ok (.aload_n 0, 1) := by decide +kernel
theorem dX9_passesAll_62 : decode cX9_passesAll 62 = .ok (.aload_n 0, 1) := by decide +kernel
theorem dX9_passesAll_63 : decode cX9_passesAll 63 = .ok (.getfield 31, 3) := by decide +kernel
theorem dX9_passesAll_66 : decode cX9_passesAll 66 = .ok (.invokevirtual 192, 3) := by decide +kernel
theorem dX9_passesAll_69 : decode cX9_passesAll 69 = .ok (.aload_n 0, 1) := by decide +kernel
theorem dX9_passesAll_70 : decode cX9_passesAll 70 = .ok (.aload_n 0, 1) := by decide +kernel
theorem dX9_passesAll_71 : decode cX9_passesAll 71 = .ok (.getfield 34, 3) := by decide +kernel
theorem dX9_passesAll_74 : decode cX9_passesAll 74 = .ok (.invokevirtual 192, 3) := by decide +kernel
theorem dX9_passesAll_77 : decode cX9_passesAll 77 = .ok (.aload_n 0, 1) := by decide +kernel
theorem dX9_passesAll_78 : decode cX9_passesAll 78 = .ok (.aload_n 0, 1) := by decide +kernel
theorem dX9_passesAll_79 : decode cX9_passesAll 79 = .ok (.getfield 37, 3) := by decide +kernel
theorem dX9_passesAll_82 : decode cX9_passesAll 82 = .ok (.invokevirtual 192, 3) := by decide +kernel
theorem dX9_passesAll_85 : decode cX9_passesAll 85 = .ok (.aload_n 0, 1) := by decide +kernel
theorem dX9_passesAll_86 : decode cX9_passesAll 86 = .ok (.aload_n 0, 1) := by decide +kernel
theorem dX9_passesAll_87 : decode cX9_passesAll 87 = .ok (.getfield 40, 3) := by decide +kernel
theorem dX9_passesAll_90 : decode cX9_passesAll 90 = .ok (.invokevirtual 192, 3) := by decide +kernel
theorem dX9_passesAll_93 : decode cX9_passesAll 93 = .ok (.aload_n 0, 1) := by decide +kernel
theorem dX9_passesAll_94 : decode cX9_passesAll 94 = .ok (.aload_n 0, 1) := by decide +kernel
theorem dX9_passesAll_95 : decode cX9_passesAll 95 = .ok (.getfield 43, 3) := by decide +kernel
theorem dX9_passesAll_98 : decode cX9_passesAll 98 = .ok (.invokevirtual 192, 3) := by decide +kernel
theorem dX9_passesAll_101 : decode cX9_passesAll 101 = .ok (.aload_n 0, 1) := by decide +kernel
theorem dX9_passesAll_102 : decode cX9_passesAll 102 = .ok (.aload_n 0, 1) := by decide +kernel
theorem dX9_passesAll_103 : decode cX9_passesAll 103 = .ok (.getfield 46, 3) := by decide +kernel
theorem dX9_passesAll_106 : decode cX9_passesAll 106 = .ok (.invokevirtual 192, 3) := by decide +kernel
theorem dX9_passesAll_109 : decode cX9_passesAll 109 = .ok (.aload_n 0, 1) := by decide +kernel
theorem dX9_passesAll_110 : decode cX9_passesAll 110 = .ok (.aload_n 0, 1) := by decide +kernel
theorem dX9_passesAll_111 : decode cX9_passesAll 111 = .ok (.getfield 49, 3) := by decide +kernel
theorem dX9_passesAll_114 : decode cX9_passesAll 114 = .ok (.invokevirtual 192, 3) := by decide +kernel
theorem dX9_passesAll_117 : decode cX9_passesAll 117 = .ok (.aload_n 0, 1) := by decide +kernel
theorem dX9_passesAll_118 : decode cX9_passesAll 118 = .ok (.aload_n 0, 1) := by decide +kernel
theorem dX9_passesAll_119 : decode cX9_passesAll 119 = .ok (.getfield 52, 3) := by decide +kernel
theorem dX9_passesAll_122 : decode cX9_passesAll 122 = .ok (.invokevirtual 192, 3) := by decide +kernel
theorem dX9_passesAll_125 : decode cX9_passesAll 125 = .ok (.aload_n 0, 1) := by decide +kernel
theorem dX9_passesAll_126 : decode cX9_passesAll 126 = .ok (.aload_n 0, 1) := by decide +kernel
theorem dX9_passesAll_127 : decode cX9_passesAll 127 = .ok (.aload_n 0, 1) := by decide +kernel
theorem dX9_passesAll_128 : decode cX9_passesAll 128 = .ok (.getfield 196, 3) := by decide +kernel
theorem dX9_passesAll_131 : decode cX9_passesAll 131 = .ok (.invokevirtual 199, 3) := by decide +kernel
theorem dX9_passesAll_134 : decode cX9_passesAll 134 = .ok (.putfield 196, 3) := by decide +kernel
theorem dX9_passesAll_137 : decode cX9_passesAll 137 = .ok (.aload_n 0, 1) := by decide +kernel
theorem dX9_passesAll_138 : decode cX9_passesAll 138 = .ok (.aload_n 0, 1) := by decide +kernel
theorem dX9_passesAll_139 : decode cX9_passesAll 139 = .ok (.aload_n 0, 1) := by decide +kernel
theorem dX9_passesAll_140 : decode cX9_passesAll 140 = .ok (.getfield 202, 3) := by decide +kernel
theorem dX9_passesAll_143 : decode cX9_passesAll 143 = .ok (.invokevirtual 199, 3) := by decide +kernel
theorem dX9_passesAll_146 : decode cX9_passesAll 146 = .ok (.putfield 202, 3) := by decide +kernel
theorem dX9_passesAll_149 : decode cX9_passesAll 149 = .ok (.aload_n 0, 1) := by decide +kernel
theorem dX9_passesAll_150 : decode cX9_passesAll 150 = .ok (.aload_n 0, 1) := by decide +kernel
theorem dX9_passesAll_151 : decode cX9_passesAll 151 = .ok (.aload_n 0, 1) := by decide +kernel
theorem dX9_passesAll_152 : decode cX9_passesAll 152 = .ok (.getfield 110, 3) := by decide +kernel
theorem dX9_passesAll_155 : decode cX9_passesAll 155 = .ok (.invokevirtual 199, 3) := by decide +kernel
theorem dX9_passesAll_158 : decode cX9_passesAll 158 = .ok (.putfield 110, 3) := by decide +kernel
theorem dX9_passesAll_161 : decode cX9_passesAll 161 = .ok (.aload_n 0, 1) := by decide +kernel
theorem dX9_passesAll_162 : decode cX9_passesAll 162 = .ok (.aload_n 0, 1) := by decide +kernel
theorem dX9_passesAll_163 : decode cX9_passesAll 163 = .ok (.aload_n 0, 1) := by decide +kernel
theorem dX9_passesAll_164 : decode cX9_passesAll 164 = .ok (.getfield 114, 3) := by decide +kernel
theorem dX9_passesAll_167 : decode cX9_passesAll 167 = .ok (.invokevirtual 199, 3) := by decide +kernel
theorem dX9_passesAll_170 : decode cX9_passesAll 170 = .ok (.putfield 114, 3) := by decide +kernel
theorem dX9_passesAll_173 : decode cX9_passesAll 173 = .ok (.aload_n 0, 1) := by decide +kernel
theorem dX9_passesAll_174 : decode cX9_passesAll 174 = .ok (.aload_n 0, 1) := by decide +kernel
theorem dX9_passesAll_175 : decode cX9_passesAll 175 = .ok (.aload_n 0, 1) := by decide +kernel
theorem dX9_passesAll_176 : decode cX9_passesAll 176 = .ok (.getfield 205, 3) := by decide +kernel
theorem dX9_passesAll_179 : decode cX9_passesAll 179 = .ok (.invokevirtual 199, 3) := by decide +kernel
theorem dX9_passesAll_182 : decode cX9_passesAll 182 = .ok (.putfield 205, 3) := by decide +kernel
theorem dX9_passesAll_185 : decode cX9_passesAll 185 = .ok (.return_, 1) := by decide +kernel
theorem dX9_image_0 : decode cX9_image 0 = .ok (.aload_n 0, 1) := by decide +kernel
theorem dX9_image_1 : decode cX9_image 1 = .ok (.iconst 1, 1) := by decide +kernel
theorem dX9_image_2 : decode cX9_image 2 = .ok (.putfield 208, 3) := by decide +kernel
theorem dX9_image_5 : decode cX9_image 5 = .ok (.aload_n 0, 1) := by decide +kernel
theorem dX9_image_6 : decode cX9_image 6 = .ok (.iconst 0, 1) := by decide +kernel
theorem dX9_image_7 : decode cX9_image 7 = .ok (.iconst 1, 1) := by decide +kernel
theorem dX9_image_8 : decode cX9_image 8 = .ok (.invokevirtual 175, 3) := by decide +kernel
theorem dX9_image_11 : decode cX9_image 11 = .ok (.aload_n 0, 1) := by decide +kernel
theorem dX9_image_12 : decode cX9_image 12 = .ok (.getfield 205, 3) := by decide +kernel
theorem dX9_image_15 : decode cX9_image 15 = .ok (.ireturn, 1) := by decide +kernel
theorem dX9_restore_0 : decode cX9_restore 0 = .ok (.aload_n 0, 1) := by decide +kernel
theorem dX9_restore_1 : decode cX9_restore 1 = .ok (.getfield 208, 3) := by decide +kernel
theorem dX9_restore_4 : decode cX9_restore 4 = .ok (.ifCond .ne 10, 3) := by decide +kernel
theorem dX9_restore_7 : decode cX9_restore 7 = .ok (.aload_n 0, 1) := by decide +kernel
theorem dX9_restore_8 : decode cX9_restore 8 = .ok (.bipush (-3), 2) := by decide +kernel
theorem dX9_restore_10 : decode cX9_restore 10 = .ok (.invokevirtual 124, 3) := by decide +kernel
theorem dX9_restore_13 : decode cX9_restore 13 = .ok (.ireturn, 1) := by decide +kernel
theorem dX9_restore_14 : decode cX9_restore 14 = .ok (.aload_n 0, 1) := by decide +kernel
theorem dX9_restore_15 : decode cX9_restore 15 = .ok (.iconst 0, 1) := by decide +kernel
theorem dX9_restore_16 : decode cX9_restore 16 = .ok (.iconst 0, 1) := by decide +kernel
theorem dX9_restore_17 : decode cX9_restore 17 = .ok (.invokevirtual 175, 3) := by decide +kernel
theorem dX9_restore_20 : decode cX9_restore 20 = .ok (.aload_n 0, 1) := by decide +kernel
theorem dX9_restore_21 : decode cX9_restore 21 = .ok (.iconst 0, 1) := by decide +kernel
theorem dX9_restore_22 : decode cX9_restore 22 = .ok (.putfield 182, 3) := by decide +kernel
theorem dX9_restore_25 : decode cX9_restore 25 = .ok (.aload_n 0, 1) := by decide +kernel
theorem dX9_restore_26 : decode cX9_restore 26 = .ok (.getfield 205, 3) := by decide +kernel
theorem dX9_restore_29 : decode cX9_restore 29 = .ok (.ireturn, 1) := by decide +kernel
theorem dX9_water_0 : decode cX9_water 0 = .ok (.aload_n 0, 1) := by decide +kernel
theorem dX9_water_1 : decode cX9_water 1 = .ok (.getfield 13, 3) := by decide +kernel
theorem dX9_water_4 : decode cX9_water 4 = .ok (.iload_n 1, 1) := by decide +kernel
theorem dX9_water_5 : decode cX9_water 5 = .ok (.iaload, 1) := by decide +kernel
theorem dX9_water_6 : decode cX9_water 6 = .ok (.aload_n 0, 1) := by decide +kernel
theorem dX9_water_7 : decode cX9_water 7 = .ok (.getfield 25, 3) := by decide +kernel
theorem dX9_water_10 : decode cX9_water 10 = .ok (.iconst 1, 1) := by decide +kernel
theorem dX9_water_11 : decode cX9_water 11 = .ok (.iaload, 1) := by decide +kernel
theorem dX9_water_12 : decode cX9_water 12 = .ok (.iadd, 1) := by decide +kernel
theorem dX9_water_13 : decode cX9_water 13 = .ok (.ireturn, 1) := by decide +kernel
theorem dX9_isOfTwo_0 : decode cX9_isOfTwo 0 = .ok (.aload_n 0, 1) := by decide +kernel
theorem dX9_isOfTwo_1 : decode cX9_isOfTwo 1 = .ok (.getfield 28, 3) := by decide +kernel
theorem dX9_isOfTwo_4 : decode cX9_isOfTwo 4 = .ok (.iload_n 1, 1) := by decide +kernel
theorem dX9_isOfTwo_5 : decode cX9_isOfTwo 5 = .ok (.iaload, 1) := by decide +kernel
theorem dX9_isOfTwo_6 : decode cX9_isOfTwo 6 = .ok (.iconst 1, 1) := by decide +kernel
theorem dX9_isOfTwo_7 : decode cX9_isOfTwo 7 = .ok (.if_icmp .eq 13, 3) := by decide +kernel
theorem dX9_isOfTwo_10 : decode cX9_isOfTwo 10 = .ok (.aload_n 0, 1) := by decide +kernel
theorem dX9_isOfTwo_11 : decode cX9_isOfTwo 11 = .ok (.getfield 28, 3) := by decide +kernel
theorem dX9_isOfTwo_14 : decode cX9_isOfTwo 14 = .ok (.iload_n 1, 1) := by decide +kernel
theorem dX9_isOfTwo_15 : decode cX9_isOfTwo 15 = .ok (.iaload, 1) := by decide +kernel
theorem dX9_isOfTwo_16 : decode cX9_isOfTwo 16 = .ok (.iconst 4, 1) := by decide +kernel
theorem dX9_isOfTwo_17 : decode cX9_isOfTwo 17 = .ok (.if_icmp .ne 7, 3) := by decide +kernel
theorem dX9_isOfTwo_20 : decode cX9_isOfTwo 20 = .ok (.iconst 1, 1) := by decide +kernel
theorem dX9_isOfTwo_21 : decode cX9_isOfTwo 21 = .ok (.goto 4, 3) := by decide +kernel
theorem dX9_isOfTwo_24 : decode cX9_isOfTwo 24 = .ok (.iconst 0, 1) := by decide +kernel
theorem dX9_isOfTwo_25 : decode cX9_isOfTwo 25 = .ok (.ireturn, 1) := by decide +kernel
theorem dX9_needsAt_0 : decode cX9_needsAt 0 = .ok (.aload_n 0, 1) := by decide +kernel
theorem dX9_needsAt_1 : decode cX9_needsAt 1 = .ok (.getfield 22, 3) := by decide +kernel
theorem dX9_needsAt_4 : decode cX9_needsAt 4 = .ok (.aload_n 0, 1) := by decide +kernel
theorem dX9_needsAt_5 : decode cX9_needsAt 5 = .ok (.getfield 34, 3) := by decide +kernel
theorem dX9_needsAt_8 : decode cX9_needsAt 8 = .ok (.iload_n 1, 1) := by decide +kernel
theorem dX9_needsAt_9 : decode cX9_needsAt 9 = .ok (.iaload, 1) := by decide +kernel
theorem dX9_needsAt_10 : decode cX9_needsAt 10 = .ok (.iaload, 1) := by decide +kernel
theorem dX9_needsAt_11 : decode cX9_needsAt 11 = .ok (.aload_n 0, 1) := by decide +kernel
theorem dX9_needsAt_12 : decode cX9_needsAt 12 = .ok (.iload_n 2, 1) := by decide +kernel
theorem dX9_needsAt_13 : decode cX9_needsAt 13 = .ok (.invokevirtual 211, 3) := by decide +kernel
theorem dX9_needsAt_16 : decode cX9_needsAt 16 = .ok (.isub, 1) := by decide +kernel
theorem dX9_needsAt_17 : decode cX9_needsAt 17 = .ok (.istore_n 3, 1) := by decide +kernel
theorem dX9_needsAt_18 : decode cX9_needsAt 18 = .ok (.aload_n 0, 1) := by decide +kernel
theorem dX9_needsAt_19 : decode cX9_needsAt 19 = .ok (.getfield 19, 3) := by decide +kernel
theorem dX9_needsAt_22 : decode cX9_needsAt 22 = .ok (.aload_n 0, 1) := by decide +kernel
theorem dX9_needsAt_23 : decode cX9_needsAt 23 = .ok (.getfield 34, 3) := by decide +kernel
theorem dX9_needsAt_26 : decode cX9_needsAt 26 = .ok (.iload_n 1, 1) := by decide +kernel
theorem dX9_needsAt_27 : decode cX9_needsAt 27 = .ok (.iaload, 1) := by decide +kernel
theorem dX9_needsAt_28 : decode cX9_needsAt 28 = .ok (.iaload, 1) := by decide +kernel
theorem dX9_needsAt_29 : decode cX9_needsAt 29 = .ok (.aload_n 0, 1) := by decide +kernel
theorem dX9_needsAt_30 : decode cX9_needsAt 30 = .ok (.getfield 19, 3) := by decide +kernel
theorem dX9_needsAt_33 : decode cX9_needsAt 33 = .ok (.aload_n 0, 1) := by decide +kernel
theorem dX9_needsAt_34 : decode cX9_needsAt 34 = .ok (.getfield 37, 3) := by decide +kernel
theorem dX9_needsAt_37 : decode cX9_needsAt 37 = .ok (.iload_n 1, 1) := by decide +kernel
theorem dX9_needsAt_38 : decode cX9_needsAt 38 = .ok (.iaload, 1) := by decide +kernel
theorem dX9_needsAt_39 : decode cX9_needsAt 39 = .ok (.iaload, 1) := by decide +kernel
theorem dX9_needsAt_40 : decode cX9_needsAt 40 = .ok (.isub, 1) := by decide +kernel
theorem dX9_needsAt_41 : decode cX9_needsAt 41 = .ok (.istore 4, 2) := by decide +kernel
theorem dX9_needsAt_43 : decode cX9_needsAt 43 = .ok (.iload 4, 2) := by decide +kernel
theorem dX9_needsAt_45 : decode cX9_needsAt 45 = .ok (.ifCond .ge 9, 3) := by decide +kernel
theorem dX9_needsAt_48 : decode cX9_needsAt 48 = .ok (.iload 4, 2) := by decide +kernel
theorem dX9_needsAt_50 : decode cX9_needsAt 50 = .ok (.ineg, 1) := by decide +kernel
theorem dX9_needsAt_51 : decode cX9_needsAt 51 = .ok (.goto 5, 3) := by decide +kernel
theorem dX9_needsAt_54 : decode cX9_needsAt 54 = .ok (.iload 4, 2) := by decide +kernel
theorem dX9_needsAt_56 : decode cX9_needsAt 56 = .ok (.iconst 2, 1) := by decide +kernel
theorem dX9_needsAt_57 : decode cX9_needsAt 57 = .ok (.idiv, 1) := by decide +kernel
theorem dX9_needsAt_58 : decode cX9_needsAt 58 = .ok (.istore 5, 2) := by decide +kernel
theorem dX9_needsAt_60 : decode cX9_needsAt 60 = .ok (.aload_n 0, 1) := by decide +kernel
theorem dX9_needsAt_61 : decode cX9_needsAt 61 = .ok (.getfield 28, 3) := by decide +kernel
theorem dX9_needsAt_64 : decode cX9_needsAt 64 = .ok (.iload_n 1, 1) := by decide +kernel
theorem dX9_needsAt_65 : decode cX9_needsAt 65 = .ok (.iaload, 1) := by decide +kernel
theorem dX9_needsAt_66 : decode cX9_needsAt 66 = .ok (.tableswitch 103 1 5 #[34, 103, 44, 56, 80], 34) := by decide +kernel
theorem dX9_needsAt_100 : decode cX9_needsAt 100 = .ok (.iload_n 3, 1) := by decide +kernel
theorem dX9_needsAt_101 : decode cX9_needsAt 101 = .ok (.iload_n 3, 1) := by decide +kernel
theorem dX9_needsAt_102 : decode cX9_needsAt 102 = .ok (.imul, 1) := by decide +kernel
theorem dX9_needsAt_103 : decode cX9_needsAt 103 = .ok (.iload 5, 2) := by decide +kernel
theorem dX9_needsAt_105 : decode cX9_needsAt 105 = .ok (.iload 5, 2) := by decide +kernel
theorem dX9_needsAt_107 : decode cX9_needsAt 107 = .ok (.imul, 1) := by decide +kernel
theorem dX9_needsAt_108 : decode cX9_needsAt 108 = .ok (.iadd, 1) := by decide +kernel
theorem dX9_needsAt_109 : decode cX9_needsAt 109 = .ok (.ireturn, 1) := by decide +kernel
theorem dX9_needsAt_110 : decode cX9_needsAt 110 = .ok (.iload_n 3, 1) := by decide +kernel
theorem dX9_needsAt_111 : decode cX9_needsAt 111 = .ok (.ifCond .lt 7, 3) := by decide +kernel
theorem dX9_needsAt_114 : decode cX9_needsAt 114 = .ok (.iconst 0, 1) := by decide +kernel
theorem dX9_needsAt_115 : decode cX9_needsAt 115 = .ok (.goto 6, 3) := by decide +kernel
theorem dX9_needsAt_118 : decode cX9_needsAt 118 = .ok (.iload_n 3, 1) := by decide +kernel
theorem dX9_needsAt_119 : decode cX9_needsAt 119 = .ok (.iload_n 3, 1) := by decide +kernel
theorem dX9_needsAt_120 : decode cX9_needsAt 120 = .ok (.imul, 1) := by decide +kernel
theorem dX9_needsAt_121 : decode cX9_needsAt 121 = .ok (.ireturn, 1) := by decide +kernel
theorem dX9_needsAt_122 : decode cX9_needsAt 122 = .ok (.iload_n 3, 1) := by decide +kernel
theorem dX9_needsAt_123 : decode cX9_needsAt 123 = .ok (.iload_n 3, 1) := by decide +kernel
theorem dX9_needsAt_124 : decode cX9_needsAt 124 = .ok (.imul, 1) := by decide +kernel
theorem dX9_needsAt_125 : decode cX9_needsAt 125 = .ok (.iload 5, 2) := by decide +kernel
theorem dX9_needsAt_127 : decode cX9_needsAt 127 = .ok (.iload 5, 2) := by decide +kernel
theorem dX9_needsAt_129 : decode cX9_needsAt 129 = .ok (.imul, 1) := by decide +kernel
theorem dX9_needsAt_130 : decode cX9_needsAt 130 = .ok (.iadd, 1) := by decide +kernel
theorem dX9_needsAt_131 : decode cX9_needsAt 131 = .ok (.aload_n 0, 1) := by decide +kernel
theorem dX9_needsAt_132 : decode cX9_needsAt 132 = .ok (.getfield 31, 3) := by decide +kernel
theorem dX9_needsAt_135 : decode cX9_needsAt 135 = .ok (.iload_n 1, 1) := by decide +kernel
theorem dX9_needsAt_136 : decode cX9_needsAt 136 = .ok (.iaload, 1) := by decide +kernel
theorem dX9_needsAt_137 : decode cX9_needsAt 137 = .ok (.aload_n 0, 1) := by decide +kernel
theorem dX9_needsAt_138 : decode cX9_needsAt 138 = .ok (.getfield 31, 3) := by decide +kernel
theorem dX9_needsAt_141 : decode cX9_needsAt 141 = .ok (.iload_n 1, 1) := by decide +kernel
theorem dX9_needsAt_142 : decode cX9_needsAt 142 = .ok (.iaload, 1) := by decide +kernel
theorem dX9_needsAt_143 : decode cX9_needsAt 143 = .ok (.imul, 1) := by decide +kernel
theorem dX9_needsAt_144 : decode cX9_needsAt 144 = .ok (.iadd, 1) := by decide +kernel
theorem dX9_needsAt_145 : decode cX9_needsAt 145 = .ok (.ireturn, 1) := by decide +kernel
theorem dX9_needsAt_146 : decode cX9_needsAt 146 = .ok (.aload_n 0, 1) := by decide +kernel
theorem dX9_needsAt_147 : decode cX9_needsAt 147 = .ok (.getfield 13, 3) := by decide +kernel
theorem dX9_needsAt_150 : decode cX9_needsAt 150 = .ok (.iload_n 2, 1) := by decide +kernel
theorem dX9_needsAt_151 : decode cX9_needsAt 151 = .ok (.iaload, 1) := by decide +kernel
theorem dX9_needsAt_152 : decode cX9_needsAt 152 = .ok (.aload_n 0, 1) := by decide +kernel
theorem dX9_needsAt_153 : decode cX9_needsAt 153 = .ok (.getfield 31, 3) := by decide +kernel
theorem dX9_needsAt_156 : decode cX9_needsAt 156 = .ok (.iload_n 1, 1) := by decide +kernel
theorem dX9_needsAt_157 : decode cX9_needsAt 157 = .ok (.iaload, 1) := by decide +kernel
theorem dX9_needsAt_158 : decode cX9_needsAt 158 = .ok (.if_icmp .gt 7, 3) := by decide +kernel
theorem dX9_needsAt_161 : decode cX9_needsAt 161 = .ok (.iconst 0, 1) := by decide +kernel
theorem dX9_needsAt_162 : decode cX9_needsAt 162 = .ok (.goto 6, 3) := by decide +kernel
theorem dX9_needsAt_165 : decode cX9_needsAt 165 = .ok (.iload_n 3, 1) := by decide +kernel
theorem dX9_needsAt_166 : decode cX9_needsAt 166 = .ok (.iload_n 3, 1) := by decide +kernel
theorem dX9_needsAt_167 : decode cX9_needsAt 167 = .ok (.imul, 1) := by decide +kernel
theorem dX9_needsAt_168 : decode cX9_needsAt 168 = .ok (.ireturn, 1) := by decide +kernel
theorem dX9_needsAt_169 : decode cX9_needsAt 169 = .ok (.iload_n 3, 1) := by decide +kernel
theorem dX9_needsAt_170 : decode cX9_needsAt 170 = .ok (.iload_n 3, 1) := by decide +kernel
theorem dX9_needsAt_171 : decode cX9_needsAt 171 = .ok (.imul, 1) := by decide +kernel
theorem dX9_needsAt_172 : decode cX9_needsAt 172 = .ok (.ireturn, 1) := by decide +kernel
theorem dX9_rootOf_0 : decode cX9_rootOf 0 = .ok (.iconst 0, 1) := by decide +kernel
theorem dX9_rootOf_1 : decode cX9_rootOf 1 = .ok (.istore_n 1, 1) := by decide +kernel
theorem dX9_rootOf_2 : decode cX9_rootOf 2 = .ok (.iload_n 1, 1) := by decide +kernel
theorem dX9_rootOf_3 : decode cX9_rootOf 3 = .ok (.iconst 1, 1) := by decide +kernel
theorem dX9_rootOf_4 : decode cX9_rootOf 4 = .ok (.iadd, 1) := by decide +kernel
theorem dX9_rootOf_5 : decode cX9_rootOf 5 = .ok (.iload_n 1, 1) := by decide +kernel
theorem dX9_rootOf_6 : decode cX9_rootOf 6 = .ok (.iconst 1, 1) := by decide +kernel
theorem dX9_rootOf_7 : decode cX9_rootOf 7 = .ok (.iadd, 1) := by decide +kernel
theorem dX9_rootOf_8 : decode cX9_rootOf 8 = .ok (.imul, 1) := by decide +kernel
theorem dX9_rootOf_9 : decode cX9_rootOf 9 = .ok (.iload_n 0, 1) := by decide +kernel
theorem dX9_rootOf_10 : decode cX9_rootOf 10 = .ok (.if_icmp .gt 9, 3) := by decide +kernel
theorem dX9_rootOf_13 : decode cX9_rootOf 13 = .ok (.iinc 1 1, 3) := by decide +kernel
theorem dX9_rootOf_16 : decode cX9_rootOf 16 = .ok (.goto (-14), 3) := by decide +kernel
theorem dX9_rootOf_19 : decode cX9_rootOf 19 = .ok (.iload_n 1, 1) := by decide +kernel
theorem dX9_rootOf_20 : decode cX9_rootOf 20 = .ok (.ireturn, 1) := by decide +kernel
theorem dX9_hangsWith_0 : decode cX9_hangsWith 0 = .ok (.iload_n 3, 1) := by decide +kernel
theorem dX9_hangsWith_1 : decode cX9_hangsWith 1 = .ok (.iload_n 3, 1) := by decide +kernel
theorem dX9_hangsWith_2 : decode cX9_hangsWith 2 = .ok (.imul, 1) := by decide +kernel
theorem dX9_hangsWith_3 : decode cX9_hangsWith 3 = .ok (.aload_n 0, 1) := by decide +kernel
theorem dX9_hangsWith_4 : decode cX9_hangsWith 4 = .ok (.iload_n 1, 1) := by decide +kernel
theorem dX9_hangsWith_5 : decode cX9_hangsWith 5 = .ok (.iload_n 2, 1) := by decide +kernel
theorem dX9_hangsWith_6 : decode cX9_hangsWith 6 = .ok (.invokevirtual 214, 3) := by decide +kernel
theorem dX9_hangsWith_9 : decode cX9_hangsWith 9 = .ok (.if_icmp .ge 7, 3) := by decide +kernel
theorem dX9_hangsWith_12 : decode cX9_hangsWith 12 = .ok (.iconst 1, 1) := by decide +kernel
theorem dX9_hangsWith_13 : decode cX9_hangsWith 13 = .ok (.goto 4, 3) := by decide +kernel
theorem dX9_hangsWith_16 : decode cX9_hangsWith 16 = .ok (.iconst 0, 1) := by decide +kernel
theorem dX9_hangsWith_17 : decode cX9_hangsWith 17 = .ok (.ireturn, 1) := by decide +kernel
theorem dX9_outWith_0 : decode cX9_outWith 0 = .ok (.aload_n 0, 1) := by decide +kernel
theorem dX9_outWith_1 : decode cX9_outWith 1 = .ok (.iload_n 1, 1) := by decide +kernel
theorem dX9_outWith_2 : decode cX9_outWith 2 = .ok (.iload_n 2, 1) := by decide +kernel
theorem dX9_outWith_3 : decode cX9_outWith 3 = .ok (.iload_n 3, 1) := by decide +kernel
theorem dX9_outWith_4 : decode cX9_outWith 4 = .ok (.invokevirtual 218, 3) := by decide +kernel
theorem dX9_outWith_7 : decode cX9_outWith 7 = .ok (.ifCond .eq 5, 3) := by decide +kernel
theorem dX9_outWith_10 : decode cX9_outWith 10 = .ok (.iconst 0, 1) := by decide +kernel
theorem dX9_outWith_11 : decode cX9_outWith 11 = .ok (.ireturn, 1) := by decide +kernel
theorem dX9_outWith_12 : decode cX9_outWith 12 = .ok (.iload_n 3, 1) := by decide +kernel
theorem dX9_outWith_13 : decode cX9_outWith 13 = .ok (.iload_n 3, 1) := by decide +kernel
theorem dX9_outWith_14 : decode cX9_outWith 14 = .ok (.imul, 1) := by decide +kernel
theorem dX9_outWith_15 : decode cX9_outWith 15 = .ok (.aload_n 0, 1) := by decide +kernel
theorem dX9_outWith_16 : decode cX9_outWith 16 = .ok (.iload_n 1, 1) := by decide +kernel
theorem dX9_outWith_17 : decode cX9_outWith 17 = .ok (.iload_n 2, 1) := by decide +kernel
theorem dX9_outWith_18 : decode cX9_outWith 18 = .ok (.invokevirtual 214, 3) := by decide +kernel
theorem dX9_outWith_21 : decode cX9_outWith 21 = .ok (.isub, 1) := by decide +kernel
theorem dX9_outWith_22 : decode cX9_outWith 22 = .ok (.invokestatic 221, 3) := by decide +kernel
theorem dX9_outWith_25 : decode cX9_outWith 25 = .ok (.istore 4, 2) := by decide +kernel
theorem dX9_outWith_27 : decode cX9_outWith 27 = .ok (.aload_n 0, 1) := by decide +kernel
theorem dX9_outWith_28 : decode cX9_outWith 28 = .ok (.getfield 28, 3) := by decide +kernel
theorem dX9_outWith_31 : decode cX9_outWith 31 = .ok (.iload_n 1, 1) := by decide +kernel
theorem dX9_outWith_32 : decode cX9_outWith 32 = .ok (.iaload, 1) := by decide +kernel
theorem dX9_outWith_33 : decode cX9_outWith 33 = .ok (.tableswitch 96 1 5 #[35, 40, 47, 35, 70], 35) := by decide +kernel
theorem dX9_outWith_68 : decode cX9_outWith 68 = .ok (.iload 4, 2) := by decide +kernel
theorem dX9_outWith_70 : decode cX9_outWith 70 = .ok (.iconst 2, 1) := by decide +kernel
theorem dX9_outWith_71 : decode cX9_outWith 71 = .ok (.idiv, 1) := by decide +kernel
theorem dX9_outWith_72 : decode cX9_outWith 72 = .ok (.ireturn, 1) := by decide +kernel
theorem dX9_outWith_73 : decode cX9_outWith 73 = .ok (.iconst 3, 1) := by decide +kernel
theorem dX9_outWith_74 : decode cX9_outWith 74 = .ok (.iload 4, 2) := by decide +kernel
theorem dX9_outWith_76 : decode cX9_outWith 76 = .ok (.imul, 1) := by decide +kernel
theorem dX9_outWith_77 : decode cX9_outWith 77 = .ok (.iconst 4, 1) := by decide +kernel
theorem dX9_outWith_78 : decode cX9_outWith 78 = .ok (.idiv, 1) := by decide +kernel
theorem dX9_outWith_79 : decode cX9_outWith 79 = .ok (.ireturn, 1) := by decide +kernel
theorem dX9_outWith_80 : decode cX9_outWith 80 = .ok (.iload 4, 2) := by decide +kernel
theorem dX9_outWith_82 : decode cX9_outWith 82 = .ok (.aload_n 0, 1) := by decide +kernel
theorem dX9_outWith_83 : decode cX9_outWith 83 = .ok (.getfield 31, 3) := by decide +kernel
theorem dX9_outWith_86 : decode cX9_outWith 86 = .ok (.iload_n 1, 1) := by decide +kernel
theorem dX9_outWith_87 : decode cX9_outWith 87 = .ok (.iaload, 1) := by decide +kernel
theorem dX9_outWith_88 : decode cX9_outWith 88 = .ok (.if_icmp .ge 8, 3) := by decide +kernel
theorem dX9_outWith_91 : decode cX9_outWith 91 = .ok (.iload 4, 2) := by decide +kernel
theorem dX9_outWith_93 : decode cX9_outWith 93 = .ok (.goto 9, 3) := by decide +kernel
theorem dX9_outWith_96 : decode cX9_outWith 96 = .ok (.aload_n 0, 1) := by decide +kernel
theorem dX9_outWith_97 : decode cX9_outWith 97 = .ok (.getfield 31, 3) := by decide +kernel
theorem dX9_outWith_100 : decode cX9_outWith 100 = .ok (.iload_n 1, 1) := by decide +kernel
theorem dX9_outWith_101 : decode cX9_outWith 101 = .ok (.iaload, 1) := by decide +kernel
theorem dX9_outWith_102 : decode cX9_outWith 102 = .ok (.ireturn, 1) := by decide +kernel
theorem dX9_outWith_103 : decode cX9_outWith 103 = .ok (.aload_n 0, 1) := by decide +kernel
theorem dX9_outWith_104 : decode cX9_outWith 104 = .ok (.getfield 13, 3) := by decide +kernel
theorem dX9_outWith_107 : decode cX9_outWith 107 = .ok (.iload_n 2, 1) := by decide +kernel
theorem dX9_outWith_108 : decode cX9_outWith 108 = .ok (.iaload, 1) := by decide +kernel
theorem dX9_outWith_109 : decode cX9_outWith 109 = .ok (.aload_n 0, 1) := by decide +kernel
theorem dX9_outWith_110 : decode cX9_outWith 110 = .ok (.getfield 31, 3) := by decide +kernel
theorem dX9_outWith_113 : decode cX9_outWith 113 = .ok (.iload_n 1, 1) := by decide +kernel
theorem dX9_outWith_114 : decode cX9_outWith 114 = .ok (.iaload, 1) := by decide +kernel
theorem dX9_outWith_115 : decode cX9_outWith 115 = .ok (.if_icmp .gt 7, 3) := by decide +kernel
theorem dX9_outWith_118 : decode cX9_outWith 118 = .ok (.iconst 0, 1) := by decide +kernel
theorem dX9_outWith_119 : decode cX9_outWith 119 = .ok (.goto 9, 3) := by decide +kernel
theorem dX9_outWith_122 : decode cX9_outWith 122 = .ok (.iconst 3, 1) := by decide +kernel
theorem dX9_outWith_123 : decode cX9_outWith 123 = .ok (.iload 4, 2) := by decide +kernel
theorem dX9_outWith_125 : decode cX9_outWith 125 = .ok (.imul, 1) := by decide +kernel
theorem dX9_outWith_126 : decode cX9_outWith 126 = .ok (.iconst 4, 1) := by decide +kernel
theorem dX9_outWith_127 : decode cX9_outWith 127 = .ok (.idiv, 1) := by decide +kernel
theorem dX9_outWith_128 : decode cX9_outWith 128 = .ok (.ireturn, 1) := by decide +kernel
theorem dX9_outWith_129 : decode cX9_outWith 129 = .ok (.iload 4, 2) := by decide +kernel
theorem dX9_outWith_131 : decode cX9_outWith 131 = .ok (.ireturn, 1) := by decide +kernel
theorem dX9_outAt_0 : decode cX9_outAt 0 = .ok (.aload_n 0, 1) := by decide +kernel
theorem dX9_outAt_1 : decode cX9_outAt 1 = .ok (.iload_n 1, 1) := by decide +kernel
theorem dX9_outAt_2 : decode cX9_outAt 2 = .ok (.iload_n 2, 1) := by decide +kernel
theorem dX9_outAt_3 : decode cX9_outAt 3 = .ok (.aload_n 0, 1) := by decide +kernel
theorem dX9_outAt_4 : decode cX9_outAt 4 = .ok (.getfield 40, 3) := by decide +kernel
theorem dX9_outAt_7 : decode cX9_outAt 7 = .ok (.iload_n 1, 1) := by decide +kernel
theorem dX9_outAt_8 : decode cX9_outAt 8 = .ok (.iaload, 1) := by decide +kernel
theorem dX9_outAt_9 : decode cX9_outAt 9 = .ok (.invokevirtual 224, 3) := by decide +kernel
theorem dX9_outAt_12 : decode cX9_outAt 12 = .ok (.ireturn, 1) := by decide +kernel
theorem dX9_middle_0 : decode cX9_middle 0 = .ok (.aload_n 0, 1) := by decide +kernel
theorem dX9_middle_1 : decode cX9_middle 1 = .ok (.iload_n 1, 1) := by decide +kernel
theorem dX9_middle_2 : decode cX9_middle 2 = .ok (.invokevirtual 227, 3) := by decide +kernel
theorem dX9_middle_5 : decode cX9_middle 5 = .ok (.ifCond .eq 31, 3) := by decide +kernel
theorem dX9_middle_8 : decode cX9_middle 8 = .ok (.aload_n 0, 1) := by decide +kernel
theorem dX9_middle_9 : decode cX9_middle 9 = .ok (.getfield 19, 3) := by decide +kernel
theorem dX9_middle_12 : decode cX9_middle 12 = .ok (.aload_n 0, 1) := by decide +kernel
theorem dX9_middle_13 : decode cX9_middle 13 = .ok (.getfield 34, 3) := by decide +kernel
theorem dX9_middle_16 : decode cX9_middle 16 = .ok (.iload_n 1, 1) := by decide +kernel
theorem dX9_middle_17 : decode cX9_middle 17 = .ok (.iaload, 1) := by decide +kernel
theorem dX9_middle_18 : decode cX9_middle 18 = .ok (.iaload, 1) := by decide +kernel
theorem dX9_middle_19 : decode cX9_middle 19 = .ok (.aload_n 0, 1) := by decide +kernel
theorem dX9_middle_20 : decode cX9_middle 20 = .ok (.getfield 19, 3) := by decide +kernel
theorem dX9_middle_23 : decode cX9_middle 23 = .ok (.aload_n 0, 1) := by decide +kernel
theorem dX9_middle_24 : decode cX9_middle 24 = .ok (.getfield 37, 3) := by decide +kernel
theorem dX9_middle_27 : decode cX9_middle 27 = .ok (.iload_n 1, 1) := by decide +kernel
theorem dX9_middle_28 : decode cX9_middle 28 = .ok (.iaload, 1) := by decide +kernel
theorem dX9_middle_29 : decode cX9_middle 29 = .ok (.iaload, 1) := by decide +kernel
theorem dX9_middle_30 : decode cX9_middle 30 = .ok (.iadd, 1) := by decide +kernel
theorem dX9_middle_31 : decode cX9_middle 31 = .ok (.iconst 2, 1) := by decide +kernel
theorem dX9_middle_32 : decode cX9_middle 32 = .ok (.idiv, 1) := by decide +kernel
theorem dX9_middle_33 : decode cX9_middle 33 = .ok (.goto 14, 3) := by decide +kernel
theorem dX9_middle_36 : decode cX9_middle 36 = .ok (.aload_n 0, 1) := by decide +kernel
theorem dX9_middle_37 : decode cX9_middle 37 = .ok (.getfield 19, 3) := by decide +kernel
theorem dX9_middle_40 : decode cX9_middle 40 = .ok (.aload_n 0, 1) := by decide +kernel
theorem dX9_middle_41 : decode cX9_middle 41 = .ok (.getfield 34, 3) := by decide +kernel
theorem dX9_middle_44 : decode cX9_middle 44 = .ok (.iload_n 1, 1) := by decide +kernel
theorem dX9_middle_45 : decode cX9_middle 45 = .ok (.iaload, 1) := by decide +kernel
theorem dX9_middle_46 : decode cX9_middle 46 = .ok (.iaload, 1) := by decide +kernel
theorem dX9_middle_47 : decode cX9_middle 47 = .ok (.ireturn, 1) := by decide +kernel
theorem dX9_middleBy_0 : decode cX9_middleBy 0 = .ok (.aload_n 0, 1) := by decide +kernel
theorem dX9_middleBy_1 : decode cX9_middleBy 1 = .ok (.iload_n 1, 1) := by decide +kernel
theorem dX9_middleBy_2 : decode cX9_middleBy 2 = .ok (.iload_n 2, 1) := by decide +kernel
theorem dX9_middleBy_3 : decode cX9_middleBy 3 = .ok (.invokevirtual 230, 3) := by decide +kernel
theorem dX9_middleBy_6 : decode cX9_middleBy 6 = .ok (.istore_n 3, 1) := by decide +kernel
theorem dX9_middleBy_7 : decode cX9_middleBy 7 = .ok (.aload_n 0, 1) := by decide +kernel
theorem dX9_middleBy_8 : decode cX9_middleBy 8 = .ok (.getfield 16, 3) := by decide +kernel
theorem dX9_middleBy_11 : decode cX9_middleBy 11 = .ok (.iload_n 2, 1) := by decide +kernel
theorem dX9_middleBy_12 : decode cX9_middleBy 12 = .ok (.iaload, 1) := by decide +kernel
theorem dX9_middleBy_13 : decode cX9_middleBy 13 = .ok (.iload_n 3, 1) := by decide +kernel
theorem dX9_middleBy_14 : decode cX9_middleBy 14 = .ok (.if_icmp .le 7, 3) := by decide +kernel
theorem dX9_middleBy_17 : decode cX9_middleBy 17 = .ok (.iload_n 3, 1) := by decide +kernel
theorem dX9_middleBy_18 : decode cX9_middleBy 18 = .ok (.goto 25, 3) := by decide +kernel
theorem dX9_middleBy_21 : decode cX9_middleBy 21 = .ok (.aload_n 0, 1) := by decide +kernel
theorem dX9_middleBy_22 : decode cX9_middleBy 22 = .ok (.getfield 16, 3) := by decide +kernel
theorem dX9_middleBy_25 : decode cX9_middleBy 25 = .ok (.iload_n 2, 1) := by decide +kernel
theorem dX9_middleBy_26 : decode cX9_middleBy 26 = .ok (.iaload, 1) := by decide +kernel
theorem dX9_middleBy_27 : decode cX9_middleBy 27 = .ok (.iload_n 3, 1) := by decide +kernel
theorem dX9_middleBy_28 : decode cX9_middleBy 28 = .ok (.ineg, 1) := by decide +kernel
theorem dX9_middleBy_29 : decode cX9_middleBy 29 = .ok (.if_icmp .ge 8, 3) := by decide +kernel
theorem dX9_middleBy_32 : decode cX9_middleBy 32 = .ok (.iload_n 3, 1) := by decide +kernel
theorem dX9_middleBy_33 : decode cX9_middleBy 33 = .ok (.ineg, 1) := by decide +kernel
theorem dX9_middleBy_34 : decode cX9_middleBy 34 = .ok (.goto 9, 3) := by decide +kernel
theorem dX9_middleBy_37 : decode cX9_middleBy 37 = .ok (.aload_n 0, 1) := by decide +kernel
theorem dX9_middleBy_38 : decode cX9_middleBy 38 = .ok (.getfield 16, 3) := by decide +kernel
theorem dX9_middleBy_41 : decode cX9_middleBy 41 = .ok (.iload_n 2, 1) := by decide +kernel
theorem dX9_middleBy_42 : decode cX9_middleBy 42 = .ok (.iaload, 1) := by decide +kernel
theorem dX9_middleBy_43 : decode cX9_middleBy 43 = .ok (.istore 4, 2) := by decide +kernel
theorem dX9_middleBy_45 : decode cX9_middleBy 45 = .ok (.aload_n 0, 1) := by decide +kernel
theorem dX9_middleBy_46 : decode cX9_middleBy 46 = .ok (.iload_n 1, 1) := by decide +kernel
theorem dX9_middleBy_47 : decode cX9_middleBy 47 = .ok (.invokevirtual 233, 3) := by decide +kernel
theorem dX9_middleBy_50 : decode cX9_middleBy 50 = .ok (.iload 4, 2) := by decide +kernel
theorem dX9_middleBy_52 : decode cX9_middleBy 52 = .ok (.iadd, 1) := by decide +kernel
theorem dX9_middleBy_53 : decode cX9_middleBy 53 = .ok (.ireturn, 1) := by decide +kernel
theorem dX9_tide_0 : decode cX9_tide 0 = .ok (.iload_n 1, 1) := by decide +kernel
theorem dX9_tide_1 : decode cX9_tide 1 = .ok (.invokestatic 159, 3) := by decide +kernel
theorem dX9_tide_4 : decode cX9_tide 4 = .ok (.ifCond .eq 12, 3) := by decide +kernel
theorem dX9_tide_7 : decode cX9_tide 7 = .ok (.aload_n 0, 1) := by decide +kernel
theorem dX9_tide_8 : decode cX9_tide 8 = .ok (.getfield 13, 3) := by decide +kernel
theorem dX9_tide_11 : decode cX9_tide 11 = .ok (.iload_n 1, 1) := by decide +kernel
theorem dX9_tide_12 : decode cX9_tide 12 = .ok (.iaload, 1) := by decide +kernel
theorem dX9_tide_13 : decode cX9_tide 13 = .ok (.goto 8, 3) := by decide +kernel
theorem dX9_tide_16 : decode cX9_tide 16 = .ok (.aload_n 0, 1) := by decide +kernel
theorem dX9_tide_17 : decode cX9_tide 17 = .ok (.iconst (-1), 1) := by decide +kernel
theorem dX9_tide_18 : decode cX9_tide 18 = .ok (.invokevirtual 124, 3) := by decide +kernel
theorem dX9_tide_21 : decode cX9_tide 21 = .ok (.ireturn, 1) := by decide +kernel
theorem dX9_wind_0 : decode cX9_wind 0 = .ok (.iload_n 1, 1) := by decide +kernel
theorem dX9_wind_1 : decode cX9_wind 1 = .ok (.invokestatic 159, 3) := by decide +kernel
theorem dX9_wind_4 : decode cX9_wind 4 = .ok (.ifCond .eq 12, 3) := by decide +kernel
theorem dX9_wind_7 : decode cX9_wind 7 = .ok (.aload_n 0, 1) := by decide +kernel
theorem dX9_wind_8 : decode cX9_wind 8 = .ok (.getfield 16, 3) := by decide +kernel
theorem dX9_wind_11 : decode cX9_wind 11 = .ok (.iload_n 1, 1) := by decide +kernel
theorem dX9_wind_12 : decode cX9_wind 12 = .ok (.iaload, 1) := by decide +kernel
theorem dX9_wind_13 : decode cX9_wind 13 = .ok (.goto 8, 3) := by decide +kernel
theorem dX9_wind_16 : decode cX9_wind 16 = .ok (.aload_n 0, 1) := by decide +kernel
theorem dX9_wind_17 : decode cX9_wind 17 = .ok (.iconst (-1), 1) := by decide +kernel
theorem dX9_wind_18 : decode cX9_wind 18 = .ok (.invokevirtual 236, 3) := by decide +kernel
theorem dX9_wind_21 : decode cX9_wind 21 = .ok (.ireturn, 1) := by decide +kernel
theorem dX9_rises_0 : decode cX9_rises 0 = .ok (.iload_n 1, 1) := by decide +kernel
theorem dX9_rises_1 : decode cX9_rises 1 = .ok (.invokestatic 159, 3) := by decide +kernel
theorem dX9_rises_4 : decode cX9_rises 4 = .ok (.ifCond .ne 7, 3) := by decide +kernel
theorem dX9_rises_7 : decode cX9_rises 7 = .ok (.iconst (-1), 1) := by decide +kernel
theorem dX9_rises_8 : decode cX9_rises 8 = .ok (.goto 10, 3) := by decide +kernel
theorem dX9_rises_11 : decode cX9_rises 11 = .ok (.iload_n 2, 1) := by decide +kernel
theorem dX9_rises_12 : decode cX9_rises 12 = .ok (.iconst 0, 1) := by decide +kernel
theorem dX9_rises_13 : decode cX9_rises 13 = .ok (.bipush 40, 2) := by decide +kernel
theorem dX9_rises_15 : decode cX9_rises 15 = .ok (.invokestatic 117, 3) := by decide +kernel
theorem dX9_rises_18 : decode cX9_rises 18 = .ok (.istore_n 3, 1) := by decide +kernel
theorem dX9_rises_19 : decode cX9_rises 19 = .ok (.iload_n 3, 1) := by decide +kernel
theorem dX9_rises_20 : decode cX9_rises 20 = .ok (.ifCond .eq 9, 3) := by decide +kernel
theorem dX9_rises_23 : decode cX9_rises 23 = .ok (.aload_n 0, 1) := by decide +kernel
theorem dX9_rises_24 : decode cX9_rises 24 = .ok (.iload_n 3, 1) := by decide +kernel
theorem dX9_rises_25 : decode cX9_rises 25 = .ok (.invokevirtual 124, 3) := by decide +kernel
theorem dX9_rises_28 : decode cX9_rises 28 = .ok (.ireturn, 1) := by decide +kernel
theorem dX9_rises_29 : decode cX9_rises 29 = .ok (.aload_n 0, 1) := by decide +kernel
theorem dX9_rises_30 : decode cX9_rises 30 = .ok (.getfield 13, 3) := by decide +kernel
theorem dX9_rises_33 : decode cX9_rises 33 = .ok (.iload_n 1, 1) := by decide +kernel
theorem dX9_rises_34 : decode cX9_rises 34 = .ok (.iaload, 1) := by decide +kernel
theorem dX9_rises_35 : decode cX9_rises 35 = .ok (.istore 4, 2) := by decide +kernel
theorem dX9_rises_37 : decode cX9_rises 37 = .ok (.aload_n 0, 1) := by decide +kernel
theorem dX9_rises_38 : decode cX9_rises 38 = .ok (.getfield 13, 3) := by decide +kernel
theorem dX9_rises_41 : decode cX9_rises 41 = .ok (.iload_n 1, 1) := by decide +kernel
theorem dX9_rises_42 : decode cX9_rises 42 = .ok (.iload_n 2, 1) := by decide +kernel
theorem dX9_rises_43 : decode cX9_rises 43 = .ok (.iastore, 1) := by decide +kernel
theorem dX9_rises_44 : decode cX9_rises 44 = .ok (.iload 4, 2) := by decide +kernel
theorem dX9_rises_46 : decode cX9_rises 46 = .ok (.ireturn, 1) := by decide +kernel
theorem dX9_ring_0 : decode cX9_ring 0 = .ok (.aload_n 0, 1) := by decide +kernel
theorem dX9_ring_1 : decode cX9_ring 1 = .ok (.iload_n 1, 1) := by decide +kernel
theorem dX9_ring_2 : decode cX9_ring 2 = .ok (.invokevirtual 156, 3) := by decide +kernel
theorem dX9_ring_5 : decode cX9_ring 5 = .ok (.ifCond .ne 9, 3) := by decide +kernel
theorem dX9_ring_8 : decode cX9_ring 8 = .ok (.aload_n 0, 1) := by decide +kernel
theorem dX9_ring_9 : decode cX9_ring 9 = .ok (.iconst (-1), 1) := by decide +kernel
theorem dX9_ring_10 : decode cX9_ring 10 = .ok (.invokevirtual 124, 3) := by decide +kernel
theorem dX9_ring_13 : decode cX9_ring 13 = .ok (.ireturn, 1) := by decide +kernel
theorem dX9_ring_14 : decode cX9_ring 14 = .ok (.iload_n 2, 1) := by decide +kernel
theorem dX9_ring_15 : decode cX9_ring 15 = .ok (.iconst 0, 1) := by decide +kernel
theorem dX9_ring_16 : decode cX9_ring 16 = .ok (.iconst 1, 1) := by decide +kernel
theorem dX9_ring_17 : decode cX9_ring 17 = .ok (.invokestatic 135, 3) := by decide +kernel
theorem dX9_ring_20 : decode cX9_ring 20 = .ok (.ifCond .ne 10, 3) := by decide +kernel
theorem dX9_ring_23 : decode cX9_ring 23 = .ok (.aload_n 0, 1) := by decide +kernel
theorem dX9_ring_24 : decode cX9_ring 24 = .ok (.bipush (-2), 2) := by decide +kernel
theorem dX9_ring_26 : decode cX9_ring 26 = .ok (.invokevirtual 124, 3) := by decide +kernel
theorem dX9_ring_29 : decode cX9_ring 29 = .ok (.ireturn, 1) := by decide +kernel
theorem dX9_ring_30 : decode cX9_ring 30 = .ok (.iload_n 2, 1) := by decide +kernel
theorem dX9_ring_31 : decode cX9_ring 31 = .ok (.ifCond .ne 12, 3) := by decide +kernel
theorem dX9_ring_34 : decode cX9_ring 34 = .ok (.aload_n 0, 1) := by decide +kernel
theorem dX9_ring_35 : decode cX9_ring 35 = .ok (.getfield 19, 3) := by decide +kernel
theorem dX9_ring_38 : decode cX9_ring 38 = .ok (.iload_n 1, 1) := by decide +kernel
theorem dX9_ring_39 : decode cX9_ring 39 = .ok (.iaload, 1) := by decide +kernel
theorem dX9_ring_40 : decode cX9_ring 40 = .ok (.goto 9, 3) := by decide +kernel
theorem dX9_ring_43 : decode cX9_ring 43 = .ok (.aload_n 0, 1) := by decide +kernel
theorem dX9_ring_44 : decode cX9_ring 44 = .ok (.getfield 22, 3) := by decide +kernel
theorem dX9_ring_47 : decode cX9_ring 47 = .ok (.iload_n 1, 1) := by decide +kernel
theorem dX9_ring_48 : decode cX9_ring 48 = .ok (.iaload, 1) := by decide +kernel
theorem dX9_ring_49 : decode cX9_ring 49 = .ok (.ireturn, 1) := by decide +kernel
theorem dX9_boat_0 : decode cX9_boat 0 = .ok (.aload_n 0, 1) := by decide +kernel
theorem dX9_boat_1 : decode cX9_boat 1 = .ok (.iload_n 1, 1) := by decide +kernel
theorem dX9_boat_2 : decode cX9_boat 2 = .ok (.invokevirtual 168, 3) := by decide +kernel
theorem dX9_boat_5 : decode cX9_boat 5 = .ok (.ifCond .ne 9, 3) := by decide +kernel
theorem dX9_boat_8 : decode cX9_boat 8 = .ok (.aload_n 0, 1) := by decide +kernel
theorem dX9_boat_9 : decode cX9_boat 9 = .ok (.iconst (-1), 1) := by decide +kernel
theorem dX9_boat_10 : decode cX9_boat 10 = .ok (.invokevirtual 124, 3) := by decide +kernel
theorem dX9_boat_13 : decode cX9_boat 13 = .ok (.ireturn, 1) := by decide +kernel
theorem dX9_boat_14 : decode cX9_boat 14 = .ok (.iload_n 2, 1) := by decide +kernel
theorem dX9_boat_15 : decode cX9_boat 15 = .ok (.tableswitch 90 0 6 #[41, 48, 55, 62, 69, 76, 83], 41) := by decide +kernel
theorem dX9_boat_56 : decode cX9_boat 56 = .ok (.aload_n 0, 1) := by decide +kernel
theorem dX9_boat_57 : decode cX9_boat 57 = .ok (.getfield 28, 3) := by decide +kernel
theorem dX9_boat_60 : decode cX9_boat 60 = .ok (.iload_n 1, 1) := by decide +kernel
theorem dX9_boat_61 : decode cX9_boat 61 = .ok (.iaload, 1) := by decide +kernel
theorem dX9_boat_62 : decode cX9_boat 62 = .ok (.ireturn, 1) := by decide +kernel
theorem dX9_boat_63 : decode cX9_boat 63 = .ok (.aload_n 0, 1) := by decide +kernel
theorem dX9_boat_64 : decode cX9_boat 64 = .ok (.getfield 31, 3) := by decide +kernel
theorem dX9_boat_67 : decode cX9_boat 67 = .ok (.iload_n 1, 1) := by decide +kernel
theorem dX9_boat_68 : decode cX9_boat 68 = .ok (.iaload, 1) := by decide +kernel
theorem dX9_boat_69 : decode cX9_boat 69 = .ok (.ireturn, 1) := by decide +kernel
theorem dX9_boat_70 : decode cX9_boat 70 = .ok (.aload_n 0, 1) := by decide +kernel
theorem dX9_boat_71 : decode cX9_boat 71 = .ok (.getfield 34, 3) := by decide +kernel
theorem dX9_boat_74 : decode cX9_boat 74 = .ok (.iload_n 1, 1) := by decide +kernel
theorem dX9_boat_75 : decode cX9_boat 75 = .ok (.iaload, 1) := by decide +kernel
theorem dX9_boat_76 : decode cX9_boat 76 = .ok (.ireturn, 1) := by decide +kernel
theorem dX9_boat_77 : decode cX9_boat 77 = .ok (.aload_n 0, 1) := by decide +kernel
theorem dX9_boat_78 : decode cX9_boat 78 = .ok (.getfield 37, 3) := by decide +kernel
theorem dX9_boat_81 : decode cX9_boat 81 = .ok (.iload_n 1, 1) := by decide +kernel
theorem dX9_boat_82 : decode cX9_boat 82 = .ok (.iaload, 1) := by decide +kernel
theorem dX9_boat_83 : decode cX9_boat 83 = .ok (.ireturn, 1) := by decide +kernel
theorem dX9_boat_84 : decode cX9_boat 84 = .ok (.aload_n 0, 1) := by decide +kernel
theorem dX9_boat_85 : decode cX9_boat 85 = .ok (.getfield 40, 3) := by decide +kernel
theorem dX9_boat_88 : decode cX9_boat 88 = .ok (.iload_n 1, 1) := by decide +kernel
theorem dX9_boat_89 : decode cX9_boat 89 = .ok (.iaload, 1) := by decide +kernel
theorem dX9_boat_90 : decode cX9_boat 90 = .ok (.ireturn, 1) := by decide +kernel
theorem dX9_boat_91 : decode cX9_boat 91 = .ok (.aload_n 0, 1) := by decide +kernel
theorem dX9_boat_92 : decode cX9_boat 92 = .ok (.getfield 43, 3) := by decide +kernel
theorem dX9_boat_95 : decode cX9_boat 95 = .ok (.iload_n 1, 1) := by decide +kernel
theorem dX9_boat_96 : decode cX9_boat 96 = .ok (.iaload, 1) := by decide +kernel
theorem dX9_boat_97 : decode cX9_boat 97 = .ok (.ireturn, 1) := by decide +kernel
theorem dX9_boat_98 : decode cX9_boat 98 = .ok (.aload_n 0, 1) := by decide +kernel
theorem dX9_boat_99 : decode cX9_boat 99 = .ok (.getfield 46, 3) := by decide +kernel
theorem dX9_boat_102 : decode cX9_boat 102 = .ok (.iload_n 1, 1) := by decide +kernel
theorem dX9_boat_103 : decode cX9_boat 103 = .ok (.iaload, 1) := by decide +kernel
theorem dX9_boat_104 : decode cX9_boat 104 = .ok (.ireturn, 1) := by decide +kernel
theorem dX9_boat_105 : decode cX9_boat 105 = .ok (.aload_n 0, 1) := by decide +kernel
theorem dX9_boat_106 : decode cX9_boat 106 = .ok (.bipush (-2), 2) := by decide +kernel
theorem dX9_boat_108 : decode cX9_boat 108 = .ok (.invokevirtual 124, 3) := by decide +kernel
theorem dX9_boat_111 : decode cX9_boat 111 = .ok (.ireturn, 1) := by decide +kernel
theorem dX9_pay_0 : decode cX9_pay 0 = .ok (.aload_n 0, 1) := by decide +kernel
theorem dX9_pay_1 : decode cX9_pay 1 = .ok (.iload_n 1, 1) := by decide +kernel
theorem dX9_pay_2 : decode cX9_pay 2 = .ok (.invokevirtual 168, 3) := by decide +kernel
theorem dX9_pay_5 : decode cX9_pay 5 = .ok (.ifCond .ne 7, 3) := by decide +kernel
theorem dX9_pay_8 : decode cX9_pay 8 = .ok (.iconst (-1), 1) := by decide +kernel
theorem dX9_pay_9 : decode cX9_pay 9 = .ok (.goto 10, 3) := by decide +kernel
theorem dX9_pay_12 : decode cX9_pay 12 = .ok (.iload_n 2, 1) := by decide +kernel
theorem dX9_pay_13 : decode cX9_pay 13 = .ok (.iconst 0, 1) := by decide +kernel
theorem dX9_pay_14 : decode cX9_pay 14 = .ok (.bipush 99, 2) := by decide +kernel
theorem dX9_pay_16 : decode cX9_pay 16 = .ok (.invokestatic 117, 3) := by decide +kernel
theorem dX9_pay_19 : decode cX9_pay 19 = .ok (.istore_n 3, 1) := by decide +kernel
theorem dX9_pay_20 : decode cX9_pay 20 = .ok (.iload_n 3, 1) := by decide +kernel
theorem dX9_pay_21 : decode cX9_pay 21 = .ok (.ifCond .eq 9, 3) := by decide +kernel
theorem dX9_pay_24 : decode cX9_pay 24 = .ok (.aload_n 0, 1) := by decide +kernel
theorem dX9_pay_25 : decode cX9_pay 25 = .ok (.iload_n 3, 1) := by decide +kernel
theorem dX9_pay_26 : decode cX9_pay 26 = .ok (.invokevirtual 124, 3) := by decide +kernel
theorem dX9_pay_29 : decode cX9_pay 29 = .ok (.ireturn, 1) := by decide +kernel
theorem dX9_pay_30 : decode cX9_pay 30 = .ok (.aload_n 0, 1) := by decide +kernel
theorem dX9_pay_31 : decode cX9_pay 31 = .ok (.getfield 40, 3) := by decide +kernel
theorem dX9_pay_34 : decode cX9_pay 34 = .ok (.iload_n 1, 1) := by decide +kernel
theorem dX9_pay_35 : decode cX9_pay 35 = .ok (.iaload, 1) := by decide +kernel
theorem dX9_pay_36 : decode cX9_pay 36 = .ok (.istore 4, 2) := by decide +kernel
theorem dX9_pay_38 : decode cX9_pay 38 = .ok (.aload_n 0, 1) := by decide +kernel
theorem dX9_pay_39 : decode cX9_pay 39 = .ok (.iload_n 1, 1) := by decide +kernel
theorem dX9_pay_40 : decode cX9_pay 40 = .ok (.invokevirtual 239, 3) := by decide +kernel
theorem dX9_pay_43 : decode cX9_pay 43 = .ok (.aload_n 0, 1) := by decide +kernel
theorem dX9_pay_44 : decode cX9_pay 44 = .ok (.getfield 40, 3) := by decide +kernel
theorem dX9_pay_47 : decode cX9_pay 47 = .ok (.iload_n 1, 1) := by decide +kernel
theorem dX9_pay_48 : decode cX9_pay 48 = .ok (.iload_n 2, 1) := by decide +kernel
theorem dX9_pay_49 : decode cX9_pay 49 = .ok (.iastore, 1) := by decide +kernel
theorem dX9_pay_50 : decode cX9_pay 50 = .ok (.iload 4, 2) := by decide +kernel
theorem dX9_pay_52 : decode cX9_pay 52 = .ok (.ireturn, 1) := by decide +kernel
theorem dX9_keepsPaid_0 : decode cX9_keepsPaid 0 = .ok (.bipush 7, 2) := by decide +kernel
theorem dX9_keepsPaid_2 : decode cX9_keepsPaid 2 = .ok (.istore_n 2, 1) := by decide +kernel
theorem dX9_keepsPaid_3 : decode cX9_keepsPaid 3 = .ok (.iload_n 2, 1) := by decide +kernel
theorem dX9_keepsPaid_4 : decode cX9_keepsPaid 4 = .ok (.ifCond .le 37, 3) := by decide +kernel
theorem dX9_keepsPaid_7 : decode cX9_keepsPaid 7 = .ok (.aload_n 0, 1) := by decide +kernel
theorem dX9_keepsPaid_8 : decode cX9_keepsPaid 8 = .ok (.getfield 70, 3) := by decide +kernel
theorem dX9_keepsPaid_11 : decode cX9_keepsPaid 11 = .ok (.iload_n 2, 1) := by decide +kernel
theorem dX9_keepsPaid_12 : decode cX9_keepsPaid 12 = .ok (.aload_n 0, 1) := by decide +kernel
theorem dX9_keepsPaid_13 : decode cX9_keepsPaid 13 = .ok (.getfield 70, 3) := by decide +kernel
theorem dX9_keepsPaid_16 : decode cX9_keepsPaid 16 = .ok (.iload_n 2, 1) := by decide +kernel
theorem dX9_keepsPaid_17 : decode cX9_keepsPaid 17 = .ok (.iconst 1, 1) := by decide +kernel
theorem dX9_keepsPaid_18 : decode cX9_keepsPaid 18 = .ok (.isub, 1) := by decide +kernel
theorem dX9_keepsPaid_19 : decode cX9_keepsPaid 19 = .ok (.iaload, 1) := by decide +kernel
theorem dX9_keepsPaid_20 : decode cX9_keepsPaid 20 = .ok (.iastore, 1) := by decide +kernel
theorem dX9_keepsPaid_21 : decode cX9_keepsPaid 21 = .ok (.aload_n 0, 1) := by decide +kernel
theorem dX9_keepsPaid_22 : decode cX9_keepsPaid 22 = .ok (.getfield 73, 3) := by decide +kernel
theorem dX9_keepsPaid_25 : decode cX9_keepsPaid 25 = .ok (.iload_n 2, 1) := by decide +kernel
theorem dX9_keepsPaid_26 : decode cX9_keepsPaid 26 = .ok (.aload_n 0, 1) := by decide +kernel
theorem dX9_keepsPaid_27 : decode cX9_keepsPaid 27 = .ok (.getfield 73, 3) := by decide +kernel
theorem dX9_keepsPaid_30 : decode cX9_keepsPaid 30 = .ok (.iload_n 2, 1) := by decide +kernel
theorem dX9_keepsPaid_31 : decode cX9_keepsPaid 31 = .ok (.iconst 1, 1) := by decide +kernel
theorem dX9_keepsPaid_32 : decode cX9_keepsPaid 32 = .ok (.isub, 1) := by decide +kernel
theorem dX9_keepsPaid_33 : decode cX9_keepsPaid 33 = .ok (.iaload, 1) := by decide +kernel
theorem dX9_keepsPaid_34 : decode cX9_keepsPaid 34 = .ok (.iastore, 1) := by decide +kernel
theorem dX9_keepsPaid_35 : decode cX9_keepsPaid 35 = .ok (.iinc 2 (-1), 3) := by decide +kernel
theorem dX9_keepsPaid_38 : decode cX9_keepsPaid 38 = .ok (.goto (-35), 3) := by decide +kernel
theorem dX9_keepsPaid_41 : decode cX9_keepsPaid 41 = .ok (.aload_n 0, 1) := by decide +kernel
theorem dX9_keepsPaid_42 : decode cX9_keepsPaid 42 = .ok (.getfield 70, 3) := by decide +kernel
theorem dX9_keepsPaid_45 : decode cX9_keepsPaid 45 = .ok (.iconst 0, 1) := by decide +kernel
theorem dX9_keepsPaid_46 : decode cX9_keepsPaid 46 = .ok (.iload_n 1, 1) := by decide +kernel
theorem dX9_keepsPaid_47 : decode cX9_keepsPaid 47 = .ok (.iastore, 1) := by decide +kernel
theorem dX9_keepsPaid_48 : decode cX9_keepsPaid 48 = .ok (.aload_n 0, 1) := by decide +kernel
theorem dX9_keepsPaid_49 : decode cX9_keepsPaid 49 = .ok (.getfield 73, 3) := by decide +kernel
theorem dX9_keepsPaid_52 : decode cX9_keepsPaid 52 = .ok (.iconst 0, 1) := by decide +kernel
theorem dX9_keepsPaid_53 : decode cX9_keepsPaid 53 = .ok (.aload_n 0, 1) := by decide +kernel
theorem dX9_keepsPaid_54 : decode cX9_keepsPaid 54 = .ok (.getfield 40, 3) := by decide +kernel
theorem dX9_keepsPaid_57 : decode cX9_keepsPaid 57 = .ok (.iload_n 1, 1) := by decide +kernel
theorem dX9_keepsPaid_58 : decode cX9_keepsPaid 58 = .ok (.iaload, 1) := by decide +kernel
theorem dX9_keepsPaid_59 : decode cX9_keepsPaid 59 = .ok (.iastore, 1) := by decide +kernel
theorem dX9_keepsPaid_60 : decode cX9_keepsPaid 60 = .ok (.aload_n 0, 1) := by decide +kernel
theorem dX9_keepsPaid_61 : decode cX9_keepsPaid 61 = .ok (.aload_n 0, 1) := by decide +kernel
theorem dX9_keepsPaid_62 : decode cX9_keepsPaid 62 = .ok (.getfield 182, 3) := by decide +kernel
theorem dX9_keepsPaid_65 : decode cX9_keepsPaid 65 = .ok (.bipush 8, 2) := by decide +kernel
theorem dX9_keepsPaid_67 : decode cX9_keepsPaid 67 = .ok (.if_icmp .ge 12, 3) := by decide +kernel
theorem dX9_keepsPaid_70 : decode cX9_keepsPaid 70 = .ok (.aload_n 0, 1) := by decide +kernel
theorem dX9_keepsPaid_71 : decode cX9_keepsPaid 71 = .ok (.getfield 182, 3) := by decide +kernel
theorem dX9_keepsPaid_74 : decode cX9_keepsPaid 74 = .ok (.iconst 1, 1) := by decide +kernel
theorem dX9_keepsPaid_75 : decode cX9_keepsPaid 75 = .ok (.iadd, 1) := by decide +kernel
theorem dX9_keepsPaid_76 : decode cX9_keepsPaid 76 = .ok (.goto 5, 3) := by decide +kernel
theorem dX9_keepsPaid_79 : decode cX9_keepsPaid 79 = .ok (.bipush 8, 2) := by decide +kernel
theorem dX9_keepsPaid_81 : decode cX9_keepsPaid 81 = .ok (.putfield 182, 3) := by decide +kernel
theorem dX9_keepsPaid_84 : decode cX9_keepsPaid 84 = .ok (.return_, 1) := by decide +kernel
theorem dX9_back_0 : decode cX9_back 0 = .ok (.aload_n 0, 1) := by decide +kernel
theorem dX9_back_1 : decode cX9_back 1 = .ok (.getfield 182, 3) := by decide +kernel
theorem dX9_back_4 : decode cX9_back 4 = .ok (.ifCond .ne 10, 3) := by decide +kernel
theorem dX9_back_7 : decode cX9_back 7 = .ok (.aload_n 0, 1) := by decide +kernel
theorem dX9_back_8 : decode cX9_back 8 = .ok (.bipush (-3), 2) := by decide +kernel
theorem dX9_back_10 : decode cX9_back 10 = .ok (.invokevirtual 124, 3) := by decide +kernel
theorem dX9_back_13 : decode cX9_back 13 = .ok (.ireturn, 1) := by decide +kernel
theorem dX9_back_14 : decode cX9_back 14 = .ok (.aload_n 0, 1) := by decide +kernel
theorem dX9_back_15 : decode cX9_back 15 = .ok (.getfield 70, 3) := by decide +kernel
theorem dX9_back_18 : decode cX9_back 18 = .ok (.iconst 0, 1) := by decide +kernel
theorem dX9_back_19 : decode cX9_back 19 = .ok (.iaload, 1) := by decide +kernel
theorem dX9_back_20 : decode cX9_back 20 = .ok (.istore_n 1, 1) := by decide +kernel
theorem dX9_back_21 : decode cX9_back 21 = .ok (.aload_n 0, 1) := by decide +kernel
theorem dX9_back_22 : decode cX9_back 22 = .ok (.getfield 40, 3) := by decide +kernel
theorem dX9_back_25 : decode cX9_back 25 = .ok (.iload_n 1, 1) := by decide +kernel
theorem dX9_back_26 : decode cX9_back 26 = .ok (.aload_n 0, 1) := by decide +kernel
theorem dX9_back_27 : decode cX9_back 27 = .ok (.getfield 73, 3) := by decide +kernel
theorem dX9_back_30 : decode cX9_back 30 = .ok (.iconst 0, 1) := by decide +kernel
theorem dX9_back_31 : decode cX9_back 31 = .ok (.iaload, 1) := by decide +kernel
theorem dX9_back_32 : decode cX9_back 32 = .ok (.iastore, 1) := by decide +kernel
theorem dX9_back_33 : decode cX9_back 33 = .ok (.iconst 0, 1) := by decide +kernel
theorem dX9_back_34 : decode cX9_back 34 = .ok (.istore_n 2, 1) := by decide +kernel
theorem dX9_back_35 : decode cX9_back 35 = .ok (.iload_n 2, 1) := by decide +kernel
theorem dX9_back_36 : decode cX9_back 36 = .ok (.bipush 7, 2) := by decide +kernel
theorem dX9_back_38 : decode cX9_back 38 = .ok (.if_icmp .ge 37, 3) := by decide +kernel
theorem dX9_back_41 : decode cX9_back 41 = .ok (.aload_n 0, 1) := by decide +kernel
theorem dX9_back_42 : decode cX9_back 42 = .ok (.getfield 70, 3) := by decide +kernel
theorem dX9_back_45 : decode cX9_back 45 = .ok (.iload_n 2, 1) := by decide +kernel
theorem dX9_back_46 : decode cX9_back 46 = .ok (.aload_n 0, 1) := by decide +kernel
theorem dX9_back_47 : decode cX9_back 47 = .ok (.getfield 70, 3) := by decide +kernel
theorem dX9_back_50 : decode cX9_back 50 = .ok (.iload_n 2, 1) := by decide +kernel
theorem dX9_back_51 : decode cX9_back 51 = .ok (.iconst 1, 1) := by decide +kernel
theorem dX9_back_52 : decode cX9_back 52 = .ok (.iadd, 1) := by decide +kernel
theorem dX9_back_53 : decode cX9_back 53 = .ok (.iaload, 1) := by decide +kernel
theorem dX9_back_54 : decode cX9_back 54 = .ok (.iastore, 1) := by decide +kernel
theorem dX9_back_55 : decode cX9_back 55 = .ok (.aload_n 0, 1) := by decide +kernel
theorem dX9_back_56 : decode cX9_back 56 = .ok (.getfield 73, 3) := by decide +kernel
theorem dX9_back_59 : decode cX9_back 59 = .ok (.iload_n 2, 1) := by decide +kernel
theorem dX9_back_60 : decode cX9_back 60 = .ok (.aload_n 0, 1) := by decide +kernel
theorem dX9_back_61 : decode cX9_back 61 = .ok (.getfield 73, 3) := by decide +kernel
theorem dX9_back_64 : decode cX9_back 64 = .ok (.iload_n 2, 1) := by decide +kernel
theorem dX9_back_65 : decode cX9_back 65 = .ok (.iconst 1, 1) := by decide +kernel
theorem dX9_back_66 : decode cX9_back 66 = .ok (.iadd, 1) := by decide +kernel
theorem dX9_back_67 : decode cX9_back 67 = .ok (.iaload, 1) := by decide +kernel
theorem dX9_back_68 : decode cX9_back 68 = .ok (.iastore, 1) := by decide +kernel
theorem dX9_back_69 : decode cX9_back 69 = .ok (.iinc 2 1, 3) := by decide +kernel
theorem dX9_back_72 : decode cX9_back 72 = .ok (.goto (-37), 3) := by decide +kernel
theorem dX9_back_75 : decode cX9_back 75 = .ok (.aload_n 0, 1) := by decide +kernel
theorem dX9_back_76 : decode cX9_back 76 = .ok (.dup, 1) := by decide +kernel
theorem dX9_back_77 : decode cX9_back 77 = .ok (.getfield 182, 3) := by decide +kernel
theorem dX9_back_80 : decode cX9_back 80 = .ok (.iconst 1, 1) := by decide +kernel
theorem dX9_back_81 : decode cX9_back 81 = .ok (.isub, 1) := by decide +kernel
theorem dX9_back_82 : decode cX9_back 82 = .ok (.putfield 182, 3) := by decide +kernel
theorem dX9_back_85 : decode cX9_back 85 = .ok (.iload_n 1, 1) := by decide +kernel
theorem dX9_back_86 : decode cX9_back 86 = .ok (.ireturn, 1) := by decide +kernel
theorem dX9_tie_0 : decode cX9_tie 0 = .ok (.aload_n 0, 1) := by decide +kernel
theorem dX9_tie_1 : decode cX9_tie 1 = .ok (.iload_n 1, 1) := by decide +kernel
theorem dX9_tie_2 : decode cX9_tie 2 = .ok (.invokevirtual 168, 3) := by decide +kernel
theorem dX9_tie_5 : decode cX9_tie 5 = .ok (.ifCond .eq 11, 3) := by decide +kernel
theorem dX9_tie_8 : decode cX9_tie 8 = .ok (.aload_n 0, 1) := by decide +kernel
theorem dX9_tie_9 : decode cX9_tie 9 = .ok (.iload_n 2, 1) := by decide +kernel
theorem dX9_tie_10 : decode cX9_tie 10 = .ok (.invokevirtual 156, 3) := by decide +kernel
theorem dX9_tie_13 : decode cX9_tie 13 = .ok (.ifCond .ne 9, 3) := by decide +kernel
theorem dX9_tie_16 : decode cX9_tie 16 = .ok (.aload_n 0, 1) := by decide +kernel
theorem dX9_tie_17 : decode cX9_tie 17 = .ok (.iconst (-1), 1) := by decide +kernel
theorem dX9_tie_18 : decode cX9_tie 18 = .ok (.invokevirtual 124, 3) := by decide +kernel
theorem dX9_tie_21 : decode cX9_tie 21 = .ok (.ireturn, 1) := by decide +kernel
theorem dX9_tie_22 : decode cX9_tie 22 = .ok (.aload_n 0, 1) := by decide +kernel
theorem dX9_tie_23 : decode cX9_tie 23 = .ok (.getfield 34, 3) := by decide +kernel
theorem dX9_tie_26 : decode cX9_tie 26 = .ok (.iload_n 1, 1) := by decide +kernel
theorem dX9_tie_27 : decode cX9_tie 27 = .ok (.iaload, 1) := by decide +kernel
theorem dX9_tie_28 : decode cX9_tie 28 = .ok (.istore_n 3, 1) := by decide +kernel
theorem dX9_tie_29 : decode cX9_tie 29 = .ok (.aload_n 0, 1) := by decide +kernel
theorem dX9_tie_30 : decode cX9_tie 30 = .ok (.getfield 34, 3) := by decide +kernel
theorem dX9_tie_33 : decode cX9_tie 33 = .ok (.iload_n 1, 1) := by decide +kernel
theorem dX9_tie_34 : decode cX9_tie 34 = .ok (.iload_n 2, 1) := by decide +kernel
theorem dX9_tie_35 : decode cX9_tie 35 = .ok (.iastore, 1) := by decide +kernel
theorem dX9_tie_36 : decode cX9_tie 36 = .ok (.aload_n 0, 1) := by decide +kernel
theorem dX9_tie_37 : decode cX9_tie 37 = .ok (.iconst 0, 1) := by decide +kernel
theorem dX9_tie_38 : decode cX9_tie 38 = .ok (.putfield 182, 3) := by decide +kernel
theorem dX9_tie_41 : decode cX9_tie 41 = .ok (.iload_n 3, 1) := by decide +kernel
theorem dX9_tie_42 : decode cX9_tie 42 = .ok (.ireturn, 1) := by decide +kernel
theorem dX9_set_0 : decode cX9_set 0 = .ok (.iload_n 1, 1) := by decide +kernel
theorem dX9_set_1 : decode cX9_set 1 = .ok (.iconst 0, 1) := by decide +kernel
theorem dX9_set_2 : decode cX9_set 2 = .ok (.iconst 1, 1) := by decide +kernel
theorem dX9_set_3 : decode cX9_set 3 = .ok (.invokestatic 135, 3) := by decide +kernel
theorem dX9_set_6 : decode cX9_set 6 = .ok (.ifCond .ne 8, 3) := by decide +kernel
theorem dX9_set_9 : decode cX9_set 9 = .ok (.bipush (-2), 2) := by decide +kernel
theorem dX9_set_11 : decode cX9_set 11 = .ok (.goto 19, 3) := by decide +kernel
theorem dX9_set_14 : decode cX9_set 14 = .ok (.iload_n 2, 1) := by decide +kernel
theorem dX9_set_15 : decode cX9_set 15 = .ok (.iconst 0, 1) := by decide +kernel
theorem dX9_set_16 : decode cX9_set 16 = .ok (.iload_n 1, 1) := by decide +kernel
theorem dX9_set_17 : decode cX9_set 17 = .ok (.ifCond .ne 8, 3) := by decide +kernel
theorem dX9_set_20 : decode cX9_set 20 = .ok (.bipush 60, 2) := by decide +kernel
theorem dX9_set_22 : decode cX9_set 22 = .ok (.goto 5, 3) := by decide +kernel
theorem dX9_set_25 : decode cX9_set 25 = .ok (.bipush 9, 2) := by decide +kernel
theorem dX9_set_27 : decode cX9_set 27 = .ok (.invokestatic 117, 3) := by decide +kernel
theorem dX9_set_30 : decode cX9_set 30 = .ok (.istore_n 3, 1) := by decide +kernel
theorem dX9_set_31 : decode cX9_set 31 = .ok (.iload_n 3, 1) := by decide +kernel
theorem dX9_set_32 : decode cX9_set 32 = .ok (.ifCond .eq 9, 3) := by decide +kernel
theorem dX9_set_35 : decode cX9_set 35 = .ok (.aload_n 0, 1) := by decide +kernel
theorem dX9_set_36 : decode cX9_set 36 = .ok (.iload_n 3, 1) := by decide +kernel
theorem dX9_set_37 : decode cX9_set 37 = .ok (.invokevirtual 124, 3) := by decide +kernel
theorem dX9_set_40 : decode cX9_set 40 = .ok (.ireturn, 1) := by decide +kernel
theorem dX9_set_41 : decode cX9_set 41 = .ok (.aload_n 0, 1) := by decide +kernel
theorem dX9_set_42 : decode cX9_set 42 = .ok (.getfield 25, 3) := by decide +kernel
theorem dX9_set_45 : decode cX9_set 45 = .ok (.iload_n 1, 1) := by decide +kernel
theorem dX9_set_46 : decode cX9_set 46 = .ok (.iaload, 1) := by decide +kernel
theorem dX9_set_47 : decode cX9_set 47 = .ok (.istore 4, 2) := by decide +kernel
theorem dX9_set_49 : decode cX9_set 49 = .ok (.aload_n 0, 1) := by decide +kernel
theorem dX9_set_50 : decode cX9_set 50 = .ok (.getfield 25, 3) := by decide +kernel
theorem dX9_set_53 : decode cX9_set 53 = .ok (.iload_n 1, 1) := by decide +kernel
theorem dX9_set_54 : decode cX9_set 54 = .ok (.iload_n 2, 1) := by decide +kernel
theorem dX9_set_55 : decode cX9_set 55 = .ok (.iastore, 1) := by decide +kernel
theorem dX9_set_56 : decode cX9_set 56 = .ok (.iload 4, 2) := by decide +kernel
theorem dX9_set_58 : decode cX9_set 58 = .ok (.ireturn, 1) := by decide +kernel
theorem dX9_hour_0 : decode cX9_hour 0 = .ok (.aload_n 0, 1) := by decide +kernel
theorem dX9_hour_1 : decode cX9_hour 1 = .ok (.aload_n 0, 1) := by decide +kernel
theorem dX9_hour_2 : decode cX9_hour 2 = .ok (.getfield 205, 3) := by decide +kernel
theorem dX9_hour_5 : decode cX9_hour 5 = .ok (.iconst 1, 1) := by decide +kernel
theorem dX9_hour_6 : decode cX9_hour 6 = .ok (.iadd, 1) := by decide +kernel
theorem dX9_hour_7 : decode cX9_hour 7 = .ok (.bipush 12, 2) := by decide +kernel
theorem dX9_hour_9 : decode cX9_hour 9 = .ok (.irem, 1) := by decide +kernel
theorem dX9_hour_10 : decode cX9_hour 10 = .ok (.putfield 205, 3) := by decide +kernel
theorem dX9_hour_13 : decode cX9_hour 13 = .ok (.aload_n 0, 1) := by decide +kernel
theorem dX9_hour_14 : decode cX9_hour 14 = .ok (.getfield 205, 3) := by decide +kernel
theorem dX9_hour_17 : decode cX9_hour 17 = .ok (.ireturn, 1) := by decide +kernel
theorem dX9_needs_0 : decode cX9_needs 0 = .ok (.aload_n 0, 1) := by decide +kernel
theorem dX9_needs_1 : decode cX9_needs 1 = .ok (.iload_n 1, 1) := by decide +kernel
theorem dX9_needs_2 : decode cX9_needs 2 = .ok (.invokevirtual 168, 3) := by decide +kernel
theorem dX9_needs_5 : decode cX9_needs 5 = .ok (.ifCond .eq 19, 3) := by decide +kernel
theorem dX9_needs_8 : decode cX9_needs 8 = .ok (.iload_n 2, 1) := by decide +kernel
theorem dX9_needs_9 : decode cX9_needs 9 = .ok (.invokestatic 159, 3) := by decide +kernel
theorem dX9_needs_12 : decode cX9_needs 12 = .ok (.ifCond .eq 12, 3) := by decide +kernel
theorem dX9_needs_15 : decode cX9_needs 15 = .ok (.aload_n 0, 1) := by decide +kernel
theorem dX9_needs_16 : decode cX9_needs 16 = .ok (.iload_n 1, 1) := by decide +kernel
theorem dX9_needs_17 : decode cX9_needs 17 = .ok (.iload_n 2, 1) := by decide +kernel
theorem dX9_needs_18 : decode cX9_needs 18 = .ok (.invokevirtual 214, 3) := by decide +kernel
theorem dX9_needs_21 : decode cX9_needs 21 = .ok (.goto 8, 3) := by decide +kernel
theorem dX9_needs_24 : decode cX9_needs 24 = .ok (.aload_n 0, 1) := by decide +kernel
theorem dX9_needs_25 : decode cX9_needs 25 = .ok (.iconst (-1), 1) := by decide +kernel
theorem dX9_needs_26 : decode cX9_needs 26 = .ok (.invokevirtual 124, 3) := by decide +kernel
theorem dX9_needs_29 : decode cX9_needs 29 = .ok (.ireturn, 1) := by decide +kernel
theorem dX9_out_0 : decode cX9_out 0 = .ok (.aload_n 0, 1) := by decide +kernel
theorem dX9_out_1 : decode cX9_out 1 = .ok (.iload_n 1, 1) := by decide +kernel
theorem dX9_out_2 : decode cX9_out 2 = .ok (.invokevirtual 168, 3) := by decide +kernel
theorem dX9_out_5 : decode cX9_out 5 = .ok (.ifCond .eq 19, 3) := by decide +kernel
theorem dX9_out_8 : decode cX9_out 8 = .ok (.iload_n 2, 1) := by decide +kernel
theorem dX9_out_9 : decode cX9_out 9 = .ok (.invokestatic 159, 3) := by decide +kernel
theorem dX9_out_12 : decode cX9_out 12 = .ok (.ifCond .eq 12, 3) := by decide +kernel
theorem dX9_out_15 : decode cX9_out 15 = .ok (.aload_n 0, 1) := by decide +kernel
theorem dX9_out_16 : decode cX9_out 16 = .ok (.iload_n 1, 1) := by decide +kernel
theorem dX9_out_17 : decode cX9_out 17 = .ok (.iload_n 2, 1) := by decide +kernel
theorem dX9_out_18 : decode cX9_out 18 = .ok (.invokevirtual 230, 3) := by decide +kernel
theorem dX9_out_21 : decode cX9_out 21 = .ok (.goto 8, 3) := by decide +kernel
theorem dX9_out_24 : decode cX9_out 24 = .ok (.aload_n 0, 1) := by decide +kernel
theorem dX9_out_25 : decode cX9_out 25 = .ok (.iconst (-1), 1) := by decide +kernel
theorem dX9_out_26 : decode cX9_out 26 = .ok (.invokevirtual 124, 3) := by decide +kernel
theorem dX9_out_29 : decode cX9_out 29 = .ok (.ireturn, 1) := by decide +kernel
theorem dX9_lies_0 : decode cX9_lies 0 = .ok (.aload_n 0, 1) := by decide +kernel
theorem dX9_lies_1 : decode cX9_lies 1 = .ok (.iload_n 1, 1) := by decide +kernel
theorem dX9_lies_2 : decode cX9_lies 2 = .ok (.invokevirtual 168, 3) := by decide +kernel
theorem dX9_lies_5 : decode cX9_lies 5 = .ok (.ifCond .eq 10, 3) := by decide +kernel
theorem dX9_lies_8 : decode cX9_lies 8 = .ok (.iload_n 2, 1) := by decide +kernel
theorem dX9_lies_9 : decode cX9_lies 9 = .ok (.invokestatic 159, 3) := by decide +kernel
theorem dX9_lies_12 : decode cX9_lies 12 = .ok (.ifCond .ne 9, 3) := by decide +kernel
theorem dX9_lies_15 : decode cX9_lies 15 = .ok (.aload_n 0, 1) := by decide +kernel
theorem dX9_lies_16 : decode cX9_lies 16 = .ok (.iconst (-1), 1) := by decide +kernel
theorem dX9_lies_17 : decode cX9_lies 17 = .ok (.invokevirtual 236, 3) := by decide +kernel
theorem dX9_lies_20 : decode cX9_lies 20 = .ok (.ireturn, 1) := by decide +kernel
theorem dX9_lies_21 : decode cX9_lies 21 = .ok (.iload_n 3, 1) := by decide +kernel
theorem dX9_lies_22 : decode cX9_lies 22 = .ok (.tableswitch 66 0 2 #[26, 39, 59], 26) := by decide +kernel
theorem dX9_lies_48 : decode cX9_lies 48 = .ok (.aload_n 0, 1) := by decide +kernel
theorem dX9_lies_49 : decode cX9_lies 49 = .ok (.iload_n 1, 1) := by decide +kernel
theorem dX9_lies_50 : decode cX9_lies 50 = .ok (.invokevirtual 233, 3) := by decide +kernel
theorem dX9_lies_53 : decode cX9_lies 53 = .ok (.aload_n 0, 1) := by decide +kernel
theorem dX9_lies_54 : decode cX9_lies 54 = .ok (.iload_n 1, 1) := by decide +kernel
theorem dX9_lies_55 : decode cX9_lies 55 = .ok (.iload_n 2, 1) := by decide +kernel
theorem dX9_lies_56 : decode cX9_lies 56 = .ok (.invokevirtual 230, 3) := by decide +kernel
theorem dX9_lies_59 : decode cX9_lies 59 = .ok (.isub, 1) := by decide +kernel
theorem dX9_lies_60 : decode cX9_lies 60 = .ok (.ireturn, 1) := by decide +kernel
theorem dX9_lies_61 : decode cX9_lies 61 = .ok (.aload_n 0, 1) := by decide +kernel
theorem dX9_lies_62 : decode cX9_lies 62 = .ok (.iload_n 1, 1) := by decide +kernel
theorem dX9_lies_63 : decode cX9_lies 63 = .ok (.invokevirtual 233, 3) := by decide +kernel
theorem dX9_lies_66 : decode cX9_lies 66 = .ok (.aload_n 0, 1) := by decide +kernel
theorem dX9_lies_67 : decode cX9_lies 67 = .ok (.iload_n 1, 1) := by decide +kernel
theorem dX9_lies_68 : decode cX9_lies 68 = .ok (.iload_n 2, 1) := by decide +kernel
theorem dX9_lies_69 : decode cX9_lies 69 = .ok (.invokevirtual 230, 3) := by decide +kernel
theorem dX9_lies_72 : decode cX9_lies 72 = .ok (.iadd, 1) := by decide +kernel
theorem dX9_lies_73 : decode cX9_lies 73 = .ok (.aload_n 0, 1) := by decide +kernel
theorem dX9_lies_74 : decode cX9_lies 74 = .ok (.getfield 43, 3) := by decide +kernel
theorem dX9_lies_77 : decode cX9_lies 77 = .ok (.iload_n 1, 1) := by decide +kernel
theorem dX9_lies_78 : decode cX9_lies 78 = .ok (.iaload, 1) := by decide +kernel
theorem dX9_lies_79 : decode cX9_lies 79 = .ok (.iadd, 1) := by decide +kernel
theorem dX9_lies_80 : decode cX9_lies 80 = .ok (.ireturn, 1) := by decide +kernel
theorem dX9_lies_81 : decode cX9_lies 81 = .ok (.aload_n 0, 1) := by decide +kernel
theorem dX9_lies_82 : decode cX9_lies 82 = .ok (.iload_n 1, 1) := by decide +kernel
theorem dX9_lies_83 : decode cX9_lies 83 = .ok (.iload_n 2, 1) := by decide +kernel
theorem dX9_lies_84 : decode cX9_lies 84 = .ok (.invokevirtual 243, 3) := by decide +kernel
theorem dX9_lies_87 : decode cX9_lies 87 = .ok (.ireturn, 1) := by decide +kernel
theorem dX9_lies_88 : decode cX9_lies 88 = .ok (.aload_n 0, 1) := by decide +kernel
theorem dX9_lies_89 : decode cX9_lies 89 = .ok (.bipush (-2), 2) := by decide +kernel
theorem dX9_lies_91 : decode cX9_lies 91 = .ok (.invokevirtual 236, 3) := by decide +kernel
theorem dX9_lies_94 : decode cX9_lies 94 = .ok (.ireturn, 1) := by decide +kernel
theorem dX9_hangHours_0 : decode cX9_hangHours 0 = .ok (.iconst 0, 1) := by decide +kernel
theorem dX9_hangHours_1 : decode cX9_hangHours 1 = .ok (.istore_n 3, 1) := by decide +kernel
theorem dX9_hangHours_2 : decode cX9_hangHours 2 = .ok (.iconst 0, 1) := by decide +kernel
theorem dX9_hangHours_3 : decode cX9_hangHours 3 = .ok (.istore 4, 2) := by decide +kernel
theorem dX9_hangHours_5 : decode cX9_hangHours 5 = .ok (.iload 4, 2) := by decide +kernel
theorem dX9_hangHours_7 : decode cX9_hangHours 7 = .ok (.bipush 12, 2) := by decide +kernel
theorem dX9_hangHours_9 : decode cX9_hangHours 9 = .ok (.if_icmp .ge 31, 3) := by decide +kernel
theorem dX9_hangHours_12 : decode cX9_hangHours 12 = .ok (.iload_n 3, 1) := by decide +kernel
theorem dX9_hangHours_13 : decode cX9_hangHours 13 = .ok (.aload_n 0, 1) := by decide +kernel
theorem dX9_hangHours_14 : decode cX9_hangHours 14 = .ok (.iload_n 1, 1) := by decide +kernel
theorem dX9_hangHours_15 : decode cX9_hangHours 15 = .ok (.iload 4, 2) := by decide +kernel
theorem dX9_hangHours_17 : decode cX9_hangHours 17 = .ok (.iload_n 2, 1) := by decide +kernel
theorem dX9_hangHours_18 : decode cX9_hangHours 18 = .ok (.invokevirtual 218, 3) := by decide +kernel
theorem dX9_hangHours_21 : decode cX9_hangHours 21 = .ok (.ifCond .eq 10, 3) := by decide +kernel
theorem dX9_hangHours_24 : decode cX9_hangHours 24 = .ok (.iconst 1, 1) := by decide +kernel
theorem dX9_hangHours_25 : decode cX9_hangHours 25 = .ok (.iload 4, 2) := by decide +kernel
theorem dX9_hangHours_27 : decode cX9_hangHours 27 = .ok (.ishl, 1) := by decide +kernel
theorem dX9_hangHours_28 : decode cX9_hangHours 28 = .ok (.goto 4, 3) := by decide +kernel
theorem dX9_hangHours_31 : decode cX9_hangHours 31 = .ok (.iconst 0, 1) := by decide +kernel
theorem dX9_hangHours_32 : decode cX9_hangHours 32 = .ok (.ior, 1) := by decide +kernel
theorem dX9_hangHours_33 : decode cX9_hangHours 33 = .ok (.istore_n 3, 1) := by decide +kernel
theorem dX9_hangHours_34 : decode cX9_hangHours 34 = .ok (.iinc 4 1, 3) := by decide +kernel
theorem dX9_hangHours_37 : decode cX9_hangHours 37 = .ok (.goto (-32), 3) := by decide +kernel
theorem dX9_hangHours_40 : decode cX9_hangHours 40 = .ok (.iload_n 3, 1) := by decide +kernel
theorem dX9_hangHours_41 : decode cX9_hangHours 41 = .ok (.ireturn, 1) := by decide +kernel
theorem dX9_farHours_0 : decode cX9_farHours 0 = .ok (.iconst 0, 1) := by decide +kernel
theorem dX9_farHours_1 : decode cX9_farHours 1 = .ok (.istore_n 3, 1) := by decide +kernel
theorem dX9_farHours_2 : decode cX9_farHours 2 = .ok (.iconst 0, 1) := by decide +kernel
theorem dX9_farHours_3 : decode cX9_farHours 3 = .ok (.istore 4, 2) := by decide +kernel
theorem dX9_farHours_5 : decode cX9_farHours 5 = .ok (.iload 4, 2) := by decide +kernel
theorem dX9_farHours_7 : decode cX9_farHours 7 = .ok (.bipush 12, 2) := by decide +kernel
theorem dX9_farHours_9 : decode cX9_farHours 9 = .ok (.if_icmp .ge 37, 3) := by decide +kernel
theorem dX9_farHours_12 : decode cX9_farHours 12 = .ok (.iload_n 3, 1) := by decide +kernel
theorem dX9_farHours_13 : decode cX9_farHours 13 = .ok (.aload_n 0, 1) := by decide +kernel
theorem dX9_farHours_14 : decode cX9_farHours 14 = .ok (.iload_n 1, 1) := by decide +kernel
theorem dX9_farHours_15 : decode cX9_farHours 15 = .ok (.iload 4, 2) := by decide +kernel
theorem dX9_farHours_17 : decode cX9_farHours 17 = .ok (.iload_n 2, 1) := by decide +kernel
theorem dX9_farHours_18 : decode cX9_farHours 18 = .ok (.invokevirtual 224, 3) := by decide +kernel
theorem dX9_farHours_21 : decode cX9_farHours 21 = .ok (.aload_n 0, 1) := by decide +kernel
theorem dX9_farHours_22 : decode cX9_farHours 22 = .ok (.getfield 46, 3) := by decide +kernel
theorem dX9_farHours_25 : decode cX9_farHours 25 = .ok (.iload_n 1, 1) := by decide +kernel
theorem dX9_farHours_26 : decode cX9_farHours 26 = .ok (.iaload, 1) := by decide +kernel
theorem dX9_farHours_27 : decode cX9_farHours 27 = .ok (.if_icmp .le 10, 3) := by decide +kernel
theorem dX9_farHours_30 : decode cX9_farHours 30 = .ok (.iconst 1, 1) := by decide +kernel
theorem dX9_farHours_31 : decode cX9_farHours 31 = .ok (.iload 4, 2) := by decide +kernel
theorem dX9_farHours_33 : decode cX9_farHours 33 = .ok (.ishl, 1) := by decide +kernel
theorem dX9_farHours_34 : decode cX9_farHours 34 = .ok (.goto 4, 3) := by decide +kernel
theorem dX9_farHours_37 : decode cX9_farHours 37 = .ok (.iconst 0, 1) := by decide +kernel
theorem dX9_farHours_38 : decode cX9_farHours 38 = .ok (.ior, 1) := by decide +kernel
theorem dX9_farHours_39 : decode cX9_farHours 39 = .ok (.istore_n 3, 1) := by decide +kernel
theorem dX9_farHours_40 : decode cX9_farHours 40 = .ok (.iinc 4 1, 3) := by decide +kernel
theorem dX9_farHours_43 : decode cX9_farHours 43 = .ok (.goto (-38), 3) := by decide +kernel
theorem dX9_farHours_46 : decode cX9_farHours 46 = .ok (.iload_n 3, 1) := by decide +kernel
theorem dX9_farHours_47 : decode cX9_farHours 47 = .ok (.ireturn, 1) := by decide +kernel
theorem dX9_underHours_0 : decode cX9_underHours 0 = .ok (.iconst 0, 1) := by decide +kernel
theorem dX9_underHours_1 : decode cX9_underHours 1 = .ok (.istore_n 1, 1) := by decide +kernel
theorem dX9_underHours_2 : decode cX9_underHours 2 = .ok (.iconst 0, 1) := by decide +kernel
theorem dX9_underHours_3 : decode cX9_underHours 3 = .ok (.istore_n 2, 1) := by decide +kernel
theorem dX9_underHours_4 : decode cX9_underHours 4 = .ok (.iload_n 2, 1) := by decide +kernel
theorem dX9_underHours_5 : decode cX9_underHours 5 = .ok (.bipush 12, 2) := by decide +kernel
theorem dX9_underHours_7 : decode cX9_underHours 7 = .ok (.if_icmp .ge 33, 3) := by decide +kernel
theorem dX9_underHours_10 : decode cX9_underHours 10 = .ok (.iload_n 1, 1) := by decide +kernel
theorem dX9_underHours_11 : decode cX9_underHours 11 = .ok (.aload_n 0, 1) := by decide +kernel
theorem dX9_underHours_12 : decode cX9_underHours 12 = .ok (.iload_n 2, 1) := by decide +kernel
theorem dX9_underHours_13 : decode cX9_underHours 13 = .ok (.invokevirtual 211, 3) := by decide +kernel
theorem dX9_underHours_16 : decode cX9_underHours 16 = .ok (.aload_n 0, 1) := by decide +kernel
theorem dX9_underHours_17 : decode cX9_underHours 17 = .ok (.getfield 25, 3) := by decide +kernel
theorem dX9_underHours_20 : decode cX9_underHours 20 = .ok (.iconst 0, 1) := by decide +kernel
theorem dX9_underHours_21 : decode cX9_underHours 21 = .ok (.iaload, 1) := by decide +kernel
theorem dX9_underHours_22 : decode cX9_underHours 22 = .ok (.if_icmp .le 9, 3) := by decide +kernel
theorem dX9_underHours_25 : decode cX9_underHours 25 = .ok (.iconst 1, 1) := by decide +kernel
theorem dX9_underHours_26 : decode cX9_underHours 26 = .ok (.iload_n 2, 1) := by decide +kernel
theorem dX9_underHours_27 : decode cX9_underHours 27 = .ok (.ishl, 1) := by decide +kernel
theorem dX9_underHours_28 : decode cX9_underHours 28 = .ok (.goto 4, 3) := by decide +kernel
theorem dX9_underHours_31 : decode cX9_underHours 31 = .ok (.iconst 0, 1) := by decide +kernel
theorem dX9_underHours_32 : decode cX9_underHours 32 = .ok (.ior, 1) := by decide +kernel
theorem dX9_underHours_33 : decode cX9_underHours 33 = .ok (.istore_n 1, 1) := by decide +kernel
theorem dX9_underHours_34 : decode cX9_underHours 34 = .ok (.iinc 2 1, 3) := by decide +kernel
theorem dX9_underHours_37 : decode cX9_underHours 37 = .ok (.goto (-33), 3) := by decide +kernel
theorem dX9_underHours_40 : decode cX9_underHours 40 = .ok (.iload_n 1, 1) := by decide +kernel
theorem dX9_underHours_41 : decode cX9_underHours 41 = .ok (.ireturn, 1) := by decide +kernel
theorem dX9_wellHours_0 : decode cX9_wellHours 0 = .ok (.sipush 4095, 3) := by decide +kernel
theorem dX9_wellHours_3 : decode cX9_wellHours 3 = .ok (.aload_n 0, 1) := by decide +kernel
theorem dX9_wellHours_4 : decode cX9_wellHours 4 = .ok (.iload_n 1, 1) := by decide +kernel
theorem dX9_wellHours_5 : decode cX9_wellHours 5 = .ok (.iload_n 2, 1) := by decide +kernel
theorem dX9_wellHours_6 : decode cX9_wellHours 6 = .ok (.invokevirtual 246, 3) := by decide +kernel
theorem dX9_wellHours_9 : decode cX9_wellHours 9 = .ok (.iconst (-1), 1) := by decide +kernel
theorem dX9_wellHours_10 : decode cX9_wellHours 10 = .ok (.ixor, 1) := by decide +kernel
theorem dX9_wellHours_11 : decode cX9_wellHours 11 = .ok (.iand, 1) := by decide +kernel
theorem dX9_wellHours_12 : decode cX9_wellHours 12 = .ok (.aload_n 0, 1) := by decide +kernel
theorem dX9_wellHours_13 : decode cX9_wellHours 13 = .ok (.iload_n 1, 1) := by decide +kernel
theorem dX9_wellHours_14 : decode cX9_wellHours 14 = .ok (.iload_n 2, 1) := by decide +kernel
theorem dX9_wellHours_15 : decode cX9_wellHours 15 = .ok (.invokevirtual 249, 3) := by decide +kernel
theorem dX9_wellHours_18 : decode cX9_wellHours 18 = .ok (.iconst (-1), 1) := by decide +kernel
theorem dX9_wellHours_19 : decode cX9_wellHours 19 = .ok (.ixor, 1) := by decide +kernel
theorem dX9_wellHours_20 : decode cX9_wellHours 20 = .ok (.iand, 1) := by decide +kernel
theorem dX9_wellHours_21 : decode cX9_wellHours 21 = .ok (.aload_n 0, 1) := by decide +kernel
theorem dX9_wellHours_22 : decode cX9_wellHours 22 = .ok (.invokevirtual 252, 3) := by decide +kernel
theorem dX9_wellHours_25 : decode cX9_wellHours 25 = .ok (.iconst (-1), 1) := by decide +kernel
theorem dX9_wellHours_26 : decode cX9_wellHours 26 = .ok (.ixor, 1) := by decide +kernel
theorem dX9_wellHours_27 : decode cX9_wellHours 27 = .ok (.iand, 1) := by decide +kernel
theorem dX9_wellHours_28 : decode cX9_wellHours 28 = .ok (.ireturn, 1) := by decide +kernel
theorem dX9_hours_0 : decode cX9_hours 0 = .ok (.aload_n 0, 1) := by decide +kernel
theorem dX9_hours_1 : decode cX9_hours 1 = .ok (.iload_n 1, 1) := by decide +kernel
theorem dX9_hours_2 : decode cX9_hours 2 = .ok (.invokevirtual 168, 3) := by decide +kernel
theorem dX9_hours_5 : decode cX9_hours 5 = .ok (.ifCond .ne 9, 3) := by decide +kernel
theorem dX9_hours_8 : decode cX9_hours 8 = .ok (.aload_n 0, 1) := by decide +kernel
theorem dX9_hours_9 : decode cX9_hours 9 = .ok (.iconst (-1), 1) := by decide +kernel
theorem dX9_hours_10 : decode cX9_hours 10 = .ok (.invokevirtual 124, 3) := by decide +kernel
theorem dX9_hours_13 : decode cX9_hours 13 = .ok (.ireturn, 1) := by decide +kernel
theorem dX9_hours_14 : decode cX9_hours 14 = .ok (.iload_n 2, 1) := by decide +kernel
theorem dX9_hours_15 : decode cX9_hours 15 = .ok (.tableswitch 70 0 3 #[29, 41, 53, 58], 29) := by decide +kernel
theorem dX9_hours_44 : decode cX9_hours 44 = .ok (.aload_n 0, 1) := by decide +kernel
theorem dX9_hours_45 : decode cX9_hours 45 = .ok (.iload_n 1, 1) := by decide +kernel
theorem dX9_hours_46 : decode cX9_hours 46 = .ok (.aload_n 0, 1) := by decide +kernel
theorem dX9_hours_47 : decode cX9_hours 47 = .ok (.getfield 40, 3) := by decide +kernel
theorem dX9_hours_50 : decode cX9_hours 50 = .ok (.iload_n 1, 1) := by decide +kernel
theorem dX9_hours_51 : decode cX9_hours 51 = .ok (.iaload, 1) := by decide +kernel
theorem dX9_hours_52 : decode cX9_hours 52 = .ok (.invokevirtual 246, 3) := by decide +kernel
theorem dX9_hours_55 : decode cX9_hours 55 = .ok (.ireturn, 1) := by decide +kernel
theorem dX9_hours_56 : decode cX9_hours 56 = .ok (.aload_n 0, 1) := by decide +kernel
theorem dX9_hours_57 : decode cX9_hours 57 = .ok (.iload_n 1, 1) := by decide +kernel
theorem dX9_hours_58 : decode cX9_hours 58 = .ok (.aload_n 0, 1) := by decide +kernel
theorem dX9_hours_59 : decode cX9_hours 59 = .ok (.getfield 40, 3) := by decide +kernel
theorem dX9_hours_62 : decode cX9_hours 62 = .ok (.iload_n 1, 1) := by decide +kernel
theorem dX9_hours_63 : decode cX9_hours 63 = .ok (.iaload, 1) := by decide +kernel
theorem dX9_hours_64 : decode cX9_hours 64 = .ok (.invokevirtual 249, 3) := by decide +kernel
theorem dX9_hours_67 : decode cX9_hours 67 = .ok (.ireturn, 1) := by decide +kernel
theorem dX9_hours_68 : decode cX9_hours 68 = .ok (.aload_n 0, 1) := by decide +kernel
theorem dX9_hours_69 : decode cX9_hours 69 = .ok (.invokevirtual 252, 3) := by decide +kernel
theorem dX9_hours_72 : decode cX9_hours 72 = .ok (.ireturn, 1) := by decide +kernel
theorem dX9_hours_73 : decode cX9_hours 73 = .ok (.aload_n 0, 1) := by decide +kernel
theorem dX9_hours_74 : decode cX9_hours 74 = .ok (.iload_n 1, 1) := by decide +kernel
theorem dX9_hours_75 : decode cX9_hours 75 = .ok (.aload_n 0, 1) := by decide +kernel
theorem dX9_hours_76 : decode cX9_hours 76 = .ok (.getfield 40, 3) := by decide +kernel
theorem dX9_hours_79 : decode cX9_hours 79 = .ok (.iload_n 1, 1) := by decide +kernel
theorem dX9_hours_80 : decode cX9_hours 80 = .ok (.iaload, 1) := by decide +kernel
theorem dX9_hours_81 : decode cX9_hours 81 = .ok (.invokevirtual 255, 3) := by decide +kernel
theorem dX9_hours_84 : decode cX9_hours 84 = .ok (.ireturn, 1) := by decide +kernel
theorem dX9_hours_85 : decode cX9_hours 85 = .ok (.aload_n 0, 1) := by decide +kernel
theorem dX9_hours_86 : decode cX9_hours 86 = .ok (.bipush (-2), 2) := by decide +kernel
theorem dX9_hours_88 : decode cX9_hours 88 = .ok (.invokevirtual 124, 3) := by decide +kernel
theorem dX9_hours_91 : decode cX9_hours 91 = .ok (.ireturn, 1) := by decide +kernel
theorem dX9_leastLength_0 : decode cX9_leastLength 0 = .ok (.iconst 0, 1) := by decide +kernel
theorem dX9_leastLength_1 : decode cX9_leastLength 1 = .ok (.istore_n 2, 1) := by decide +kernel
theorem dX9_leastLength_2 : decode cX9_leastLength 2 = .ok (.iload_n 2, 1) := by decide +kernel
theorem dX9_leastLength_3 : decode cX9_leastLength 3 = .ok (.bipush 99, 2) := by decide +kernel
theorem dX9_leastLength_5 : decode cX9_leastLength 5 = .ok (.if_icmp .gt 20, 3) := by decide +kernel
theorem dX9_leastLength_8 : decode cX9_leastLength 8 = .ok (.aload_n 0, 1) := by decide +kernel
theorem dX9_leastLength_9 : decode cX9_leastLength 9 = .ok (.iload_n 1, 1) := by decide +kernel
theorem dX9_leastLength_10 : decode cX9_leastLength 10 = .ok (.iload_n 2, 1) := by decide +kernel
theorem dX9_leastLength_11 : decode cX9_leastLength 11 = .ok (.invokevirtual 246, 3) := by decide +kernel
theorem dX9_leastLength_14 : decode cX9_leastLength 14 = .ok (.ifCond .ne 5, 3) := by decide +kernel
theorem dX9_leastLength_17 : decode cX9_leastLength 17 = .ok (.iload_n 2, 1) := by decide +kernel
theorem dX9_leastLength_18 : decode cX9_leastLength 18 = .ok (.ireturn, 1) := by decide +kernel
theorem dX9_leastLength_19 : decode cX9_leastLength 19 = .ok (.iinc 2 1, 3) := by decide +kernel
theorem dX9_leastLength_22 : decode cX9_leastLength 22 = .ok (.goto (-20), 3) := by decide +kernel
theorem dX9_leastLength_25 : decode cX9_leastLength 25 = .ok (.bipush (-9), 2) := by decide +kernel
theorem dX9_leastLength_27 : decode cX9_leastLength 27 = .ok (.ireturn, 1) := by decide +kernel
theorem dX9_greatestLength_0 : decode cX9_greatestLength 0 = .ok (.bipush 99, 2) := by decide +kernel
theorem dX9_greatestLength_2 : decode cX9_greatestLength 2 = .ok (.istore_n 2, 1) := by decide +kernel
theorem dX9_greatestLength_3 : decode cX9_greatestLength 3 = .ok (.iload_n 2, 1) := by decide +kernel
theorem dX9_greatestLength_4 : decode cX9_greatestLength 4 = .ok (.ifCond .lt 20, 3) := by decide +kernel
theorem dX9_greatestLength_7 : decode cX9_greatestLength 7 = .ok (.aload_n 0, 1) := by decide +kernel
theorem dX9_greatestLength_8 : decode cX9_greatestLength 8 = .ok (.iload_n 1, 1) := by decide +kernel
theorem dX9_greatestLength_9 : decode cX9_greatestLength 9 = .ok (.iload_n 2, 1) := by decide +kernel
theorem dX9_greatestLength_10 : decode cX9_greatestLength 10 = .ok (.invokevirtual 249, 3) := by decide +kernel
theorem dX9_greatestLength_13 : decode cX9_greatestLength 13 = .ok (.ifCond .ne 5, 3) := by decide +kernel
theorem dX9_greatestLength_16 : decode cX9_greatestLength 16 = .ok (.iload_n 2, 1) := by decide +kernel
theorem dX9_greatestLength_17 : decode cX9_greatestLength 17 = .ok (.ireturn, 1) := by decide +kernel
theorem dX9_greatestLength_18 : decode cX9_greatestLength 18 = .ok (.iinc 2 (-1), 3) := by decide +kernel
theorem dX9_greatestLength_21 : decode cX9_greatestLength 21 = .ok (.goto (-18), 3) := by decide +kernel
theorem dX9_greatestLength_24 : decode cX9_greatestLength 24 = .ok (.bipush (-9), 2) := by decide +kernel
theorem dX9_greatestLength_26 : decode cX9_greatestLength 26 = .ok (.ireturn, 1) := by decide +kernel
theorem dX9_bothLengths_0 : decode cX9_bothLengths 0 = .ok (.iconst 0, 1) := by decide +kernel
theorem dX9_bothLengths_1 : decode cX9_bothLengths 1 = .ok (.istore_n 2, 1) := by decide +kernel
theorem dX9_bothLengths_2 : decode cX9_bothLengths 2 = .ok (.iconst 0, 1) := by decide +kernel
theorem dX9_bothLengths_3 : decode cX9_bothLengths 3 = .ok (.istore_n 3, 1) := by decide +kernel
theorem dX9_bothLengths_4 : decode cX9_bothLengths 4 = .ok (.iload_n 3, 1) := by decide +kernel
theorem dX9_bothLengths_5 : decode cX9_bothLengths 5 = .ok (.bipush 99, 2) := by decide +kernel
theorem dX9_bothLengths_7 : decode cX9_bothLengths 7 = .ok (.if_icmp .gt 29, 3) := by decide +kernel
theorem dX9_bothLengths_10 : decode cX9_bothLengths 10 = .ok (.iload_n 2, 1) := by decide +kernel
theorem dX9_bothLengths_11 : decode cX9_bothLengths 11 = .ok (.aload_n 0, 1) := by decide +kernel
theorem dX9_bothLengths_12 : decode cX9_bothLengths 12 = .ok (.iload_n 1, 1) := by decide +kernel
theorem dX9_bothLengths_13 : decode cX9_bothLengths 13 = .ok (.iload_n 3, 1) := by decide +kernel
theorem dX9_bothLengths_14 : decode cX9_bothLengths 14 = .ok (.invokevirtual 255, 3) := by decide +kernel
theorem dX9_bothLengths_17 : decode cX9_bothLengths 17 = .ok (.sipush 4095, 3) := by decide +kernel
theorem dX9_bothLengths_20 : decode cX9_bothLengths 20 = .ok (.if_icmp .ne 7, 3) := by decide +kernel
theorem dX9_bothLengths_23 : decode cX9_bothLengths 23 = .ok (.iconst 1, 1) := by decide +kernel
theorem dX9_bothLengths_24 : decode cX9_bothLengths 24 = .ok (.goto 4, 3) := by decide +kernel
theorem dX9_bothLengths_27 : decode cX9_bothLengths 27 = .ok (.iconst 0, 1) := by decide +kernel
theorem dX9_bothLengths_28 : decode cX9_bothLengths 28 = .ok (.iadd, 1) := by decide +kernel
theorem dX9_bothLengths_29 : decode cX9_bothLengths 29 = .ok (.istore_n 2, 1) := by decide +kernel
theorem dX9_bothLengths_30 : decode cX9_bothLengths 30 = .ok (.iinc 3 1, 3) := by decide +kernel
theorem dX9_bothLengths_33 : decode cX9_bothLengths 33 = .ok (.goto (-29), 3) := by decide +kernel
theorem dX9_bothLengths_36 : decode cX9_bothLengths 36 = .ok (.iload_n 2, 1) := by decide +kernel
theorem dX9_bothLengths_37 : decode cX9_bothLengths 37 = .ok (.ireturn, 1) := by decide +kernel
theorem dX9_length_0 : decode cX9_length 0 = .ok (.aload_n 0, 1) := by decide +kernel
theorem dX9_length_1 : decode cX9_length 1 = .ok (.iload_n 1, 1) := by decide +kernel
theorem dX9_length_2 : decode cX9_length 2 = .ok (.invokevirtual 168, 3) := by decide +kernel
theorem dX9_length_5 : decode cX9_length 5 = .ok (.ifCond .ne 9, 3) := by decide +kernel
theorem dX9_length_8 : decode cX9_length 8 = .ok (.aload_n 0, 1) := by decide +kernel
theorem dX9_length_9 : decode cX9_length 9 = .ok (.iconst (-1), 1) := by decide +kernel
theorem dX9_length_10 : decode cX9_length 10 = .ok (.invokevirtual 124, 3) := by decide +kernel
theorem dX9_length_13 : decode cX9_length 13 = .ok (.ireturn, 1) := by decide +kernel
theorem dX9_length_14 : decode cX9_length 14 = .ok (.iload_n 2, 1) := by decide +kernel
theorem dX9_length_15 : decode cX9_length 15 = .ok (.tableswitch 43 0 2 #[25, 31, 37], 25) := by decide +kernel
theorem dX9_length_40 : decode cX9_length 40 = .ok (.aload_n 0, 1) := by decide +kernel
theorem dX9_length_41 : decode cX9_length 41 = .ok (.iload_n 1, 1) := by decide +kernel
theorem dX9_length_42 : decode cX9_length 42 = .ok (.invokevirtual 258, 3) := by decide +kernel
theorem dX9_length_45 : decode cX9_length 45 = .ok (.ireturn, 1) := by decide +kernel
theorem dX9_length_46 : decode cX9_length 46 = .ok (.aload_n 0, 1) := by decide +kernel
theorem dX9_length_47 : decode cX9_length 47 = .ok (.iload_n 1, 1) := by decide +kernel
theorem dX9_length_48 : decode cX9_length 48 = .ok (.invokevirtual 261, 3) := by decide +kernel
theorem dX9_length_51 : decode cX9_length 51 = .ok (.ireturn, 1) := by decide +kernel
theorem dX9_length_52 : decode cX9_length 52 = .ok (.aload_n 0, 1) := by decide +kernel
theorem dX9_length_53 : decode cX9_length 53 = .ok (.iload_n 1, 1) := by decide +kernel
theorem dX9_length_54 : decode cX9_length 54 = .ok (.invokevirtual 264, 3) := by decide +kernel
theorem dX9_length_57 : decode cX9_length 57 = .ok (.ireturn, 1) := by decide +kernel
theorem dX9_length_58 : decode cX9_length 58 = .ok (.aload_n 0, 1) := by decide +kernel
theorem dX9_length_59 : decode cX9_length 59 = .ok (.bipush (-2), 2) := by decide +kernel
theorem dX9_length_61 : decode cX9_length 61 = .ok (.invokevirtual 124, 3) := by decide +kernel
theorem dX9_length_64 : decode cX9_length 64 = .ok (.ireturn, 1) := by decide +kernel
theorem dX9_isTended_0 : decode cX9_isTended 0 = .ok (.iconst 0, 1) := by decide +kernel
theorem dX9_isTended_1 : decode cX9_isTended 1 = .ok (.istore 4, 2) := by decide +kernel
theorem dX9_isTended_3 : decode cX9_isTended 3 = .ok (.iload 4, 2) := by decide +kernel
theorem dX9_isTended_5 : decode cX9_isTended 5 = .ok (.bipush 99, 2) := by decide +kernel
theorem dX9_isTended_7 : decode cX9_isTended 7 = .ok (.if_icmp .gt 76, 3) := by decide +kernel
theorem dX9_isTended_10 : decode cX9_isTended 10 = .ok (.iconst 1, 1) := by decide +kernel
theorem dX9_isTended_11 : decode cX9_isTended 11 = .ok (.istore 5, 2) := by decide +kernel
theorem dX9_isTended_13 : decode cX9_isTended 13 = .ok (.iload_n 2, 1) := by decide +kernel
theorem dX9_isTended_14 : decode cX9_isTended 14 = .ok (.istore 6, 2) := by decide +kernel
theorem dX9_isTended_16 : decode cX9_isTended 16 = .ok (.iload 6, 2) := by decide +kernel
theorem dX9_isTended_18 : decode cX9_isTended 18 = .ok (.iload_n 3, 1) := by decide +kernel
theorem dX9_isTended_19 : decode cX9_isTended 19 = .ok (.if_icmp .gt 51, 3) := by decide +kernel
theorem dX9_isTended_22 : decode cX9_isTended 22 = .ok (.iload 5, 2) := by decide +kernel
theorem dX9_isTended_24 : decode cX9_isTended 24 = .ok (.ifCond .eq 46, 3) := by decide +kernel
theorem dX9_isTended_27 : decode cX9_isTended 27 = .ok (.aload_n 0, 1) := by decide +kernel
theorem dX9_isTended_28 : decode cX9_isTended 28 = .ok (.iload_n 1, 1) := by decide +kernel
theorem dX9_isTended_29 : decode cX9_isTended 29 = .ok (.iload 6, 2) := by decide +kernel
theorem dX9_isTended_31 : decode cX9_isTended 31 = .ok (.iload 4, 2) := by decide +kernel
theorem dX9_isTended_33 : decode cX9_isTended 33 = .ok (.invokevirtual 218, 3) := by decide +kernel
theorem dX9_isTended_36 : decode cX9_isTended 36 = .ok (.ifCond .ne 25, 3) := by decide +kernel
theorem dX9_isTended_39 : decode cX9_isTended 39 = .ok (.aload_n 0, 1) := by decide +kernel
theorem dX9_isTended_40 : decode cX9_isTended 40 = .ok (.iload_n 1, 1) := by decide +kernel
theorem dX9_isTended_41 : decode cX9_isTended 41 = .ok (.iload 6, 2) := by decide +kernel
theorem dX9_isTended_43 : decode cX9_isTended 43 = .ok (.iload 4, 2) := by decide +kernel
theorem dX9_isTended_45 : decode cX9_isTended 45 = .ok (.invokevirtual 224, 3) := by decide +kernel
theorem dX9_isTended_48 : decode cX9_isTended 48 = .ok (.aload_n 0, 1) := by decide +kernel
theorem dX9_isTended_49 : decode cX9_isTended 49 = .ok (.getfield 46, 3) := by decide +kernel
theorem dX9_isTended_52 : decode cX9_isTended 52 = .ok (.iload_n 1, 1) := by decide +kernel
theorem dX9_isTended_53 : decode cX9_isTended 53 = .ok (.iaload, 1) := by decide +kernel
theorem dX9_isTended_54 : decode cX9_isTended 54 = .ok (.if_icmp .gt 7, 3) := by decide +kernel
theorem dX9_isTended_57 : decode cX9_isTended 57 = .ok (.iconst 1, 1) := by decide +kernel
theorem dX9_isTended_58 : decode cX9_isTended 58 = .ok (.goto 4, 3) := by decide +kernel
theorem dX9_isTended_61 : decode cX9_isTended 61 = .ok (.iconst 0, 1) := by decide +kernel
theorem dX9_isTended_62 : decode cX9_isTended 62 = .ok (.istore 5, 2) := by decide +kernel
theorem dX9_isTended_64 : decode cX9_isTended 64 = .ok (.iinc 6 1, 3) := by decide +kernel
theorem dX9_isTended_67 : decode cX9_isTended 67 = .ok (.goto (-51), 3) := by decide +kernel
theorem dX9_isTended_70 : decode cX9_isTended 70 = .ok (.iload 5, 2) := by decide +kernel
theorem dX9_isTended_72 : decode cX9_isTended 72 = .ok (.ifCond .eq 5, 3) := by decide +kernel
theorem dX9_isTended_75 : decode cX9_isTended 75 = .ok (.iconst 1, 1) := by decide +kernel
theorem dX9_isTended_76 : decode cX9_isTended 76 = .ok (.ireturn, 1) := by decide +kernel
theorem dX9_isTended_77 : decode cX9_isTended 77 = .ok (.iinc 4 1, 3) := by decide +kernel
theorem dX9_isTended_80 : decode cX9_isTended 80 = .ok (.goto (-77), 3) := by decide +kernel
theorem dX9_isTended_83 : decode cX9_isTended 83 = .ok (.iconst 0, 1) := by decide +kernel
theorem dX9_isTended_84 : decode cX9_isTended 84 = .ok (.ireturn, 1) := by decide +kernel
theorem dX9_tendedHours_0 : decode cX9_tendedHours 0 = .ok (.iconst 0, 1) := by decide +kernel
theorem dX9_tendedHours_1 : decode cX9_tendedHours 1 = .ok (.istore_n 2, 1) := by decide +kernel
theorem dX9_tendedHours_2 : decode cX9_tendedHours 2 = .ok (.iconst 0, 1) := by decide +kernel
theorem dX9_tendedHours_3 : decode cX9_tendedHours 3 = .ok (.istore_n 3, 1) := by decide +kernel
theorem dX9_tendedHours_4 : decode cX9_tendedHours 4 = .ok (.iconst 0, 1) := by decide +kernel
theorem dX9_tendedHours_5 : decode cX9_tendedHours 5 = .ok (.istore 4, 2) := by decide +kernel
theorem dX9_tendedHours_7 : decode cX9_tendedHours 7 = .ok (.iload 4, 2) := by decide +kernel
theorem dX9_tendedHours_9 : decode cX9_tendedHours 9 = .ok (.bipush 12, 2) := by decide +kernel
theorem dX9_tendedHours_11 : decode cX9_tendedHours 11 = .ok (.if_icmp .ge 48, 3) := by decide +kernel
theorem dX9_tendedHours_14 : decode cX9_tendedHours 14 = .ok (.aload_n 0, 1) := by decide +kernel
theorem dX9_tendedHours_15 : decode cX9_tendedHours 15 = .ok (.iload_n 1, 1) := by decide +kernel
theorem dX9_tendedHours_16 : decode cX9_tendedHours 16 = .ok (.iload 4, 2) := by decide +kernel
theorem dX9_tendedHours_18 : decode cX9_tendedHours 18 = .ok (.iload 4, 2) := by decide +kernel
theorem dX9_tendedHours_20 : decode cX9_tendedHours 20 = .ok (.invokevirtual 267, 3) := by decide +kernel
theorem dX9_tendedHours_23 : decode cX9_tendedHours 23 = .ok (.ifCond .ne 6, 3) := by decide +kernel
theorem dX9_tendedHours_26 : decode cX9_tendedHours 26 = .ok (.bipush (-9), 2) := by decide +kernel
theorem dX9_tendedHours_28 : decode cX9_tendedHours 28 = .ok (.ireturn, 1) := by decide +kernel
theorem dX9_tendedHours_29 : decode cX9_tendedHours 29 = .ok (.aload_n 0, 1) := by decide +kernel
theorem dX9_tendedHours_30 : decode cX9_tendedHours 30 = .ok (.iload_n 1, 1) := by decide +kernel
theorem dX9_tendedHours_31 : decode cX9_tendedHours 31 = .ok (.iload_n 2, 1) := by decide +kernel
theorem dX9_tendedHours_32 : decode cX9_tendedHours 32 = .ok (.iload 4, 2) := by decide +kernel
theorem dX9_tendedHours_34 : decode cX9_tendedHours 34 = .ok (.invokevirtual 267, 3) := by decide +kernel
theorem dX9_tendedHours_37 : decode cX9_tendedHours 37 = .ok (.ifCond .eq 6, 3) := by decide +kernel
theorem dX9_tendedHours_40 : decode cX9_tendedHours 40 = .ok (.goto 13, 3) := by decide +kernel
theorem dX9_tendedHours_43 : decode cX9_tendedHours 43 = .ok (.iload_n 3, 1) := by decide +kernel
theorem dX9_tendedHours_44 : decode cX9_tendedHours 44 = .ok (.iconst 1, 1) := by decide +kernel
theorem dX9_tendedHours_45 : decode cX9_tendedHours 45 = .ok (.iload 4, 2) := by decide +kernel
theorem dX9_tendedHours_47 : decode cX9_tendedHours 47 = .ok (.ishl, 1) := by decide +kernel
theorem dX9_tendedHours_48 : decode cX9_tendedHours 48 = .ok (.ior, 1) := by decide +kernel
theorem dX9_tendedHours_49 : decode cX9_tendedHours 49 = .ok (.istore_n 3, 1) := by decide +kernel
theorem dX9_tendedHours_50 : decode cX9_tendedHours 50 = .ok (.iload 4, 2) := by decide +kernel
theorem dX9_tendedHours_52 : decode cX9_tendedHours 52 = .ok (.istore_n 2, 1) := by decide +kernel
theorem dX9_tendedHours_53 : decode cX9_tendedHours 53 = .ok (.iinc 4 1, 3) := by decide +kernel
theorem dX9_tendedHours_56 : decode cX9_tendedHours 56 = .ok (.goto (-49), 3) := by decide +kernel
theorem dX9_tendedHours_59 : decode cX9_tendedHours 59 = .ok (.iload_n 3, 1) := by decide +kernel
theorem dX9_tendedHours_60 : decode cX9_tendedHours 60 = .ok (.ireturn, 1) := by decide +kernel
theorem dX9_tended_0 : decode cX9_tended 0 = .ok (.aload_n 0, 1) := by decide +kernel
theorem dX9_tended_1 : decode cX9_tended 1 = .ok (.iload_n 1, 1) := by decide +kernel
theorem dX9_tended_2 : decode cX9_tended 2 = .ok (.invokevirtual 168, 3) := by decide +kernel
theorem dX9_tended_5 : decode cX9_tended 5 = .ok (.ifCond .ne 9, 3) := by decide +kernel
theorem dX9_tended_8 : decode cX9_tended 8 = .ok (.aload_n 0, 1) := by decide +kernel
theorem dX9_tended_9 : decode cX9_tended 9 = .ok (.iconst (-1), 1) := by decide +kernel
theorem dX9_tended_10 : decode cX9_tended 10 = .ok (.invokevirtual 124, 3) := by decide +kernel
theorem dX9_tended_13 : decode cX9_tended 13 = .ok (.ireturn, 1) := by decide +kernel
theorem dX9_tended_14 : decode cX9_tended 14 = .ok (.iload_n 2, 1) := by decide +kernel
theorem dX9_tended_15 : decode cX9_tended 15 = .ok (.iconst 0, 1) := by decide +kernel
theorem dX9_tended_16 : decode cX9_tended 16 = .ok (.iconst 1, 1) := by decide +kernel
theorem dX9_tended_17 : decode cX9_tended 17 = .ok (.invokestatic 135, 3) := by decide +kernel
theorem dX9_tended_20 : decode cX9_tended 20 = .ok (.ifCond .ne 10, 3) := by decide +kernel
theorem dX9_tended_23 : decode cX9_tended 23 = .ok (.aload_n 0, 1) := by decide +kernel
theorem dX9_tended_24 : decode cX9_tended 24 = .ok (.bipush (-2), 2) := by decide +kernel
theorem dX9_tended_26 : decode cX9_tended 26 = .ok (.invokevirtual 124, 3) := by decide +kernel
theorem dX9_tended_29 : decode cX9_tended 29 = .ok (.ireturn, 1) := by decide +kernel
theorem dX9_tended_30 : decode cX9_tended 30 = .ok (.aload_n 0, 1) := by decide +kernel
theorem dX9_tended_31 : decode cX9_tended 31 = .ok (.iload_n 1, 1) := by decide +kernel
theorem dX9_tended_32 : decode cX9_tended 32 = .ok (.invokevirtual 270, 3) := by decide +kernel
theorem dX9_tended_35 : decode cX9_tended 35 = .ok (.istore_n 3, 1) := by decide +kernel
theorem dX9_tended_36 : decode cX9_tended 36 = .ok (.iload_n 3, 1) := by decide +kernel
theorem dX9_tended_37 : decode cX9_tended 37 = .ok (.ifCond .lt 8, 3) := by decide +kernel
theorem dX9_tended_40 : decode cX9_tended 40 = .ok (.iload_n 2, 1) := by decide +kernel
theorem dX9_tended_41 : decode cX9_tended 41 = .ok (.iconst 1, 1) := by decide +kernel
theorem dX9_tended_42 : decode cX9_tended 42 = .ok (.if_icmp .ne 7, 3) := by decide +kernel
theorem dX9_tended_45 : decode cX9_tended 45 = .ok (.iload_n 3, 1) := by decide +kernel
theorem dX9_tended_46 : decode cX9_tended 46 = .ok (.goto 7, 3) := by decide +kernel
theorem dX9_tended_49 : decode cX9_tended 49 = .ok (.iload_n 3, 1) := by decide +kernel
theorem dX9_tended_50 : decode cX9_tended 50 = .ok (.invokestatic 273, 3) := by decide +kernel
theorem dX9_tended_53 : decode cX9_tended 53 = .ok (.ireturn, 1) := by decide +kernel
theorem dX9_areTwo_0 : decode cX9_areTwo 0 = .ok (.aload_n 0, 1) := by decide +kernel
theorem dX9_areTwo_1 : decode cX9_areTwo 1 = .ok (.iload_n 1, 1) := by decide +kernel
theorem dX9_areTwo_2 : decode cX9_areTwo 2 = .ok (.invokevirtual 168, 3) := by decide +kernel
theorem dX9_areTwo_5 : decode cX9_areTwo 5 = .ok (.ifCond .eq 20, 3) := by decide +kernel
theorem dX9_areTwo_8 : decode cX9_areTwo 8 = .ok (.aload_n 0, 1) := by decide +kernel
theorem dX9_areTwo_9 : decode cX9_areTwo 9 = .ok (.iload_n 2, 1) := by decide +kernel
theorem dX9_areTwo_10 : decode cX9_areTwo 10 = .ok (.invokevirtual 168, 3) := by decide +kernel
theorem dX9_areTwo_13 : decode cX9_areTwo 13 = .ok (.ifCond .eq 12, 3) := by decide +kernel
theorem dX9_areTwo_16 : decode cX9_areTwo 16 = .ok (.iload_n 1, 1) := by decide +kernel
theorem dX9_areTwo_17 : decode cX9_areTwo 17 = .ok (.iload_n 2, 1) := by decide +kernel
theorem dX9_areTwo_18 : decode cX9_areTwo 18 = .ok (.if_icmp .eq 7, 3) := by decide +kernel
theorem dX9_areTwo_21 : decode cX9_areTwo 21 = .ok (.iconst 1, 1) := by decide +kernel
theorem dX9_areTwo_22 : decode cX9_areTwo 22 = .ok (.goto 4, 3) := by decide +kernel
theorem dX9_areTwo_25 : decode cX9_areTwo 25 = .ok (.iconst 0, 1) := by decide +kernel
theorem dX9_areTwo_26 : decode cX9_areTwo 26 = .ok (.ireturn, 1) := by decide +kernel
theorem dX9_doTouch_0 : decode cX9_doTouch 0 = .ok (.aload_n 0, 1) := by decide +kernel
theorem dX9_doTouch_1 : decode cX9_doTouch 1 = .ok (.iload_n 1, 1) := by decide +kernel
theorem dX9_doTouch_2 : decode cX9_doTouch 2 = .ok (.iload_n 3, 1) := by decide +kernel
theorem dX9_doTouch_3 : decode cX9_doTouch 3 = .ok (.aload_n 0, 1) := by decide +kernel
theorem dX9_doTouch_4 : decode cX9_doTouch 4 = .ok (.getfield 40, 3) := by decide +kernel
theorem dX9_doTouch_7 : decode cX9_doTouch 7 = .ok (.iload_n 1, 1) := by decide +kernel
theorem dX9_doTouch_8 : decode cX9_doTouch 8 = .ok (.iaload, 1) := by decide +kernel
theorem dX9_doTouch_9 : decode cX9_doTouch 9 = .ok (.invokevirtual 218, 3) := by decide +kernel
theorem dX9_doTouch_12 : decode cX9_doTouch 12 = .ok (.ifCond .ne 18, 3) := by decide +kernel
theorem dX9_doTouch_15 : decode cX9_doTouch 15 = .ok (.aload_n 0, 1) := by decide +kernel
theorem dX9_doTouch_16 : decode cX9_doTouch 16 = .ok (.iload_n 2, 1) := by decide +kernel
theorem dX9_doTouch_17 : decode cX9_doTouch 17 = .ok (.iload_n 3, 1) := by decide +kernel
theorem dX9_doTouch_18 : decode cX9_doTouch 18 = .ok (.aload_n 0, 1) := by decide +kernel
theorem dX9_doTouch_19 : decode cX9_doTouch 19 = .ok (.getfield 40, 3) := by decide +kernel
theorem dX9_doTouch_22 : decode cX9_doTouch 22 = .ok (.iload_n 2, 1) := by decide +kernel
theorem dX9_doTouch_23 : decode cX9_doTouch 23 = .ok (.iaload, 1) := by decide +kernel
theorem dX9_doTouch_24 : decode cX9_doTouch 24 = .ok (.invokevirtual 218, 3) := by decide +kernel
theorem dX9_doTouch_27 : decode cX9_doTouch 27 = .ok (.ifCond .eq 5, 3) := by decide +kernel
theorem dX9_doTouch_30 : decode cX9_doTouch 30 = .ok (.iconst 0, 1) := by decide +kernel
theorem dX9_doTouch_31 : decode cX9_doTouch 31 = .ok (.ireturn, 1) := by decide +kernel
theorem dX9_doTouch_32 : decode cX9_doTouch 32 = .ok (.aload_n 0, 1) := by decide +kernel
theorem dX9_doTouch_33 : decode cX9_doTouch 33 = .ok (.iload_n 1, 1) := by decide +kernel
theorem dX9_doTouch_34 : decode cX9_doTouch 34 = .ok (.invokevirtual 233, 3) := by decide +kernel
theorem dX9_doTouch_37 : decode cX9_doTouch 37 = .ok (.aload_n 0, 1) := by decide +kernel
theorem dX9_doTouch_38 : decode cX9_doTouch 38 = .ok (.iload_n 1, 1) := by decide +kernel
theorem dX9_doTouch_39 : decode cX9_doTouch 39 = .ok (.iload_n 3, 1) := by decide +kernel
theorem dX9_doTouch_40 : decode cX9_doTouch 40 = .ok (.invokevirtual 230, 3) := by decide +kernel
theorem dX9_doTouch_43 : decode cX9_doTouch 43 = .ok (.isub, 1) := by decide +kernel
theorem dX9_doTouch_44 : decode cX9_doTouch 44 = .ok (.aload_n 0, 1) := by decide +kernel
theorem dX9_doTouch_45 : decode cX9_doTouch 45 = .ok (.iload_n 2, 1) := by decide +kernel
theorem dX9_doTouch_46 : decode cX9_doTouch 46 = .ok (.invokevirtual 233, 3) := by decide +kernel
theorem dX9_doTouch_49 : decode cX9_doTouch 49 = .ok (.aload_n 0, 1) := by decide +kernel
theorem dX9_doTouch_50 : decode cX9_doTouch 50 = .ok (.iload_n 2, 1) := by decide +kernel
theorem dX9_doTouch_51 : decode cX9_doTouch 51 = .ok (.iload_n 3, 1) := by decide +kernel
theorem dX9_doTouch_52 : decode cX9_doTouch 52 = .ok (.invokevirtual 230, 3) := by decide +kernel
theorem dX9_doTouch_55 : decode cX9_doTouch 55 = .ok (.iadd, 1) := by decide +kernel
theorem dX9_doTouch_56 : decode cX9_doTouch 56 = .ok (.aload_n 0, 1) := by decide +kernel
theorem dX9_doTouch_57 : decode cX9_doTouch 57 = .ok (.getfield 43, 3) := by decide +kernel
theorem dX9_doTouch_60 : decode cX9_doTouch 60 = .ok (.iload_n 2, 1) := by decide +kernel
theorem dX9_doTouch_61 : decode cX9_doTouch 61 = .ok (.iaload, 1) := by decide +kernel
theorem dX9_doTouch_62 : decode cX9_doTouch 62 = .ok (.iadd, 1) := by decide +kernel
theorem dX9_doTouch_63 : decode cX9_doTouch 63 = .ok (.if_icmp .gt 41, 3) := by decide +kernel
theorem dX9_doTouch_66 : decode cX9_doTouch 66 = .ok (.aload_n 0, 1) := by decide +kernel
theorem dX9_doTouch_67 : decode cX9_doTouch 67 = .ok (.iload_n 2, 1) := by decide +kernel
theorem dX9_doTouch_68 : decode cX9_doTouch 68 = .ok (.invokevirtual 233, 3) := by decide +kernel
theorem dX9_doTouch_71 : decode cX9_doTouch 71 = .ok (.aload_n 0, 1) := by decide +kernel
theorem dX9_doTouch_72 : decode cX9_doTouch 72 = .ok (.iload_n 2, 1) := by decide +kernel
theorem dX9_doTouch_73 : decode cX9_doTouch 73 = .ok (.iload_n 3, 1) := by decide +kernel
theorem dX9_doTouch_74 : decode cX9_doTouch 74 = .ok (.invokevirtual 230, 3) := by decide +kernel
theorem dX9_doTouch_77 : decode cX9_doTouch 77 = .ok (.isub, 1) := by decide +kernel
theorem dX9_doTouch_78 : decode cX9_doTouch 78 = .ok (.aload_n 0, 1) := by decide +kernel
theorem dX9_doTouch_79 : decode cX9_doTouch 79 = .ok (.iload_n 1, 1) := by decide +kernel
theorem dX9_doTouch_80 : decode cX9_doTouch 80 = .ok (.invokevirtual 233, 3) := by decide +kernel
theorem dX9_doTouch_83 : decode cX9_doTouch 83 = .ok (.aload_n 0, 1) := by decide +kernel
theorem dX9_doTouch_84 : decode cX9_doTouch 84 = .ok (.iload_n 1, 1) := by decide +kernel
theorem dX9_doTouch_85 : decode cX9_doTouch 85 = .ok (.iload_n 3, 1) := by decide +kernel
theorem dX9_doTouch_86 : decode cX9_doTouch 86 = .ok (.invokevirtual 230, 3) := by decide +kernel
theorem dX9_doTouch_89 : decode cX9_doTouch 89 = .ok (.iadd, 1) := by decide +kernel
theorem dX9_doTouch_90 : decode cX9_doTouch 90 = .ok (.aload_n 0, 1) := by decide +kernel
theorem dX9_doTouch_91 : decode cX9_doTouch 91 = .ok (.getfield 43, 3) := by decide +kernel
theorem dX9_doTouch_94 : decode cX9_doTouch 94 = .ok (.iload_n 1, 1) := by decide +kernel
theorem dX9_doTouch_95 : decode cX9_doTouch 95 = .ok (.iaload, 1) := by decide +kernel
theorem dX9_doTouch_96 : decode cX9_doTouch 96 = .ok (.iadd, 1) := by decide +kernel
theorem dX9_doTouch_97 : decode cX9_doTouch 97 = .ok (.if_icmp .gt 7, 3) := by decide +kernel
theorem dX9_doTouch_100 : decode cX9_doTouch 100 = .ok (.iconst 1, 1) := by decide +kernel
theorem dX9_doTouch_101 : decode cX9_doTouch 101 = .ok (.goto 4, 3) := by decide +kernel
theorem dX9_doTouch_104 : decode cX9_doTouch 104 = .ok (.iconst 0, 1) := by decide +kernel
theorem dX9_doTouch_105 : decode cX9_doTouch 105 = .ok (.ireturn, 1) := by decide +kernel
theorem dX9_touchHours_0 : decode cX9_touchHours 0 = .ok (.iconst 0, 1) := by decide +kernel
theorem dX9_touchHours_1 : decode cX9_touchHours 1 = .ok (.istore_n 3, 1) := by decide +kernel
theorem dX9_touchHours_2 : decode cX9_touchHours 2 = .ok (.iconst 0, 1) := by decide +kernel
theorem dX9_touchHours_3 : decode cX9_touchHours 3 = .ok (.istore 4, 2) := by decide +kernel
theorem dX9_touchHours_5 : decode cX9_touchHours 5 = .ok (.iload 4, 2) := by decide +kernel
theorem dX9_touchHours_7 : decode cX9_touchHours 7 = .ok (.bipush 12, 2) := by decide +kernel
theorem dX9_touchHours_9 : decode cX9_touchHours 9 = .ok (.if_icmp .ge 31, 3) := by decide +kernel
theorem dX9_touchHours_12 : decode cX9_touchHours 12 = .ok (.iload_n 3, 1) := by decide +kernel
theorem dX9_touchHours_13 : decode cX9_touchHours 13 = .ok (.aload_n 0, 1) := by decide +kernel
theorem dX9_touchHours_14 : decode cX9_touchHours 14 = .ok (.iload_n 1, 1) := by decide +kernel
theorem dX9_touchHours_15 : decode cX9_touchHours 15 = .ok (.iload_n 2, 1) := by decide +kernel
theorem dX9_touchHours_16 : decode cX9_touchHours 16 = .ok (.iload 4, 2) := by decide +kernel
theorem dX9_touchHours_18 : decode cX9_touchHours 18 = .ok (.invokevirtual 276, 3) := by decide +kernel
theorem dX9_touchHours_21 : decode cX9_touchHours 21 = .ok (.ifCond .eq 10, 3) := by decide +kernel
theorem dX9_touchHours_24 : decode cX9_touchHours 24 = .ok (.iconst 1, 1) := by decide +kernel
theorem dX9_touchHours_25 : decode cX9_touchHours 25 = .ok (.iload 4, 2) := by decide +kernel
theorem dX9_touchHours_27 : decode cX9_touchHours 27 = .ok (.ishl, 1) := by decide +kernel
theorem dX9_touchHours_28 : decode cX9_touchHours 28 = .ok (.goto 4, 3) := by decide +kernel
theorem dX9_touchHours_31 : decode cX9_touchHours 31 = .ok (.iconst 0, 1) := by decide +kernel
theorem dX9_touchHours_32 : decode cX9_touchHours 32 = .ok (.ior, 1) := by decide +kernel
theorem dX9_touchHours_33 : decode cX9_touchHours 33 = .ok (.istore_n 3, 1) := by decide +kernel
theorem dX9_touchHours_34 : decode cX9_touchHours 34 = .ok (.iinc 4 1, 3) := by decide +kernel
theorem dX9_touchHours_37 : decode cX9_touchHours 37 = .ok (.goto (-32), 3) := by decide +kernel
theorem dX9_touchHours_40 : decode cX9_touchHours 40 = .ok (.iload_n 3, 1) := by decide +kernel
theorem dX9_touchHours_41 : decode cX9_touchHours 41 = .ok (.ireturn, 1) := by decide +kernel
theorem dX9_touch_0 : decode cX9_touch 0 = .ok (.aload_n 0, 1) := by decide +kernel
theorem dX9_touch_1 : decode cX9_touch 1 = .ok (.iload_n 1, 1) := by decide +kernel
theorem dX9_touch_2 : decode cX9_touch 2 = .ok (.iload_n 2, 1) := by decide +kernel
theorem dX9_touch_3 : decode cX9_touch 3 = .ok (.invokevirtual 279, 3) := by decide +kernel
theorem dX9_touch_6 : decode cX9_touch 6 = .ok (.ifCond .eq 12, 3) := by decide +kernel
theorem dX9_touch_9 : decode cX9_touch 9 = .ok (.aload_n 0, 1) := by decide +kernel
theorem dX9_touch_10 : decode cX9_touch 10 = .ok (.iload_n 1, 1) := by decide +kernel
theorem dX9_touch_11 : decode cX9_touch 11 = .ok (.iload_n 2, 1) := by decide +kernel
theorem dX9_touch_12 : decode cX9_touch 12 = .ok (.invokevirtual 282, 3) := by decide +kernel
theorem dX9_touch_15 : decode cX9_touch 15 = .ok (.goto 8, 3) := by decide +kernel
theorem dX9_touch_18 : decode cX9_touch 18 = .ok (.aload_n 0, 1) := by decide +kernel
theorem dX9_touch_19 : decode cX9_touch 19 = .ok (.iconst (-1), 1) := by decide +kernel
theorem dX9_touch_20 : decode cX9_touch 20 = .ok (.invokevirtual 124, 3) := by decide +kernel
theorem dX9_touch_23 : decode cX9_touch 23 = .ok (.ireturn, 1) := by decide +kernel
theorem dX9_clear_0 : decode cX9_clear 0 = .ok (.aload_n 0, 1) := by decide +kernel
theorem dX9_clear_1 : decode cX9_clear 1 = .ok (.iload_n 1, 1) := by decide +kernel
theorem dX9_clear_2 : decode cX9_clear 2 = .ok (.iload_n 2, 1) := by decide +kernel
theorem dX9_clear_3 : decode cX9_clear 3 = .ok (.invokevirtual 279, 3) := by decide +kernel
theorem dX9_clear_6 : decode cX9_clear 6 = .ok (.ifCond .ne 9, 3) := by decide +kernel
theorem dX9_clear_9 : decode cX9_clear 9 = .ok (.aload_n 0, 1) := by decide +kernel
theorem dX9_clear_10 : decode cX9_clear 10 = .ok (.iconst (-1), 1) := by decide +kernel
theorem dX9_clear_11 : decode cX9_clear 11 = .ok (.invokevirtual 124, 3) := by decide +kernel
theorem dX9_clear_14 : decode cX9_clear 14 = .ok (.ireturn, 1) := by decide +kernel
theorem dX9_clear_15 : decode cX9_clear 15 = .ok (.aload_n 0, 1) := by decide +kernel
theorem dX9_clear_16 : decode cX9_clear 16 = .ok (.iload_n 1, 1) := by decide +kernel
theorem dX9_clear_17 : decode cX9_clear 17 = .ok (.invokevirtual 258, 3) := by decide +kernel
theorem dX9_clear_20 : decode cX9_clear 20 = .ok (.istore_n 3, 1) := by decide +kernel
theorem dX9_clear_21 : decode cX9_clear 21 = .ok (.aload_n 0, 1) := by decide +kernel
theorem dX9_clear_22 : decode cX9_clear 22 = .ok (.getfield 40, 3) := by decide +kernel
theorem dX9_clear_25 : decode cX9_clear 25 = .ok (.iload_n 1, 1) := by decide +kernel
theorem dX9_clear_26 : decode cX9_clear 26 = .ok (.iaload, 1) := by decide +kernel
theorem dX9_clear_27 : decode cX9_clear 27 = .ok (.istore 4, 2) := by decide +kernel
theorem dX9_clear_29 : decode cX9_clear 29 = .ok (.bipush (-9), 2) := by decide +kernel
theorem dX9_clear_31 : decode cX9_clear 31 = .ok (.istore 5, 2) := by decide +kernel
theorem dX9_clear_33 : decode cX9_clear 33 = .ok (.bipush 99, 2) := by decide +kernel
theorem dX9_clear_35 : decode cX9_clear 35 = .ok (.istore 6, 2) := by decide +kernel
theorem dX9_clear_37 : decode cX9_clear 37 = .ok (.iload_n 3, 1) := by decide +kernel
theorem dX9_clear_38 : decode cX9_clear 38 = .ok (.istore 7, 2) := by decide +kernel
theorem dX9_clear_40 : decode cX9_clear 40 = .ok (.iload 7, 2) := by decide +kernel
theorem dX9_clear_42 : decode cX9_clear 42 = .ok (.bipush 99, 2) := by decide +kernel
theorem dX9_clear_44 : decode cX9_clear 44 = .ok (.if_icmp .gt 50, 3) := by decide +kernel
theorem dX9_clear_47 : decode cX9_clear 47 = .ok (.iload_n 3, 1) := by decide +kernel
theorem dX9_clear_48 : decode cX9_clear 48 = .ok (.ifCond .lt 46, 3) := by decide +kernel
theorem dX9_clear_51 : decode cX9_clear 51 = .ok (.aload_n 0, 1) := by decide +kernel
theorem dX9_clear_52 : decode cX9_clear 52 = .ok (.getfield 40, 3) := by decide +kernel
theorem dX9_clear_55 : decode cX9_clear 55 = .ok (.iload_n 1, 1) := by decide +kernel
theorem dX9_clear_56 : decode cX9_clear 56 = .ok (.iload 7, 2) := by decide +kernel
theorem dX9_clear_58 : decode cX9_clear 58 = .ok (.iastore, 1) := by decide +kernel
theorem dX9_clear_59 : decode cX9_clear 59 = .ok (.aload_n 0, 1) := by decide +kernel
theorem dX9_clear_60 : decode cX9_clear 60 = .ok (.iload_n 1, 1) := by decide +kernel
theorem dX9_clear_61 : decode cX9_clear 61 = .ok (.iload_n 2, 1) := by decide +kernel
theorem dX9_clear_62 : decode cX9_clear 62 = .ok (.invokevirtual 282, 3) := by decide +kernel
theorem dX9_clear_65 : decode cX9_clear 65 = .ok (.invokestatic 273, 3) := by decide +kernel
theorem dX9_clear_68 : decode cX9_clear 68 = .ok (.istore 8, 2) := by decide +kernel
theorem dX9_clear_70 : decode cX9_clear 70 = .ok (.iload 8, 2) := by decide +kernel
theorem dX9_clear_72 : decode cX9_clear 72 = .ok (.iload 6, 2) := by decide +kernel
theorem dX9_clear_74 : decode cX9_clear 74 = .ok (.if_icmp .lt 6, 3) := by decide +kernel
theorem dX9_clear_77 : decode cX9_clear 77 = .ok (.goto 11, 3) := by decide +kernel
theorem dX9_clear_80 : decode cX9_clear 80 = .ok (.iload 7, 2) := by decide +kernel
theorem dX9_clear_82 : decode cX9_clear 82 = .ok (.istore 5, 2) := by decide +kernel
theorem dX9_clear_84 : decode cX9_clear 84 = .ok (.iload 8, 2) := by decide +kernel
theorem dX9_clear_86 : decode cX9_clear 86 = .ok (.istore 6, 2) := by decide +kernel
theorem dX9_clear_88 : decode cX9_clear 88 = .ok (.iinc 7 1, 3) := by decide +kernel
theorem dX9_clear_91 : decode cX9_clear 91 = .ok (.goto (-51), 3) := by decide +kernel
theorem dX9_clear_94 : decode cX9_clear 94 = .ok (.aload_n 0, 1) := by decide +kernel
theorem dX9_clear_95 : decode cX9_clear 95 = .ok (.getfield 40, 3) := by decide +kernel
theorem dX9_clear_98 : decode cX9_clear 98 = .ok (.iload_n 1, 1) := by decide +kernel
theorem dX9_clear_99 : decode cX9_clear 99 = .ok (.iload 4, 2) := by decide +kernel
theorem dX9_clear_101 : decode cX9_clear 101 = .ok (.iastore, 1) := by decide +kernel
theorem dX9_clear_102 : decode cX9_clear 102 = .ok (.iload 5, 2) := by decide +kernel
theorem dX9_clear_104 : decode cX9_clear 104 = .ok (.ireturn, 1) := by decide +kernel
theorem dX9_slack_0 : decode cX9_slack 0 = .ok (.aload_n 0, 1) := by decide +kernel
theorem dX9_slack_1 : decode cX9_slack 1 = .ok (.iload_n 1, 1) := by decide +kernel
theorem dX9_slack_2 : decode cX9_slack 2 = .ok (.invokevirtual 168, 3) := by decide +kernel
theorem dX9_slack_5 : decode cX9_slack 5 = .ok (.ifCond .ne 9, 3) := by decide +kernel
theorem dX9_slack_8 : decode cX9_slack 8 = .ok (.aload_n 0, 1) := by decide +kernel
theorem dX9_slack_9 : decode cX9_slack 9 = .ok (.iconst (-1), 1) := by decide +kernel
theorem dX9_slack_10 : decode cX9_slack 10 = .ok (.invokevirtual 236, 3) := by decide +kernel
theorem dX9_slack_13 : decode cX9_slack 13 = .ok (.ireturn, 1) := by decide +kernel
theorem dX9_slack_14 : decode cX9_slack 14 = .ok (.iconst 0, 1) := by decide +kernel
theorem dX9_slack_15 : decode cX9_slack 15 = .ok (.istore_n 2, 1) := by decide +kernel
theorem dX9_slack_16 : decode cX9_slack 16 = .ok (.iconst 0, 1) := by decide +kernel
theorem dX9_slack_17 : decode cX9_slack 17 = .ok (.istore_n 3, 1) := by decide +kernel
theorem dX9_slack_18 : decode cX9_slack 18 = .ok (.iload_n 3, 1) := by decide +kernel
theorem dX9_slack_19 : decode cX9_slack 19 = .ok (.bipush 12, 2) := by decide +kernel
theorem dX9_slack_21 : decode cX9_slack 21 = .ok (.if_icmp .ge 30, 3) := by decide +kernel
theorem dX9_slack_24 : decode cX9_slack 24 = .ok (.aload_n 0, 1) := by decide +kernel
theorem dX9_slack_25 : decode cX9_slack 25 = .ok (.iload_n 1, 1) := by decide +kernel
theorem dX9_slack_26 : decode cX9_slack 26 = .ok (.iload_n 3, 1) := by decide +kernel
theorem dX9_slack_27 : decode cX9_slack 27 = .ok (.invokevirtual 214, 3) := by decide +kernel
theorem dX9_slack_30 : decode cX9_slack 30 = .ok (.iload_n 2, 1) := by decide +kernel
theorem dX9_slack_31 : decode cX9_slack 31 = .ok (.if_icmp .le 12, 3) := by decide +kernel
theorem dX9_slack_34 : decode cX9_slack 34 = .ok (.aload_n 0, 1) := by decide +kernel
theorem dX9_slack_35 : decode cX9_slack 35 = .ok (.iload_n 1, 1) := by decide +kernel
theorem dX9_slack_36 : decode cX9_slack 36 = .ok (.iload_n 3, 1) := by decide +kernel
theorem dX9_slack_37 : decode cX9_slack 37 = .ok (.invokevirtual 214, 3) := by decide +kernel
theorem dX9_slack_40 : decode cX9_slack 40 = .ok (.goto 4, 3) := by decide +kernel
theorem dX9_slack_43 : decode cX9_slack 43 = .ok (.iload_n 2, 1) := by decide +kernel
theorem dX9_slack_44 : decode cX9_slack 44 = .ok (.istore_n 2, 1) := by decide +kernel
theorem dX9_slack_45 : decode cX9_slack 45 = .ok (.iinc 3 1, 3) := by decide +kernel
theorem dX9_slack_48 : decode cX9_slack 48 = .ok (.goto (-30), 3) := by decide +kernel
theorem dX9_slack_51 : decode cX9_slack 51 = .ok (.iload_n 2, 1) := by decide +kernel
theorem dX9_slack_52 : decode cX9_slack 52 = .ok (.invokestatic 221, 3) := by decide +kernel
theorem dX9_slack_55 : decode cX9_slack 55 = .ok (.istore_n 3, 1) := by decide +kernel
theorem dX9_slack_56 : decode cX9_slack 56 = .ok (.aload_n 0, 1) := by decide +kernel
theorem dX9_slack_57 : decode cX9_slack 57 = .ok (.getfield 40, 3) := by decide +kernel
theorem dX9_slack_60 : decode cX9_slack 60 = .ok (.iload_n 1, 1) := by decide +kernel
theorem dX9_slack_61 : decode cX9_slack 61 = .ok (.iaload, 1) := by decide +kernel
theorem dX9_slack_62 : decode cX9_slack 62 = .ok (.iload_n 3, 1) := by decide +kernel
theorem dX9_slack_63 : decode cX9_slack 63 = .ok (.iload_n 3, 1) := by decide +kernel
theorem dX9_slack_64 : decode cX9_slack 64 = .ok (.imul, 1) := by decide +kernel
theorem dX9_slack_65 : decode cX9_slack 65 = .ok (.iload_n 2, 1) := by decide +kernel
theorem dX9_slack_66 : decode cX9_slack 66 = .ok (.if_icmp .ge 9, 3) := by decide +kernel
theorem dX9_slack_69 : decode cX9_slack 69 = .ok (.iload_n 3, 1) := by decide +kernel
theorem dX9_slack_70 : decode cX9_slack 70 = .ok (.iconst 1, 1) := by decide +kernel
theorem dX9_slack_71 : decode cX9_slack 71 = .ok (.iadd, 1) := by decide +kernel
theorem dX9_slack_72 : decode cX9_slack 72 = .ok (.goto 4, 3) := by decide +kernel
theorem dX9_slack_75 : decode cX9_slack 75 = .ok (.iload_n 3, 1) := by decide +kernel
theorem dX9_slack_76 : decode cX9_slack 76 = .ok (.isub, 1) := by decide +kernel
theorem dX9_slack_77 : decode cX9_slack 77 = .ok (.ireturn, 1) := by decide +kernel
theorem dX9_movesBy_0 : decode cX9_movesBy 0 = .ok (.iconst 0, 1) := by decide +kernel
theorem dX9_movesBy_1 : decode cX9_movesBy 1 = .ok (.istore_n 1, 1) := by decide +kernel
theorem dX9_movesBy_2 : decode cX9_movesBy 2 = .ok (.iconst 0, 1) := by decide +kernel
theorem dX9_movesBy_3 : decode cX9_movesBy 3 = .ok (.istore_n 2, 1) := by decide +kernel
theorem dX9_movesBy_4 : decode cX9_movesBy 4 = .ok (.iload_n 2, 1) := by decide +kernel
theorem dX9_movesBy_5 : decode cX9_movesBy 5 = .ok (.aload_n 0, 1) := by decide +kernel
theorem dX9_movesBy_6 : decode cX9_movesBy 6 = .ok (.getfield 114, 3) := by decide +kernel
theorem dX9_movesBy_9 : decode cX9_movesBy 9 = .ok (.if_icmp .ge 60, 3) := by decide +kernel
theorem dX9_movesBy_12 : decode cX9_movesBy 12 = .ok (.iload_n 2, 1) := by decide +kernel
theorem dX9_movesBy_13 : decode cX9_movesBy 13 = .ok (.iconst 1, 1) := by decide +kernel
theorem dX9_movesBy_14 : decode cX9_movesBy 14 = .ok (.iadd, 1) := by decide +kernel
theorem dX9_movesBy_15 : decode cX9_movesBy 15 = .ok (.istore_n 3, 1) := by decide +kernel
theorem dX9_movesBy_16 : decode cX9_movesBy 16 = .ok (.iload_n 3, 1) := by decide +kernel
theorem dX9_movesBy_17 : decode cX9_movesBy 17 = .ok (.aload_n 0, 1) := by decide +kernel
theorem dX9_movesBy_18 : decode cX9_movesBy 18 = .ok (.getfield 114, 3) := by decide +kernel
theorem dX9_movesBy_21 : decode cX9_movesBy 21 = .ok (.if_icmp .ge 42, 3) := by decide +kernel
theorem dX9_movesBy_24 : decode cX9_movesBy 24 = .ok (.iload_n 1, 1) := by decide +kernel
theorem dX9_movesBy_25 : decode cX9_movesBy 25 = .ok (.aload_n 0, 1) := by decide +kernel
theorem dX9_movesBy_26 : decode cX9_movesBy 26 = .ok (.getfield 76, 3) := by decide +kernel
theorem dX9_movesBy_29 : decode cX9_movesBy 29 = .ok (.aload_n 0, 1) := by decide +kernel
theorem dX9_movesBy_30 : decode cX9_movesBy 30 = .ok (.getfield 79, 3) := by decide +kernel
theorem dX9_movesBy_33 : decode cX9_movesBy 33 = .ok (.iload_n 2, 1) := by decide +kernel
theorem dX9_movesBy_34 : decode cX9_movesBy 34 = .ok (.iaload, 1) := by decide +kernel
theorem dX9_movesBy_35 : decode cX9_movesBy 35 = .ok (.iaload, 1) := by decide +kernel
theorem dX9_movesBy_36 : decode cX9_movesBy 36 = .ok (.aload_n 0, 1) := by decide +kernel
theorem dX9_movesBy_37 : decode cX9_movesBy 37 = .ok (.getfield 76, 3) := by decide +kernel
theorem dX9_movesBy_40 : decode cX9_movesBy 40 = .ok (.aload_n 0, 1) := by decide +kernel
theorem dX9_movesBy_41 : decode cX9_movesBy 41 = .ok (.getfield 79, 3) := by decide +kernel
theorem dX9_movesBy_44 : decode cX9_movesBy 44 = .ok (.iload_n 3, 1) := by decide +kernel
theorem dX9_movesBy_45 : decode cX9_movesBy 45 = .ok (.iaload, 1) := by decide +kernel
theorem dX9_movesBy_46 : decode cX9_movesBy 46 = .ok (.iaload, 1) := by decide +kernel
theorem dX9_movesBy_47 : decode cX9_movesBy 47 = .ok (.if_icmp .ge 7, 3) := by decide +kernel
theorem dX9_movesBy_50 : decode cX9_movesBy 50 = .ok (.iconst 1, 1) := by decide +kernel
theorem dX9_movesBy_51 : decode cX9_movesBy 51 = .ok (.goto 4, 3) := by decide +kernel
theorem dX9_movesBy_54 : decode cX9_movesBy 54 = .ok (.iconst 0, 1) := by decide +kernel
theorem dX9_movesBy_55 : decode cX9_movesBy 55 = .ok (.iadd, 1) := by decide +kernel
theorem dX9_movesBy_56 : decode cX9_movesBy 56 = .ok (.istore_n 1, 1) := by decide +kernel
theorem dX9_movesBy_57 : decode cX9_movesBy 57 = .ok (.iinc 3 1, 3) := by decide +kernel
theorem dX9_movesBy_60 : decode cX9_movesBy 60 = .ok (.goto (-44), 3) := by decide +kernel
theorem dX9_movesBy_63 : decode cX9_movesBy 63 = .ok (.iinc 2 1, 3) := by decide +kernel
theorem dX9_movesBy_66 : decode cX9_movesBy 66 = .ok (.goto (-62), 3) := by decide +kernel
theorem dX9_movesBy_69 : decode cX9_movesBy 69 = .ok (.iload_n 1, 1) := by decide +kernel
theorem dX9_movesBy_70 : decode cX9_movesBy 70 = .ok (.ireturn, 1) := by decide +kernel
theorem dX9_laysOrder_0 : decode cX9_laysOrder 0 = .ok (.iload_n 1, 1) := by decide +kernel
theorem dX9_laysOrder_1 : decode cX9_laysOrder 1 = .ok (.istore_n 2, 1) := by decide +kernel
theorem dX9_laysOrder_2 : decode cX9_laysOrder 2 = .ok (.iconst 0, 1) := by decide +kernel
theorem dX9_laysOrder_3 : decode cX9_laysOrder 3 = .ok (.istore_n 3, 1) := by decide +kernel
theorem dX9_laysOrder_4 : decode cX9_laysOrder 4 = .ok (.aload_n 0, 1) := by decide +kernel
theorem dX9_laysOrder_5 : decode cX9_laysOrder 5 = .ok (.getfield 114, 3) := by decide +kernel
theorem dX9_laysOrder_8 : decode cX9_laysOrder 8 = .ok (.iconst 1, 1) := by decide +kernel
theorem dX9_laysOrder_9 : decode cX9_laysOrder 9 = .ok (.isub, 1) := by decide +kernel
theorem dX9_laysOrder_10 : decode cX9_laysOrder 10 = .ok (.istore 4, 2) := by decide +kernel
theorem dX9_laysOrder_12 : decode cX9_laysOrder 12 = .ok (.iload 4, 2) := by decide +kernel
theorem dX9_laysOrder_14 : decode cX9_laysOrder 14 = .ok (.ifCond .lt 41, 3) := by decide +kernel
theorem dX9_laysOrder_17 : decode cX9_laysOrder 17 = .ok (.aload_n 0, 1) := by decide +kernel
theorem dX9_laysOrder_18 : decode cX9_laysOrder 18 = .ok (.getfield 79, 3) := by decide +kernel
theorem dX9_laysOrder_21 : decode cX9_laysOrder 21 = .ok (.iload 4, 2) := by decide +kernel
theorem dX9_laysOrder_23 : decode cX9_laysOrder 23 = .ok (.iload_n 2, 1) := by decide +kernel
theorem dX9_laysOrder_24 : decode cX9_laysOrder 24 = .ok (.aload_n 0, 1) := by decide +kernel
theorem dX9_laysOrder_25 : decode cX9_laysOrder 25 = .ok (.getfield 114, 3) := by decide +kernel
theorem dX9_laysOrder_28 : decode cX9_laysOrder 28 = .ok (.irem, 1) := by decide +kernel
theorem dX9_laysOrder_29 : decode cX9_laysOrder 29 = .ok (.iastore, 1) := by decide +kernel
theorem dX9_laysOrder_30 : decode cX9_laysOrder 30 = .ok (.iload_n 2, 1) := by decide +kernel
theorem dX9_laysOrder_31 : decode cX9_laysOrder 31 = .ok (.aload_n 0, 1) := by decide +kernel
theorem dX9_laysOrder_32 : decode cX9_laysOrder 32 = .ok (.getfield 114, 3) := by decide +kernel
theorem dX9_laysOrder_35 : decode cX9_laysOrder 35 = .ok (.idiv, 1) := by decide +kernel
theorem dX9_laysOrder_36 : decode cX9_laysOrder 36 = .ok (.istore_n 2, 1) := by decide +kernel
theorem dX9_laysOrder_37 : decode cX9_laysOrder 37 = .ok (.iload_n 3, 1) := by decide +kernel
theorem dX9_laysOrder_38 : decode cX9_laysOrder 38 = .ok (.iconst 1, 1) := by decide +kernel
theorem dX9_laysOrder_39 : decode cX9_laysOrder 39 = .ok (.aload_n 0, 1) := by decide +kernel
theorem dX9_laysOrder_40 : decode cX9_laysOrder 40 = .ok (.getfield 79, 3) := by decide +kernel
theorem dX9_laysOrder_43 : decode cX9_laysOrder 43 = .ok (.iload 4, 2) := by decide +kernel
theorem dX9_laysOrder_45 : decode cX9_laysOrder 45 = .ok (.iaload, 1) := by decide +kernel
theorem dX9_laysOrder_46 : decode cX9_laysOrder 46 = .ok (.ishl, 1) := by decide +kernel
theorem dX9_laysOrder_47 : decode cX9_laysOrder 47 = .ok (.ior, 1) := by decide +kernel
theorem dX9_laysOrder_48 : decode cX9_laysOrder 48 = .ok (.istore_n 3, 1) := by decide +kernel
theorem dX9_laysOrder_49 : decode cX9_laysOrder 49 = .ok (.iinc 4 (-1), 3) := by decide +kernel
theorem dX9_laysOrder_52 : decode cX9_laysOrder 52 = .ok (.goto (-40), 3) := by decide +kernel
theorem dX9_laysOrder_55 : decode cX9_laysOrder 55 = .ok (.iload_n 3, 1) := by decide +kernel
theorem dX9_laysOrder_56 : decode cX9_laysOrder 56 = .ok (.invokestatic 273, 3) := by decide +kernel
theorem dX9_laysOrder_59 : decode cX9_laysOrder 59 = .ok (.aload_n 0, 1) := by decide +kernel
theorem dX9_laysOrder_60 : decode cX9_laysOrder 60 = .ok (.getfield 114, 3) := by decide +kernel
theorem dX9_laysOrder_63 : decode cX9_laysOrder 63 = .ok (.if_icmp .ne 7, 3) := by decide +kernel
theorem dX9_laysOrder_66 : decode cX9_laysOrder 66 = .ok (.iconst 1, 1) := by decide +kernel
theorem dX9_laysOrder_67 : decode cX9_laysOrder 67 = .ok (.goto 4, 3) := by decide +kernel
theorem dX9_laysOrder_70 : decode cX9_laysOrder 70 = .ok (.iconst 0, 1) := by decide +kernel
theorem dX9_laysOrder_71 : decode cX9_laysOrder 71 = .ok (.ireturn, 1) := by decide +kernel
theorem dX9_findOrder_0 : decode cX9_findOrder 0 = .ok (.iconst 1, 1) := by decide +kernel
theorem dX9_findOrder_1 : decode cX9_findOrder 1 = .ok (.istore_n 1, 1) := by decide +kernel
theorem dX9_findOrder_2 : decode cX9_findOrder 2 = .ok (.iconst 0, 1) := by decide +kernel
theorem dX9_findOrder_3 : decode cX9_findOrder 3 = .ok (.istore_n 2, 1) := by decide +kernel
theorem dX9_findOrder_4 : decode cX9_findOrder 4 = .ok (.iload_n 2, 1) := by decide +kernel
theorem dX9_findOrder_5 : decode cX9_findOrder 5 = .ok (.aload_n 0, 1) := by decide +kernel
theorem dX9_findOrder_6 : decode cX9_findOrder 6 = .ok (.getfield 114, 3) := by decide +kernel
theorem dX9_findOrder_9 : decode cX9_findOrder 9 = .ok (.if_icmp .ge 16, 3) := by decide +kernel
theorem dX9_findOrder_12 : decode cX9_findOrder 12 = .ok (.iload_n 1, 1) := by decide +kernel
theorem dX9_findOrder_13 : decode cX9_findOrder 13 = .ok (.aload_n 0, 1) := by decide +kernel
theorem dX9_findOrder_14 : decode cX9_findOrder 14 = .ok (.getfield 114, 3) := by decide +kernel
theorem dX9_findOrder_17 : decode cX9_findOrder 17 = .ok (.imul, 1) := by decide +kernel
theorem dX9_findOrder_18 : decode cX9_findOrder 18 = .ok (.istore_n 1, 1) := by decide +kernel
theorem dX9_findOrder_19 : decode cX9_findOrder 19 = .ok (.iinc 2 1, 3) := by decide +kernel
theorem dX9_findOrder_22 : decode cX9_findOrder 22 = .ok (.goto (-18), 3) := by decide +kernel
theorem dX9_findOrder_25 : decode cX9_findOrder 25 = .ok (.bipush 99, 2) := by decide +kernel
theorem dX9_findOrder_27 : decode cX9_findOrder 27 = .ok (.istore_n 2, 1) := by decide +kernel
theorem dX9_findOrder_28 : decode cX9_findOrder 28 = .ok (.iconst 0, 1) := by decide +kernel
theorem dX9_findOrder_29 : decode cX9_findOrder 29 = .ok (.istore_n 3, 1) := by decide +kernel
theorem dX9_findOrder_30 : decode cX9_findOrder 30 = .ok (.iload_n 3, 1) := by decide +kernel
theorem dX9_findOrder_31 : decode cX9_findOrder 31 = .ok (.iload_n 1, 1) := by decide +kernel
theorem dX9_findOrder_32 : decode cX9_findOrder 32 = .ok (.if_icmp .ge 65, 3) := by decide +kernel
theorem dX9_findOrder_35 : decode cX9_findOrder 35 = .ok (.aload_n 0, 1) := by decide +kernel
theorem dX9_findOrder_36 : decode cX9_findOrder 36 = .ok (.iload_n 3, 1) := by decide +kernel
theorem dX9_findOrder_37 : decode cX9_findOrder 37 = .ok (.invokevirtual 285, 3) := by decide +kernel
theorem dX9_findOrder_40 : decode cX9_findOrder 40 = .ok (.ifCond .eq 51, 3) := by decide +kernel
theorem dX9_findOrder_43 : decode cX9_findOrder 43 = .ok (.aload_n 0, 1) := by decide +kernel
theorem dX9_findOrder_44 : decode cX9_findOrder 44 = .ok (.invokevirtual 288, 3) := by decide +kernel
theorem dX9_findOrder_47 : decode cX9_findOrder 47 = .ok (.iload_n 2, 1) := by decide +kernel
theorem dX9_findOrder_48 : decode cX9_findOrder 48 = .ok (.if_icmp .lt 6, 3) := by decide +kernel
theorem dX9_findOrder_51 : decode cX9_findOrder 51 = .ok (.goto 40, 3) := by decide +kernel
theorem dX9_findOrder_54 : decode cX9_findOrder 54 = .ok (.aload_n 0, 1) := by decide +kernel
theorem dX9_findOrder_55 : decode cX9_findOrder 55 = .ok (.invokevirtual 288, 3) := by decide +kernel
theorem dX9_findOrder_58 : decode cX9_findOrder 58 = .ok (.istore_n 2, 1) := by decide +kernel
theorem dX9_findOrder_59 : decode cX9_findOrder 59 = .ok (.iconst 0, 1) := by decide +kernel
theorem dX9_findOrder_60 : decode cX9_findOrder 60 = .ok (.istore 4, 2) := by decide +kernel
theorem dX9_findOrder_62 : decode cX9_findOrder 62 = .ok (.iload 4, 2) := by decide +kernel
theorem dX9_findOrder_64 : decode cX9_findOrder 64 = .ok (.aload_n 0, 1) := by decide +kernel
theorem dX9_findOrder_65 : decode cX9_findOrder 65 = .ok (.getfield 114, 3) := by decide +kernel
theorem dX9_findOrder_68 : decode cX9_findOrder 68 = .ok (.if_icmp .ge 23, 3) := by decide +kernel
theorem dX9_findOrder_71 : decode cX9_findOrder 71 = .ok (.aload_n 0, 1) := by decide +kernel
theorem dX9_findOrder_72 : decode cX9_findOrder 72 = .ok (.getfield 82, 3) := by decide +kernel
theorem dX9_findOrder_75 : decode cX9_findOrder 75 = .ok (.iload 4, 2) := by decide +kernel
theorem dX9_findOrder_77 : decode cX9_findOrder 77 = .ok (.aload_n 0, 1) := by decide +kernel
theorem dX9_findOrder_78 : decode cX9_findOrder 78 = .ok (.getfield 79, 3) := by decide +kernel
theorem dX9_findOrder_81 : decode cX9_findOrder 81 = .ok (.iload 4, 2) := by decide +kernel
theorem dX9_findOrder_83 : decode cX9_findOrder 83 = .ok (.iaload, 1) := by decide +kernel
theorem dX9_findOrder_84 : decode cX9_findOrder 84 = .ok (.iastore, 1) := by decide +kernel
theorem dX9_findOrder_85 : decode cX9_findOrder 85 = .ok (.iinc 4 1, 3) := by decide +kernel
theorem dX9_findOrder_88 : decode cX9_findOrder 88 = .ok (.goto (-26), 3) := by decide +kernel
theorem dX9_findOrder_91 : decode cX9_findOrder 91 = .ok (.iinc 3 1, 3) := by decide +kernel
theorem dX9_findOrder_94 : decode cX9_findOrder 94 = .ok (.goto (-64), 3) := by decide +kernel
theorem dX9_findOrder_97 : decode cX9_findOrder 97 = .ok (.iload_n 2, 1) := by decide +kernel
theorem dX9_findOrder_98 : decode cX9_findOrder 98 = .ok (.ireturn, 1) := by decide +kernel
theorem dX9_isRowOfHours_0 : decode cX9_isRowOfHours 0 = .ok (.iconst 0, 1) := by decide +kernel
theorem dX9_isRowOfHours_1 : decode cX9_isRowOfHours 1 = .ok (.istore_n 1, 1) := by decide +kernel
theorem dX9_isRowOfHours_2 : decode cX9_isRowOfHours 2 = .ok (.iload_n 1, 1) := by decide +kernel
theorem dX9_isRowOfHours_3 : decode cX9_isRowOfHours 3 = .ok (.aload_n 0, 1) := by decide +kernel
theorem dX9_isRowOfHours_4 : decode cX9_isRowOfHours 4 = .ok (.getfield 291, 3) := by decide +kernel
theorem dX9_isRowOfHours_7 : decode cX9_isRowOfHours 7 = .ok (.if_icmp .ge 22, 3) := by decide +kernel
theorem dX9_isRowOfHours_10 : decode cX9_isRowOfHours 10 = .ok (.aload_n 0, 1) := by decide +kernel
theorem dX9_isRowOfHours_11 : decode cX9_isRowOfHours 11 = .ok (.getfield 76, 3) := by decide +kernel
theorem dX9_isRowOfHours_14 : decode cX9_isRowOfHours 14 = .ok (.iload_n 1, 1) := by decide +kernel
theorem dX9_isRowOfHours_15 : decode cX9_isRowOfHours 15 = .ok (.iaload, 1) := by decide +kernel
theorem dX9_isRowOfHours_16 : decode cX9_isRowOfHours 16 = .ok (.bipush 12, 2) := by decide +kernel
theorem dX9_isRowOfHours_18 : decode cX9_isRowOfHours 18 = .ok (.if_icmp .le 5, 3) := by decide +kernel
theorem dX9_isRowOfHours_21 : decode cX9_isRowOfHours 21 = .ok (.iconst 0, 1) := by decide +kernel
theorem dX9_isRowOfHours_22 : decode cX9_isRowOfHours 22 = .ok (.ireturn, 1) := by decide +kernel
theorem dX9_isRowOfHours_23 : decode cX9_isRowOfHours 23 = .ok (.iinc 1 1, 3) := by decide +kernel
theorem dX9_isRowOfHours_26 : decode cX9_isRowOfHours 26 = .ok (.goto (-24), 3) := by decide +kernel
theorem dX9_isRowOfHours_29 : decode cX9_isRowOfHours 29 = .ok (.aload_n 0, 1) := by decide +kernel
theorem dX9_isRowOfHours_30 : decode cX9_isRowOfHours 30 = .ok (.getfield 291, 3) := by decide +kernel
theorem dX9_isRowOfHours_33 : decode cX9_isRowOfHours 33 = .ok (.aload_n 0, 1) := by decide +kernel
theorem dX9_isRowOfHours_34 : decode cX9_isRowOfHours 34 = .ok (.getfield 114, 3) := by decide +kernel
theorem dX9_isRowOfHours_37 : decode cX9_isRowOfHours 37 = .ok (.if_icmp .ne 14, 3) := by decide +kernel
theorem dX9_isRowOfHours_40 : decode cX9_isRowOfHours 40 = .ok (.aload_n 0, 1) := by decide +kernel
theorem dX9_isRowOfHours_41 : decode cX9_isRowOfHours 41 = .ok (.getfield 114, 3) := by decide +kernel
theorem dX9_isRowOfHours_44 : decode cX9_isRowOfHours 44 = .ok (.ifCond .le 7, 3) := by decide +kernel
theorem dX9_isRowOfHours_47 : decode cX9_isRowOfHours 47 = .ok (.iconst 1, 1) := by decide +kernel
theorem dX9_isRowOfHours_48 : decode cX9_isRowOfHours 48 = .ok (.goto 4, 3) := by decide +kernel
theorem dX9_isRowOfHours_51 : decode cX9_isRowOfHours 51 = .ok (.iconst 0, 1) := by decide +kernel
theorem dX9_isRowOfHours_52 : decode cX9_isRowOfHours 52 = .ok (.ireturn, 1) := by decide +kernel
theorem dX9_alongside_0 : decode cX9_alongside 0 = .ok (.iload_n 1, 1) := by decide +kernel
theorem dX9_alongside_1 : decode cX9_alongside 1 = .ok (.iconst 0, 1) := by decide +kernel
theorem dX9_alongside_2 : decode cX9_alongside 2 = .ok (.iconst 2, 1) := by decide +kernel
theorem dX9_alongside_3 : decode cX9_alongside 3 = .ok (.invokestatic 135, 3) := by decide +kernel
theorem dX9_alongside_6 : decode cX9_alongside 6 = .ok (.ifCond .ne 8, 3) := by decide +kernel
theorem dX9_alongside_9 : decode cX9_alongside 9 = .ok (.bipush (-2), 2) := by decide +kernel
theorem dX9_alongside_11 : decode cX9_alongside 11 = .ok (.goto 16, 3) := by decide +kernel
theorem dX9_alongside_14 : decode cX9_alongside 14 = .ok (.aload_n 0, 1) := by decide +kernel
theorem dX9_alongside_15 : decode cX9_alongside 15 = .ok (.invokevirtual 294, 3) := by decide +kernel
theorem dX9_alongside_18 : decode cX9_alongside 18 = .ok (.ifCond .ne 8, 3) := by decide +kernel
theorem dX9_alongside_21 : decode cX9_alongside 21 = .ok (.bipush (-3), 2) := by decide +kernel
theorem dX9_alongside_23 : decode cX9_alongside 23 = .ok (.goto 4, 3) := by decide +kernel
theorem dX9_alongside_26 : decode cX9_alongside 26 = .ok (.iconst 0, 1) := by decide +kernel
theorem dX9_alongside_27 : decode cX9_alongside 27 = .ok (.istore_n 2, 1) := by decide +kernel
theorem dX9_alongside_28 : decode cX9_alongside 28 = .ok (.iload_n 2, 1) := by decide +kernel
theorem dX9_alongside_29 : decode cX9_alongside 29 = .ok (.ifCond .eq 9, 3) := by decide +kernel
theorem dX9_alongside_32 : decode cX9_alongside 32 = .ok (.aload_n 0, 1) := by decide +kernel
theorem dX9_alongside_33 : decode cX9_alongside 33 = .ok (.iload_n 2, 1) := by decide +kernel
theorem dX9_alongside_34 : decode cX9_alongside 34 = .ok (.invokevirtual 124, 3) := by decide +kernel
theorem dX9_alongside_37 : decode cX9_alongside 37 = .ok (.ireturn, 1) := by decide +kernel
theorem dX9_alongside_38 : decode cX9_alongside 38 = .ok (.aload_n 0, 1) := by decide +kernel
theorem dX9_alongside_39 : decode cX9_alongside 39 = .ok (.invokevirtual 297, 3) := by decide +kernel
theorem dX9_alongside_42 : decode cX9_alongside 42 = .ok (.istore_n 3, 1) := by decide +kernel
theorem dX9_alongside_43 : decode cX9_alongside 43 = .ok (.iload_n 1, 1) := by decide +kernel
theorem dX9_alongside_44 : decode cX9_alongside 44 = .ok (.iconst 1, 1) := by decide +kernel
theorem dX9_alongside_45 : decode cX9_alongside 45 = .ok (.if_icmp .ne 5, 3) := by decide +kernel
theorem dX9_alongside_48 : decode cX9_alongside 48 = .ok (.iload_n 3, 1) := by decide +kernel
theorem dX9_alongside_49 : decode cX9_alongside 49 = .ok (.ireturn, 1) := by decide +kernel
theorem dX9_alongside_50 : decode cX9_alongside 50 = .ok (.iconst 0, 1) := by decide +kernel
theorem dX9_alongside_51 : decode cX9_alongside 51 = .ok (.istore 4, 2) := by decide +kernel
theorem dX9_alongside_53 : decode cX9_alongside 53 = .ok (.aload_n 0, 1) := by decide +kernel
theorem dX9_alongside_54 : decode cX9_alongside 54 = .ok (.getfield 114, 3) := by decide +kernel
theorem dX9_alongside_57 : decode cX9_alongside 57 = .ok (.iconst 1, 1) := by decide +kernel
theorem dX9_alongside_58 : decode cX9_alongside 58 = .ok (.isub, 1) := by decide +kernel
theorem dX9_alongside_59 : decode cX9_alongside 59 = .ok (.istore 5, 2) := by decide +kernel
theorem dX9_alongside_61 : decode cX9_alongside 61 = .ok (.iload 5, 2) := by decide +kernel
theorem dX9_alongside_63 : decode cX9_alongside 63 = .ok (.ifCond .lt 33, 3) := by decide +kernel
theorem dX9_alongside_66 : decode cX9_alongside 66 = .ok (.bipush 10, 2) := by decide +kernel
theorem dX9_alongside_68 : decode cX9_alongside 68 = .ok (.iload 4, 2) := by decide +kernel
theorem dX9_alongside_70 : decode cX9_alongside 70 = .ok (.imul, 1) := by decide +kernel
theorem dX9_alongside_71 : decode cX9_alongside 71 = .ok (.aload_n 0, 1) := by decide +kernel
theorem dX9_alongside_72 : decode cX9_alongside 72 = .ok (.getfield 82, 3) := by decide +kernel
theorem dX9_alongside_75 : decode cX9_alongside 75 = .ok (.iload 5, 2) := by decide +kernel
theorem dX9_alongside_77 : decode cX9_alongside 77 = .ok (.iaload, 1) := by decide +kernel
theorem dX9_alongside_78 : decode cX9_alongside 78 = .ok (.iadd, 1) := by decide +kernel
theorem dX9_alongside_79 : decode cX9_alongside 79 = .ok (.istore 4, 2) := by decide +kernel
theorem dX9_alongside_81 : decode cX9_alongside 81 = .ok (.aload_n 0, 1) := by decide +kernel
theorem dX9_alongside_82 : decode cX9_alongside 82 = .ok (.getfield 79, 3) := by decide +kernel
theorem dX9_alongside_85 : decode cX9_alongside 85 = .ok (.iload 5, 2) := by decide +kernel
theorem dX9_alongside_87 : decode cX9_alongside 87 = .ok (.iload 5, 2) := by decide +kernel
theorem dX9_alongside_89 : decode cX9_alongside 89 = .ok (.iastore, 1) := by decide +kernel
theorem dX9_alongside_90 : decode cX9_alongside 90 = .ok (.iinc 5 (-1), 3) := by decide +kernel
theorem dX9_alongside_93 : decode cX9_alongside 93 = .ok (.goto (-32), 3) := by decide +kernel
theorem dX9_alongside_96 : decode cX9_alongside 96 = .ok (.iload_n 1, 1) := by decide +kernel
theorem dX9_alongside_97 : decode cX9_alongside 97 = .ok (.ifCond .ne 10, 3) := by decide +kernel
theorem dX9_alongside_100 : decode cX9_alongside 100 = .ok (.aload_n 0, 1) := by decide +kernel
theorem dX9_alongside_101 : decode cX9_alongside 101 = .ok (.invokevirtual 288, 3) := by decide +kernel
theorem dX9_alongside_104 : decode cX9_alongside 104 = .ok (.goto 5, 3) := by decide +kernel
theorem dX9_alongside_107 : decode cX9_alongside 107 = .ok (.iload 4, 2) := by decide +kernel
theorem dX9_alongside_109 : decode cX9_alongside 109 = .ok (.ireturn, 1) := by decide +kernel
theorem dX9_mud_0 : decode cX9_mud 0 = .ok (.iload_n 1, 1) := by decide +kernel
theorem dX9_mud_1 : decode cX9_mud 1 = .ok (.iconst 0, 1) := by decide +kernel
theorem dX9_mud_2 : decode cX9_mud 2 = .ok (.bipush 40, 2) := by decide +kernel
theorem dX9_mud_4 : decode cX9_mud 4 = .ok (.invokestatic 117, 3) := by decide +kernel
theorem dX9_mud_7 : decode cX9_mud 7 = .ok (.istore_n 3, 1) := by decide +kernel
theorem dX9_mud_8 : decode cX9_mud 8 = .ok (.iload_n 3, 1) := by decide +kernel
theorem dX9_mud_9 : decode cX9_mud 9 = .ok (.ifCond .ne 12, 3) := by decide +kernel
theorem dX9_mud_12 : decode cX9_mud 12 = .ok (.iload_n 2, 1) := by decide +kernel
theorem dX9_mud_13 : decode cX9_mud 13 = .ok (.invokestatic 159, 3) := by decide +kernel
theorem dX9_mud_16 : decode cX9_mud 16 = .ok (.ifCond .ne 5, 3) := by decide +kernel
theorem dX9_mud_19 : decode cX9_mud 19 = .ok (.iconst (-1), 1) := by decide +kernel
theorem dX9_mud_20 : decode cX9_mud 20 = .ok (.istore_n 3, 1) := by decide +kernel
theorem dX9_mud_21 : decode cX9_mud 21 = .ok (.iload_n 3, 1) := by decide +kernel
theorem dX9_mud_22 : decode cX9_mud 22 = .ok (.ifCond .eq 9, 3) := by decide +kernel
theorem dX9_mud_25 : decode cX9_mud 25 = .ok (.aload_n 0, 1) := by decide +kernel
theorem dX9_mud_26 : decode cX9_mud 26 = .ok (.iload_n 3, 1) := by decide +kernel
theorem dX9_mud_27 : decode cX9_mud 27 = .ok (.invokevirtual 124, 3) := by decide +kernel
theorem dX9_mud_30 : decode cX9_mud 30 = .ok (.ireturn, 1) := by decide +kernel
theorem dX9_mud_31 : decode cX9_mud 31 = .ok (.iconst 0, 1) := by decide +kernel
theorem dX9_mud_32 : decode cX9_mud 32 = .ok (.istore 4, 2) := by decide +kernel
theorem dX9_mud_34 : decode cX9_mud 34 = .ok (.iload 4, 2) := by decide +kernel
theorem dX9_mud_36 : decode cX9_mud 36 = .ok (.bipush 12, 2) := by decide +kernel
theorem dX9_mud_38 : decode cX9_mud 38 = .ok (.if_icmp .ge 33, 3) := by decide +kernel
theorem dX9_mud_41 : decode cX9_mud 41 = .ok (.aload_n 0, 1) := by decide +kernel
theorem dX9_mud_42 : decode cX9_mud 42 = .ok (.getfield 13, 3) := by decide +kernel
theorem dX9_mud_45 : decode cX9_mud 45 = .ok (.iload_n 2, 1) := by decide +kernel
theorem dX9_mud_46 : decode cX9_mud 46 = .ok (.iload 4, 2) := by decide +kernel
theorem dX9_mud_48 : decode cX9_mud 48 = .ok (.iadd, 1) := by decide +kernel
theorem dX9_mud_49 : decode cX9_mud 49 = .ok (.bipush 12, 2) := by decide +kernel
theorem dX9_mud_51 : decode cX9_mud 51 = .ok (.irem, 1) := by decide +kernel
theorem dX9_mud_52 : decode cX9_mud 52 = .ok (.iaload, 1) := by decide +kernel
theorem dX9_mud_53 : decode cX9_mud 53 = .ok (.iload_n 1, 1) := by decide +kernel
theorem dX9_mud_54 : decode cX9_mud 54 = .ok (.if_icmp .le 11, 3) := by decide +kernel
theorem dX9_mud_57 : decode cX9_mud 57 = .ok (.iload_n 2, 1) := by decide +kernel
theorem dX9_mud_58 : decode cX9_mud 58 = .ok (.iload 4, 2) := by decide +kernel
theorem dX9_mud_60 : decode cX9_mud 60 = .ok (.iadd, 1) := by decide +kernel
theorem dX9_mud_61 : decode cX9_mud 61 = .ok (.bipush 12, 2) := by decide +kernel
theorem dX9_mud_63 : decode cX9_mud 63 = .ok (.irem, 1) := by decide +kernel
theorem dX9_mud_64 : decode cX9_mud 64 = .ok (.ireturn, 1) := by decide +kernel
theorem dX9_mud_65 : decode cX9_mud 65 = .ok (.iinc 4 1, 3) := by decide +kernel
theorem dX9_mud_68 : decode cX9_mud 68 = .ok (.goto (-34), 3) := by decide +kernel
theorem dX9_mud_71 : decode cX9_mud 71 = .ok (.bipush (-9), 2) := by decide +kernel
theorem dX9_mud_73 : decode cX9_mud 73 = .ok (.ireturn, 1) := by decide +kernel
theorem dX9_carry_0 : decode cX9_carry 0 = .ok (.iload_n 1, 1) := by decide +kernel
theorem dX9_carry_1 : decode cX9_carry 1 = .ok (.iconst 0, 1) := by decide +kernel
theorem dX9_carry_2 : decode cX9_carry 2 = .ok (.bipush 40, 2) := by decide +kernel
theorem dX9_carry_4 : decode cX9_carry 4 = .ok (.invokestatic 117, 3) := by decide +kernel
theorem dX9_carry_7 : decode cX9_carry 7 = .ok (.istore 4, 2) := by decide +kernel
theorem dX9_carry_9 : decode cX9_carry 9 = .ok (.iload 4, 2) := by decide +kernel
theorem dX9_carry_11 : decode cX9_carry 11 = .ok (.ifCond .ne 25, 3) := by decide +kernel
theorem dX9_carry_14 : decode cX9_carry 14 = .ok (.iload_n 2, 1) := by decide +kernel
theorem dX9_carry_15 : decode cX9_carry 15 = .ok (.invokestatic 159, 3) := by decide +kernel
theorem dX9_carry_18 : decode cX9_carry 18 = .ok (.ifCond .eq 15, 3) := by decide +kernel
theorem dX9_carry_21 : decode cX9_carry 21 = .ok (.iload_n 3, 1) := by decide +kernel
theorem dX9_carry_22 : decode cX9_carry 22 = .ok (.invokestatic 159, 3) := by decide +kernel
theorem dX9_carry_25 : decode cX9_carry 25 = .ok (.ifCond .eq 8, 3) := by decide +kernel
theorem dX9_carry_28 : decode cX9_carry 28 = .ok (.iload_n 2, 1) := by decide +kernel
theorem dX9_carry_29 : decode cX9_carry 29 = .ok (.iload_n 3, 1) := by decide +kernel
theorem dX9_carry_30 : decode cX9_carry 30 = .ok (.if_icmp .ne 6, 3) := by decide +kernel
theorem dX9_carry_33 : decode cX9_carry 33 = .ok (.iconst (-1), 1) := by decide +kernel
theorem dX9_carry_34 : decode cX9_carry 34 = .ok (.istore 4, 2) := by decide +kernel
theorem dX9_carry_36 : decode cX9_carry 36 = .ok (.iload 4, 2) := by decide +kernel
theorem dX9_carry_38 : decode cX9_carry 38 = .ok (.ifCond .eq 10, 3) := by decide +kernel
theorem dX9_carry_41 : decode cX9_carry 41 = .ok (.aload_n 0, 1) := by decide +kernel
theorem dX9_carry_42 : decode cX9_carry 42 = .ok (.iload 4, 2) := by decide +kernel
theorem dX9_carry_44 : decode cX9_carry 44 = .ok (.invokevirtual 124, 3) := by decide +kernel
theorem dX9_carry_47 : decode cX9_carry 47 = .ok (.ireturn, 1) := by decide +kernel
theorem dX9_carry_48 : decode cX9_carry 48 = .ok (.iload_n 1, 1) := by decide +kernel
theorem dX9_carry_49 : decode cX9_carry 49 = .ok (.istore 5, 2) := by decide +kernel
theorem dX9_carry_51 : decode cX9_carry 51 = .ok (.iload_n 2, 1) := by decide +kernel
theorem dX9_carry_52 : decode cX9_carry 52 = .ok (.istore 6, 2) := by decide +kernel
theorem dX9_carry_54 : decode cX9_carry 54 = .ok (.iload 6, 2) := by decide +kernel
theorem dX9_carry_56 : decode cX9_carry 56 = .ok (.iload_n 3, 1) := by decide +kernel
theorem dX9_carry_57 : decode cX9_carry 57 = .ok (.if_icmp .eq 41, 3) := by decide +kernel
theorem dX9_carry_60 : decode cX9_carry 60 = .ok (.aload_n 0, 1) := by decide +kernel
theorem dX9_carry_61 : decode cX9_carry 61 = .ok (.getfield 13, 3) := by decide +kernel
theorem dX9_carry_64 : decode cX9_carry 64 = .ok (.iload 6, 2) := by decide +kernel
theorem dX9_carry_66 : decode cX9_carry 66 = .ok (.iaload, 1) := by decide +kernel
theorem dX9_carry_67 : decode cX9_carry 67 = .ok (.iload 5, 2) := by decide +kernel
theorem dX9_carry_69 : decode cX9_carry 69 = .ok (.if_icmp .le 13, 3) := by decide +kernel
theorem dX9_carry_72 : decode cX9_carry 72 = .ok (.aload_n 0, 1) := by decide +kernel
theorem dX9_carry_73 : decode cX9_carry 73 = .ok (.getfield 13, 3) := by decide +kernel
theorem dX9_carry_76 : decode cX9_carry 76 = .ok (.iload 6, 2) := by decide +kernel
theorem dX9_carry_78 : decode cX9_carry 78 = .ok (.iaload, 1) := by decide +kernel
theorem dX9_carry_79 : decode cX9_carry 79 = .ok (.goto 5, 3) := by decide +kernel
theorem dX9_carry_82 : decode cX9_carry 82 = .ok (.iload 5, 2) := by decide +kernel
theorem dX9_carry_84 : decode cX9_carry 84 = .ok (.istore 5, 2) := by decide +kernel
theorem dX9_carry_86 : decode cX9_carry 86 = .ok (.iload 6, 2) := by decide +kernel
theorem dX9_carry_88 : decode cX9_carry 88 = .ok (.iconst 1, 1) := by decide +kernel
theorem dX9_carry_89 : decode cX9_carry 89 = .ok (.iadd, 1) := by decide +kernel
theorem dX9_carry_90 : decode cX9_carry 90 = .ok (.bipush 12, 2) := by decide +kernel
theorem dX9_carry_92 : decode cX9_carry 92 = .ok (.irem, 1) := by decide +kernel
theorem dX9_carry_93 : decode cX9_carry 93 = .ok (.istore 6, 2) := by decide +kernel
theorem dX9_carry_95 : decode cX9_carry 95 = .ok (.goto (-41), 3) := by decide +kernel
theorem dX9_carry_98 : decode cX9_carry 98 = .ok (.aload_n 0, 1) := by decide +kernel
theorem dX9_carry_99 : decode cX9_carry 99 = .ok (.getfield 13, 3) := by decide +kernel
theorem dX9_carry_102 : decode cX9_carry 102 = .ok (.iload_n 3, 1) := by decide +kernel
theorem dX9_carry_103 : decode cX9_carry 103 = .ok (.iaload, 1) := by decide +kernel
theorem dX9_carry_104 : decode cX9_carry 104 = .ok (.iload 5, 2) := by decide +kernel
theorem dX9_carry_106 : decode cX9_carry 106 = .ok (.if_icmp .le 8, 3) := by decide +kernel
theorem dX9_carry_109 : decode cX9_carry 109 = .ok (.iload 5, 2) := by decide +kernel
theorem dX9_carry_111 : decode cX9_carry 111 = .ok (.goto 5, 3) := by decide +kernel
theorem dX9_carry_114 : decode cX9_carry 114 = .ok (.bipush (-9), 2) := by decide +kernel
theorem dX9_carry_116 : decode cX9_carry 116 = .ok (.ireturn, 1) := by decide +kernel
theorem dX9_findWellAt_0 : decode cX9_findWellAt 0 = .ok (.iconst 0, 1) := by decide +kernel
theorem dX9_findWellAt_1 : decode cX9_findWellAt 1 = .ok (.istore_n 1, 1) := by decide +kernel
theorem dX9_findWellAt_2 : decode cX9_findWellAt 2 = .ok (.iload_n 1, 1) := by decide +kernel
theorem dX9_findWellAt_3 : decode cX9_findWellAt 3 = .ok (.aload_n 0, 1) := by decide +kernel
theorem dX9_findWellAt_4 : decode cX9_findWellAt 4 = .ok (.getfield 114, 3) := by decide +kernel
theorem dX9_findWellAt_7 : decode cX9_findWellAt 7 = .ok (.if_icmp .ge 79, 3) := by decide +kernel
theorem dX9_findWellAt_10 : decode cX9_findWellAt 10 = .ok (.aload_n 0, 1) := by decide +kernel
theorem dX9_findWellAt_11 : decode cX9_findWellAt 11 = .ok (.getfield 34, 3) := by decide +kernel
theorem dX9_findWellAt_14 : decode cX9_findWellAt 14 = .ok (.iload_n 1, 1) := by decide +kernel
theorem dX9_findWellAt_15 : decode cX9_findWellAt 15 = .ok (.iaload, 1) := by decide +kernel
theorem dX9_findWellAt_16 : decode cX9_findWellAt 16 = .ok (.istore_n 2, 1) := by decide +kernel
theorem dX9_findWellAt_17 : decode cX9_findWellAt 17 = .ok (.iconst 0, 1) := by decide +kernel
theorem dX9_findWellAt_18 : decode cX9_findWellAt 18 = .ok (.istore_n 3, 1) := by decide +kernel
theorem dX9_findWellAt_19 : decode cX9_findWellAt 19 = .ok (.iload_n 3, 1) := by decide +kernel
theorem dX9_findWellAt_20 : decode cX9_findWellAt 20 = .ok (.aload_n 0, 1) := by decide +kernel
theorem dX9_findWellAt_21 : decode cX9_findWellAt 21 = .ok (.getfield 110, 3) := by decide +kernel
theorem dX9_findWellAt_24 : decode cX9_findWellAt 24 = .ok (.if_icmp .ge 49, 3) := by decide +kernel
theorem dX9_findWellAt_27 : decode cX9_findWellAt 27 = .ok (.aload_n 0, 1) := by decide +kernel
theorem dX9_findWellAt_28 : decode cX9_findWellAt 28 = .ok (.getfield 34, 3) := by decide +kernel
theorem dX9_findWellAt_31 : decode cX9_findWellAt 31 = .ok (.iload_n 1, 1) := by decide +kernel
theorem dX9_findWellAt_32 : decode cX9_findWellAt 32 = .ok (.iload_n 3, 1) := by decide +kernel
theorem dX9_findWellAt_33 : decode cX9_findWellAt 33 = .ok (.iastore, 1) := by decide +kernel
theorem dX9_findWellAt_34 : decode cX9_findWellAt 34 = .ok (.aload_n 0, 1) := by decide +kernel
theorem dX9_findWellAt_35 : decode cX9_findWellAt 35 = .ok (.getfield 91, 3) := by decide +kernel
theorem dX9_findWellAt_38 : decode cX9_findWellAt 38 = .ok (.bipush 6, 2) := by decide +kernel
theorem dX9_findWellAt_40 : decode cX9_findWellAt 40 = .ok (.iload_n 1, 1) := by decide +kernel
theorem dX9_findWellAt_41 : decode cX9_findWellAt 41 = .ok (.imul, 1) := by decide +kernel
theorem dX9_findWellAt_42 : decode cX9_findWellAt 42 = .ok (.iload_n 3, 1) := by decide +kernel
theorem dX9_findWellAt_43 : decode cX9_findWellAt 43 = .ok (.iadd, 1) := by decide +kernel
theorem dX9_findWellAt_44 : decode cX9_findWellAt 44 = .ok (.aload_n 0, 1) := by decide +kernel
theorem dX9_findWellAt_45 : decode cX9_findWellAt 45 = .ok (.iload_n 1, 1) := by decide +kernel
theorem dX9_findWellAt_46 : decode cX9_findWellAt 46 = .ok (.aload_n 0, 1) := by decide +kernel
theorem dX9_findWellAt_47 : decode cX9_findWellAt 47 = .ok (.getfield 40, 3) := by decide +kernel
theorem dX9_findWellAt_50 : decode cX9_findWellAt 50 = .ok (.iload_n 1, 1) := by decide +kernel
theorem dX9_findWellAt_51 : decode cX9_findWellAt 51 = .ok (.iaload, 1) := by decide +kernel
theorem dX9_findWellAt_52 : decode cX9_findWellAt 52 = .ok (.invokevirtual 255, 3) := by decide +kernel
theorem dX9_findWellAt_55 : decode cX9_findWellAt 55 = .ok (.sipush 4095, 3) := by decide +kernel
theorem dX9_findWellAt_58 : decode cX9_findWellAt 58 = .ok (.if_icmp .ne 7, 3) := by decide +kernel
theorem dX9_findWellAt_61 : decode cX9_findWellAt 61 = .ok (.iconst 1, 1) := by decide +kernel
theorem dX9_findWellAt_62 : decode cX9_findWellAt 62 = .ok (.goto 4, 3) := by decide +kernel
theorem dX9_findWellAt_65 : decode cX9_findWellAt 65 = .ok (.iconst 0, 1) := by decide +kernel
theorem dX9_findWellAt_66 : decode cX9_findWellAt 66 = .ok (.iastore, 1) := by decide +kernel
theorem dX9_findWellAt_67 : decode cX9_findWellAt 67 = .ok (.iinc 3 1, 3) := by decide +kernel
theorem dX9_findWellAt_70 : decode cX9_findWellAt 70 = .ok (.goto (-51), 3) := by decide +kernel
theorem dX9_findWellAt_73 : decode cX9_findWellAt 73 = .ok (.aload_n 0, 1) := by decide +kernel
theorem dX9_findWellAt_74 : decode cX9_findWellAt 74 = .ok (.getfield 34, 3) := by decide +kernel
theorem dX9_findWellAt_77 : decode cX9_findWellAt 77 = .ok (.iload_n 1, 1) := by decide +kernel
theorem dX9_findWellAt_78 : decode cX9_findWellAt 78 = .ok (.iload_n 2, 1) := by decide +kernel
theorem dX9_findWellAt_79 : decode cX9_findWellAt 79 = .ok (.iastore, 1) := by decide +kernel
theorem dX9_findWellAt_80 : decode cX9_findWellAt 80 = .ok (.iinc 1 1, 3) := by decide +kernel
theorem dX9_findWellAt_83 : decode cX9_findWellAt 83 = .ok (.goto (-81), 3) := by decide +kernel
theorem dX9_findWellAt_86 : decode cX9_findWellAt 86 = .ok (.return_, 1) := by decide +kernel
theorem dX9_wellBy_0 : decode cX9_wellBy 0 = .ok (.iload_n 1, 1) := by decide +kernel
theorem dX9_wellBy_1 : decode cX9_wellBy 1 = .ok (.istore_n 2, 1) := by decide +kernel
theorem dX9_wellBy_2 : decode cX9_wellBy 2 = .ok (.iconst 0, 1) := by decide +kernel
theorem dX9_wellBy_3 : decode cX9_wellBy 3 = .ok (.istore_n 3, 1) := by decide +kernel
theorem dX9_wellBy_4 : decode cX9_wellBy 4 = .ok (.iconst 0, 1) := by decide +kernel
theorem dX9_wellBy_5 : decode cX9_wellBy 5 = .ok (.istore 4, 2) := by decide +kernel
theorem dX9_wellBy_7 : decode cX9_wellBy 7 = .ok (.aload_n 0, 1) := by decide +kernel
theorem dX9_wellBy_8 : decode cX9_wellBy 8 = .ok (.getfield 114, 3) := by decide +kernel
theorem dX9_wellBy_11 : decode cX9_wellBy 11 = .ok (.iconst 1, 1) := by decide +kernel
theorem dX9_wellBy_12 : decode cX9_wellBy 12 = .ok (.isub, 1) := by decide +kernel
theorem dX9_wellBy_13 : decode cX9_wellBy 13 = .ok (.istore 5, 2) := by decide +kernel
theorem dX9_wellBy_15 : decode cX9_wellBy 15 = .ok (.iload 5, 2) := by decide +kernel
theorem dX9_wellBy_17 : decode cX9_wellBy 17 = .ok (.ifCond .lt 33, 3) := by decide +kernel
theorem dX9_wellBy_20 : decode cX9_wellBy 20 = .ok (.aload_n 0, 1) := by decide +kernel
theorem dX9_wellBy_21 : decode cX9_wellBy 21 = .ok (.getfield 85, 3) := by decide +kernel
theorem dX9_wellBy_24 : decode cX9_wellBy 24 = .ok (.iload 5, 2) := by decide +kernel
theorem dX9_wellBy_26 : decode cX9_wellBy 26 = .ok (.iload_n 2, 1) := by decide +kernel
theorem dX9_wellBy_27 : decode cX9_wellBy 27 = .ok (.aload_n 0, 1) := by decide +kernel
theorem dX9_wellBy_28 : decode cX9_wellBy 28 = .ok (.getfield 110, 3) := by decide +kernel
theorem dX9_wellBy_31 : decode cX9_wellBy 31 = .ok (.iconst 1, 1) := by decide +kernel
theorem dX9_wellBy_32 : decode cX9_wellBy 32 = .ok (.iadd, 1) := by decide +kernel
theorem dX9_wellBy_33 : decode cX9_wellBy 33 = .ok (.irem, 1) := by decide +kernel
theorem dX9_wellBy_34 : decode cX9_wellBy 34 = .ok (.iastore, 1) := by decide +kernel
theorem dX9_wellBy_35 : decode cX9_wellBy 35 = .ok (.iload_n 2, 1) := by decide +kernel
theorem dX9_wellBy_36 : decode cX9_wellBy 36 = .ok (.aload_n 0, 1) := by decide +kernel
theorem dX9_wellBy_37 : decode cX9_wellBy 37 = .ok (.getfield 110, 3) := by decide +kernel
theorem dX9_wellBy_40 : decode cX9_wellBy 40 = .ok (.iconst 1, 1) := by decide +kernel
theorem dX9_wellBy_41 : decode cX9_wellBy 41 = .ok (.iadd, 1) := by decide +kernel
theorem dX9_wellBy_42 : decode cX9_wellBy 42 = .ok (.idiv, 1) := by decide +kernel
theorem dX9_wellBy_43 : decode cX9_wellBy 43 = .ok (.istore_n 2, 1) := by decide +kernel
theorem dX9_wellBy_44 : decode cX9_wellBy 44 = .ok (.iinc 5 (-1), 3) := by decide +kernel
theorem dX9_wellBy_47 : decode cX9_wellBy 47 = .ok (.goto (-32), 3) := by decide +kernel
theorem dX9_wellBy_50 : decode cX9_wellBy 50 = .ok (.iconst 0, 1) := by decide +kernel
theorem dX9_wellBy_51 : decode cX9_wellBy 51 = .ok (.istore 5, 2) := by decide +kernel
theorem dX9_wellBy_53 : decode cX9_wellBy 53 = .ok (.iload 5, 2) := by decide +kernel
theorem dX9_wellBy_55 : decode cX9_wellBy 55 = .ok (.aload_n 0, 1) := by decide +kernel
theorem dX9_wellBy_56 : decode cX9_wellBy 56 = .ok (.getfield 114, 3) := by decide +kernel
theorem dX9_wellBy_59 : decode cX9_wellBy 59 = .ok (.if_icmp .ge 79, 3) := by decide +kernel
theorem dX9_wellBy_62 : decode cX9_wellBy 62 = .ok (.aload_n 0, 1) := by decide +kernel
theorem dX9_wellBy_63 : decode cX9_wellBy 63 = .ok (.getfield 85, 3) := by decide +kernel
theorem dX9_wellBy_66 : decode cX9_wellBy 66 = .ok (.iload 5, 2) := by decide +kernel
theorem dX9_wellBy_68 : decode cX9_wellBy 68 = .ok (.iaload, 1) := by decide +kernel
theorem dX9_wellBy_69 : decode cX9_wellBy 69 = .ok (.aload_n 0, 1) := by decide +kernel
theorem dX9_wellBy_70 : decode cX9_wellBy 70 = .ok (.getfield 110, 3) := by decide +kernel
theorem dX9_wellBy_73 : decode cX9_wellBy 73 = .ok (.if_icmp .ne 6, 3) := by decide +kernel
theorem dX9_wellBy_76 : decode cX9_wellBy 76 = .ok (.goto 56, 3) := by decide +kernel
theorem dX9_wellBy_79 : decode cX9_wellBy 79 = .ok (.iload_n 3, 1) := by decide +kernel
theorem dX9_wellBy_80 : decode cX9_wellBy 80 = .ok (.aload_n 0, 1) := by decide +kernel
theorem dX9_wellBy_81 : decode cX9_wellBy 81 = .ok (.getfield 85, 3) := by decide +kernel
theorem dX9_wellBy_84 : decode cX9_wellBy 84 = .ok (.iload 5, 2) := by decide +kernel
theorem dX9_wellBy_86 : decode cX9_wellBy 86 = .ok (.iaload, 1) := by decide +kernel
theorem dX9_wellBy_87 : decode cX9_wellBy 87 = .ok (.ishr, 1) := by decide +kernel
theorem dX9_wellBy_88 : decode cX9_wellBy 88 = .ok (.iconst 1, 1) := by decide +kernel
theorem dX9_wellBy_89 : decode cX9_wellBy 89 = .ok (.iand, 1) := by decide +kernel
theorem dX9_wellBy_90 : decode cX9_wellBy 90 = .ok (.iconst 1, 1) := by decide +kernel
theorem dX9_wellBy_91 : decode cX9_wellBy 91 = .ok (.if_icmp .ne 6, 3) := by decide +kernel
theorem dX9_wellBy_94 : decode cX9_wellBy 94 = .ok (.bipush (-9), 2) := by decide +kernel
theorem dX9_wellBy_96 : decode cX9_wellBy 96 = .ok (.ireturn, 1) := by decide +kernel
theorem dX9_wellBy_97 : decode cX9_wellBy 97 = .ok (.iload_n 3, 1) := by decide +kernel
theorem dX9_wellBy_98 : decode cX9_wellBy 98 = .ok (.iconst 1, 1) := by decide +kernel
theorem dX9_wellBy_99 : decode cX9_wellBy 99 = .ok (.aload_n 0, 1) := by decide +kernel
theorem dX9_wellBy_100 : decode cX9_wellBy 100 = .ok (.getfield 85, 3) := by decide +kernel
theorem dX9_wellBy_103 : decode cX9_wellBy 103 = .ok (.iload 5, 2) := by decide +kernel
theorem dX9_wellBy_105 : decode cX9_wellBy 105 = .ok (.iaload, 1) := by decide +kernel
theorem dX9_wellBy_106 : decode cX9_wellBy 106 = .ok (.ishl, 1) := by decide +kernel
theorem dX9_wellBy_107 : decode cX9_wellBy 107 = .ok (.ior, 1) := by decide +kernel
theorem dX9_wellBy_108 : decode cX9_wellBy 108 = .ok (.istore_n 3, 1) := by decide +kernel
theorem dX9_wellBy_109 : decode cX9_wellBy 109 = .ok (.iload 4, 2) := by decide +kernel
theorem dX9_wellBy_111 : decode cX9_wellBy 111 = .ok (.aload_n 0, 1) := by decide +kernel
theorem dX9_wellBy_112 : decode cX9_wellBy 112 = .ok (.getfield 91, 3) := by decide +kernel
theorem dX9_wellBy_115 : decode cX9_wellBy 115 = .ok (.bipush 6, 2) := by decide +kernel
theorem dX9_wellBy_117 : decode cX9_wellBy 117 = .ok (.iload 5, 2) := by decide +kernel
theorem dX9_wellBy_119 : decode cX9_wellBy 119 = .ok (.imul, 1) := by decide +kernel
theorem dX9_wellBy_120 : decode cX9_wellBy 120 = .ok (.aload_n 0, 1) := by decide +kernel
theorem dX9_wellBy_121 : decode cX9_wellBy 121 = .ok (.getfield 85, 3) := by decide +kernel
theorem dX9_wellBy_124 : decode cX9_wellBy 124 = .ok (.iload 5, 2) := by decide +kernel
theorem dX9_wellBy_126 : decode cX9_wellBy 126 = .ok (.iaload, 1) := by decide +kernel
theorem dX9_wellBy_127 : decode cX9_wellBy 127 = .ok (.iadd, 1) := by decide +kernel
theorem dX9_wellBy_128 : decode cX9_wellBy 128 = .ok (.iaload, 1) := by decide +kernel
theorem dX9_wellBy_129 : decode cX9_wellBy 129 = .ok (.iadd, 1) := by decide +kernel
theorem dX9_wellBy_130 : decode cX9_wellBy 130 = .ok (.istore 4, 2) := by decide +kernel
theorem dX9_wellBy_132 : decode cX9_wellBy 132 = .ok (.iinc 5 1, 3) := by decide +kernel
theorem dX9_wellBy_135 : decode cX9_wellBy 135 = .ok (.goto (-82), 3) := by decide +kernel
theorem dX9_wellBy_138 : decode cX9_wellBy 138 = .ok (.iload 4, 2) := by decide +kernel
theorem dX9_wellBy_140 : decode cX9_wellBy 140 = .ok (.ireturn, 1) := by decide +kernel
theorem dX9_berths_0 : decode cX9_berths 0 = .ok (.iload_n 1, 1) := by decide +kernel
theorem dX9_berths_1 : decode cX9_berths 1 = .ok (.iconst 0, 1) := by decide +kernel
theorem dX9_berths_2 : decode cX9_berths 2 = .ok (.iconst 1, 1) := by decide +kernel
theorem dX9_berths_3 : decode cX9_berths 3 = .ok (.invokestatic 135, 3) := by decide +kernel
theorem dX9_berths_6 : decode cX9_berths 6 = .ok (.ifCond .ne 8, 3) := by decide +kernel
theorem dX9_berths_9 : decode cX9_berths 9 = .ok (.bipush (-2), 2) := by decide +kernel
theorem dX9_berths_11 : decode cX9_berths 11 = .ok (.goto 16, 3) := by decide +kernel
theorem dX9_berths_14 : decode cX9_berths 14 = .ok (.aload_n 0, 1) := by decide +kernel
theorem dX9_berths_15 : decode cX9_berths 15 = .ok (.getfield 114, 3) := by decide +kernel
theorem dX9_berths_18 : decode cX9_berths 18 = .ok (.ifCond .ne 8, 3) := by decide +kernel
theorem dX9_berths_21 : decode cX9_berths 21 = .ok (.bipush (-3), 2) := by decide +kernel
theorem dX9_berths_23 : decode cX9_berths 23 = .ok (.goto 4, 3) := by decide +kernel
theorem dX9_berths_26 : decode cX9_berths 26 = .ok (.iconst 0, 1) := by decide +kernel
theorem dX9_berths_27 : decode cX9_berths 27 = .ok (.istore_n 2, 1) := by decide +kernel
theorem dX9_berths_28 : decode cX9_berths 28 = .ok (.iload_n 2, 1) := by decide +kernel
theorem dX9_berths_29 : decode cX9_berths 29 = .ok (.ifCond .eq 9, 3) := by decide +kernel
theorem dX9_berths_32 : decode cX9_berths 32 = .ok (.aload_n 0, 1) := by decide +kernel
theorem dX9_berths_33 : decode cX9_berths 33 = .ok (.iload_n 2, 1) := by decide +kernel
theorem dX9_berths_34 : decode cX9_berths 34 = .ok (.invokevirtual 124, 3) := by decide +kernel
theorem dX9_berths_37 : decode cX9_berths 37 = .ok (.ireturn, 1) := by decide +kernel
theorem dX9_berths_38 : decode cX9_berths 38 = .ok (.iconst 1, 1) := by decide +kernel
theorem dX9_berths_39 : decode cX9_berths 39 = .ok (.istore_n 3, 1) := by decide +kernel
theorem dX9_berths_40 : decode cX9_berths 40 = .ok (.iconst 0, 1) := by decide +kernel
theorem dX9_berths_41 : decode cX9_berths 41 = .ok (.istore 4, 2) := by decide +kernel
theorem dX9_berths_43 : decode cX9_berths 43 = .ok (.iload 4, 2) := by decide +kernel
theorem dX9_berths_45 : decode cX9_berths 45 = .ok (.aload_n 0, 1) := by decide +kernel
theorem dX9_berths_46 : decode cX9_berths 46 = .ok (.getfield 114, 3) := by decide +kernel
theorem dX9_berths_49 : decode cX9_berths 49 = .ok (.if_icmp .ge 18, 3) := by decide +kernel
theorem dX9_berths_52 : decode cX9_berths 52 = .ok (.iload_n 3, 1) := by decide +kernel
theorem dX9_berths_53 : decode cX9_berths 53 = .ok (.aload_n 0, 1) := by decide +kernel
theorem dX9_berths_54 : decode cX9_berths 54 = .ok (.getfield 110, 3) := by decide +kernel
theorem dX9_berths_57 : decode cX9_berths 57 = .ok (.iconst 1, 1) := by decide +kernel
theorem dX9_berths_58 : decode cX9_berths 58 = .ok (.iadd, 1) := by decide +kernel
theorem dX9_berths_59 : decode cX9_berths 59 = .ok (.imul, 1) := by decide +kernel
theorem dX9_berths_60 : decode cX9_berths 60 = .ok (.istore_n 3, 1) := by decide +kernel
theorem dX9_berths_61 : decode cX9_berths 61 = .ok (.iinc 4 1, 3) := by decide +kernel
theorem dX9_berths_64 : decode cX9_berths 64 = .ok (.goto (-21), 3) := by decide +kernel
theorem dX9_berths_67 : decode cX9_berths 67 = .ok (.aload_n 0, 1) := by decide +kernel
theorem dX9_berths_68 : decode cX9_berths 68 = .ok (.invokevirtual 300, 3) := by decide +kernel
theorem dX9_berths_71 : decode cX9_berths 71 = .ok (.bipush (-9), 2) := by decide +kernel
theorem dX9_berths_73 : decode cX9_berths 73 = .ok (.istore 4, 2) := by decide +kernel
theorem dX9_berths_75 : decode cX9_berths 75 = .ok (.iconst 0, 1) := by decide +kernel
theorem dX9_berths_76 : decode cX9_berths 76 = .ok (.istore 5, 2) := by decide +kernel
theorem dX9_berths_78 : decode cX9_berths 78 = .ok (.iload 5, 2) := by decide +kernel
theorem dX9_berths_80 : decode cX9_berths 80 = .ok (.iload_n 3, 1) := by decide +kernel
theorem dX9_berths_81 : decode cX9_berths 81 = .ok (.if_icmp .ge 63, 3) := by decide +kernel
theorem dX9_berths_84 : decode cX9_berths 84 = .ok (.aload_n 0, 1) := by decide +kernel
theorem dX9_berths_85 : decode cX9_berths 85 = .ok (.iload 5, 2) := by decide +kernel
theorem dX9_berths_87 : decode cX9_berths 87 = .ok (.invokevirtual 303, 3) := by decide +kernel
theorem dX9_berths_90 : decode cX9_berths 90 = .ok (.istore 6, 2) := by decide +kernel
theorem dX9_berths_92 : decode cX9_berths 92 = .ok (.iload 6, 2) := by decide +kernel
theorem dX9_berths_94 : decode cX9_berths 94 = .ok (.iload 4, 2) := by decide +kernel
theorem dX9_berths_96 : decode cX9_berths 96 = .ok (.if_icmp .gt 6, 3) := by decide +kernel
theorem dX9_berths_99 : decode cX9_berths 99 = .ok (.goto 39, 3) := by decide +kernel
theorem dX9_berths_102 : decode cX9_berths 102 = .ok (.iload 6, 2) := by decide +kernel
theorem dX9_berths_104 : decode cX9_berths 104 = .ok (.istore 4, 2) := by decide +kernel
theorem dX9_berths_106 : decode cX9_berths 106 = .ok (.iconst 0, 1) := by decide +kernel
theorem dX9_berths_107 : decode cX9_berths 107 = .ok (.istore 7, 2) := by decide +kernel
theorem dX9_berths_109 : decode cX9_berths 109 = .ok (.iload 7, 2) := by decide +kernel
theorem dX9_berths_111 : decode cX9_berths 111 = .ok (.aload_n 0, 1) := by decide +kernel
theorem dX9_berths_112 : decode cX9_berths 112 = .ok (.getfield 114, 3) := by decide +kernel
theorem dX9_berths_115 : decode cX9_berths 115 = .ok (.if_icmp .ge 23, 3) := by decide +kernel
theorem dX9_berths_118 : decode cX9_berths 118 = .ok (.aload_n 0, 1) := by decide +kernel
theorem dX9_berths_119 : decode cX9_berths 119 = .ok (.getfield 88, 3) := by decide +kernel
theorem dX9_berths_122 : decode cX9_berths 122 = .ok (.iload 7, 2) := by decide +kernel
theorem dX9_berths_124 : decode cX9_berths 124 = .ok (.aload_n 0, 1) := by decide +kernel
theorem dX9_berths_125 : decode cX9_berths 125 = .ok (.getfield 85, 3) := by decide +kernel
theorem dX9_berths_128 : decode cX9_berths 128 = .ok (.iload 7, 2) := by decide +kernel
theorem dX9_berths_130 : decode cX9_berths 130 = .ok (.iaload, 1) := by decide +kernel
theorem dX9_berths_131 : decode cX9_berths 131 = .ok (.iastore, 1) := by decide +kernel
theorem dX9_berths_132 : decode cX9_berths 132 = .ok (.iinc 7 1, 3) := by decide +kernel
theorem dX9_berths_135 : decode cX9_berths 135 = .ok (.goto (-26), 3) := by decide +kernel
theorem dX9_berths_138 : decode cX9_berths 138 = .ok (.iinc 5 1, 3) := by decide +kernel
theorem dX9_berths_141 : decode cX9_berths 141 = .ok (.goto (-63), 3) := by decide +kernel
theorem dX9_berths_144 : decode cX9_berths 144 = .ok (.iconst 0, 1) := by decide +kernel
theorem dX9_berths_145 : decode cX9_berths 145 = .ok (.istore 5, 2) := by decide +kernel
theorem dX9_berths_147 : decode cX9_berths 147 = .ok (.aload_n 0, 1) := by decide +kernel
theorem dX9_berths_148 : decode cX9_berths 148 = .ok (.getfield 114, 3) := by decide +kernel
theorem dX9_berths_151 : decode cX9_berths 151 = .ok (.iconst 1, 1) := by decide +kernel
theorem dX9_berths_152 : decode cX9_berths 152 = .ok (.isub, 1) := by decide +kernel
theorem dX9_berths_153 : decode cX9_berths 153 = .ok (.istore 6, 2) := by decide +kernel
theorem dX9_berths_155 : decode cX9_berths 155 = .ok (.iload 6, 2) := by decide +kernel
theorem dX9_berths_157 : decode cX9_berths 157 = .ok (.ifCond .lt 43, 3) := by decide +kernel
theorem dX9_berths_160 : decode cX9_berths 160 = .ok (.bipush 10, 2) := by decide +kernel
theorem dX9_berths_162 : decode cX9_berths 162 = .ok (.iload 5, 2) := by decide +kernel
theorem dX9_berths_164 : decode cX9_berths 164 = .ok (.imul, 1) := by decide +kernel
theorem dX9_berths_165 : decode cX9_berths 165 = .ok (.aload_n 0, 1) := by decide +kernel
theorem dX9_berths_166 : decode cX9_berths 166 = .ok (.getfield 88, 3) := by decide +kernel
theorem dX9_berths_169 : decode cX9_berths 169 = .ok (.iload 6, 2) := by decide +kernel
theorem dX9_berths_171 : decode cX9_berths 171 = .ok (.iaload, 1) := by decide +kernel
theorem dX9_berths_172 : decode cX9_berths 172 = .ok (.aload_n 0, 1) := by decide +kernel
theorem dX9_berths_173 : decode cX9_berths 173 = .ok (.getfield 110, 3) := by decide +kernel
theorem dX9_berths_176 : decode cX9_berths 176 = .ok (.if_icmp .ne 8, 3) := by decide +kernel
theorem dX9_berths_179 : decode cX9_berths 179 = .ok (.bipush 9, 2) := by decide +kernel
theorem dX9_berths_181 : decode cX9_berths 181 = .ok (.goto 10, 3) := by decide +kernel
theorem dX9_berths_184 : decode cX9_berths 184 = .ok (.aload_n 0, 1) := by decide +kernel
theorem dX9_berths_185 : decode cX9_berths 185 = .ok (.getfield 88, 3) := by decide +kernel
theorem dX9_berths_188 : decode cX9_berths 188 = .ok (.iload 6, 2) := by decide +kernel
theorem dX9_berths_190 : decode cX9_berths 190 = .ok (.iaload, 1) := by decide +kernel
theorem dX9_berths_191 : decode cX9_berths 191 = .ok (.iadd, 1) := by decide +kernel
theorem dX9_berths_192 : decode cX9_berths 192 = .ok (.istore 5, 2) := by decide +kernel
theorem dX9_berths_194 : decode cX9_berths 194 = .ok (.iinc 6 (-1), 3) := by decide +kernel
theorem dX9_berths_197 : decode cX9_berths 197 = .ok (.goto (-42), 3) := by decide +kernel
theorem dX9_berths_200 : decode cX9_berths 200 = .ok (.iload_n 1, 1) := by decide +kernel
theorem dX9_berths_201 : decode cX9_berths 201 = .ok (.ifCond .ne 8, 3) := by decide +kernel
theorem dX9_berths_204 : decode cX9_berths 204 = .ok (.iload 4, 2) := by decide +kernel
theorem dX9_berths_206 : decode cX9_berths 206 = .ok (.goto 5, 3) := by decide +kernel
theorem dX9_berths_209 : decode cX9_berths 209 = .ok (.iload 5, 2) := by decide +kernel
theorem dX9_berths_211 : decode cX9_berths 211 = .ok (.ireturn, 1) := by decide +kernel
theorem dX9_leastOr_0 : decode cX9_leastOr 0 = .ok (.aload_n 0, 1) := by decide +kernel
theorem dX9_leastOr_1 : decode cX9_leastOr 1 = .ok (.iload_n 1, 1) := by decide +kernel
theorem dX9_leastOr_2 : decode cX9_leastOr 2 = .ok (.invokevirtual 258, 3) := by decide +kernel
theorem dX9_leastOr_5 : decode cX9_leastOr 5 = .ok (.istore_n 2, 1) := by decide +kernel
theorem dX9_leastOr_6 : decode cX9_leastOr 6 = .ok (.iload_n 2, 1) := by decide +kernel
theorem dX9_leastOr_7 : decode cX9_leastOr 7 = .ok (.ifCond .ge 8, 3) := by decide +kernel
theorem dX9_leastOr_10 : decode cX9_leastOr 10 = .ok (.bipush 99, 2) := by decide +kernel
theorem dX9_leastOr_12 : decode cX9_leastOr 12 = .ok (.goto 4, 3) := by decide +kernel
theorem dX9_leastOr_15 : decode cX9_leastOr 15 = .ok (.iload_n 2, 1) := by decide +kernel
theorem dX9_leastOr_16 : decode cX9_leastOr 16 = .ok (.ireturn, 1) := by decide +kernel
theorem dX9_saves_0 : decode cX9_saves 0 = .ok (.aload_n 0, 1) := by decide +kernel
theorem dX9_saves_1 : decode cX9_saves 1 = .ok (.iload_n 1, 1) := by decide +kernel
theorem dX9_saves_2 : decode cX9_saves 2 = .ok (.invokevirtual 168, 3) := by decide +kernel
theorem dX9_saves_5 : decode cX9_saves 5 = .ok (.ifCond .ne 9, 3) := by decide +kernel
theorem dX9_saves_8 : decode cX9_saves 8 = .ok (.aload_n 0, 1) := by decide +kernel
theorem dX9_saves_9 : decode cX9_saves 9 = .ok (.iconst (-1), 1) := by decide +kernel
theorem dX9_saves_10 : decode cX9_saves 10 = .ok (.invokevirtual 236, 3) := by decide +kernel
theorem dX9_saves_13 : decode cX9_saves 13 = .ok (.ireturn, 1) := by decide +kernel
theorem dX9_saves_14 : decode cX9_saves 14 = .ok (.iload_n 2, 1) := by decide +kernel
theorem dX9_saves_15 : decode cX9_saves 15 = .ok (.iconst 0, 1) := by decide +kernel
theorem dX9_saves_16 : decode cX9_saves 16 = .ok (.iconst 5, 1) := by decide +kernel
theorem dX9_saves_17 : decode cX9_saves 17 = .ok (.invokestatic 135, 3) := by decide +kernel
theorem dX9_saves_20 : decode cX9_saves 20 = .ok (.ifCond .ne 10, 3) := by decide +kernel
theorem dX9_saves_23 : decode cX9_saves 23 = .ok (.aload_n 0, 1) := by decide +kernel
theorem dX9_saves_24 : decode cX9_saves 24 = .ok (.bipush (-2), 2) := by decide +kernel
theorem dX9_saves_26 : decode cX9_saves 26 = .ok (.invokevirtual 236, 3) := by decide +kernel
theorem dX9_saves_29 : decode cX9_saves 29 = .ok (.ireturn, 1) := by decide +kernel
theorem dX9_saves_30 : decode cX9_saves 30 = .ok (.aload_n 0, 1) := by decide +kernel
theorem dX9_saves_31 : decode cX9_saves 31 = .ok (.getfield 28, 3) := by decide +kernel
theorem dX9_saves_34 : decode cX9_saves 34 = .ok (.iload_n 1, 1) := by decide +kernel
theorem dX9_saves_35 : decode cX9_saves 35 = .ok (.iaload, 1) := by decide +kernel
theorem dX9_saves_36 : decode cX9_saves 36 = .ok (.istore_n 3, 1) := by decide +kernel
theorem dX9_saves_37 : decode cX9_saves 37 = .ok (.aload_n 0, 1) := by decide +kernel
theorem dX9_saves_38 : decode cX9_saves 38 = .ok (.getfield 28, 3) := by decide +kernel
theorem dX9_saves_41 : decode cX9_saves 41 = .ok (.iload_n 1, 1) := by decide +kernel
theorem dX9_saves_42 : decode cX9_saves 42 = .ok (.iconst 0, 1) := by decide +kernel
theorem dX9_saves_43 : decode cX9_saves 43 = .ok (.iastore, 1) := by decide +kernel
theorem dX9_saves_44 : decode cX9_saves 44 = .ok (.aload_n 0, 1) := by decide +kernel
theorem dX9_saves_45 : decode cX9_saves 45 = .ok (.iload_n 1, 1) := by decide +kernel
theorem dX9_saves_46 : decode cX9_saves 46 = .ok (.invokevirtual 306, 3) := by decide +kernel
theorem dX9_saves_49 : decode cX9_saves 49 = .ok (.istore 4, 2) := by decide +kernel
theorem dX9_saves_51 : decode cX9_saves 51 = .ok (.aload_n 0, 1) := by decide +kernel
theorem dX9_saves_52 : decode cX9_saves 52 = .ok (.getfield 28, 3) := by decide +kernel
theorem dX9_saves_55 : decode cX9_saves 55 = .ok (.iload_n 1, 1) := by decide +kernel
theorem dX9_saves_56 : decode cX9_saves 56 = .ok (.iload_n 2, 1) := by decide +kernel
theorem dX9_saves_57 : decode cX9_saves 57 = .ok (.iastore, 1) := by decide +kernel
theorem dX9_saves_58 : decode cX9_saves 58 = .ok (.iload 4, 2) := by decide +kernel
theorem dX9_saves_60 : decode cX9_saves 60 = .ok (.aload_n 0, 1) := by decide +kernel
theorem dX9_saves_61 : decode cX9_saves 61 = .ok (.iload_n 1, 1) := by decide +kernel
theorem dX9_saves_62 : decode cX9_saves 62 = .ok (.invokevirtual 306, 3) := by decide +kernel
theorem dX9_saves_65 : decode cX9_saves 65 = .ok (.isub, 1) := by decide +kernel
theorem dX9_saves_66 : decode cX9_saves 66 = .ok (.istore 4, 2) := by decide +kernel
theorem dX9_saves_68 : decode cX9_saves 68 = .ok (.aload_n 0, 1) := by decide +kernel
theorem dX9_saves_69 : decode cX9_saves 69 = .ok (.getfield 28, 3) := by decide +kernel
theorem dX9_saves_72 : decode cX9_saves 72 = .ok (.iload_n 1, 1) := by decide +kernel
theorem dX9_saves_73 : decode cX9_saves 73 = .ok (.iload_n 3, 1) := by decide +kernel
theorem dX9_saves_74 : decode cX9_saves 74 = .ok (.iastore, 1) := by decide +kernel
theorem dX9_saves_75 : decode cX9_saves 75 = .ok (.iload 4, 2) := by decide +kernel
theorem dX9_saves_77 : decode cX9_saves 77 = .ok (.ireturn, 1) := by decide +kernel
theorem dX9_marks_0 : decode cX9_marks 0 = .ok (.aload_n 0, 1) := by decide +kernel
theorem dX9_marks_1 : decode cX9_marks 1 = .ok (.iload_n 1, 1) := by decide +kernel
theorem dX9_marks_2 : decode cX9_marks 2 = .ok (.invokevirtual 168, 3) := by decide +kernel
theorem dX9_marks_5 : decode cX9_marks 5 = .ok (.ifCond .ne 7, 3) := by decide +kernel
theorem dX9_marks_8 : decode cX9_marks 8 = .ok (.iconst (-1), 1) := by decide +kernel
theorem dX9_marks_9 : decode cX9_marks 9 = .ok (.goto 11, 3) := by decide +kernel
theorem dX9_marks_12 : decode cX9_marks 12 = .ok (.iload_n 2, 1) := by decide +kernel
theorem dX9_marks_13 : decode cX9_marks 13 = .ok (.iconst 0, 1) := by decide +kernel
theorem dX9_marks_14 : decode cX9_marks 14 = .ok (.sipush 4095, 3) := by decide +kernel
theorem dX9_marks_17 : decode cX9_marks 17 = .ok (.invokestatic 117, 3) := by decide +kernel
theorem dX9_marks_20 : decode cX9_marks 20 = .ok (.istore 4, 2) := by decide +kernel
theorem dX9_marks_22 : decode cX9_marks 22 = .ok (.iload 4, 2) := by decide +kernel
theorem dX9_marks_24 : decode cX9_marks 24 = .ok (.ifCond .ne 16, 3) := by decide +kernel
theorem dX9_marks_27 : decode cX9_marks 27 = .ok (.iload_n 3, 1) := by decide +kernel
theorem dX9_marks_28 : decode cX9_marks 28 = .ok (.iconst 0, 1) := by decide +kernel
theorem dX9_marks_29 : decode cX9_marks 29 = .ok (.iconst 1, 1) := by decide +kernel
theorem dX9_marks_30 : decode cX9_marks 30 = .ok (.invokestatic 135, 3) := by decide +kernel
theorem dX9_marks_33 : decode cX9_marks 33 = .ok (.ifCond .ne 7, 3) := by decide +kernel
theorem dX9_marks_36 : decode cX9_marks 36 = .ok (.bipush (-2), 2) := by decide +kernel
theorem dX9_marks_38 : decode cX9_marks 38 = .ok (.istore 4, 2) := by decide +kernel
theorem dX9_marks_40 : decode cX9_marks 40 = .ok (.iload 4, 2) := by decide +kernel
theorem dX9_marks_42 : decode cX9_marks 42 = .ok (.ifCond .eq 10, 3) := by decide +kernel
theorem dX9_marks_45 : decode cX9_marks 45 = .ok (.aload_n 0, 1) := by decide +kernel
theorem dX9_marks_46 : decode cX9_marks 46 = .ok (.iload 4, 2) := by decide +kernel
theorem dX9_marks_48 : decode cX9_marks 48 = .ok (.invokevirtual 124, 3) := by decide +kernel
theorem dX9_marks_51 : decode cX9_marks 51 = .ok (.ireturn, 1) := by decide +kernel
theorem dX9_marks_52 : decode cX9_marks 52 = .ok (.iconst 0, 1) := by decide +kernel
theorem dX9_marks_53 : decode cX9_marks 53 = .ok (.istore 5, 2) := by decide +kernel
theorem dX9_marks_55 : decode cX9_marks 55 = .ok (.bipush (-9), 2) := by decide +kernel
theorem dX9_marks_57 : decode cX9_marks 57 = .ok (.istore 6, 2) := by decide +kernel
theorem dX9_marks_59 : decode cX9_marks 59 = .ok (.iconst 0, 1) := by decide +kernel
theorem dX9_marks_60 : decode cX9_marks 60 = .ok (.istore 7, 2) := by decide +kernel
theorem dX9_marks_62 : decode cX9_marks 62 = .ok (.iload 7, 2) := by decide +kernel
theorem dX9_marks_64 : decode cX9_marks 64 = .ok (.bipush 99, 2) := by decide +kernel
theorem dX9_marks_66 : decode cX9_marks 66 = .ok (.if_icmp .gt 40, 3) := by decide +kernel
theorem dX9_marks_69 : decode cX9_marks 69 = .ok (.aload_n 0, 1) := by decide +kernel
theorem dX9_marks_70 : decode cX9_marks 70 = .ok (.iload_n 1, 1) := by decide +kernel
theorem dX9_marks_71 : decode cX9_marks 71 = .ok (.iload 7, 2) := by decide +kernel
theorem dX9_marks_73 : decode cX9_marks 73 = .ok (.invokevirtual 246, 3) := by decide +kernel
theorem dX9_marks_76 : decode cX9_marks 76 = .ok (.iload_n 2, 1) := by decide +kernel
theorem dX9_marks_77 : decode cX9_marks 77 = .ok (.if_icmp .eq 6, 3) := by decide +kernel
theorem dX9_marks_80 : decode cX9_marks 80 = .ok (.goto 20, 3) := by decide +kernel
theorem dX9_marks_83 : decode cX9_marks 83 = .ok (.iload 5, 2) := by decide +kernel
theorem dX9_marks_85 : decode cX9_marks 85 = .ok (.ifCond .ne 8, 3) := by decide +kernel
theorem dX9_marks_88 : decode cX9_marks 88 = .ok (.iload 7, 2) := by decide +kernel
theorem dX9_marks_90 : decode cX9_marks 90 = .ok (.goto 5, 3) := by decide +kernel
theorem dX9_marks_93 : decode cX9_marks 93 = .ok (.iload 6, 2) := by decide +kernel
theorem dX9_marks_95 : decode cX9_marks 95 = .ok (.istore 6, 2) := by decide +kernel
theorem dX9_marks_97 : decode cX9_marks 97 = .ok (.iinc 5 1, 3) := by decide +kernel
theorem dX9_marks_100 : decode cX9_marks 100 = .ok (.iinc 7 1, 3) := by decide +kernel
theorem dX9_marks_103 : decode cX9_marks 103 = .ok (.goto (-41), 3) := by decide +kernel
theorem dX9_marks_106 : decode cX9_marks 106 = .ok (.iload_n 3, 1) := by decide +kernel
theorem dX9_marks_107 : decode cX9_marks 107 = .ok (.ifCond .ne 8, 3) := by decide +kernel
theorem dX9_marks_110 : decode cX9_marks 110 = .ok (.iload 5, 2) := by decide +kernel
theorem dX9_marks_112 : decode cX9_marks 112 = .ok (.goto 5, 3) := by decide +kernel
theorem dX9_marks_115 : decode cX9_marks 115 = .ok (.iload 6, 2) := by decide +kernel
theorem dX9_marks_117 : decode cX9_marks 117 = .ok (.ireturn, 1) := by decide +kernel
theorem dX9_whose_0 : decode cX9_whose 0 = .ok (.iload_n 1, 1) := by decide +kernel
theorem dX9_whose_1 : decode cX9_whose 1 = .ok (.iconst 0, 1) := by decide +kernel
theorem dX9_whose_2 : decode cX9_whose 2 = .ok (.sipush 4095, 3) := by decide +kernel
theorem dX9_whose_5 : decode cX9_whose 5 = .ok (.invokestatic 117, 3) := by decide +kernel
theorem dX9_whose_8 : decode cX9_whose 8 = .ok (.istore_n 2, 1) := by decide +kernel
theorem dX9_whose_9 : decode cX9_whose 9 = .ok (.iload_n 2, 1) := by decide +kernel
theorem dX9_whose_10 : decode cX9_whose 10 = .ok (.ifCond .eq 9, 3) := by decide +kernel
theorem dX9_whose_13 : decode cX9_whose 13 = .ok (.aload_n 0, 1) := by decide +kernel
theorem dX9_whose_14 : decode cX9_whose 14 = .ok (.iload_n 2, 1) := by decide +kernel
theorem dX9_whose_15 : decode cX9_whose 15 = .ok (.invokevirtual 124, 3) := by decide +kernel
theorem dX9_whose_18 : decode cX9_whose 18 = .ok (.ireturn, 1) := by decide +kernel
theorem dX9_whose_19 : decode cX9_whose 19 = .ok (.iconst 0, 1) := by decide +kernel
theorem dX9_whose_20 : decode cX9_whose 20 = .ok (.istore_n 3, 1) := by decide +kernel
theorem dX9_whose_21 : decode cX9_whose 21 = .ok (.iconst 0, 1) := by decide +kernel
theorem dX9_whose_22 : decode cX9_whose 22 = .ok (.istore 4, 2) := by decide +kernel
theorem dX9_whose_24 : decode cX9_whose 24 = .ok (.iload 4, 2) := by decide +kernel
theorem dX9_whose_26 : decode cX9_whose 26 = .ok (.aload_n 0, 1) := by decide +kernel
theorem dX9_whose_27 : decode cX9_whose 27 = .ok (.getfield 114, 3) := by decide +kernel
theorem dX9_whose_30 : decode cX9_whose 30 = .ok (.if_icmp .ge 37, 3) := by decide +kernel
theorem dX9_whose_33 : decode cX9_whose 33 = .ok (.iload_n 3, 1) := by decide +kernel
theorem dX9_whose_34 : decode cX9_whose 34 = .ok (.aload_n 0, 1) := by decide +kernel
theorem dX9_whose_35 : decode cX9_whose 35 = .ok (.iload 4, 2) := by decide +kernel
theorem dX9_whose_37 : decode cX9_whose 37 = .ok (.aload_n 0, 1) := by decide +kernel
theorem dX9_whose_38 : decode cX9_whose 38 = .ok (.getfield 40, 3) := by decide +kernel
theorem dX9_whose_41 : decode cX9_whose 41 = .ok (.iload 4, 2) := by decide +kernel
theorem dX9_whose_43 : decode cX9_whose 43 = .ok (.iaload, 1) := by decide +kernel
theorem dX9_whose_44 : decode cX9_whose 44 = .ok (.invokevirtual 246, 3) := by decide +kernel
theorem dX9_whose_47 : decode cX9_whose 47 = .ok (.iload_n 1, 1) := by decide +kernel
theorem dX9_whose_48 : decode cX9_whose 48 = .ok (.if_icmp .ne 10, 3) := by decide +kernel
theorem dX9_whose_51 : decode cX9_whose 51 = .ok (.iconst 1, 1) := by decide +kernel
theorem dX9_whose_52 : decode cX9_whose 52 = .ok (.iload 4, 2) := by decide +kernel
theorem dX9_whose_54 : decode cX9_whose 54 = .ok (.ishl, 1) := by decide +kernel
theorem dX9_whose_55 : decode cX9_whose 55 = .ok (.goto 4, 3) := by decide +kernel
theorem dX9_whose_58 : decode cX9_whose 58 = .ok (.iconst 0, 1) := by decide +kernel
theorem dX9_whose_59 : decode cX9_whose 59 = .ok (.ior, 1) := by decide +kernel
theorem dX9_whose_60 : decode cX9_whose 60 = .ok (.istore_n 3, 1) := by decide +kernel
theorem dX9_whose_61 : decode cX9_whose 61 = .ok (.iinc 4 1, 3) := by decide +kernel
theorem dX9_whose_64 : decode cX9_whose 64 = .ok (.goto (-40), 3) := by decide +kernel
theorem dX9_whose_67 : decode cX9_whose 67 = .ok (.iload_n 3, 1) := by decide +kernel
theorem dX9_whose_68 : decode cX9_whose 68 = .ok (.ireturn, 1) := by decide +kernel
theorem dX9_spring_0 : decode cX9_spring 0 = .ok (.iload_n 1, 1) := by decide +kernel
theorem dX9_spring_1 : decode cX9_spring 1 = .ok (.iconst 0, 1) := by decide +kernel
theorem dX9_spring_2 : decode cX9_spring 2 = .ok (.bipush 9, 2) := by decide +kernel
theorem dX9_spring_4 : decode cX9_spring 4 = .ok (.invokestatic 117, 3) := by decide +kernel
theorem dX9_spring_7 : decode cX9_spring 7 = .ok (.istore_n 2, 1) := by decide +kernel
theorem dX9_spring_8 : decode cX9_spring 8 = .ok (.iload_n 2, 1) := by decide +kernel
theorem dX9_spring_9 : decode cX9_spring 9 = .ok (.ifCond .eq 9, 3) := by decide +kernel
theorem dX9_spring_12 : decode cX9_spring 12 = .ok (.aload_n 0, 1) := by decide +kernel
theorem dX9_spring_13 : decode cX9_spring 13 = .ok (.iload_n 2, 1) := by decide +kernel
theorem dX9_spring_14 : decode cX9_spring 14 = .ok (.invokevirtual 124, 3) := by decide +kernel
theorem dX9_spring_17 : decode cX9_spring 17 = .ok (.ireturn, 1) := by decide +kernel
theorem dX9_spring_18 : decode cX9_spring 18 = .ok (.aload_n 0, 1) := by decide +kernel
theorem dX9_spring_19 : decode cX9_spring 19 = .ok (.getfield 196, 3) := by decide +kernel
theorem dX9_spring_22 : decode cX9_spring 22 = .ok (.istore_n 3, 1) := by decide +kernel
theorem dX9_spring_23 : decode cX9_spring 23 = .ok (.aload_n 0, 1) := by decide +kernel
theorem dX9_spring_24 : decode cX9_spring 24 = .ok (.iload_n 1, 1) := by decide +kernel
theorem dX9_spring_25 : decode cX9_spring 25 = .ok (.putfield 196, 3) := by decide +kernel
theorem dX9_spring_28 : decode cX9_spring 28 = .ok (.iload_n 3, 1) := by decide +kernel
theorem dX9_spring_29 : decode cX9_spring 29 = .ok (.ireturn, 1) := by decide +kernel
theorem dX9_tideOn_0 : decode cX9_tideOn 0 = .ok (.aload_n 0, 1) := by decide +kernel
theorem dX9_tideOn_1 : decode cX9_tideOn 1 = .ok (.getfield 196, 3) := by decide +kernel
theorem dX9_tideOn_4 : decode cX9_tideOn 4 = .ok (.iload_n 2, 1) := by decide +kernel
theorem dX9_tideOn_5 : decode cX9_tideOn 5 = .ok (.bipush 7, 2) := by decide +kernel
theorem dX9_tideOn_7 : decode cX9_tideOn 7 = .ok (.if_icmp .ge 10, 3) := by decide +kernel
theorem dX9_tideOn_10 : decode cX9_tideOn 10 = .ok (.bipush 7, 2) := by decide +kernel
theorem dX9_tideOn_12 : decode cX9_tideOn 12 = .ok (.iload_n 2, 1) := by decide +kernel
theorem dX9_tideOn_13 : decode cX9_tideOn 13 = .ok (.isub, 1) := by decide +kernel
theorem dX9_tideOn_14 : decode cX9_tideOn 14 = .ok (.goto 7, 3) := by decide +kernel
theorem dX9_tideOn_17 : decode cX9_tideOn 17 = .ok (.iload_n 2, 1) := by decide +kernel
theorem dX9_tideOn_18 : decode cX9_tideOn 18 = .ok (.bipush 7, 2) := by decide +kernel
theorem dX9_tideOn_20 : decode cX9_tideOn 20 = .ok (.isub, 1) := by decide +kernel
theorem dX9_tideOn_21 : decode cX9_tideOn 21 = .ok (.imul, 1) := by decide +kernel
theorem dX9_tideOn_22 : decode cX9_tideOn 22 = .ok (.bipush 7, 2) := by decide +kernel
theorem dX9_tideOn_24 : decode cX9_tideOn 24 = .ok (.idiv, 1) := by decide +kernel
theorem dX9_tideOn_25 : decode cX9_tideOn 25 = .ok (.istore_n 3, 1) := by decide +kernel
theorem dX9_tideOn_26 : decode cX9_tideOn 26 = .ok (.aload_n 0, 1) := by decide +kernel
theorem dX9_tideOn_27 : decode cX9_tideOn 27 = .ok (.getfield 13, 3) := by decide +kernel
theorem dX9_tideOn_30 : decode cX9_tideOn 30 = .ok (.iload_n 1, 1) := by decide +kernel
theorem dX9_tideOn_31 : decode cX9_tideOn 31 = .ok (.iaload, 1) := by decide +kernel
theorem dX9_tideOn_32 : decode cX9_tideOn 32 = .ok (.bipush 20, 2) := by decide +kernel
theorem dX9_tideOn_34 : decode cX9_tideOn 34 = .ok (.if_icmp .le 14, 3) := by decide +kernel
theorem dX9_tideOn_37 : decode cX9_tideOn 37 = .ok (.aload_n 0, 1) := by decide +kernel
theorem dX9_tideOn_38 : decode cX9_tideOn 38 = .ok (.getfield 13, 3) := by decide +kernel
theorem dX9_tideOn_41 : decode cX9_tideOn 41 = .ok (.iload_n 1, 1) := by decide +kernel
theorem dX9_tideOn_42 : decode cX9_tideOn 42 = .ok (.iaload, 1) := by decide +kernel
theorem dX9_tideOn_43 : decode cX9_tideOn 43 = .ok (.iload_n 3, 1) := by decide +kernel
theorem dX9_tideOn_44 : decode cX9_tideOn 44 = .ok (.iadd, 1) := by decide +kernel
theorem dX9_tideOn_45 : decode cX9_tideOn 45 = .ok (.goto 27, 3) := by decide +kernel
theorem dX9_tideOn_48 : decode cX9_tideOn 48 = .ok (.aload_n 0, 1) := by decide +kernel
theorem dX9_tideOn_49 : decode cX9_tideOn 49 = .ok (.getfield 13, 3) := by decide +kernel
theorem dX9_tideOn_52 : decode cX9_tideOn 52 = .ok (.iload_n 1, 1) := by decide +kernel
theorem dX9_tideOn_53 : decode cX9_tideOn 53 = .ok (.iaload, 1) := by decide +kernel
theorem dX9_tideOn_54 : decode cX9_tideOn 54 = .ok (.bipush 20, 2) := by decide +kernel
theorem dX9_tideOn_56 : decode cX9_tideOn 56 = .ok (.if_icmp .ge 14, 3) := by decide +kernel
theorem dX9_tideOn_59 : decode cX9_tideOn 59 = .ok (.aload_n 0, 1) := by decide +kernel
theorem dX9_tideOn_60 : decode cX9_tideOn 60 = .ok (.getfield 13, 3) := by decide +kernel
theorem dX9_tideOn_63 : decode cX9_tideOn 63 = .ok (.iload_n 1, 1) := by decide +kernel
theorem dX9_tideOn_64 : decode cX9_tideOn 64 = .ok (.iaload, 1) := by decide +kernel
theorem dX9_tideOn_65 : decode cX9_tideOn 65 = .ok (.iload_n 3, 1) := by decide +kernel
theorem dX9_tideOn_66 : decode cX9_tideOn 66 = .ok (.isub, 1) := by decide +kernel
theorem dX9_tideOn_67 : decode cX9_tideOn 67 = .ok (.goto 5, 3) := by decide +kernel
theorem dX9_tideOn_70 : decode cX9_tideOn 70 = .ok (.bipush 20, 2) := by decide +kernel
theorem dX9_tideOn_72 : decode cX9_tideOn 72 = .ok (.istore 4, 2) := by decide +kernel
theorem dX9_tideOn_74 : decode cX9_tideOn 74 = .ok (.iload 4, 2) := by decide +kernel
theorem dX9_tideOn_76 : decode cX9_tideOn 76 = .ok (.ifCond .ge 7, 3) := by decide +kernel
theorem dX9_tideOn_79 : decode cX9_tideOn 79 = .ok (.iconst 0, 1) := by decide +kernel
theorem dX9_tideOn_80 : decode cX9_tideOn 80 = .ok (.goto 17, 3) := by decide +kernel
theorem dX9_tideOn_83 : decode cX9_tideOn 83 = .ok (.iload 4, 2) := by decide +kernel
theorem dX9_tideOn_85 : decode cX9_tideOn 85 = .ok (.bipush 40, 2) := by decide +kernel
theorem dX9_tideOn_87 : decode cX9_tideOn 87 = .ok (.if_icmp .le 8, 3) := by decide +kernel
theorem dX9_tideOn_90 : decode cX9_tideOn 90 = .ok (.bipush 40, 2) := by decide +kernel
theorem dX9_tideOn_92 : decode cX9_tideOn 92 = .ok (.goto 5, 3) := by decide +kernel
theorem dX9_tideOn_95 : decode cX9_tideOn 95 = .ok (.iload 4, 2) := by decide +kernel
theorem dX9_tideOn_97 : decode cX9_tideOn 97 = .ok (.ireturn, 1) := by decide +kernel
theorem dX9_swells_0 : decode cX9_swells 0 = .ok (.iload_n 1, 1) := by decide +kernel
theorem dX9_swells_1 : decode cX9_swells 1 = .ok (.invokestatic 159, 3) := by decide +kernel
theorem dX9_swells_4 : decode cX9_swells 4 = .ok (.ifCond .ne 7, 3) := by decide +kernel
theorem dX9_swells_7 : decode cX9_swells 7 = .ok (.iconst (-1), 1) := by decide +kernel
theorem dX9_swells_8 : decode cX9_swells 8 = .ok (.goto 10, 3) := by decide +kernel
theorem dX9_swells_11 : decode cX9_swells 11 = .ok (.iload_n 2, 1) := by decide +kernel
theorem dX9_swells_12 : decode cX9_swells 12 = .ok (.iconst 0, 1) := by decide +kernel
theorem dX9_swells_13 : decode cX9_swells 13 = .ok (.bipush 13, 2) := by decide +kernel
theorem dX9_swells_15 : decode cX9_swells 15 = .ok (.invokestatic 117, 3) := by decide +kernel
theorem dX9_swells_18 : decode cX9_swells 18 = .ok (.istore_n 3, 1) := by decide +kernel
theorem dX9_swells_19 : decode cX9_swells 19 = .ok (.iload_n 3, 1) := by decide +kernel
theorem dX9_swells_20 : decode cX9_swells 20 = .ok (.ifCond .eq 11, 3) := by decide +kernel
theorem dX9_swells_23 : decode cX9_swells 23 = .ok (.aload_n 0, 1) := by decide +kernel
theorem dX9_swells_24 : decode cX9_swells 24 = .ok (.iload_n 3, 1) := by decide +kernel
theorem dX9_swells_25 : decode cX9_swells 25 = .ok (.invokevirtual 124, 3) := by decide +kernel
theorem dX9_swells_28 : decode cX9_swells 28 = .ok (.goto 9, 3) := by decide +kernel
theorem dX9_swells_31 : decode cX9_swells 31 = .ok (.aload_n 0, 1) := by decide +kernel
theorem dX9_swells_32 : decode cX9_swells 32 = .ok (.iload_n 1, 1) := by decide +kernel
theorem dX9_swells_33 : decode cX9_swells 33 = .ok (.iload_n 2, 1) := by decide +kernel
theorem dX9_swells_34 : decode cX9_swells 34 = .ok (.invokevirtual 309, 3) := by decide +kernel
theorem dX9_swells_37 : decode cX9_swells 37 = .ok (.ireturn, 1) := by decide +kernel
theorem dX9_hangDays_0 : decode cX9_hangDays 0 = .ok (.iconst 0, 1) := by decide +kernel
theorem dX9_hangDays_1 : decode cX9_hangDays 1 = .ok (.istore_n 3, 1) := by decide +kernel
theorem dX9_hangDays_2 : decode cX9_hangDays 2 = .ok (.iconst 0, 1) := by decide +kernel
theorem dX9_hangDays_3 : decode cX9_hangDays 3 = .ok (.istore 4, 2) := by decide +kernel
theorem dX9_hangDays_5 : decode cX9_hangDays 5 = .ok (.iload 4, 2) := by decide +kernel
theorem dX9_hangDays_7 : decode cX9_hangDays 7 = .ok (.bipush 12, 2) := by decide +kernel
theorem dX9_hangDays_9 : decode cX9_hangDays 9 = .ok (.if_icmp .ge 23, 3) := by decide +kernel
theorem dX9_hangDays_12 : decode cX9_hangDays 12 = .ok (.aload_n 0, 1) := by decide +kernel
theorem dX9_hangDays_13 : decode cX9_hangDays 13 = .ok (.getfield 94, 3) := by decide +kernel
theorem dX9_hangDays_16 : decode cX9_hangDays 16 = .ok (.iload 4, 2) := by decide +kernel
theorem dX9_hangDays_18 : decode cX9_hangDays 18 = .ok (.aload_n 0, 1) := by decide +kernel
theorem dX9_hangDays_19 : decode cX9_hangDays 19 = .ok (.getfield 13, 3) := by decide +kernel
theorem dX9_hangDays_22 : decode cX9_hangDays 22 = .ok (.iload 4, 2) := by decide +kernel
theorem dX9_hangDays_24 : decode cX9_hangDays 24 = .ok (.iaload, 1) := by decide +kernel
theorem dX9_hangDays_25 : decode cX9_hangDays 25 = .ok (.iastore, 1) := by decide +kernel
theorem dX9_hangDays_26 : decode cX9_hangDays 26 = .ok (.iinc 4 1, 3) := by decide +kernel
theorem dX9_hangDays_29 : decode cX9_hangDays 29 = .ok (.goto (-24), 3) := by decide +kernel
theorem dX9_hangDays_32 : decode cX9_hangDays 32 = .ok (.iconst 0, 1) := by decide +kernel
theorem dX9_hangDays_33 : decode cX9_hangDays 33 = .ok (.istore 4, 2) := by decide +kernel
theorem dX9_hangDays_35 : decode cX9_hangDays 35 = .ok (.iload 4, 2) := by decide +kernel
theorem dX9_hangDays_37 : decode cX9_hangDays 37 = .ok (.bipush 14, 2) := by decide +kernel
theorem dX9_hangDays_39 : decode cX9_hangDays 39 = .ok (.if_icmp .ge 65, 3) := by decide +kernel
theorem dX9_hangDays_42 : decode cX9_hangDays 42 = .ok (.iconst 0, 1) := by decide +kernel
theorem dX9_hangDays_43 : decode cX9_hangDays 43 = .ok (.istore 5, 2) := by decide +kernel
theorem dX9_hangDays_45 : decode cX9_hangDays 45 = .ok (.iload 5, 2) := by decide +kernel
theorem dX9_hangDays_47 : decode cX9_hangDays 47 = .ok (.bipush 12, 2) := by decide +kernel
theorem dX9_hangDays_49 : decode cX9_hangDays 49 = .ok (.if_icmp .ge 23, 3) := by decide +kernel
theorem dX9_hangDays_52 : decode cX9_hangDays 52 = .ok (.aload_n 0, 1) := by decide +kernel
theorem dX9_hangDays_53 : decode cX9_hangDays 53 = .ok (.getfield 13, 3) := by decide +kernel
theorem dX9_hangDays_56 : decode cX9_hangDays 56 = .ok (.iload 5, 2) := by decide +kernel
theorem dX9_hangDays_58 : decode cX9_hangDays 58 = .ok (.aload_n 0, 1) := by decide +kernel
theorem dX9_hangDays_59 : decode cX9_hangDays 59 = .ok (.getfield 94, 3) := by decide +kernel
theorem dX9_hangDays_62 : decode cX9_hangDays 62 = .ok (.iload 5, 2) := by decide +kernel
theorem dX9_hangDays_64 : decode cX9_hangDays 64 = .ok (.iaload, 1) := by decide +kernel
theorem dX9_hangDays_65 : decode cX9_hangDays 65 = .ok (.iastore, 1) := by decide +kernel
theorem dX9_hangDays_66 : decode cX9_hangDays 66 = .ok (.iinc 5 1, 3) := by decide +kernel
theorem dX9_hangDays_69 : decode cX9_hangDays 69 = .ok (.goto (-24), 3) := by decide +kernel
theorem dX9_hangDays_72 : decode cX9_hangDays 72 = .ok (.aload_n 0, 1) := by decide +kernel
theorem dX9_hangDays_73 : decode cX9_hangDays 73 = .ok (.iload 4, 2) := by decide +kernel
theorem dX9_hangDays_75 : decode cX9_hangDays 75 = .ok (.invokevirtual 312, 3) := by decide +kernel
theorem dX9_hangDays_78 : decode cX9_hangDays 78 = .ok (.iload_n 3, 1) := by decide +kernel
theorem dX9_hangDays_79 : decode cX9_hangDays 79 = .ok (.aload_n 0, 1) := by decide +kernel
theorem dX9_hangDays_80 : decode cX9_hangDays 80 = .ok (.iload_n 1, 1) := by decide +kernel
theorem dX9_hangDays_81 : decode cX9_hangDays 81 = .ok (.iload_n 2, 1) := by decide +kernel
theorem dX9_hangDays_82 : decode cX9_hangDays 82 = .ok (.invokevirtual 246, 3) := by decide +kernel
theorem dX9_hangDays_85 : decode cX9_hangDays 85 = .ok (.ifCond .eq 10, 3) := by decide +kernel
theorem dX9_hangDays_88 : decode cX9_hangDays 88 = .ok (.iconst 1, 1) := by decide +kernel
theorem dX9_hangDays_89 : decode cX9_hangDays 89 = .ok (.iload 4, 2) := by decide +kernel
theorem dX9_hangDays_91 : decode cX9_hangDays 91 = .ok (.ishl, 1) := by decide +kernel
theorem dX9_hangDays_92 : decode cX9_hangDays 92 = .ok (.goto 4, 3) := by decide +kernel
theorem dX9_hangDays_95 : decode cX9_hangDays 95 = .ok (.iconst 0, 1) := by decide +kernel
theorem dX9_hangDays_96 : decode cX9_hangDays 96 = .ok (.ior, 1) := by decide +kernel
theorem dX9_hangDays_97 : decode cX9_hangDays 97 = .ok (.istore_n 3, 1) := by decide +kernel
theorem dX9_hangDays_98 : decode cX9_hangDays 98 = .ok (.iinc 4 1, 3) := by decide +kernel
theorem dX9_hangDays_101 : decode cX9_hangDays 101 = .ok (.goto (-66), 3) := by decide +kernel
theorem dX9_hangDays_104 : decode cX9_hangDays 104 = .ok (.iconst 0, 1) := by decide +kernel
theorem dX9_hangDays_105 : decode cX9_hangDays 105 = .ok (.istore 4, 2) := by decide +kernel
theorem dX9_hangDays_107 : decode cX9_hangDays 107 = .ok (.iload 4, 2) := by decide +kernel
theorem dX9_hangDays_109 : decode cX9_hangDays 109 = .ok (.bipush 12, 2) := by decide +kernel
theorem dX9_hangDays_111 : decode cX9_hangDays 111 = .ok (.if_icmp .ge 23, 3) := by decide +kernel
theorem dX9_hangDays_114 : decode cX9_hangDays 114 = .ok (.aload_n 0, 1) := by decide +kernel
theorem dX9_hangDays_115 : decode cX9_hangDays 115 = .ok (.getfield 13, 3) := by decide +kernel
theorem dX9_hangDays_118 : decode cX9_hangDays 118 = .ok (.iload 4, 2) := by decide +kernel
theorem dX9_hangDays_120 : decode cX9_hangDays 120 = .ok (.aload_n 0, 1) := by decide +kernel
theorem dX9_hangDays_121 : decode cX9_hangDays 121 = .ok (.getfield 94, 3) := by decide +kernel
theorem dX9_hangDays_124 : decode cX9_hangDays 124 = .ok (.iload 4, 2) := by decide +kernel
theorem dX9_hangDays_126 : decode cX9_hangDays 126 = .ok (.iaload, 1) := by decide +kernel
theorem dX9_hangDays_127 : decode cX9_hangDays 127 = .ok (.iastore, 1) := by decide +kernel
theorem dX9_hangDays_128 : decode cX9_hangDays 128 = .ok (.iinc 4 1, 3) := by decide +kernel
theorem dX9_hangDays_131 : decode cX9_hangDays 131 = .ok (.goto (-24), 3) := by decide +kernel
theorem dX9_hangDays_134 : decode cX9_hangDays 134 = .ok (.iload_n 3, 1) := by decide +kernel
theorem dX9_hangDays_135 : decode cX9_hangDays 135 = .ok (.ireturn, 1) := by decide +kernel
theorem dX9_laysDay_0 : decode cX9_laysDay 0 = .ok (.iconst 0, 1) := by decide +kernel
theorem dX9_laysDay_1 : decode cX9_laysDay 1 = .ok (.istore_n 2, 1) := by decide +kernel
theorem dX9_laysDay_2 : decode cX9_laysDay 2 = .ok (.iload_n 2, 1) := by decide +kernel
theorem dX9_laysDay_3 : decode cX9_laysDay 3 = .ok (.bipush 12, 2) := by decide +kernel
theorem dX9_laysDay_5 : decode cX9_laysDay 5 = .ok (.if_icmp .ge 21, 3) := by decide +kernel
theorem dX9_laysDay_8 : decode cX9_laysDay 8 = .ok (.aload_n 0, 1) := by decide +kernel
theorem dX9_laysDay_9 : decode cX9_laysDay 9 = .ok (.getfield 13, 3) := by decide +kernel
theorem dX9_laysDay_12 : decode cX9_laysDay 12 = .ok (.iload_n 2, 1) := by decide +kernel
theorem dX9_laysDay_13 : decode cX9_laysDay 13 = .ok (.aload_n 0, 1) := by decide +kernel
theorem dX9_laysDay_14 : decode cX9_laysDay 14 = .ok (.iload_n 2, 1) := by decide +kernel
theorem dX9_laysDay_15 : decode cX9_laysDay 15 = .ok (.iload_n 1, 1) := by decide +kernel
theorem dX9_laysDay_16 : decode cX9_laysDay 16 = .ok (.invokevirtual 309, 3) := by decide +kernel
theorem dX9_laysDay_19 : decode cX9_laysDay 19 = .ok (.iastore, 1) := by decide +kernel
theorem dX9_laysDay_20 : decode cX9_laysDay 20 = .ok (.iinc 2 1, 3) := by decide +kernel
theorem dX9_laysDay_23 : decode cX9_laysDay 23 = .ok (.goto (-21), 3) := by decide +kernel
theorem dX9_laysDay_26 : decode cX9_laysDay 26 = .ok (.return_, 1) := by decide +kernel
theorem dX9_firstOf_0 : decode cX9_firstOf 0 = .ok (.iconst 0, 1) := by decide +kernel
theorem dX9_firstOf_1 : decode cX9_firstOf 1 = .ok (.istore_n 1, 1) := by decide +kernel
theorem dX9_firstOf_2 : decode cX9_firstOf 2 = .ok (.iload_n 1, 1) := by decide +kernel
theorem dX9_firstOf_3 : decode cX9_firstOf 3 = .ok (.bipush 14, 2) := by decide +kernel
theorem dX9_firstOf_5 : decode cX9_firstOf 5 = .ok (.if_icmp .ge 20, 3) := by decide +kernel
theorem dX9_firstOf_8 : decode cX9_firstOf 8 = .ok (.iload_n 0, 1) := by decide +kernel
theorem dX9_firstOf_9 : decode cX9_firstOf 9 = .ok (.iload_n 1, 1) := by decide +kernel
theorem dX9_firstOf_10 : decode cX9_firstOf 10 = .ok (.ishr, 1) := by decide +kernel
theorem dX9_firstOf_11 : decode cX9_firstOf 11 = .ok (.iconst 1, 1) := by decide +kernel
theorem dX9_firstOf_12 : decode cX9_firstOf 12 = .ok (.iand, 1) := by decide +kernel
theorem dX9_firstOf_13 : decode cX9_firstOf 13 = .ok (.iconst 1, 1) := by decide +kernel
theorem dX9_firstOf_14 : decode cX9_firstOf 14 = .ok (.if_icmp .ne 5, 3) := by decide +kernel
theorem dX9_firstOf_17 : decode cX9_firstOf 17 = .ok (.iload_n 1, 1) := by decide +kernel
theorem dX9_firstOf_18 : decode cX9_firstOf 18 = .ok (.ireturn, 1) := by decide +kernel
theorem dX9_firstOf_19 : decode cX9_firstOf 19 = .ok (.iinc 1 1, 3) := by decide +kernel
theorem dX9_firstOf_22 : decode cX9_firstOf 22 = .ok (.goto (-20), 3) := by decide +kernel
theorem dX9_firstOf_25 : decode cX9_firstOf 25 = .ok (.bipush (-9), 2) := by decide +kernel
theorem dX9_firstOf_27 : decode cX9_firstOf 27 = .ok (.ireturn, 1) := by decide +kernel
theorem dX9_fortnight_0 : decode cX9_fortnight 0 = .ok (.aload_n 0, 1) := by decide +kernel
theorem dX9_fortnight_1 : decode cX9_fortnight 1 = .ok (.iload_n 1, 1) := by decide +kernel
theorem dX9_fortnight_2 : decode cX9_fortnight 2 = .ok (.invokevirtual 168, 3) := by decide +kernel
theorem dX9_fortnight_5 : decode cX9_fortnight 5 = .ok (.ifCond .ne 7, 3) := by decide +kernel
theorem dX9_fortnight_8 : decode cX9_fortnight 8 = .ok (.iconst (-1), 1) := by decide +kernel
theorem dX9_fortnight_9 : decode cX9_fortnight 9 = .ok (.goto 18, 3) := by decide +kernel
theorem dX9_fortnight_12 : decode cX9_fortnight 12 = .ok (.iload_n 2, 1) := by decide +kernel
theorem dX9_fortnight_13 : decode cX9_fortnight 13 = .ok (.iconst 0, 1) := by decide +kernel
theorem dX9_fortnight_14 : decode cX9_fortnight 14 = .ok (.iconst 2, 1) := by decide +kernel
theorem dX9_fortnight_15 : decode cX9_fortnight 15 = .ok (.invokestatic 135, 3) := by decide +kernel
theorem dX9_fortnight_18 : decode cX9_fortnight 18 = .ok (.ifCond .ne 8, 3) := by decide +kernel
theorem dX9_fortnight_21 : decode cX9_fortnight 21 = .ok (.bipush (-2), 2) := by decide +kernel
theorem dX9_fortnight_23 : decode cX9_fortnight 23 = .ok (.goto 4, 3) := by decide +kernel
theorem dX9_fortnight_26 : decode cX9_fortnight 26 = .ok (.iconst 0, 1) := by decide +kernel
theorem dX9_fortnight_27 : decode cX9_fortnight 27 = .ok (.istore_n 3, 1) := by decide +kernel
theorem dX9_fortnight_28 : decode cX9_fortnight 28 = .ok (.iload_n 3, 1) := by decide +kernel
theorem dX9_fortnight_29 : decode cX9_fortnight 29 = .ok (.ifCond .eq 9, 3) := by decide +kernel
theorem dX9_fortnight_32 : decode cX9_fortnight 32 = .ok (.aload_n 0, 1) := by decide +kernel
theorem dX9_fortnight_33 : decode cX9_fortnight 33 = .ok (.iload_n 3, 1) := by decide +kernel
theorem dX9_fortnight_34 : decode cX9_fortnight 34 = .ok (.invokevirtual 124, 3) := by decide +kernel
theorem dX9_fortnight_37 : decode cX9_fortnight 37 = .ok (.ireturn, 1) := by decide +kernel
theorem dX9_fortnight_38 : decode cX9_fortnight 38 = .ok (.iload_n 2, 1) := by decide +kernel
theorem dX9_fortnight_39 : decode cX9_fortnight 39 = .ok (.ifCond .ne 15, 3) := by decide +kernel
theorem dX9_fortnight_42 : decode cX9_fortnight 42 = .ok (.aload_n 0, 1) := by decide +kernel
theorem dX9_fortnight_43 : decode cX9_fortnight 43 = .ok (.iload_n 1, 1) := by decide +kernel
theorem dX9_fortnight_44 : decode cX9_fortnight 44 = .ok (.aload_n 0, 1) := by decide +kernel
theorem dX9_fortnight_45 : decode cX9_fortnight 45 = .ok (.getfield 40, 3) := by decide +kernel
theorem dX9_fortnight_48 : decode cX9_fortnight 48 = .ok (.iload_n 1, 1) := by decide +kernel
theorem dX9_fortnight_49 : decode cX9_fortnight 49 = .ok (.iaload, 1) := by decide +kernel
theorem dX9_fortnight_50 : decode cX9_fortnight 50 = .ok (.invokevirtual 315, 3) := by decide +kernel
theorem dX9_fortnight_53 : decode cX9_fortnight 53 = .ok (.ireturn, 1) := by decide +kernel
theorem dX9_fortnight_54 : decode cX9_fortnight 54 = .ok (.iload_n 2, 1) := by decide +kernel
theorem dX9_fortnight_55 : decode cX9_fortnight 55 = .ok (.iconst 1, 1) := by decide +kernel
theorem dX9_fortnight_56 : decode cX9_fortnight 56 = .ok (.if_icmp .ne 18, 3) := by decide +kernel
theorem dX9_fortnight_59 : decode cX9_fortnight 59 = .ok (.aload_n 0, 1) := by decide +kernel
theorem dX9_fortnight_60 : decode cX9_fortnight 60 = .ok (.iload_n 1, 1) := by decide +kernel
theorem dX9_fortnight_61 : decode cX9_fortnight 61 = .ok (.aload_n 0, 1) := by decide +kernel
theorem dX9_fortnight_62 : decode cX9_fortnight 62 = .ok (.getfield 40, 3) := by decide +kernel
theorem dX9_fortnight_65 : decode cX9_fortnight 65 = .ok (.iload_n 1, 1) := by decide +kernel
theorem dX9_fortnight_66 : decode cX9_fortnight 66 = .ok (.iaload, 1) := by decide +kernel
theorem dX9_fortnight_67 : decode cX9_fortnight 67 = .ok (.invokevirtual 315, 3) := by decide +kernel
theorem dX9_fortnight_70 : decode cX9_fortnight 70 = .ok (.invokestatic 318, 3) := by decide +kernel
theorem dX9_fortnight_73 : decode cX9_fortnight 73 = .ok (.ireturn, 1) := by decide +kernel
theorem dX9_fortnight_74 : decode cX9_fortnight 74 = .ok (.iconst 0, 1) := by decide +kernel
theorem dX9_fortnight_75 : decode cX9_fortnight 75 = .ok (.istore 4, 2) := by decide +kernel
theorem dX9_fortnight_77 : decode cX9_fortnight 77 = .ok (.iload 4, 2) := by decide +kernel
theorem dX9_fortnight_79 : decode cX9_fortnight 79 = .ok (.bipush 99, 2) := by decide +kernel
theorem dX9_fortnight_81 : decode cX9_fortnight 81 = .ok (.if_icmp .gt 22, 3) := by decide +kernel
theorem dX9_fortnight_84 : decode cX9_fortnight 84 = .ok (.aload_n 0, 1) := by decide +kernel
theorem dX9_fortnight_85 : decode cX9_fortnight 85 = .ok (.iload_n 1, 1) := by decide +kernel
theorem dX9_fortnight_86 : decode cX9_fortnight 86 = .ok (.iload 4, 2) := by decide +kernel
theorem dX9_fortnight_88 : decode cX9_fortnight 88 = .ok (.invokevirtual 315, 3) := by decide +kernel
theorem dX9_fortnight_91 : decode cX9_fortnight 91 = .ok (.ifCond .ne 6, 3) := by decide +kernel
theorem dX9_fortnight_94 : decode cX9_fortnight 94 = .ok (.iload 4, 2) := by decide +kernel
theorem dX9_fortnight_96 : decode cX9_fortnight 96 = .ok (.ireturn, 1) := by decide +kernel
theorem dX9_fortnight_97 : decode cX9_fortnight 97 = .ok (.iinc 4 1, 3) := by decide +kernel
theorem dX9_fortnight_100 : decode cX9_fortnight 100 = .ok (.goto (-23), 3) := by decide +kernel
theorem dX9_fortnight_103 : decode cX9_fortnight 103 = .ok (.bipush (-9), 2) := by decide +kernel
theorem dX9_fortnight_105 : decode cX9_fortnight 105 = .ok (.ireturn, 1) := by decide +kernel
theorem dX9_isGood_0 : decode cX9_isGood 0 = .ok (.aload_n 0, 1) := by decide +kernel
theorem dX9_isGood_1 : decode cX9_isGood 1 = .ok (.iload_n 1, 1) := by decide +kernel
theorem dX9_isGood_2 : decode cX9_isGood 2 = .ok (.iload_n 2, 1) := by decide +kernel
theorem dX9_isGood_3 : decode cX9_isGood 3 = .ok (.iload_n 3, 1) := by decide +kernel
theorem dX9_isGood_4 : decode cX9_isGood 4 = .ok (.invokevirtual 218, 3) := by decide +kernel
theorem dX9_isGood_7 : decode cX9_isGood 7 = .ok (.ifCond .ne 23, 3) := by decide +kernel
theorem dX9_isGood_10 : decode cX9_isGood 10 = .ok (.aload_n 0, 1) := by decide +kernel
theorem dX9_isGood_11 : decode cX9_isGood 11 = .ok (.iload_n 1, 1) := by decide +kernel
theorem dX9_isGood_12 : decode cX9_isGood 12 = .ok (.iload_n 2, 1) := by decide +kernel
theorem dX9_isGood_13 : decode cX9_isGood 13 = .ok (.iload_n 3, 1) := by decide +kernel
theorem dX9_isGood_14 : decode cX9_isGood 14 = .ok (.invokevirtual 224, 3) := by decide +kernel
theorem dX9_isGood_17 : decode cX9_isGood 17 = .ok (.aload_n 0, 1) := by decide +kernel
theorem dX9_isGood_18 : decode cX9_isGood 18 = .ok (.getfield 46, 3) := by decide +kernel
theorem dX9_isGood_21 : decode cX9_isGood 21 = .ok (.iload_n 1, 1) := by decide +kernel
theorem dX9_isGood_22 : decode cX9_isGood 22 = .ok (.iaload, 1) := by decide +kernel
theorem dX9_isGood_23 : decode cX9_isGood 23 = .ok (.if_icmp .gt 7, 3) := by decide +kernel
theorem dX9_isGood_26 : decode cX9_isGood 26 = .ok (.iconst 1, 1) := by decide +kernel
theorem dX9_isGood_27 : decode cX9_isGood 27 = .ok (.goto 4, 3) := by decide +kernel
theorem dX9_isGood_30 : decode cX9_isGood 30 = .ok (.iconst 0, 1) := by decide +kernel
theorem dX9_isGood_31 : decode cX9_isGood 31 = .ok (.ireturn, 1) := by decide +kernel
theorem dX9_leastGood_0 : decode cX9_leastGood 0 = .ok (.iconst 0, 1) := by decide +kernel
theorem dX9_leastGood_1 : decode cX9_leastGood 1 = .ok (.istore 4, 2) := by decide +kernel
theorem dX9_leastGood_3 : decode cX9_leastGood 3 = .ok (.iload 4, 2) := by decide +kernel
theorem dX9_leastGood_5 : decode cX9_leastGood 5 = .ok (.bipush 99, 2) := by decide +kernel
theorem dX9_leastGood_7 : decode cX9_leastGood 7 = .ok (.if_icmp .gt 58, 3) := by decide +kernel
theorem dX9_leastGood_10 : decode cX9_leastGood 10 = .ok (.iconst 1, 1) := by decide +kernel
theorem dX9_leastGood_11 : decode cX9_leastGood 11 = .ok (.istore 5, 2) := by decide +kernel
theorem dX9_leastGood_13 : decode cX9_leastGood 13 = .ok (.iload_n 2, 1) := by decide +kernel
theorem dX9_leastGood_14 : decode cX9_leastGood 14 = .ok (.istore 6, 2) := by decide +kernel
theorem dX9_leastGood_16 : decode cX9_leastGood 16 = .ok (.iload 6, 2) := by decide +kernel
theorem dX9_leastGood_18 : decode cX9_leastGood 18 = .ok (.iload_n 3, 1) := by decide +kernel
theorem dX9_leastGood_19 : decode cX9_leastGood 19 = .ok (.if_icmp .ge 32, 3) := by decide +kernel
theorem dX9_leastGood_22 : decode cX9_leastGood 22 = .ok (.iload 6, 2) := by decide +kernel
theorem dX9_leastGood_24 : decode cX9_leastGood 24 = .ok (.bipush 12, 2) := by decide +kernel
theorem dX9_leastGood_26 : decode cX9_leastGood 26 = .ok (.if_icmp .ge 25, 3) := by decide +kernel
theorem dX9_leastGood_29 : decode cX9_leastGood 29 = .ok (.iload 5, 2) := by decide +kernel
theorem dX9_leastGood_31 : decode cX9_leastGood 31 = .ok (.ifCond .eq 20, 3) := by decide +kernel
theorem dX9_leastGood_34 : decode cX9_leastGood 34 = .ok (.aload_n 0, 1) := by decide +kernel
theorem dX9_leastGood_35 : decode cX9_leastGood 35 = .ok (.iload_n 1, 1) := by decide +kernel
theorem dX9_leastGood_36 : decode cX9_leastGood 36 = .ok (.iload 6, 2) := by decide +kernel
theorem dX9_leastGood_38 : decode cX9_leastGood 38 = .ok (.iload 4, 2) := by decide +kernel
theorem dX9_leastGood_40 : decode cX9_leastGood 40 = .ok (.invokevirtual 321, 3) := by decide +kernel
theorem dX9_leastGood_43 : decode cX9_leastGood 43 = .ok (.istore 5, 2) := by decide +kernel
theorem dX9_leastGood_45 : decode cX9_leastGood 45 = .ok (.iinc 6 1, 3) := by decide +kernel
theorem dX9_leastGood_48 : decode cX9_leastGood 48 = .ok (.goto (-32), 3) := by decide +kernel
theorem dX9_leastGood_51 : decode cX9_leastGood 51 = .ok (.iload 5, 2) := by decide +kernel
theorem dX9_leastGood_53 : decode cX9_leastGood 53 = .ok (.ifCond .eq 6, 3) := by decide +kernel
theorem dX9_leastGood_56 : decode cX9_leastGood 56 = .ok (.iload 4, 2) := by decide +kernel
theorem dX9_leastGood_58 : decode cX9_leastGood 58 = .ok (.ireturn, 1) := by decide +kernel
theorem dX9_leastGood_59 : decode cX9_leastGood 59 = .ok (.iinc 4 1, 3) := by decide +kernel
theorem dX9_leastGood_62 : decode cX9_leastGood 62 = .ok (.goto (-59), 3) := by decide +kernel
theorem dX9_leastGood_65 : decode cX9_leastGood 65 = .ok (.bipush (-9), 2) := by decide +kernel
theorem dX9_leastGood_67 : decode cX9_leastGood 67 = .ok (.ireturn, 1) := by decide +kernel
theorem dX9_watchBy_0 : decode cX9_watchBy 0 = .ok (.aload_n 0, 1) := by decide +kernel
theorem dX9_watchBy_1 : decode cX9_watchBy 1 = .ok (.iload_n 1, 1) := by decide +kernel
theorem dX9_watchBy_2 : decode cX9_watchBy 2 = .ok (.iconst 0, 1) := by decide +kernel
theorem dX9_watchBy_3 : decode cX9_watchBy 3 = .ok (.iload_n 2, 1) := by decide +kernel
theorem dX9_watchBy_4 : decode cX9_watchBy 4 = .ok (.invokevirtual 324, 3) := by decide +kernel
theorem dX9_watchBy_7 : decode cX9_watchBy 7 = .ok (.istore_n 3, 1) := by decide +kernel
theorem dX9_watchBy_8 : decode cX9_watchBy 8 = .ok (.iconst 0, 1) := by decide +kernel
theorem dX9_watchBy_9 : decode cX9_watchBy 9 = .ok (.istore 4, 2) := by decide +kernel
theorem dX9_watchBy_11 : decode cX9_watchBy 11 = .ok (.iload_n 2, 1) := by decide +kernel
theorem dX9_watchBy_12 : decode cX9_watchBy 12 = .ok (.istore 5, 2) := by decide +kernel
theorem dX9_watchBy_14 : decode cX9_watchBy 14 = .ok (.iload 5, 2) := by decide +kernel
theorem dX9_watchBy_16 : decode cX9_watchBy 16 = .ok (.bipush 12, 2) := by decide +kernel
theorem dX9_watchBy_18 : decode cX9_watchBy 18 = .ok (.if_icmp .ge 48, 3) := by decide +kernel
theorem dX9_watchBy_21 : decode cX9_watchBy 21 = .ok (.iload_n 3, 1) := by decide +kernel
theorem dX9_watchBy_22 : decode cX9_watchBy 22 = .ok (.ifCond .lt 44, 3) := by decide +kernel
theorem dX9_watchBy_25 : decode cX9_watchBy 25 = .ok (.aload_n 0, 1) := by decide +kernel
theorem dX9_watchBy_26 : decode cX9_watchBy 26 = .ok (.iload_n 1, 1) := by decide +kernel
theorem dX9_watchBy_27 : decode cX9_watchBy 27 = .ok (.iload 5, 2) := by decide +kernel
theorem dX9_watchBy_29 : decode cX9_watchBy 29 = .ok (.iload 5, 2) := by decide +kernel
theorem dX9_watchBy_31 : decode cX9_watchBy 31 = .ok (.iload_n 2, 1) := by decide +kernel
theorem dX9_watchBy_32 : decode cX9_watchBy 32 = .ok (.iadd, 1) := by decide +kernel
theorem dX9_watchBy_33 : decode cX9_watchBy 33 = .ok (.invokevirtual 324, 3) := by decide +kernel
theorem dX9_watchBy_36 : decode cX9_watchBy 36 = .ok (.istore 6, 2) := by decide +kernel
theorem dX9_watchBy_38 : decode cX9_watchBy 38 = .ok (.iload 4, 2) := by decide +kernel
theorem dX9_watchBy_40 : decode cX9_watchBy 40 = .ok (.iload 6, 2) := by decide +kernel
theorem dX9_watchBy_42 : decode cX9_watchBy 42 = .ok (.iload_n 3, 1) := by decide +kernel
theorem dX9_watchBy_43 : decode cX9_watchBy 43 = .ok (.if_icmp .eq 7, 3) := by decide +kernel
theorem dX9_watchBy_46 : decode cX9_watchBy 46 = .ok (.iconst 1, 1) := by decide +kernel
theorem dX9_watchBy_47 : decode cX9_watchBy 47 = .ok (.goto 4, 3) := by decide +kernel
theorem dX9_watchBy_50 : decode cX9_watchBy 50 = .ok (.iconst 0, 1) := by decide +kernel
theorem dX9_watchBy_51 : decode cX9_watchBy 51 = .ok (.iadd, 1) := by decide +kernel
theorem dX9_watchBy_52 : decode cX9_watchBy 52 = .ok (.istore 4, 2) := by decide +kernel
theorem dX9_watchBy_54 : decode cX9_watchBy 54 = .ok (.iload 6, 2) := by decide +kernel
theorem dX9_watchBy_56 : decode cX9_watchBy 56 = .ok (.istore_n 3, 1) := by decide +kernel
theorem dX9_watchBy_57 : decode cX9_watchBy 57 = .ok (.iload 5, 2) := by decide +kernel
theorem dX9_watchBy_59 : decode cX9_watchBy 59 = .ok (.iload_n 2, 1) := by decide +kernel
theorem dX9_watchBy_60 : decode cX9_watchBy 60 = .ok (.iadd, 1) := by decide +kernel
theorem dX9_watchBy_61 : decode cX9_watchBy 61 = .ok (.istore 5, 2) := by decide +kernel
theorem dX9_watchBy_63 : decode cX9_watchBy 63 = .ok (.goto (-49), 3) := by decide +kernel
theorem dX9_watchBy_66 : decode cX9_watchBy 66 = .ok (.iload_n 3, 1) := by decide +kernel
theorem dX9_watchBy_67 : decode cX9_watchBy 67 = .ok (.ifCond .ge 8, 3) := by decide +kernel
theorem dX9_watchBy_70 : decode cX9_watchBy 70 = .ok (.bipush (-9), 2) := by decide +kernel
theorem dX9_watchBy_72 : decode cX9_watchBy 72 = .ok (.goto 5, 3) := by decide +kernel
theorem dX9_watchBy_75 : decode cX9_watchBy 75 = .ok (.iload 4, 2) := by decide +kernel
theorem dX9_watchBy_77 : decode cX9_watchBy 77 = .ok (.ireturn, 1) := by decide +kernel
theorem dX9_watch_0 : decode cX9_watch 0 = .ok (.aload_n 0, 1) := by decide +kernel
theorem dX9_watch_1 : decode cX9_watch 1 = .ok (.iload_n 1, 1) := by decide +kernel
theorem dX9_watch_2 : decode cX9_watch 2 = .ok (.invokevirtual 168, 3) := by decide +kernel
theorem dX9_watch_5 : decode cX9_watch 5 = .ok (.ifCond .ne 7, 3) := by decide +kernel
theorem dX9_watch_8 : decode cX9_watch 8 = .ok (.iconst (-1), 1) := by decide +kernel
theorem dX9_watch_9 : decode cX9_watch 9 = .ok (.goto 10, 3) := by decide +kernel
theorem dX9_watch_12 : decode cX9_watch 12 = .ok (.iload_n 2, 1) := by decide +kernel
theorem dX9_watch_13 : decode cX9_watch 13 = .ok (.iconst 1, 1) := by decide +kernel
theorem dX9_watch_14 : decode cX9_watch 14 = .ok (.bipush 6, 2) := by decide +kernel
theorem dX9_watch_16 : decode cX9_watch 16 = .ok (.invokestatic 117, 3) := by decide +kernel
theorem dX9_watch_19 : decode cX9_watch 19 = .ok (.istore_n 3, 1) := by decide +kernel
theorem dX9_watch_20 : decode cX9_watch 20 = .ok (.iload_n 3, 1) := by decide +kernel
theorem dX9_watch_21 : decode cX9_watch 21 = .ok (.ifCond .eq 11, 3) := by decide +kernel
theorem dX9_watch_24 : decode cX9_watch 24 = .ok (.aload_n 0, 1) := by decide +kernel
theorem dX9_watch_25 : decode cX9_watch 25 = .ok (.iload_n 3, 1) := by decide +kernel
theorem dX9_watch_26 : decode cX9_watch 26 = .ok (.invokevirtual 124, 3) := by decide +kernel
theorem dX9_watch_29 : decode cX9_watch 29 = .ok (.goto 9, 3) := by decide +kernel
theorem dX9_watch_32 : decode cX9_watch 32 = .ok (.aload_n 0, 1) := by decide +kernel
theorem dX9_watch_33 : decode cX9_watch 33 = .ok (.iload_n 1, 1) := by decide +kernel
theorem dX9_watch_34 : decode cX9_watch 34 = .ok (.iload_n 2, 1) := by decide +kernel
theorem dX9_watch_35 : decode cX9_watch 35 = .ok (.invokevirtual 327, 3) := by decide +kernel
theorem dX9_watch_38 : decode cX9_watch 38 = .ok (.ireturn, 1) := by decide +kernel
theorem dX9_seldom_0 : decode cX9_seldom 0 = .ok (.aload_n 0, 1) := by decide +kernel
theorem dX9_seldom_1 : decode cX9_seldom 1 = .ok (.iload_n 1, 1) := by decide +kernel
theorem dX9_seldom_2 : decode cX9_seldom 2 = .ok (.invokevirtual 168, 3) := by decide +kernel
theorem dX9_seldom_5 : decode cX9_seldom 5 = .ok (.ifCond .ne 9, 3) := by decide +kernel
theorem dX9_seldom_8 : decode cX9_seldom 8 = .ok (.aload_n 0, 1) := by decide +kernel
theorem dX9_seldom_9 : decode cX9_seldom 9 = .ok (.iconst (-1), 1) := by decide +kernel
theorem dX9_seldom_10 : decode cX9_seldom 10 = .ok (.invokevirtual 124, 3) := by decide +kernel
theorem dX9_seldom_13 : decode cX9_seldom 13 = .ok (.ireturn, 1) := by decide +kernel
theorem dX9_seldom_14 : decode cX9_seldom 14 = .ok (.bipush 6, 2) := by decide +kernel
theorem dX9_seldom_16 : decode cX9_seldom 16 = .ok (.istore_n 2, 1) := by decide +kernel
theorem dX9_seldom_17 : decode cX9_seldom 17 = .ok (.iload_n 2, 1) := by decide +kernel
theorem dX9_seldom_18 : decode cX9_seldom 18 = .ok (.ifCond .le 20, 3) := by decide +kernel
theorem dX9_seldom_21 : decode cX9_seldom 21 = .ok (.aload_n 0, 1) := by decide +kernel
theorem dX9_seldom_22 : decode cX9_seldom 22 = .ok (.iload_n 1, 1) := by decide +kernel
theorem dX9_seldom_23 : decode cX9_seldom 23 = .ok (.iload_n 2, 1) := by decide +kernel
theorem dX9_seldom_24 : decode cX9_seldom 24 = .ok (.invokevirtual 327, 3) := by decide +kernel
theorem dX9_seldom_27 : decode cX9_seldom 27 = .ok (.ifCond .lt 5, 3) := by decide +kernel
theorem dX9_seldom_30 : decode cX9_seldom 30 = .ok (.iload_n 2, 1) := by decide +kernel
theorem dX9_seldom_31 : decode cX9_seldom 31 = .ok (.ireturn, 1) := by decide +kernel
theorem dX9_seldom_32 : decode cX9_seldom 32 = .ok (.iinc 2 (-1), 3) := by decide +kernel
theorem dX9_seldom_35 : decode cX9_seldom 35 = .ok (.goto (-18), 3) := by decide +kernel
theorem dX9_seldom_38 : decode cX9_seldom 38 = .ok (.bipush (-9), 2) := by decide +kernel
theorem dX9_seldom_40 : decode cX9_seldom 40 = .ok (.ireturn, 1) := by decide +kernel
theorem dX9_findGoodMost_0 : decode cX9_findGoodMost 0 = .ok (.iconst 0, 1) := by decide +kernel
theorem dX9_findGoodMost_1 : decode cX9_findGoodMost 1 = .ok (.istore_n 2, 1) := by decide +kernel
theorem dX9_findGoodMost_2 : decode cX9_findGoodMost 2 = .ok (.iload_n 2, 1) := by decide +kernel
theorem dX9_findGoodMost_3 : decode cX9_findGoodMost 3 = .ok (.aload_n 0, 1) := by decide +kernel
theorem dX9_findGoodMost_4 : decode cX9_findGoodMost 4 = .ok (.getfield 97, 3) := by decide +kernel
theorem dX9_findGoodMost_7 : decode cX9_findGoodMost 7 = .ok (.arraylength, 1) := by decide +kernel
theorem dX9_findGoodMost_8 : decode cX9_findGoodMost 8 = .ok (.if_icmp .ge 16, 3) := by decide +kernel
theorem dX9_findGoodMost_11 : decode cX9_findGoodMost 11 = .ok (.aload_n 0, 1) := by decide +kernel
theorem dX9_findGoodMost_12 : decode cX9_findGoodMost 12 = .ok (.getfield 97, 3) := by decide +kernel
theorem dX9_findGoodMost_15 : decode cX9_findGoodMost 15 = .ok (.iload_n 2, 1) := by decide +kernel
theorem dX9_findGoodMost_16 : decode cX9_findGoodMost 16 = .ok (.iconst 0, 1) := by decide +kernel
theorem dX9_findGoodMost_17 : decode cX9_findGoodMost 17 = .ok (.iastore, 1) := by decide +kernel
theorem dX9_findGoodMost_18 : decode cX9_findGoodMost 18 = .ok (.iinc 2 1, 3) := by decide +kernel
theorem dX9_findGoodMost_21 : decode cX9_findGoodMost 21 = .ok (.goto (-19), 3) := by decide +kernel
theorem dX9_findGoodMost_24 : decode cX9_findGoodMost 24 = .ok (.iconst 0, 1) := by decide +kernel
theorem dX9_findGoodMost_25 : decode cX9_findGoodMost 25 = .ok (.istore_n 2, 1) := by decide +kernel
theorem dX9_findGoodMost_26 : decode cX9_findGoodMost 26 = .ok (.iload_n 2, 1) := by decide +kernel
theorem dX9_findGoodMost_27 : decode cX9_findGoodMost 27 = .ok (.sipush 1200, 3) := by decide +kernel
theorem dX9_findGoodMost_30 : decode cX9_findGoodMost 30 = .ok (.if_icmp .ge 103, 3) := by decide +kernel
theorem dX9_findGoodMost_33 : decode cX9_findGoodMost 33 = .ok (.iload_n 2, 1) := by decide +kernel
theorem dX9_findGoodMost_34 : decode cX9_findGoodMost 34 = .ok (.bipush 12, 2) := by decide +kernel
theorem dX9_findGoodMost_36 : decode cX9_findGoodMost 36 = .ok (.irem, 1) := by decide +kernel
theorem dX9_findGoodMost_37 : decode cX9_findGoodMost 37 = .ok (.istore_n 3, 1) := by decide +kernel
theorem dX9_findGoodMost_38 : decode cX9_findGoodMost 38 = .ok (.iconst 0, 1) := by decide +kernel
theorem dX9_findGoodMost_39 : decode cX9_findGoodMost 39 = .ok (.istore 4, 2) := by decide +kernel
theorem dX9_findGoodMost_41 : decode cX9_findGoodMost 41 = .ok (.iload_n 3, 1) := by decide +kernel
theorem dX9_findGoodMost_42 : decode cX9_findGoodMost 42 = .ok (.istore 5, 2) := by decide +kernel
theorem dX9_findGoodMost_44 : decode cX9_findGoodMost 44 = .ok (.iload 5, 2) := by decide +kernel
theorem dX9_findGoodMost_46 : decode cX9_findGoodMost 46 = .ok (.bipush 12, 2) := by decide +kernel
theorem dX9_findGoodMost_48 : decode cX9_findGoodMost 48 = .ok (.if_icmp .ge 79, 3) := by decide +kernel
theorem dX9_findGoodMost_51 : decode cX9_findGoodMost 51 = .ok (.iload 4, 2) := by decide +kernel
theorem dX9_findGoodMost_53 : decode cX9_findGoodMost 53 = .ok (.aload_n 0, 1) := by decide +kernel
theorem dX9_findGoodMost_54 : decode cX9_findGoodMost 54 = .ok (.iload_n 1, 1) := by decide +kernel
theorem dX9_findGoodMost_55 : decode cX9_findGoodMost 55 = .ok (.iload 5, 2) := by decide +kernel
theorem dX9_findGoodMost_57 : decode cX9_findGoodMost 57 = .ok (.iload_n 2, 1) := by decide +kernel
theorem dX9_findGoodMost_58 : decode cX9_findGoodMost 58 = .ok (.bipush 12, 2) := by decide +kernel
theorem dX9_findGoodMost_60 : decode cX9_findGoodMost 60 = .ok (.idiv, 1) := by decide +kernel
theorem dX9_findGoodMost_61 : decode cX9_findGoodMost 61 = .ok (.invokevirtual 321, 3) := by decide +kernel
theorem dX9_findGoodMost_64 : decode cX9_findGoodMost 64 = .ok (.ifCond .eq 7, 3) := by decide +kernel
theorem dX9_findGoodMost_67 : decode cX9_findGoodMost 67 = .ok (.iconst 1, 1) := by decide +kernel
theorem dX9_findGoodMost_68 : decode cX9_findGoodMost 68 = .ok (.goto 4, 3) := by decide +kernel
theorem dX9_findGoodMost_71 : decode cX9_findGoodMost 71 = .ok (.iconst 0, 1) := by decide +kernel
theorem dX9_findGoodMost_72 : decode cX9_findGoodMost 72 = .ok (.iadd, 1) := by decide +kernel
theorem dX9_findGoodMost_73 : decode cX9_findGoodMost 73 = .ok (.istore 4, 2) := by decide +kernel
theorem dX9_findGoodMost_75 : decode cX9_findGoodMost 75 = .ok (.aload_n 0, 1) := by decide +kernel
theorem dX9_findGoodMost_76 : decode cX9_findGoodMost 76 = .ok (.getfield 97, 3) := by decide +kernel
theorem dX9_findGoodMost_79 : decode cX9_findGoodMost 79 = .ok (.bipush 12, 2) := by decide +kernel
theorem dX9_findGoodMost_81 : decode cX9_findGoodMost 81 = .ok (.iload_n 3, 1) := by decide +kernel
theorem dX9_findGoodMost_82 : decode cX9_findGoodMost 82 = .ok (.imul, 1) := by decide +kernel
theorem dX9_findGoodMost_83 : decode cX9_findGoodMost 83 = .ok (.iload 5, 2) := by decide +kernel
theorem dX9_findGoodMost_85 : decode cX9_findGoodMost 85 = .ok (.iadd, 1) := by decide +kernel
theorem dX9_findGoodMost_86 : decode cX9_findGoodMost 86 = .ok (.iload 4, 2) := by decide +kernel
theorem dX9_findGoodMost_88 : decode cX9_findGoodMost 88 = .ok (.aload_n 0, 1) := by decide +kernel
theorem dX9_findGoodMost_89 : decode cX9_findGoodMost 89 = .ok (.getfield 97, 3) := by decide +kernel
theorem dX9_findGoodMost_92 : decode cX9_findGoodMost 92 = .ok (.bipush 12, 2) := by decide +kernel
theorem dX9_findGoodMost_94 : decode cX9_findGoodMost 94 = .ok (.iload_n 3, 1) := by decide +kernel
theorem dX9_findGoodMost_95 : decode cX9_findGoodMost 95 = .ok (.imul, 1) := by decide +kernel
theorem dX9_findGoodMost_96 : decode cX9_findGoodMost 96 = .ok (.iload 5, 2) := by decide +kernel
theorem dX9_findGoodMost_98 : decode cX9_findGoodMost 98 = .ok (.iadd, 1) := by decide +kernel
theorem dX9_findGoodMost_99 : decode cX9_findGoodMost 99 = .ok (.iaload, 1) := by decide +kernel
theorem dX9_findGoodMost_100 : decode cX9_findGoodMost 100 = .ok (.if_icmp .le 8, 3) := by decide +kernel
theorem dX9_findGoodMost_103 : decode cX9_findGoodMost 103 = .ok (.iload 4, 2) := by decide +kernel
theorem dX9_findGoodMost_105 : decode cX9_findGoodMost 105 = .ok (.goto 15, 3) := by decide +kernel
theorem dX9_findGoodMost_108 : decode cX9_findGoodMost 108 = .ok (.aload_n 0, 1) := by decide +kernel
theorem dX9_findGoodMost_109 : decode cX9_findGoodMost 109 = .ok (.getfield 97, 3) := by decide +kernel
theorem dX9_findGoodMost_112 : decode cX9_findGoodMost 112 = .ok (.bipush 12, 2) := by decide +kernel
theorem dX9_findGoodMost_114 : decode cX9_findGoodMost 114 = .ok (.iload_n 3, 1) := by decide +kernel
theorem dX9_findGoodMost_115 : decode cX9_findGoodMost 115 = .ok (.imul, 1) := by decide +kernel
theorem dX9_findGoodMost_116 : decode cX9_findGoodMost 116 = .ok (.iload 5, 2) := by decide +kernel
theorem dX9_findGoodMost_118 : decode cX9_findGoodMost 118 = .ok (.iadd, 1) := by decide +kernel
theorem dX9_findGoodMost_119 : decode cX9_findGoodMost 119 = .ok (.iaload, 1) := by decide +kernel
theorem dX9_findGoodMost_120 : decode cX9_findGoodMost 120 = .ok (.iastore, 1) := by decide +kernel
theorem dX9_findGoodMost_121 : decode cX9_findGoodMost 121 = .ok (.iinc 5 1, 3) := by decide +kernel
theorem dX9_findGoodMost_124 : decode cX9_findGoodMost 124 = .ok (.goto (-80), 3) := by decide +kernel
theorem dX9_findGoodMost_127 : decode cX9_findGoodMost 127 = .ok (.iinc 2 1, 3) := by decide +kernel
theorem dX9_findGoodMost_130 : decode cX9_findGoodMost 130 = .ok (.goto (-104), 3) := by decide +kernel
theorem dX9_findGoodMost_133 : decode cX9_findGoodMost 133 = .ok (.return_, 1) := by decide +kernel
theorem dX9_mostTill_0 : decode cX9_mostTill 0 = .ok (.iconst 0, 1) := by decide +kernel
theorem dX9_mostTill_1 : decode cX9_mostTill 1 = .ok (.istore_n 3, 1) := by decide +kernel
theorem dX9_mostTill_2 : decode cX9_mostTill 2 = .ok (.iconst 0, 1) := by decide +kernel
theorem dX9_mostTill_3 : decode cX9_mostTill 3 = .ok (.istore 4, 2) := by decide +kernel
theorem dX9_mostTill_5 : decode cX9_mostTill 5 = .ok (.iload 4, 2) := by decide +kernel
theorem dX9_mostTill_7 : decode cX9_mostTill 7 = .ok (.iload_n 1, 1) := by decide +kernel
theorem dX9_mostTill_8 : decode cX9_mostTill 8 = .ok (.if_icmp .ge 75, 3) := by decide +kernel
theorem dX9_mostTill_11 : decode cX9_mostTill 11 = .ok (.iload 4, 2) := by decide +kernel
theorem dX9_mostTill_13 : decode cX9_mostTill 13 = .ok (.ifCond .ne 7, 3) := by decide +kernel
theorem dX9_mostTill_16 : decode cX9_mostTill 16 = .ok (.iconst 0, 1) := by decide +kernel
theorem dX9_mostTill_17 : decode cX9_mostTill 17 = .ok (.goto 26, 3) := by decide +kernel
theorem dX9_mostTill_20 : decode cX9_mostTill 20 = .ok (.iload_n 2, 1) := by decide +kernel
theorem dX9_mostTill_21 : decode cX9_mostTill 21 = .ok (.ifCond .ne 8, 3) := by decide +kernel
theorem dX9_mostTill_24 : decode cX9_mostTill 24 = .ok (.bipush (-99), 2) := by decide +kernel
theorem dX9_mostTill_26 : decode cX9_mostTill 26 = .ok (.goto 17, 3) := by decide +kernel
theorem dX9_mostTill_29 : decode cX9_mostTill 29 = .ok (.aload_n 0, 1) := by decide +kernel
theorem dX9_mostTill_30 : decode cX9_mostTill 30 = .ok (.getfield 100, 3) := by decide +kernel
theorem dX9_mostTill_33 : decode cX9_mostTill 33 = .ok (.bipush 13, 2) := by decide +kernel
theorem dX9_mostTill_35 : decode cX9_mostTill 35 = .ok (.iload_n 2, 1) := by decide +kernel
theorem dX9_mostTill_36 : decode cX9_mostTill 36 = .ok (.iconst 1, 1) := by decide +kernel
theorem dX9_mostTill_37 : decode cX9_mostTill 37 = .ok (.isub, 1) := by decide +kernel
theorem dX9_mostTill_38 : decode cX9_mostTill 38 = .ok (.imul, 1) := by decide +kernel
theorem dX9_mostTill_39 : decode cX9_mostTill 39 = .ok (.iload 4, 2) := by decide +kernel
theorem dX9_mostTill_41 : decode cX9_mostTill 41 = .ok (.iadd, 1) := by decide +kernel
theorem dX9_mostTill_42 : decode cX9_mostTill 42 = .ok (.iaload, 1) := by decide +kernel
theorem dX9_mostTill_43 : decode cX9_mostTill 43 = .ok (.istore 5, 2) := by decide +kernel
theorem dX9_mostTill_45 : decode cX9_mostTill 45 = .ok (.iload 5, 2) := by decide +kernel
theorem dX9_mostTill_47 : decode cX9_mostTill 47 = .ok (.aload_n 0, 1) := by decide +kernel
theorem dX9_mostTill_48 : decode cX9_mostTill 48 = .ok (.getfield 97, 3) := by decide +kernel
theorem dX9_mostTill_51 : decode cX9_mostTill 51 = .ok (.bipush 12, 2) := by decide +kernel
theorem dX9_mostTill_53 : decode cX9_mostTill 53 = .ok (.iload 4, 2) := by decide +kernel
theorem dX9_mostTill_55 : decode cX9_mostTill 55 = .ok (.imul, 1) := by decide +kernel
theorem dX9_mostTill_56 : decode cX9_mostTill 56 = .ok (.iload_n 1, 1) := by decide +kernel
theorem dX9_mostTill_57 : decode cX9_mostTill 57 = .ok (.iadd, 1) := by decide +kernel
theorem dX9_mostTill_58 : decode cX9_mostTill 58 = .ok (.iconst 1, 1) := by decide +kernel
theorem dX9_mostTill_59 : decode cX9_mostTill 59 = .ok (.isub, 1) := by decide +kernel
theorem dX9_mostTill_60 : decode cX9_mostTill 60 = .ok (.iaload, 1) := by decide +kernel
theorem dX9_mostTill_61 : decode cX9_mostTill 61 = .ok (.iadd, 1) := by decide +kernel
theorem dX9_mostTill_62 : decode cX9_mostTill 62 = .ok (.istore 6, 2) := by decide +kernel
theorem dX9_mostTill_64 : decode cX9_mostTill 64 = .ok (.iload 6, 2) := by decide +kernel
theorem dX9_mostTill_66 : decode cX9_mostTill 66 = .ok (.iload_n 3, 1) := by decide +kernel
theorem dX9_mostTill_67 : decode cX9_mostTill 67 = .ok (.if_icmp .le 8, 3) := by decide +kernel
theorem dX9_mostTill_70 : decode cX9_mostTill 70 = .ok (.iload 6, 2) := by decide +kernel
theorem dX9_mostTill_72 : decode cX9_mostTill 72 = .ok (.goto 4, 3) := by decide +kernel
theorem dX9_mostTill_75 : decode cX9_mostTill 75 = .ok (.iload_n 3, 1) := by decide +kernel
theorem dX9_mostTill_76 : decode cX9_mostTill 76 = .ok (.istore_n 3, 1) := by decide +kernel
theorem dX9_mostTill_77 : decode cX9_mostTill 77 = .ok (.iinc 4 1, 3) := by decide +kernel
theorem dX9_mostTill_80 : decode cX9_mostTill 80 = .ok (.goto (-75), 3) := by decide +kernel
theorem dX9_mostTill_83 : decode cX9_mostTill 83 = .ok (.iload_n 3, 1) := by decide +kernel
theorem dX9_mostTill_84 : decode cX9_mostTill 84 = .ok (.ireturn, 1) := by decide +kernel
theorem dX9_wake_0 : decode cX9_wake 0 = .ok (.aload_n 0, 1) := by decide +kernel
theorem dX9_wake_1 : decode cX9_wake 1 = .ok (.iload_n 1, 1) := by decide +kernel
theorem dX9_wake_2 : decode cX9_wake 2 = .ok (.invokevirtual 168, 3) := by decide +kernel
theorem dX9_wake_5 : decode cX9_wake 5 = .ok (.ifCond .ne 7, 3) := by decide +kernel
theorem dX9_wake_8 : decode cX9_wake 8 = .ok (.iconst (-1), 1) := by decide +kernel
theorem dX9_wake_9 : decode cX9_wake 9 = .ok (.goto 9, 3) := by decide +kernel
theorem dX9_wake_12 : decode cX9_wake 12 = .ok (.iload_n 2, 1) := by decide +kernel
theorem dX9_wake_13 : decode cX9_wake 13 = .ok (.iconst 0, 1) := by decide +kernel
theorem dX9_wake_14 : decode cX9_wake 14 = .ok (.iconst 3, 1) := by decide +kernel
theorem dX9_wake_15 : decode cX9_wake 15 = .ok (.invokestatic 117, 3) := by decide +kernel
theorem dX9_wake_18 : decode cX9_wake 18 = .ok (.istore_n 3, 1) := by decide +kernel
theorem dX9_wake_19 : decode cX9_wake 19 = .ok (.iload_n 3, 1) := by decide +kernel
theorem dX9_wake_20 : decode cX9_wake 20 = .ok (.ifCond .eq 9, 3) := by decide +kernel
theorem dX9_wake_23 : decode cX9_wake 23 = .ok (.aload_n 0, 1) := by decide +kernel
theorem dX9_wake_24 : decode cX9_wake 24 = .ok (.iload_n 3, 1) := by decide +kernel
theorem dX9_wake_25 : decode cX9_wake 25 = .ok (.invokevirtual 124, 3) := by decide +kernel
theorem dX9_wake_28 : decode cX9_wake 28 = .ok (.ireturn, 1) := by decide +kernel
theorem dX9_wake_29 : decode cX9_wake 29 = .ok (.aload_n 0, 1) := by decide +kernel
theorem dX9_wake_30 : decode cX9_wake 30 = .ok (.iload_n 1, 1) := by decide +kernel
theorem dX9_wake_31 : decode cX9_wake 31 = .ok (.invokevirtual 330, 3) := by decide +kernel
theorem dX9_wake_34 : decode cX9_wake 34 = .ok (.iconst 0, 1) := by decide +kernel
theorem dX9_wake_35 : decode cX9_wake 35 = .ok (.istore 4, 2) := by decide +kernel
theorem dX9_wake_37 : decode cX9_wake 37 = .ok (.iload 4, 2) := by decide +kernel
theorem dX9_wake_39 : decode cX9_wake 39 = .ok (.iload_n 2, 1) := by decide +kernel
theorem dX9_wake_40 : decode cX9_wake 40 = .ok (.if_icmp .gt 46, 3) := by decide +kernel
theorem dX9_wake_43 : decode cX9_wake 43 = .ok (.iconst 0, 1) := by decide +kernel
theorem dX9_wake_44 : decode cX9_wake 44 = .ok (.istore 5, 2) := by decide +kernel
theorem dX9_wake_46 : decode cX9_wake 46 = .ok (.iload 5, 2) := by decide +kernel
theorem dX9_wake_48 : decode cX9_wake 48 = .ok (.bipush 12, 2) := by decide +kernel
theorem dX9_wake_50 : decode cX9_wake 50 = .ok (.if_icmp .gt 30, 3) := by decide +kernel
theorem dX9_wake_53 : decode cX9_wake 53 = .ok (.aload_n 0, 1) := by decide +kernel
theorem dX9_wake_54 : decode cX9_wake 54 = .ok (.getfield 100, 3) := by decide +kernel
theorem dX9_wake_57 : decode cX9_wake 57 = .ok (.bipush 13, 2) := by decide +kernel
theorem dX9_wake_59 : decode cX9_wake 59 = .ok (.iload 4, 2) := by decide +kernel
theorem dX9_wake_61 : decode cX9_wake 61 = .ok (.imul, 1) := by decide +kernel
theorem dX9_wake_62 : decode cX9_wake 62 = .ok (.iload 5, 2) := by decide +kernel
theorem dX9_wake_64 : decode cX9_wake 64 = .ok (.iadd, 1) := by decide +kernel
theorem dX9_wake_65 : decode cX9_wake 65 = .ok (.aload_n 0, 1) := by decide +kernel
theorem dX9_wake_66 : decode cX9_wake 66 = .ok (.iload 5, 2) := by decide +kernel
theorem dX9_wake_68 : decode cX9_wake 68 = .ok (.iload 4, 2) := by decide +kernel
theorem dX9_wake_70 : decode cX9_wake 70 = .ok (.invokevirtual 333, 3) := by decide +kernel
theorem dX9_wake_73 : decode cX9_wake 73 = .ok (.iastore, 1) := by decide +kernel
theorem dX9_wake_74 : decode cX9_wake 74 = .ok (.iinc 5 1, 3) := by decide +kernel
theorem dX9_wake_77 : decode cX9_wake 77 = .ok (.goto (-31), 3) := by decide +kernel
theorem dX9_wake_80 : decode cX9_wake 80 = .ok (.iinc 4 1, 3) := by decide +kernel
theorem dX9_wake_83 : decode cX9_wake 83 = .ok (.goto (-46), 3) := by decide +kernel
theorem dX9_wake_86 : decode cX9_wake 86 = .ok (.aload_n 0, 1) := by decide +kernel
theorem dX9_wake_87 : decode cX9_wake 87 = .ok (.getfield 100, 3) := by decide +kernel
theorem dX9_wake_90 : decode cX9_wake 90 = .ok (.bipush 13, 2) := by decide +kernel
theorem dX9_wake_92 : decode cX9_wake 92 = .ok (.iload_n 2, 1) := by decide +kernel
theorem dX9_wake_93 : decode cX9_wake 93 = .ok (.imul, 1) := by decide +kernel
theorem dX9_wake_94 : decode cX9_wake 94 = .ok (.bipush 12, 2) := by decide +kernel
theorem dX9_wake_96 : decode cX9_wake 96 = .ok (.iadd, 1) := by decide +kernel
theorem dX9_wake_97 : decode cX9_wake 97 = .ok (.iaload, 1) := by decide +kernel
theorem dX9_wake_98 : decode cX9_wake 98 = .ok (.ireturn, 1) := by decide +kernel
theorem dX9_isRamp_0 : decode cX9_isRamp 0 = .ok (.iload_n 1, 1) := by decide +kernel
theorem dX9_isRamp_1 : decode cX9_isRamp 1 = .ok (.ifCond .lt 15, 3) := by decide +kernel
theorem dX9_isRamp_4 : decode cX9_isRamp 4 = .ok (.iload_n 1, 1) := by decide +kernel
theorem dX9_isRamp_5 : decode cX9_isRamp 5 = .ok (.aload_n 0, 1) := by decide +kernel
theorem dX9_isRamp_6 : decode cX9_isRamp 6 = .ok (.getfield 202, 3) := by decide +kernel
theorem dX9_isRamp_9 : decode cX9_isRamp 9 = .ok (.if_icmp .ge 7, 3) := by decide +kernel
theorem dX9_isRamp_12 : decode cX9_isRamp 12 = .ok (.iconst 1, 1) := by decide +kernel
theorem dX9_isRamp_13 : decode cX9_isRamp 13 = .ok (.goto 4, 3) := by decide +kernel
theorem dX9_isRamp_16 : decode cX9_isRamp 16 = .ok (.iconst 0, 1) := by decide +kernel
theorem dX9_isRamp_17 : decode cX9_isRamp 17 = .ok (.ireturn, 1) := by decide +kernel
theorem dX9_ramp_0 : decode cX9_ramp 0 = .ok (.iload_n 1, 1) := by decide +kernel
theorem dX9_ramp_1 : decode cX9_ramp 1 = .ok (.ifCond .lt 8, 3) := by decide +kernel
theorem dX9_ramp_4 : decode cX9_ramp 4 = .ok (.iload_n 2, 1) := by decide +kernel
theorem dX9_ramp_5 : decode cX9_ramp 5 = .ok (.iconst 1, 1) := by decide +kernel
theorem dX9_ramp_6 : decode cX9_ramp 6 = .ok (.if_icmp .ge 8, 3) := by decide +kernel
theorem dX9_ramp_9 : decode cX9_ramp 9 = .ok (.bipush (-4), 2) := by decide +kernel
theorem dX9_ramp_11 : decode cX9_ramp 11 = .ok (.goto 29, 3) := by decide +kernel
theorem dX9_ramp_14 : decode cX9_ramp 14 = .ok (.iload_n 1, 1) := by decide +kernel
theorem dX9_ramp_15 : decode cX9_ramp 15 = .ok (.bipush 60, 2) := by decide +kernel
theorem dX9_ramp_17 : decode cX9_ramp 17 = .ok (.if_icmp .gt 17, 3) := by decide +kernel
theorem dX9_ramp_20 : decode cX9_ramp 20 = .ok (.iload_n 2, 1) := by decide +kernel
theorem dX9_ramp_21 : decode cX9_ramp 21 = .ok (.bipush 40, 2) := by decide +kernel
theorem dX9_ramp_23 : decode cX9_ramp 23 = .ok (.if_icmp .gt 11, 3) := by decide +kernel
theorem dX9_ramp_26 : decode cX9_ramp 26 = .ok (.aload_n 0, 1) := by decide +kernel
theorem dX9_ramp_27 : decode cX9_ramp 27 = .ok (.getfield 202, 3) := by decide +kernel
theorem dX9_ramp_30 : decode cX9_ramp 30 = .ok (.iconst 3, 1) := by decide +kernel
theorem dX9_ramp_31 : decode cX9_ramp 31 = .ok (.if_icmp .ne 8, 3) := by decide +kernel
theorem dX9_ramp_34 : decode cX9_ramp 34 = .ok (.bipush (-6), 2) := by decide +kernel
theorem dX9_ramp_36 : decode cX9_ramp 36 = .ok (.goto 4, 3) := by decide +kernel
theorem dX9_ramp_39 : decode cX9_ramp 39 = .ok (.iconst 0, 1) := by decide +kernel
theorem dX9_ramp_40 : decode cX9_ramp 40 = .ok (.istore_n 3, 1) := by decide +kernel
theorem dX9_ramp_41 : decode cX9_ramp 41 = .ok (.iload_n 3, 1) := by decide +kernel
theorem dX9_ramp_42 : decode cX9_ramp 42 = .ok (.ifCond .eq 9, 3) := by decide +kernel
theorem dX9_ramp_45 : decode cX9_ramp 45 = .ok (.aload_n 0, 1) := by decide +kernel
theorem dX9_ramp_46 : decode cX9_ramp 46 = .ok (.iload_n 3, 1) := by decide +kernel
theorem dX9_ramp_47 : decode cX9_ramp 47 = .ok (.invokevirtual 124, 3) := by decide +kernel
theorem dX9_ramp_50 : decode cX9_ramp 50 = .ok (.ireturn, 1) := by decide +kernel
theorem dX9_ramp_51 : decode cX9_ramp 51 = .ok (.aload_n 0, 1) := by decide +kernel
theorem dX9_ramp_52 : decode cX9_ramp 52 = .ok (.getfield 49, 3) := by decide +kernel
theorem dX9_ramp_55 : decode cX9_ramp 55 = .ok (.aload_n 0, 1) := by decide +kernel
theorem dX9_ramp_56 : decode cX9_ramp 56 = .ok (.getfield 202, 3) := by decide +kernel
theorem dX9_ramp_59 : decode cX9_ramp 59 = .ok (.iload_n 1, 1) := by decide +kernel
theorem dX9_ramp_60 : decode cX9_ramp 60 = .ok (.iastore, 1) := by decide +kernel
theorem dX9_ramp_61 : decode cX9_ramp 61 = .ok (.aload_n 0, 1) := by decide +kernel
theorem dX9_ramp_62 : decode cX9_ramp 62 = .ok (.getfield 52, 3) := by decide +kernel
theorem dX9_ramp_65 : decode cX9_ramp 65 = .ok (.aload_n 0, 1) := by decide +kernel
theorem dX9_ramp_66 : decode cX9_ramp 66 = .ok (.getfield 202, 3) := by decide +kernel
theorem dX9_ramp_69 : decode cX9_ramp 69 = .ok (.iload_n 2, 1) := by decide +kernel
theorem dX9_ramp_70 : decode cX9_ramp 70 = .ok (.iastore, 1) := by decide +kernel
theorem dX9_ramp_71 : decode cX9_ramp 71 = .ok (.aload_n 0, 1) := by decide +kernel
theorem dX9_ramp_72 : decode cX9_ramp 72 = .ok (.dup, 1) := by decide +kernel
theorem dX9_ramp_73 : decode cX9_ramp 73 = .ok (.getfield 202, 3) := by decide +kernel
theorem dX9_ramp_76 : decode cX9_ramp 76 = .ok (.iconst 1, 1) := by decide +kernel
theorem dX9_ramp_77 : decode cX9_ramp 77 = .ok (.iadd, 1) := by decide +kernel
theorem dX9_ramp_78 : decode cX9_ramp 78 = .ok (.putfield 202, 3) := by decide +kernel
theorem dX9_ramp_81 : decode cX9_ramp 81 = .ok (.aload_n 0, 1) := by decide +kernel
theorem dX9_ramp_82 : decode cX9_ramp 82 = .ok (.getfield 202, 3) := by decide +kernel
theorem dX9_ramp_85 : decode cX9_ramp 85 = .ok (.iconst 1, 1) := by decide +kernel
theorem dX9_ramp_86 : decode cX9_ramp 86 = .ok (.isub, 1) := by decide +kernel
theorem dX9_ramp_87 : decode cX9_ramp 87 = .ok (.ireturn, 1) := by decide +kernel
theorem dX9_slopeBy_0 : decode cX9_slopeBy 0 = .ok (.aload_n 0, 1) := by decide +kernel
theorem dX9_slopeBy_1 : decode cX9_slopeBy 1 = .ok (.getfield 13, 3) := by decide +kernel
theorem dX9_slopeBy_4 : decode cX9_slopeBy 4 = .ok (.iload_n 3, 1) := by decide +kernel
theorem dX9_slopeBy_5 : decode cX9_slopeBy 5 = .ok (.iaload, 1) := by decide +kernel
theorem dX9_slopeBy_6 : decode cX9_slopeBy 6 = .ok (.iload_n 1, 1) := by decide +kernel
theorem dX9_slopeBy_7 : decode cX9_slopeBy 7 = .ok (.isub, 1) := by decide +kernel
theorem dX9_slopeBy_8 : decode cX9_slopeBy 8 = .ok (.istore 4, 2) := by decide +kernel
theorem dX9_slopeBy_10 : decode cX9_slopeBy 10 = .ok (.bipush 100, 2) := by decide +kernel
theorem dX9_slopeBy_12 : decode cX9_slopeBy 12 = .ok (.iload 4, 2) := by decide +kernel
theorem dX9_slopeBy_14 : decode cX9_slopeBy 14 = .ok (.ifCond .ge 9, 3) := by decide +kernel
theorem dX9_slopeBy_17 : decode cX9_slopeBy 17 = .ok (.iload 4, 2) := by decide +kernel
theorem dX9_slopeBy_19 : decode cX9_slopeBy 19 = .ok (.ineg, 1) := by decide +kernel
theorem dX9_slopeBy_20 : decode cX9_slopeBy 20 = .ok (.goto 5, 3) := by decide +kernel
theorem dX9_slopeBy_23 : decode cX9_slopeBy 23 = .ok (.iload 4, 2) := by decide +kernel
theorem dX9_slopeBy_25 : decode cX9_slopeBy 25 = .ok (.imul, 1) := by decide +kernel
theorem dX9_slopeBy_26 : decode cX9_slopeBy 26 = .ok (.iload_n 2, 1) := by decide +kernel
theorem dX9_slopeBy_27 : decode cX9_slopeBy 27 = .ok (.idiv, 1) := by decide +kernel
theorem dX9_slopeBy_28 : decode cX9_slopeBy 28 = .ok (.ireturn, 1) := by decide +kernel
theorem dX9_slope_0 : decode cX9_slope 0 = .ok (.aload_n 0, 1) := by decide +kernel
theorem dX9_slope_1 : decode cX9_slope 1 = .ok (.iload_n 1, 1) := by decide +kernel
theorem dX9_slope_2 : decode cX9_slope 2 = .ok (.invokevirtual 336, 3) := by decide +kernel
theorem dX9_slope_5 : decode cX9_slope 5 = .ok (.ifCond .eq 10, 3) := by decide +kernel
theorem dX9_slope_8 : decode cX9_slope 8 = .ok (.iload_n 2, 1) := by decide +kernel
theorem dX9_slope_9 : decode cX9_slope 9 = .ok (.invokestatic 159, 3) := by decide +kernel
theorem dX9_slope_12 : decode cX9_slope 12 = .ok (.ifCond .ne 9, 3) := by decide +kernel
theorem dX9_slope_15 : decode cX9_slope 15 = .ok (.aload_n 0, 1) := by decide +kernel
theorem dX9_slope_16 : decode cX9_slope 16 = .ok (.iconst (-1), 1) := by decide +kernel
theorem dX9_slope_17 : decode cX9_slope 17 = .ok (.invokevirtual 124, 3) := by decide +kernel
theorem dX9_slope_20 : decode cX9_slope 20 = .ok (.ireturn, 1) := by decide +kernel
theorem dX9_slope_21 : decode cX9_slope 21 = .ok (.aload_n 0, 1) := by decide +kernel
theorem dX9_slope_22 : decode cX9_slope 22 = .ok (.aload_n 0, 1) := by decide +kernel
theorem dX9_slope_23 : decode cX9_slope 23 = .ok (.getfield 49, 3) := by decide +kernel
theorem dX9_slope_26 : decode cX9_slope 26 = .ok (.iload_n 1, 1) := by decide +kernel
theorem dX9_slope_27 : decode cX9_slope 27 = .ok (.iaload, 1) := by decide +kernel
theorem dX9_slope_28 : decode cX9_slope 28 = .ok (.aload_n 0, 1) := by decide +kernel
theorem dX9_slope_29 : decode cX9_slope 29 = .ok (.getfield 52, 3) := by decide +kernel
theorem dX9_slope_32 : decode cX9_slope 32 = .ok (.iload_n 1, 1) := by decide +kernel
theorem dX9_slope_33 : decode cX9_slope 33 = .ok (.iaload, 1) := by decide +kernel
theorem dX9_slope_34 : decode cX9_slope 34 = .ok (.iload_n 2, 1) := by decide +kernel
theorem dX9_slope_35 : decode cX9_slope 35 = .ok (.invokevirtual 339, 3) := by decide +kernel
theorem dX9_slope_38 : decode cX9_slope 38 = .ok (.ireturn, 1) := by decide +kernel
theorem dX9_openHours_0 : decode cX9_openHours 0 = .ok (.iconst 0, 1) := by decide +kernel
theorem dX9_openHours_1 : decode cX9_openHours 1 = .ok (.istore 4, 2) := by decide +kernel
theorem dX9_openHours_3 : decode cX9_openHours 3 = .ok (.iconst 0, 1) := by decide +kernel
theorem dX9_openHours_4 : decode cX9_openHours 4 = .ok (.istore 5, 2) := by decide +kernel
theorem dX9_openHours_6 : decode cX9_openHours 6 = .ok (.iload 5, 2) := by decide +kernel
theorem dX9_openHours_8 : decode cX9_openHours 8 = .ok (.bipush 12, 2) := by decide +kernel
theorem dX9_openHours_10 : decode cX9_openHours 10 = .ok (.if_icmp .ge 34, 3) := by decide +kernel
theorem dX9_openHours_13 : decode cX9_openHours 13 = .ok (.iload 4, 2) := by decide +kernel
theorem dX9_openHours_15 : decode cX9_openHours 15 = .ok (.aload_n 0, 1) := by decide +kernel
theorem dX9_openHours_16 : decode cX9_openHours 16 = .ok (.iload_n 1, 1) := by decide +kernel
theorem dX9_openHours_17 : decode cX9_openHours 17 = .ok (.iload_n 2, 1) := by decide +kernel
theorem dX9_openHours_18 : decode cX9_openHours 18 = .ok (.iload 5, 2) := by decide +kernel
theorem dX9_openHours_20 : decode cX9_openHours 20 = .ok (.invokevirtual 339, 3) := by decide +kernel
theorem dX9_openHours_23 : decode cX9_openHours 23 = .ok (.iload_n 3, 1) := by decide +kernel
theorem dX9_openHours_24 : decode cX9_openHours 24 = .ok (.if_icmp .gt 10, 3) := by decide +kernel
theorem dX9_openHours_27 : decode cX9_openHours 27 = .ok (.iconst 1, 1) := by decide +kernel
theorem dX9_openHours_28 : decode cX9_openHours 28 = .ok (.iload 5, 2) := by decide +kernel
theorem dX9_openHours_30 : decode cX9_openHours 30 = .ok (.ishl, 1) := by decide +kernel
theorem dX9_openHours_31 : decode cX9_openHours 31 = .ok (.goto 4, 3) := by decide +kernel
theorem dX9_openHours_34 : decode cX9_openHours 34 = .ok (.iconst 0, 1) := by decide +kernel
theorem dX9_openHours_35 : decode cX9_openHours 35 = .ok (.ior, 1) := by decide +kernel
theorem dX9_openHours_36 : decode cX9_openHours 36 = .ok (.istore 4, 2) := by decide +kernel
theorem dX9_openHours_38 : decode cX9_openHours 38 = .ok (.iinc 5 1, 3) := by decide +kernel
theorem dX9_openHours_41 : decode cX9_openHours 41 = .ok (.goto (-35), 3) := by decide +kernel
theorem dX9_openHours_44 : decode cX9_openHours 44 = .ok (.iload 4, 2) := by decide +kernel
theorem dX9_openHours_46 : decode cX9_openHours 46 = .ok (.ireturn, 1) := by decide +kernel
theorem dX9_open_0 : decode cX9_open 0 = .ok (.aload_n 0, 1) := by decide +kernel
theorem dX9_open_1 : decode cX9_open 1 = .ok (.iload_n 1, 1) := by decide +kernel
theorem dX9_open_2 : decode cX9_open 2 = .ok (.invokevirtual 336, 3) := by decide +kernel
theorem dX9_open_5 : decode cX9_open 5 = .ok (.ifCond .ne 7, 3) := by decide +kernel
theorem dX9_open_8 : decode cX9_open 8 = .ok (.iconst (-1), 1) := by decide +kernel
theorem dX9_open_9 : decode cX9_open 9 = .ok (.goto 11, 3) := by decide +kernel
theorem dX9_open_12 : decode cX9_open 12 = .ok (.iload_n 2, 1) := by decide +kernel
theorem dX9_open_13 : decode cX9_open 13 = .ok (.iconst 0, 1) := by decide +kernel
theorem dX9_open_14 : decode cX9_open 14 = .ok (.sipush 999, 3) := by decide +kernel
theorem dX9_open_17 : decode cX9_open 17 = .ok (.invokestatic 117, 3) := by decide +kernel
theorem dX9_open_20 : decode cX9_open 20 = .ok (.istore_n 3, 1) := by decide +kernel
theorem dX9_open_21 : decode cX9_open 21 = .ok (.iload_n 3, 1) := by decide +kernel
theorem dX9_open_22 : decode cX9_open 22 = .ok (.ifCond .eq 11, 3) := by decide +kernel
theorem dX9_open_25 : decode cX9_open 25 = .ok (.aload_n 0, 1) := by decide +kernel
theorem dX9_open_26 : decode cX9_open 26 = .ok (.iload_n 3, 1) := by decide +kernel
theorem dX9_open_27 : decode cX9_open 27 = .ok (.invokevirtual 124, 3) := by decide +kernel
theorem dX9_open_30 : decode cX9_open 30 = .ok (.goto 20, 3) := by decide +kernel
theorem dX9_open_33 : decode cX9_open 33 = .ok (.aload_n 0, 1) := by decide +kernel
theorem dX9_open_34 : decode cX9_open 34 = .ok (.aload_n 0, 1) := by decide +kernel
theorem dX9_open_35 : decode cX9_open 35 = .ok (.getfield 49, 3) := by decide +kernel
theorem dX9_open_38 : decode cX9_open 38 = .ok (.iload_n 1, 1) := by decide +kernel
theorem dX9_open_39 : decode cX9_open 39 = .ok (.iaload, 1) := by decide +kernel
theorem dX9_open_40 : decode cX9_open 40 = .ok (.aload_n 0, 1) := by decide +kernel
theorem dX9_open_41 : decode cX9_open 41 = .ok (.getfield 52, 3) := by decide +kernel
theorem dX9_open_44 : decode cX9_open 44 = .ok (.iload_n 1, 1) := by decide +kernel
theorem dX9_open_45 : decode cX9_open 45 = .ok (.iaload, 1) := by decide +kernel
theorem dX9_open_46 : decode cX9_open 46 = .ok (.iload_n 2, 1) := by decide +kernel
theorem dX9_open_47 : decode cX9_open 47 = .ok (.invokevirtual 342, 3) := by decide +kernel
theorem dX9_open_50 : decode cX9_open 50 = .ok (.ireturn, 1) := by decide +kernel
theorem dX9_bridge_0 : decode cX9_bridge 0 = .ok (.iload_n 1, 1) := by decide +kernel
theorem dX9_bridge_1 : decode cX9_bridge 1 = .ok (.ifCond .lt 11, 3) := by decide +kernel
theorem dX9_bridge_4 : decode cX9_bridge 4 = .ok (.iload_n 2, 1) := by decide +kernel
theorem dX9_bridge_5 : decode cX9_bridge 5 = .ok (.ifCond .lt 7, 3) := by decide +kernel
theorem dX9_bridge_8 : decode cX9_bridge 8 = .ok (.iload_n 3, 1) := by decide +kernel
theorem dX9_bridge_9 : decode cX9_bridge 9 = .ok (.ifCond .ge 8, 3) := by decide +kernel
theorem dX9_bridge_12 : decode cX9_bridge 12 = .ok (.bipush (-4), 2) := by decide +kernel
theorem dX9_bridge_14 : decode cX9_bridge 14 = .ok (.goto 28, 3) := by decide +kernel
theorem dX9_bridge_17 : decode cX9_bridge 17 = .ok (.iload_n 1, 1) := by decide +kernel
theorem dX9_bridge_18 : decode cX9_bridge 18 = .ok (.bipush 60, 2) := by decide +kernel
theorem dX9_bridge_20 : decode cX9_bridge 20 = .ok (.if_icmp .gt 16, 3) := by decide +kernel
theorem dX9_bridge_23 : decode cX9_bridge 23 = .ok (.iload_n 2, 1) := by decide +kernel
theorem dX9_bridge_24 : decode cX9_bridge 24 = .ok (.sipush 999, 3) := by decide +kernel
theorem dX9_bridge_27 : decode cX9_bridge 27 = .ok (.if_icmp .gt 9, 3) := by decide +kernel
theorem dX9_bridge_30 : decode cX9_bridge 30 = .ok (.iload_n 3, 1) := by decide +kernel
theorem dX9_bridge_31 : decode cX9_bridge 31 = .ok (.bipush 12, 2) := by decide +kernel
theorem dX9_bridge_33 : decode cX9_bridge 33 = .ok (.if_icmp .le 8, 3) := by decide +kernel
theorem dX9_bridge_36 : decode cX9_bridge 36 = .ok (.bipush (-6), 2) := by decide +kernel
theorem dX9_bridge_38 : decode cX9_bridge 38 = .ok (.goto 4, 3) := by decide +kernel
theorem dX9_bridge_41 : decode cX9_bridge 41 = .ok (.iconst 0, 1) := by decide +kernel
theorem dX9_bridge_42 : decode cX9_bridge 42 = .ok (.istore 4, 2) := by decide +kernel
theorem dX9_bridge_44 : decode cX9_bridge 44 = .ok (.iload 4, 2) := by decide +kernel
theorem dX9_bridge_46 : decode cX9_bridge 46 = .ok (.ifCond .eq 10, 3) := by decide +kernel
theorem dX9_bridge_49 : decode cX9_bridge 49 = .ok (.aload_n 0, 1) := by decide +kernel
theorem dX9_bridge_50 : decode cX9_bridge 50 = .ok (.iload 4, 2) := by decide +kernel
theorem dX9_bridge_52 : decode cX9_bridge 52 = .ok (.invokevirtual 124, 3) := by decide +kernel
theorem dX9_bridge_55 : decode cX9_bridge 55 = .ok (.ireturn, 1) := by decide +kernel
theorem dX9_bridge_56 : decode cX9_bridge 56 = .ok (.iconst 1, 1) := by decide +kernel
theorem dX9_bridge_57 : decode cX9_bridge 57 = .ok (.istore 5, 2) := by decide +kernel
theorem dX9_bridge_59 : decode cX9_bridge 59 = .ok (.iload 5, 2) := by decide +kernel
theorem dX9_bridge_61 : decode cX9_bridge 61 = .ok (.bipush 40, 2) := by decide +kernel
theorem dX9_bridge_63 : decode cX9_bridge 63 = .ok (.if_icmp .gt 27, 3) := by decide +kernel
theorem dX9_bridge_66 : decode cX9_bridge 66 = .ok (.aload_n 0, 1) := by decide +kernel
theorem dX9_bridge_67 : decode cX9_bridge 67 = .ok (.iload_n 1, 1) := by decide +kernel
theorem dX9_bridge_68 : decode cX9_bridge 68 = .ok (.iload 5, 2) := by decide +kernel
theorem dX9_bridge_70 : decode cX9_bridge 70 = .ok (.iload_n 2, 1) := by decide +kernel
theorem dX9_bridge_71 : decode cX9_bridge 71 = .ok (.invokevirtual 342, 3) := by decide +kernel
theorem dX9_bridge_74 : decode cX9_bridge 74 = .ok (.invokestatic 273, 3) := by decide +kernel
theorem dX9_bridge_77 : decode cX9_bridge 77 = .ok (.iload_n 3, 1) := by decide +kernel
theorem dX9_bridge_78 : decode cX9_bridge 78 = .ok (.if_icmp .lt 6, 3) := by decide +kernel
theorem dX9_bridge_81 : decode cX9_bridge 81 = .ok (.iload 5, 2) := by decide +kernel
theorem dX9_bridge_83 : decode cX9_bridge 83 = .ok (.ireturn, 1) := by decide +kernel
theorem dX9_bridge_84 : decode cX9_bridge 84 = .ok (.iinc 5 1, 3) := by decide +kernel
theorem dX9_bridge_87 : decode cX9_bridge 87 = .ok (.goto (-28), 3) := by decide +kernel
theorem dX9_bridge_90 : decode cX9_bridge 90 = .ok (.bipush (-9), 2) := by decide +kernel
theorem dX9_bridge_92 : decode cX9_bridge 92 = .ok (.ireturn, 1) := by decide +kernel
theorem dX9_waitsAt_0 : decode cX9_waitsAt 0 = .ok (.iconst 0, 1) := by decide +kernel
theorem dX9_waitsAt_1 : decode cX9_waitsAt 1 = .ok (.istore_n 3, 1) := by decide +kernel
theorem dX9_waitsAt_2 : decode cX9_waitsAt 2 = .ok (.iload_n 3, 1) := by decide +kernel
theorem dX9_waitsAt_3 : decode cX9_waitsAt 3 = .ok (.bipush 12, 2) := by decide +kernel
theorem dX9_waitsAt_5 : decode cX9_waitsAt 5 = .ok (.if_icmp .ge 26, 3) := by decide +kernel
theorem dX9_waitsAt_8 : decode cX9_waitsAt 8 = .ok (.aload_n 0, 1) := by decide +kernel
theorem dX9_waitsAt_9 : decode cX9_waitsAt 9 = .ok (.getfield 13, 3) := by decide +kernel
theorem dX9_waitsAt_12 : decode cX9_waitsAt 12 = .ok (.iload_n 2, 1) := by decide +kernel
theorem dX9_waitsAt_13 : decode cX9_waitsAt 13 = .ok (.iload_n 3, 1) := by decide +kernel
theorem dX9_waitsAt_14 : decode cX9_waitsAt 14 = .ok (.iadd, 1) := by decide +kernel
theorem dX9_waitsAt_15 : decode cX9_waitsAt 15 = .ok (.bipush 12, 2) := by decide +kernel
theorem dX9_waitsAt_17 : decode cX9_waitsAt 17 = .ok (.irem, 1) := by decide +kernel
theorem dX9_waitsAt_18 : decode cX9_waitsAt 18 = .ok (.iaload, 1) := by decide +kernel
theorem dX9_waitsAt_19 : decode cX9_waitsAt 19 = .ok (.iload_n 1, 1) := by decide +kernel
theorem dX9_waitsAt_20 : decode cX9_waitsAt 20 = .ok (.if_icmp .lt 5, 3) := by decide +kernel
theorem dX9_waitsAt_23 : decode cX9_waitsAt 23 = .ok (.iload_n 3, 1) := by decide +kernel
theorem dX9_waitsAt_24 : decode cX9_waitsAt 24 = .ok (.ireturn, 1) := by decide +kernel
theorem dX9_waitsAt_25 : decode cX9_waitsAt 25 = .ok (.iinc 3 1, 3) := by decide +kernel
theorem dX9_waitsAt_28 : decode cX9_waitsAt 28 = .ok (.goto (-26), 3) := by decide +kernel
theorem dX9_waitsAt_31 : decode cX9_waitsAt 31 = .ok (.bipush (-9), 2) := by decide +kernel
theorem dX9_waitsAt_33 : decode cX9_waitsAt 33 = .ok (.ireturn, 1) := by decide +kernel
theorem dX9_notGate_0 : decode cX9_notGate 0 = .ok (.iload_n 0, 1) := by decide +kernel
theorem dX9_notGate_1 : decode cX9_notGate 1 = .ok (.ifCond .lt 7, 3) := by decide +kernel
theorem dX9_notGate_4 : decode cX9_notGate 4 = .ok (.iload_n 1, 1) := by decide +kernel
theorem dX9_notGate_5 : decode cX9_notGate 5 = .ok (.ifCond .ge 8, 3) := by decide +kernel
theorem dX9_notGate_8 : decode cX9_notGate 8 = .ok (.bipush (-4), 2) := by decide +kernel
theorem dX9_notGate_10 : decode cX9_notGate 10 = .ok (.goto 21, 3) := by decide +kernel
theorem dX9_notGate_13 : decode cX9_notGate 13 = .ok (.iload_n 0, 1) := by decide +kernel
theorem dX9_notGate_14 : decode cX9_notGate 14 = .ok (.bipush 40, 2) := by decide +kernel
theorem dX9_notGate_16 : decode cX9_notGate 16 = .ok (.if_icmp .gt 9, 3) := by decide +kernel
theorem dX9_notGate_19 : decode cX9_notGate 19 = .ok (.iload_n 1, 1) := by decide +kernel
theorem dX9_notGate_20 : decode cX9_notGate 20 = .ok (.bipush 9, 2) := by decide +kernel
theorem dX9_notGate_22 : decode cX9_notGate 22 = .ok (.if_icmp .le 8, 3) := by decide +kernel
theorem dX9_notGate_25 : decode cX9_notGate 25 = .ok (.bipush (-6), 2) := by decide +kernel
theorem dX9_notGate_27 : decode cX9_notGate 27 = .ok (.goto 4, 3) := by decide +kernel
theorem dX9_notGate_30 : decode cX9_notGate 30 = .ok (.iconst 0, 1) := by decide +kernel
theorem dX9_notGate_31 : decode cX9_notGate 31 = .ok (.ireturn, 1) := by decide +kernel
theorem dX9_passes__0 : decode cX9_passes_ 0 = .ok (.iload_n 1, 1) := by decide +kernel
theorem dX9_passes__1 : decode cX9_passes_ 1 = .ok (.iload_n 2, 1) := by decide +kernel
theorem dX9_passes__2 : decode cX9_passes_ 2 = .ok (.invokestatic 345, 3) := by decide +kernel
theorem dX9_passes__5 : decode cX9_passes_ 5 = .ok (.istore 4, 2) := by decide +kernel
theorem dX9_passes__7 : decode cX9_passes_ 7 = .ok (.iload 4, 2) := by decide +kernel
theorem dX9_passes__9 : decode cX9_passes_ 9 = .ok (.ifCond .ne 13, 3) := by decide +kernel
theorem dX9_passes__12 : decode cX9_passes_ 12 = .ok (.iload_n 3, 1) := by decide +kernel
theorem dX9_passes__13 : decode cX9_passes_ 13 = .ok (.invokestatic 159, 3) := by decide +kernel
theorem dX9_passes__16 : decode cX9_passes_ 16 = .ok (.ifCond .ne 6, 3) := by decide +kernel
theorem dX9_passes__19 : decode cX9_passes_ 19 = .ok (.iconst (-1), 1) := by decide +kernel
theorem dX9_passes__20 : decode cX9_passes_ 20 = .ok (.istore 4, 2) := by decide +kernel
theorem dX9_passes__22 : decode cX9_passes_ 22 = .ok (.iload 4, 2) := by decide +kernel
theorem dX9_passes__24 : decode cX9_passes_ 24 = .ok (.ifCond .eq 10, 3) := by decide +kernel
theorem dX9_passes__27 : decode cX9_passes_ 27 = .ok (.aload_n 0, 1) := by decide +kernel
theorem dX9_passes__28 : decode cX9_passes_ 28 = .ok (.iload 4, 2) := by decide +kernel
theorem dX9_passes__30 : decode cX9_passes_ 30 = .ok (.invokevirtual 124, 3) := by decide +kernel
theorem dX9_passes__33 : decode cX9_passes_ 33 = .ok (.ireturn, 1) := by decide +kernel
theorem dX9_passes__34 : decode cX9_passes_ 34 = .ok (.aload_n 0, 1) := by decide +kernel
theorem dX9_passes__35 : decode cX9_passes_ 35 = .ok (.iload_n 1, 1) := by decide +kernel
theorem dX9_passes__36 : decode cX9_passes_ 36 = .ok (.iload_n 2, 1) := by decide +kernel
theorem dX9_passes__37 : decode cX9_passes_ 37 = .ok (.iadd, 1) := by decide +kernel
theorem dX9_passes__38 : decode cX9_passes_ 38 = .ok (.iload_n 3, 1) := by decide +kernel
theorem dX9_passes__39 : decode cX9_passes_ 39 = .ok (.invokevirtual 348, 3) := by decide +kernel
theorem dX9_passes__42 : decode cX9_passes_ 42 = .ok (.istore 5, 2) := by decide +kernel
theorem dX9_passes__44 : decode cX9_passes_ 44 = .ok (.iload 5, 2) := by decide +kernel
theorem dX9_passes__46 : decode cX9_passes_ 46 = .ok (.ifCond .ge 8, 3) := by decide +kernel
theorem dX9_passes__49 : decode cX9_passes_ 49 = .ok (.bipush (-9), 2) := by decide +kernel
theorem dX9_passes__51 : decode cX9_passes_ 51 = .ok (.goto 10, 3) := by decide +kernel
theorem dX9_passes__54 : decode cX9_passes_ 54 = .ok (.iload_n 3, 1) := by decide +kernel
theorem dX9_passes__55 : decode cX9_passes_ 55 = .ok (.iload 5, 2) := by decide +kernel
theorem dX9_passes__57 : decode cX9_passes_ 57 = .ok (.iadd, 1) := by decide +kernel
theorem dX9_passes__58 : decode cX9_passes_ 58 = .ok (.bipush 12, 2) := by decide +kernel
theorem dX9_passes__60 : decode cX9_passes_ 60 = .ok (.irem, 1) := by decide +kernel
theorem dX9_passes__61 : decode cX9_passes_ 61 = .ok (.ireturn, 1) := by decide +kernel
theorem dX9_waited_0 : decode cX9_waited 0 = .ok (.iload_n 1, 1) := by decide +kernel
theorem dX9_waited_1 : decode cX9_waited 1 = .ok (.iload_n 2, 1) := by decide +kernel
theorem dX9_waited_2 : decode cX9_waited 2 = .ok (.invokestatic 345, 3) := by decide +kernel
theorem dX9_waited_5 : decode cX9_waited 5 = .ok (.istore_n 3, 1) := by decide +kernel
theorem dX9_waited_6 : decode cX9_waited 6 = .ok (.iconst 0, 1) := by decide +kernel
theorem dX9_waited_7 : decode cX9_waited 7 = .ok (.istore 4, 2) := by decide +kernel
theorem dX9_waited_9 : decode cX9_waited 9 = .ok (.iload 4, 2) := by decide +kernel
theorem dX9_waited_11 : decode cX9_waited 11 = .ok (.aload_n 0, 1) := by decide +kernel
theorem dX9_waited_12 : decode cX9_waited 12 = .ok (.getfield 291, 3) := by decide +kernel
theorem dX9_waited_15 : decode cX9_waited 15 = .ok (.if_icmp .ge 33, 3) := by decide +kernel
theorem dX9_waited_18 : decode cX9_waited 18 = .ok (.iload_n 3, 1) := by decide +kernel
theorem dX9_waited_19 : decode cX9_waited 19 = .ok (.ifCond .ne 29, 3) := by decide +kernel
theorem dX9_waited_22 : decode cX9_waited 22 = .ok (.aload_n 0, 1) := by decide +kernel
theorem dX9_waited_23 : decode cX9_waited 23 = .ok (.getfield 76, 3) := by decide +kernel
theorem dX9_waited_26 : decode cX9_waited 26 = .ok (.iload 4, 2) := by decide +kernel
theorem dX9_waited_28 : decode cX9_waited 28 = .ok (.iaload, 1) := by decide +kernel
theorem dX9_waited_29 : decode cX9_waited 29 = .ok (.invokestatic 159, 3) := by decide +kernel
theorem dX9_waited_32 : decode cX9_waited 32 = .ok (.ifCond .eq 7, 3) := by decide +kernel
theorem dX9_waited_35 : decode cX9_waited 35 = .ok (.iconst 0, 1) := by decide +kernel
theorem dX9_waited_36 : decode cX9_waited 36 = .ok (.goto 5, 3) := by decide +kernel
theorem dX9_waited_39 : decode cX9_waited 39 = .ok (.bipush (-3), 2) := by decide +kernel
theorem dX9_waited_41 : decode cX9_waited 41 = .ok (.istore_n 3, 1) := by decide +kernel
theorem dX9_waited_42 : decode cX9_waited 42 = .ok (.iinc 4 1, 3) := by decide +kernel
theorem dX9_waited_45 : decode cX9_waited 45 = .ok (.goto (-36), 3) := by decide +kernel
theorem dX9_waited_48 : decode cX9_waited 48 = .ok (.iload_n 3, 1) := by decide +kernel
theorem dX9_waited_49 : decode cX9_waited 49 = .ok (.ifCond .eq 9, 3) := by decide +kernel
theorem dX9_waited_52 : decode cX9_waited 52 = .ok (.aload_n 0, 1) := by decide +kernel
theorem dX9_waited_53 : decode cX9_waited 53 = .ok (.iload_n 3, 1) := by decide +kernel
theorem dX9_waited_54 : decode cX9_waited 54 = .ok (.invokevirtual 124, 3) := by decide +kernel
theorem dX9_waited_57 : decode cX9_waited 57 = .ok (.ireturn, 1) := by decide +kernel
theorem dX9_waited_58 : decode cX9_waited 58 = .ok (.iconst 0, 1) := by decide +kernel
theorem dX9_waited_59 : decode cX9_waited 59 = .ok (.istore 4, 2) := by decide +kernel
theorem dX9_waited_61 : decode cX9_waited 61 = .ok (.iconst 0, 1) := by decide +kernel
theorem dX9_waited_62 : decode cX9_waited 62 = .ok (.istore 5, 2) := by decide +kernel
theorem dX9_waited_64 : decode cX9_waited 64 = .ok (.iload 5, 2) := by decide +kernel
theorem dX9_waited_66 : decode cX9_waited 66 = .ok (.aload_n 0, 1) := by decide +kernel
theorem dX9_waited_67 : decode cX9_waited 67 = .ok (.getfield 291, 3) := by decide +kernel
theorem dX9_waited_70 : decode cX9_waited 70 = .ok (.if_icmp .ge 40, 3) := by decide +kernel
theorem dX9_waited_73 : decode cX9_waited 73 = .ok (.aload_n 0, 1) := by decide +kernel
theorem dX9_waited_74 : decode cX9_waited 74 = .ok (.iload_n 1, 1) := by decide +kernel
theorem dX9_waited_75 : decode cX9_waited 75 = .ok (.iload_n 2, 1) := by decide +kernel
theorem dX9_waited_76 : decode cX9_waited 76 = .ok (.iadd, 1) := by decide +kernel
theorem dX9_waited_77 : decode cX9_waited 77 = .ok (.aload_n 0, 1) := by decide +kernel
theorem dX9_waited_78 : decode cX9_waited 78 = .ok (.getfield 76, 3) := by decide +kernel
theorem dX9_waited_81 : decode cX9_waited 81 = .ok (.iload 5, 2) := by decide +kernel
theorem dX9_waited_83 : decode cX9_waited 83 = .ok (.iaload, 1) := by decide +kernel
theorem dX9_waited_84 : decode cX9_waited 84 = .ok (.invokevirtual 348, 3) := by decide +kernel
theorem dX9_waited_87 : decode cX9_waited 87 = .ok (.istore 6, 2) := by decide +kernel
theorem dX9_waited_89 : decode cX9_waited 89 = .ok (.iload 6, 2) := by decide +kernel
theorem dX9_waited_91 : decode cX9_waited 91 = .ok (.ifCond .ge 6, 3) := by decide +kernel
theorem dX9_waited_94 : decode cX9_waited 94 = .ok (.bipush (-9), 2) := by decide +kernel
theorem dX9_waited_96 : decode cX9_waited 96 = .ok (.ireturn, 1) := by decide +kernel
theorem dX9_waited_97 : decode cX9_waited 97 = .ok (.iload 4, 2) := by decide +kernel
theorem dX9_waited_99 : decode cX9_waited 99 = .ok (.iload 6, 2) := by decide +kernel
theorem dX9_waited_101 : decode cX9_waited 101 = .ok (.iadd, 1) := by decide +kernel
theorem dX9_waited_102 : decode cX9_waited 102 = .ok (.istore 4, 2) := by decide +kernel
theorem dX9_waited_104 : decode cX9_waited 104 = .ok (.iinc 5 1, 3) := by decide +kernel
theorem dX9_waited_107 : decode cX9_waited 107 = .ok (.goto (-43), 3) := by decide +kernel
theorem dX9_waited_110 : decode cX9_waited 110 = .ok (.iload 4, 2) := by decide +kernel
theorem dX9_waited_112 : decode cX9_waited 112 = .ok (.ireturn, 1) := by decide +kernel
theorem dX9_findLeastAt_0 : decode cX9_findLeastAt 0 = .ok (.iconst 0, 1) := by decide +kernel
theorem dX9_findLeastAt_1 : decode cX9_findLeastAt 1 = .ok (.istore_n 1, 1) := by decide +kernel
theorem dX9_findLeastAt_2 : decode cX9_findLeastAt 2 = .ok (.iload_n 1, 1) := by decide +kernel
theorem dX9_findLeastAt_3 : decode cX9_findLeastAt 3 = .ok (.aload_n 0, 1) := by decide +kernel
theorem dX9_findLeastAt_4 : decode cX9_findLeastAt 4 = .ok (.getfield 114, 3) := by decide +kernel
theorem dX9_findLeastAt_7 : decode cX9_findLeastAt 7 = .ok (.if_icmp .ge 62, 3) := by decide +kernel
theorem dX9_findLeastAt_10 : decode cX9_findLeastAt 10 = .ok (.aload_n 0, 1) := by decide +kernel
theorem dX9_findLeastAt_11 : decode cX9_findLeastAt 11 = .ok (.getfield 34, 3) := by decide +kernel
theorem dX9_findLeastAt_14 : decode cX9_findLeastAt 14 = .ok (.iload_n 1, 1) := by decide +kernel
theorem dX9_findLeastAt_15 : decode cX9_findLeastAt 15 = .ok (.iaload, 1) := by decide +kernel
theorem dX9_findLeastAt_16 : decode cX9_findLeastAt 16 = .ok (.istore_n 2, 1) := by decide +kernel
theorem dX9_findLeastAt_17 : decode cX9_findLeastAt 17 = .ok (.iconst 0, 1) := by decide +kernel
theorem dX9_findLeastAt_18 : decode cX9_findLeastAt 18 = .ok (.istore_n 3, 1) := by decide +kernel
theorem dX9_findLeastAt_19 : decode cX9_findLeastAt 19 = .ok (.iload_n 3, 1) := by decide +kernel
theorem dX9_findLeastAt_20 : decode cX9_findLeastAt 20 = .ok (.aload_n 0, 1) := by decide +kernel
theorem dX9_findLeastAt_21 : decode cX9_findLeastAt 21 = .ok (.getfield 110, 3) := by decide +kernel
theorem dX9_findLeastAt_24 : decode cX9_findLeastAt 24 = .ok (.if_icmp .ge 32, 3) := by decide +kernel
theorem dX9_findLeastAt_27 : decode cX9_findLeastAt 27 = .ok (.aload_n 0, 1) := by decide +kernel
theorem dX9_findLeastAt_28 : decode cX9_findLeastAt 28 = .ok (.getfield 34, 3) := by decide +kernel
theorem dX9_findLeastAt_31 : decode cX9_findLeastAt 31 = .ok (.iload_n 1, 1) := by decide +kernel
theorem dX9_findLeastAt_32 : decode cX9_findLeastAt 32 = .ok (.iload_n 3, 1) := by decide +kernel
theorem dX9_findLeastAt_33 : decode cX9_findLeastAt 33 = .ok (.iastore, 1) := by decide +kernel
theorem dX9_findLeastAt_34 : decode cX9_findLeastAt 34 = .ok (.aload_n 0, 1) := by decide +kernel
theorem dX9_findLeastAt_35 : decode cX9_findLeastAt 35 = .ok (.getfield 91, 3) := by decide +kernel
theorem dX9_findLeastAt_38 : decode cX9_findLeastAt 38 = .ok (.bipush 6, 2) := by decide +kernel
theorem dX9_findLeastAt_40 : decode cX9_findLeastAt 40 = .ok (.iload_n 1, 1) := by decide +kernel
theorem dX9_findLeastAt_41 : decode cX9_findLeastAt 41 = .ok (.imul, 1) := by decide +kernel
theorem dX9_findLeastAt_42 : decode cX9_findLeastAt 42 = .ok (.iload_n 3, 1) := by decide +kernel
theorem dX9_findLeastAt_43 : decode cX9_findLeastAt 43 = .ok (.iadd, 1) := by decide +kernel
theorem dX9_findLeastAt_44 : decode cX9_findLeastAt 44 = .ok (.aload_n 0, 1) := by decide +kernel
theorem dX9_findLeastAt_45 : decode cX9_findLeastAt 45 = .ok (.iload_n 1, 1) := by decide +kernel
theorem dX9_findLeastAt_46 : decode cX9_findLeastAt 46 = .ok (.invokevirtual 258, 3) := by decide +kernel
theorem dX9_findLeastAt_49 : decode cX9_findLeastAt 49 = .ok (.iastore, 1) := by decide +kernel
theorem dX9_findLeastAt_50 : decode cX9_findLeastAt 50 = .ok (.iinc 3 1, 3) := by decide +kernel
theorem dX9_findLeastAt_53 : decode cX9_findLeastAt 53 = .ok (.goto (-34), 3) := by decide +kernel
theorem dX9_findLeastAt_56 : decode cX9_findLeastAt 56 = .ok (.aload_n 0, 1) := by decide +kernel
theorem dX9_findLeastAt_57 : decode cX9_findLeastAt 57 = .ok (.getfield 34, 3) := by decide +kernel
theorem dX9_findLeastAt_60 : decode cX9_findLeastAt 60 = .ok (.iload_n 1, 1) := by decide +kernel
theorem dX9_findLeastAt_61 : decode cX9_findLeastAt 61 = .ok (.iload_n 2, 1) := by decide +kernel
theorem dX9_findLeastAt_62 : decode cX9_findLeastAt 62 = .ok (.iastore, 1) := by decide +kernel
theorem dX9_findLeastAt_63 : decode cX9_findLeastAt 63 = .ok (.iinc 1 1, 3) := by decide +kernel
theorem dX9_findLeastAt_66 : decode cX9_findLeastAt 66 = .ok (.goto (-64), 3) := by decide +kernel
theorem dX9_findLeastAt_69 : decode cX9_findLeastAt 69 = .ok (.return_, 1) := by decide +kernel
theorem dX9_lengthsBy_0 : decode cX9_lengthsBy 0 = .ok (.iload_n 1, 1) := by decide +kernel
theorem dX9_lengthsBy_1 : decode cX9_lengthsBy 1 = .ok (.istore_n 2, 1) := by decide +kernel
theorem dX9_lengthsBy_2 : decode cX9_lengthsBy 2 = .ok (.iconst 0, 1) := by decide +kernel
theorem dX9_lengthsBy_3 : decode cX9_lengthsBy 3 = .ok (.istore_n 3, 1) := by decide +kernel
theorem dX9_lengthsBy_4 : decode cX9_lengthsBy 4 = .ok (.iconst 0, 1) := by decide +kernel
theorem dX9_lengthsBy_5 : decode cX9_lengthsBy 5 = .ok (.istore 4, 2) := by decide +kernel
theorem dX9_lengthsBy_7 : decode cX9_lengthsBy 7 = .ok (.aload_n 0, 1) := by decide +kernel
theorem dX9_lengthsBy_8 : decode cX9_lengthsBy 8 = .ok (.getfield 114, 3) := by decide +kernel
theorem dX9_lengthsBy_11 : decode cX9_lengthsBy 11 = .ok (.iconst 1, 1) := by decide +kernel
theorem dX9_lengthsBy_12 : decode cX9_lengthsBy 12 = .ok (.isub, 1) := by decide +kernel
theorem dX9_lengthsBy_13 : decode cX9_lengthsBy 13 = .ok (.istore 5, 2) := by decide +kernel
theorem dX9_lengthsBy_15 : decode cX9_lengthsBy 15 = .ok (.iload 5, 2) := by decide +kernel
theorem dX9_lengthsBy_17 : decode cX9_lengthsBy 17 = .ok (.ifCond .lt 103, 3) := by decide +kernel
theorem dX9_lengthsBy_20 : decode cX9_lengthsBy 20 = .ok (.aload_n 0, 1) := by decide +kernel
theorem dX9_lengthsBy_21 : decode cX9_lengthsBy 21 = .ok (.getfield 85, 3) := by decide +kernel
theorem dX9_lengthsBy_24 : decode cX9_lengthsBy 24 = .ok (.iload 5, 2) := by decide +kernel
theorem dX9_lengthsBy_26 : decode cX9_lengthsBy 26 = .ok (.iload_n 2, 1) := by decide +kernel
theorem dX9_lengthsBy_27 : decode cX9_lengthsBy 27 = .ok (.aload_n 0, 1) := by decide +kernel
theorem dX9_lengthsBy_28 : decode cX9_lengthsBy 28 = .ok (.getfield 110, 3) := by decide +kernel
theorem dX9_lengthsBy_31 : decode cX9_lengthsBy 31 = .ok (.irem, 1) := by decide +kernel
theorem dX9_lengthsBy_32 : decode cX9_lengthsBy 32 = .ok (.iastore, 1) := by decide +kernel
theorem dX9_lengthsBy_33 : decode cX9_lengthsBy 33 = .ok (.iload_n 2, 1) := by decide +kernel
theorem dX9_lengthsBy_34 : decode cX9_lengthsBy 34 = .ok (.aload_n 0, 1) := by decide +kernel
theorem dX9_lengthsBy_35 : decode cX9_lengthsBy 35 = .ok (.getfield 110, 3) := by decide +kernel
theorem dX9_lengthsBy_38 : decode cX9_lengthsBy 38 = .ok (.idiv, 1) := by decide +kernel
theorem dX9_lengthsBy_39 : decode cX9_lengthsBy 39 = .ok (.istore_n 2, 1) := by decide +kernel
theorem dX9_lengthsBy_40 : decode cX9_lengthsBy 40 = .ok (.iload_n 3, 1) := by decide +kernel
theorem dX9_lengthsBy_41 : decode cX9_lengthsBy 41 = .ok (.aload_n 0, 1) := by decide +kernel
theorem dX9_lengthsBy_42 : decode cX9_lengthsBy 42 = .ok (.getfield 85, 3) := by decide +kernel
theorem dX9_lengthsBy_45 : decode cX9_lengthsBy 45 = .ok (.iload 5, 2) := by decide +kernel
theorem dX9_lengthsBy_47 : decode cX9_lengthsBy 47 = .ok (.iaload, 1) := by decide +kernel
theorem dX9_lengthsBy_48 : decode cX9_lengthsBy 48 = .ok (.ishr, 1) := by decide +kernel
theorem dX9_lengthsBy_49 : decode cX9_lengthsBy 49 = .ok (.iconst 1, 1) := by decide +kernel
theorem dX9_lengthsBy_50 : decode cX9_lengthsBy 50 = .ok (.iand, 1) := by decide +kernel
theorem dX9_lengthsBy_51 : decode cX9_lengthsBy 51 = .ok (.iconst 1, 1) := by decide +kernel
theorem dX9_lengthsBy_52 : decode cX9_lengthsBy 52 = .ok (.if_icmp .eq 24, 3) := by decide +kernel
theorem dX9_lengthsBy_55 : decode cX9_lengthsBy 55 = .ok (.aload_n 0, 1) := by decide +kernel
theorem dX9_lengthsBy_56 : decode cX9_lengthsBy 56 = .ok (.getfield 91, 3) := by decide +kernel
theorem dX9_lengthsBy_59 : decode cX9_lengthsBy 59 = .ok (.bipush 6, 2) := by decide +kernel
theorem dX9_lengthsBy_61 : decode cX9_lengthsBy 61 = .ok (.iload 5, 2) := by decide +kernel
theorem dX9_lengthsBy_63 : decode cX9_lengthsBy 63 = .ok (.imul, 1) := by decide +kernel
theorem dX9_lengthsBy_64 : decode cX9_lengthsBy 64 = .ok (.aload_n 0, 1) := by decide +kernel
theorem dX9_lengthsBy_65 : decode cX9_lengthsBy 65 = .ok (.getfield 85, 3) := by decide +kernel
theorem dX9_lengthsBy_68 : decode cX9_lengthsBy 68 = .ok (.iload 5, 2) := by decide +kernel
theorem dX9_lengthsBy_70 : decode cX9_lengthsBy 70 = .ok (.iaload, 1) := by decide +kernel
theorem dX9_lengthsBy_71 : decode cX9_lengthsBy 71 = .ok (.iadd, 1) := by decide +kernel
theorem dX9_lengthsBy_72 : decode cX9_lengthsBy 72 = .ok (.iaload, 1) := by decide +kernel
theorem dX9_lengthsBy_73 : decode cX9_lengthsBy 73 = .ok (.ifCond .ge 6, 3) := by decide +kernel
theorem dX9_lengthsBy_76 : decode cX9_lengthsBy 76 = .ok (.bipush (-9), 2) := by decide +kernel
theorem dX9_lengthsBy_78 : decode cX9_lengthsBy 78 = .ok (.ireturn, 1) := by decide +kernel
theorem dX9_lengthsBy_79 : decode cX9_lengthsBy 79 = .ok (.iload_n 3, 1) := by decide +kernel
theorem dX9_lengthsBy_80 : decode cX9_lengthsBy 80 = .ok (.iconst 1, 1) := by decide +kernel
theorem dX9_lengthsBy_81 : decode cX9_lengthsBy 81 = .ok (.aload_n 0, 1) := by decide +kernel
theorem dX9_lengthsBy_82 : decode cX9_lengthsBy 82 = .ok (.getfield 85, 3) := by decide +kernel
theorem dX9_lengthsBy_85 : decode cX9_lengthsBy 85 = .ok (.iload 5, 2) := by decide +kernel
theorem dX9_lengthsBy_87 : decode cX9_lengthsBy 87 = .ok (.iaload, 1) := by decide +kernel
theorem dX9_lengthsBy_88 : decode cX9_lengthsBy 88 = .ok (.ishl, 1) := by decide +kernel
theorem dX9_lengthsBy_89 : decode cX9_lengthsBy 89 = .ok (.ior, 1) := by decide +kernel
theorem dX9_lengthsBy_90 : decode cX9_lengthsBy 90 = .ok (.istore_n 3, 1) := by decide +kernel
theorem dX9_lengthsBy_91 : decode cX9_lengthsBy 91 = .ok (.iload 4, 2) := by decide +kernel
theorem dX9_lengthsBy_93 : decode cX9_lengthsBy 93 = .ok (.aload_n 0, 1) := by decide +kernel
theorem dX9_lengthsBy_94 : decode cX9_lengthsBy 94 = .ok (.getfield 91, 3) := by decide +kernel
theorem dX9_lengthsBy_97 : decode cX9_lengthsBy 97 = .ok (.bipush 6, 2) := by decide +kernel
theorem dX9_lengthsBy_99 : decode cX9_lengthsBy 99 = .ok (.iload 5, 2) := by decide +kernel
theorem dX9_lengthsBy_101 : decode cX9_lengthsBy 101 = .ok (.imul, 1) := by decide +kernel
theorem dX9_lengthsBy_102 : decode cX9_lengthsBy 102 = .ok (.aload_n 0, 1) := by decide +kernel
theorem dX9_lengthsBy_103 : decode cX9_lengthsBy 103 = .ok (.getfield 85, 3) := by decide +kernel
theorem dX9_lengthsBy_106 : decode cX9_lengthsBy 106 = .ok (.iload 5, 2) := by decide +kernel
theorem dX9_lengthsBy_108 : decode cX9_lengthsBy 108 = .ok (.iaload, 1) := by decide +kernel
theorem dX9_lengthsBy_109 : decode cX9_lengthsBy 109 = .ok (.iadd, 1) := by decide +kernel
theorem dX9_lengthsBy_110 : decode cX9_lengthsBy 110 = .ok (.iaload, 1) := by decide +kernel
theorem dX9_lengthsBy_111 : decode cX9_lengthsBy 111 = .ok (.iadd, 1) := by decide +kernel
theorem dX9_lengthsBy_112 : decode cX9_lengthsBy 112 = .ok (.istore 4, 2) := by decide +kernel
theorem dX9_lengthsBy_114 : decode cX9_lengthsBy 114 = .ok (.iinc 5 (-1), 3) := by decide +kernel
theorem dX9_lengthsBy_117 : decode cX9_lengthsBy 117 = .ok (.goto (-102), 3) := by decide +kernel
theorem dX9_lengthsBy_120 : decode cX9_lengthsBy 120 = .ok (.iload 4, 2) := by decide +kernel
theorem dX9_lengthsBy_122 : decode cX9_lengthsBy 122 = .ok (.ireturn, 1) := by decide +kernel
theorem dX9_cheapest_0 : decode cX9_cheapest 0 = .ok (.iload_n 1, 1) := by decide +kernel
theorem dX9_cheapest_1 : decode cX9_cheapest 1 = .ok (.iconst 0, 1) := by decide +kernel
theorem dX9_cheapest_2 : decode cX9_cheapest 2 = .ok (.iconst 1, 1) := by decide +kernel
theorem dX9_cheapest_3 : decode cX9_cheapest 3 = .ok (.invokestatic 135, 3) := by decide +kernel
theorem dX9_cheapest_6 : decode cX9_cheapest 6 = .ok (.ifCond .ne 8, 3) := by decide +kernel
theorem dX9_cheapest_9 : decode cX9_cheapest 9 = .ok (.bipush (-2), 2) := by decide +kernel
theorem dX9_cheapest_11 : decode cX9_cheapest 11 = .ok (.goto 16, 3) := by decide +kernel
theorem dX9_cheapest_14 : decode cX9_cheapest 14 = .ok (.aload_n 0, 1) := by decide +kernel
theorem dX9_cheapest_15 : decode cX9_cheapest 15 = .ok (.getfield 114, 3) := by decide +kernel
theorem dX9_cheapest_18 : decode cX9_cheapest 18 = .ok (.ifCond .ne 8, 3) := by decide +kernel
theorem dX9_cheapest_21 : decode cX9_cheapest 21 = .ok (.bipush (-3), 2) := by decide +kernel
theorem dX9_cheapest_23 : decode cX9_cheapest 23 = .ok (.goto 4, 3) := by decide +kernel
theorem dX9_cheapest_26 : decode cX9_cheapest 26 = .ok (.iconst 0, 1) := by decide +kernel
theorem dX9_cheapest_27 : decode cX9_cheapest 27 = .ok (.istore_n 2, 1) := by decide +kernel
theorem dX9_cheapest_28 : decode cX9_cheapest 28 = .ok (.iload_n 2, 1) := by decide +kernel
theorem dX9_cheapest_29 : decode cX9_cheapest 29 = .ok (.ifCond .eq 9, 3) := by decide +kernel
theorem dX9_cheapest_32 : decode cX9_cheapest 32 = .ok (.aload_n 0, 1) := by decide +kernel
theorem dX9_cheapest_33 : decode cX9_cheapest 33 = .ok (.iload_n 2, 1) := by decide +kernel
theorem dX9_cheapest_34 : decode cX9_cheapest 34 = .ok (.invokevirtual 124, 3) := by decide +kernel
theorem dX9_cheapest_37 : decode cX9_cheapest 37 = .ok (.ireturn, 1) := by decide +kernel
theorem dX9_cheapest_38 : decode cX9_cheapest 38 = .ok (.aload_n 0, 1) := by decide +kernel
theorem dX9_cheapest_39 : decode cX9_cheapest 39 = .ok (.invokevirtual 351, 3) := by decide +kernel
theorem dX9_cheapest_42 : decode cX9_cheapest 42 = .ok (.iconst 1, 1) := by decide +kernel
theorem dX9_cheapest_43 : decode cX9_cheapest 43 = .ok (.istore_n 3, 1) := by decide +kernel
theorem dX9_cheapest_44 : decode cX9_cheapest 44 = .ok (.iconst 0, 1) := by decide +kernel
theorem dX9_cheapest_45 : decode cX9_cheapest 45 = .ok (.istore 4, 2) := by decide +kernel
theorem dX9_cheapest_47 : decode cX9_cheapest 47 = .ok (.iload 4, 2) := by decide +kernel
theorem dX9_cheapest_49 : decode cX9_cheapest 49 = .ok (.aload_n 0, 1) := by decide +kernel
theorem dX9_cheapest_50 : decode cX9_cheapest 50 = .ok (.getfield 114, 3) := by decide +kernel
theorem dX9_cheapest_53 : decode cX9_cheapest 53 = .ok (.if_icmp .ge 16, 3) := by decide +kernel
theorem dX9_cheapest_56 : decode cX9_cheapest 56 = .ok (.iload_n 3, 1) := by decide +kernel
theorem dX9_cheapest_57 : decode cX9_cheapest 57 = .ok (.aload_n 0, 1) := by decide +kernel
theorem dX9_cheapest_58 : decode cX9_cheapest 58 = .ok (.getfield 110, 3) := by decide +kernel
theorem dX9_cheapest_61 : decode cX9_cheapest 61 = .ok (.imul, 1) := by decide +kernel
theorem dX9_cheapest_62 : decode cX9_cheapest 62 = .ok (.istore_n 3, 1) := by decide +kernel
theorem dX9_cheapest_63 : decode cX9_cheapest 63 = .ok (.iinc 4 1, 3) := by decide +kernel
theorem dX9_cheapest_66 : decode cX9_cheapest 66 = .ok (.goto (-19), 3) := by decide +kernel
theorem dX9_cheapest_69 : decode cX9_cheapest 69 = .ok (.bipush (-9), 2) := by decide +kernel
theorem dX9_cheapest_71 : decode cX9_cheapest 71 = .ok (.istore 4, 2) := by decide +kernel
theorem dX9_cheapest_73 : decode cX9_cheapest 73 = .ok (.bipush (-9), 2) := by decide +kernel
theorem dX9_cheapest_75 : decode cX9_cheapest 75 = .ok (.istore 5, 2) := by decide +kernel
theorem dX9_cheapest_77 : decode cX9_cheapest 77 = .ok (.iconst 0, 1) := by decide +kernel
theorem dX9_cheapest_78 : decode cX9_cheapest 78 = .ok (.istore 6, 2) := by decide +kernel
theorem dX9_cheapest_80 : decode cX9_cheapest 80 = .ok (.iload 6, 2) := by decide +kernel
theorem dX9_cheapest_82 : decode cX9_cheapest 82 = .ok (.iload_n 3, 1) := by decide +kernel
theorem dX9_cheapest_83 : decode cX9_cheapest 83 = .ok (.if_icmp .ge 78, 3) := by decide +kernel
theorem dX9_cheapest_86 : decode cX9_cheapest 86 = .ok (.aload_n 0, 1) := by decide +kernel
theorem dX9_cheapest_87 : decode cX9_cheapest 87 = .ok (.iload 6, 2) := by decide +kernel
theorem dX9_cheapest_89 : decode cX9_cheapest 89 = .ok (.invokevirtual 354, 3) := by decide +kernel
theorem dX9_cheapest_92 : decode cX9_cheapest 92 = .ok (.istore 7, 2) := by decide +kernel
theorem dX9_cheapest_94 : decode cX9_cheapest 94 = .ok (.iload 7, 2) := by decide +kernel
theorem dX9_cheapest_96 : decode cX9_cheapest 96 = .ok (.ifCond .lt 59, 3) := by decide +kernel
theorem dX9_cheapest_99 : decode cX9_cheapest 99 = .ok (.iload 4, 2) := by decide +kernel
theorem dX9_cheapest_101 : decode cX9_cheapest 101 = .ok (.ifCond .lt 13, 3) := by decide +kernel
theorem dX9_cheapest_104 : decode cX9_cheapest 104 = .ok (.iload 7, 2) := by decide +kernel
theorem dX9_cheapest_106 : decode cX9_cheapest 106 = .ok (.iload 4, 2) := by decide +kernel
theorem dX9_cheapest_108 : decode cX9_cheapest 108 = .ok (.if_icmp .lt 6, 3) := by decide +kernel
theorem dX9_cheapest_111 : decode cX9_cheapest 111 = .ok (.goto 44, 3) := by decide +kernel
theorem dX9_cheapest_114 : decode cX9_cheapest 114 = .ok (.iload 7, 2) := by decide +kernel
theorem dX9_cheapest_116 : decode cX9_cheapest 116 = .ok (.istore 4, 2) := by decide +kernel
theorem dX9_cheapest_118 : decode cX9_cheapest 118 = .ok (.iconst 0, 1) := by decide +kernel
theorem dX9_cheapest_119 : decode cX9_cheapest 119 = .ok (.istore 5, 2) := by decide +kernel
theorem dX9_cheapest_121 : decode cX9_cheapest 121 = .ok (.aload_n 0, 1) := by decide +kernel
theorem dX9_cheapest_122 : decode cX9_cheapest 122 = .ok (.getfield 114, 3) := by decide +kernel
theorem dX9_cheapest_125 : decode cX9_cheapest 125 = .ok (.iconst 1, 1) := by decide +kernel
theorem dX9_cheapest_126 : decode cX9_cheapest 126 = .ok (.isub, 1) := by decide +kernel
theorem dX9_cheapest_127 : decode cX9_cheapest 127 = .ok (.istore 8, 2) := by decide +kernel
theorem dX9_cheapest_129 : decode cX9_cheapest 129 = .ok (.iload 8, 2) := by decide +kernel
theorem dX9_cheapest_131 : decode cX9_cheapest 131 = .ok (.ifCond .lt 24, 3) := by decide +kernel
theorem dX9_cheapest_134 : decode cX9_cheapest 134 = .ok (.bipush 10, 2) := by decide +kernel
theorem dX9_cheapest_136 : decode cX9_cheapest 136 = .ok (.iload 5, 2) := by decide +kernel
theorem dX9_cheapest_138 : decode cX9_cheapest 138 = .ok (.imul, 1) := by decide +kernel
theorem dX9_cheapest_139 : decode cX9_cheapest 139 = .ok (.aload_n 0, 1) := by decide +kernel
theorem dX9_cheapest_140 : decode cX9_cheapest 140 = .ok (.getfield 85, 3) := by decide +kernel
theorem dX9_cheapest_143 : decode cX9_cheapest 143 = .ok (.iload 8, 2) := by decide +kernel
theorem dX9_cheapest_145 : decode cX9_cheapest 145 = .ok (.iaload, 1) := by decide +kernel
theorem dX9_cheapest_146 : decode cX9_cheapest 146 = .ok (.iadd, 1) := by decide +kernel
theorem dX9_cheapest_147 : decode cX9_cheapest 147 = .ok (.istore 5, 2) := by decide +kernel
theorem dX9_cheapest_149 : decode cX9_cheapest 149 = .ok (.iinc 8 (-1), 3) := by decide +kernel
theorem dX9_cheapest_152 : decode cX9_cheapest 152 = .ok (.goto (-23), 3) := by decide +kernel
theorem dX9_cheapest_155 : decode cX9_cheapest 155 = .ok (.iinc 6 1, 3) := by decide +kernel
theorem dX9_cheapest_158 : decode cX9_cheapest 158 = .ok (.goto (-78), 3) := by decide +kernel
theorem dX9_cheapest_161 : decode cX9_cheapest 161 = .ok (.iload_n 1, 1) := by decide +kernel
theorem dX9_cheapest_162 : decode cX9_cheapest 162 = .ok (.ifCond .ne 8, 3) := by decide +kernel
theorem dX9_cheapest_165 : decode cX9_cheapest 165 = .ok (.iload 4, 2) := by decide +kernel
theorem dX9_cheapest_167 : decode cX9_cheapest 167 = .ok (.goto 5, 3) := by decide +kernel
theorem dX9_cheapest_170 : decode cX9_cheapest 170 = .ok (.iload 5, 2) := by decide +kernel
theorem dX9_cheapest_172 : decode cX9_cheapest 172 = .ok (.ireturn, 1) := by decide +kernel
theorem dX9_crossed_0 : decode cX9_crossed 0 = .ok (.iload_n 1, 1) := by decide +kernel
theorem dX9_crossed_1 : decode cX9_crossed 1 = .ok (.invokestatic 159, 3) := by decide +kernel
theorem dX9_crossed_4 : decode cX9_crossed 4 = .ok (.ifCond .ne 9, 3) := by decide +kernel
theorem dX9_crossed_7 : decode cX9_crossed 7 = .ok (.aload_n 0, 1) := by decide +kernel
theorem dX9_crossed_8 : decode cX9_crossed 8 = .ok (.iconst (-1), 1) := by decide +kernel
theorem dX9_crossed_9 : decode cX9_crossed 9 = .ok (.invokevirtual 124, 3) := by decide +kernel
theorem dX9_crossed_12 : decode cX9_crossed 12 = .ok (.ireturn, 1) := by decide +kernel
theorem dX9_crossed_13 : decode cX9_crossed 13 = .ok (.iconst 0, 1) := by decide +kernel
theorem dX9_crossed_14 : decode cX9_crossed 14 = .ok (.istore_n 2, 1) := by decide +kernel
theorem dX9_crossed_15 : decode cX9_crossed 15 = .ok (.iconst 0, 1) := by decide +kernel
theorem dX9_crossed_16 : decode cX9_crossed 16 = .ok (.istore_n 3, 1) := by decide +kernel
theorem dX9_crossed_17 : decode cX9_crossed 17 = .ok (.iload_n 3, 1) := by decide +kernel
theorem dX9_crossed_18 : decode cX9_crossed 18 = .ok (.aload_n 0, 1) := by decide +kernel
theorem dX9_crossed_19 : decode cX9_crossed 19 = .ok (.getfield 114, 3) := by decide +kernel
theorem dX9_crossed_22 : decode cX9_crossed 22 = .ok (.if_icmp .ge 87, 3) := by decide +kernel
theorem dX9_crossed_25 : decode cX9_crossed 25 = .ok (.iload_n 3, 1) := by decide +kernel
theorem dX9_crossed_26 : decode cX9_crossed 26 = .ok (.iconst 1, 1) := by decide +kernel
theorem dX9_crossed_27 : decode cX9_crossed 27 = .ok (.iadd, 1) := by decide +kernel
theorem dX9_crossed_28 : decode cX9_crossed 28 = .ok (.istore 4, 2) := by decide +kernel
theorem dX9_crossed_30 : decode cX9_crossed 30 = .ok (.iload 4, 2) := by decide +kernel
theorem dX9_crossed_32 : decode cX9_crossed 32 = .ok (.aload_n 0, 1) := by decide +kernel
theorem dX9_crossed_33 : decode cX9_crossed 33 = .ok (.getfield 114, 3) := by decide +kernel
theorem dX9_crossed_36 : decode cX9_crossed 36 = .ok (.if_icmp .ge 67, 3) := by decide +kernel
theorem dX9_crossed_39 : decode cX9_crossed 39 = .ok (.aload_n 0, 1) := by decide +kernel
theorem dX9_crossed_40 : decode cX9_crossed 40 = .ok (.getfield 19, 3) := by decide +kernel
theorem dX9_crossed_43 : decode cX9_crossed 43 = .ok (.aload_n 0, 1) := by decide +kernel
theorem dX9_crossed_44 : decode cX9_crossed 44 = .ok (.getfield 34, 3) := by decide +kernel
theorem dX9_crossed_47 : decode cX9_crossed 47 = .ok (.iload_n 3, 1) := by decide +kernel
theorem dX9_crossed_48 : decode cX9_crossed 48 = .ok (.iaload, 1) := by decide +kernel
theorem dX9_crossed_49 : decode cX9_crossed 49 = .ok (.iaload, 1) := by decide +kernel
theorem dX9_crossed_50 : decode cX9_crossed 50 = .ok (.aload_n 0, 1) := by decide +kernel
theorem dX9_crossed_51 : decode cX9_crossed 51 = .ok (.getfield 19, 3) := by decide +kernel
theorem dX9_crossed_54 : decode cX9_crossed 54 = .ok (.aload_n 0, 1) := by decide +kernel
theorem dX9_crossed_55 : decode cX9_crossed 55 = .ok (.getfield 34, 3) := by decide +kernel
theorem dX9_crossed_58 : decode cX9_crossed 58 = .ok (.iload 4, 2) := by decide +kernel
theorem dX9_crossed_60 : decode cX9_crossed 60 = .ok (.iaload, 1) := by decide +kernel
theorem dX9_crossed_61 : decode cX9_crossed 61 = .ok (.iaload, 1) := by decide +kernel
theorem dX9_crossed_62 : decode cX9_crossed 62 = .ok (.isub, 1) := by decide +kernel
theorem dX9_crossed_63 : decode cX9_crossed 63 = .ok (.istore 5, 2) := by decide +kernel
theorem dX9_crossed_65 : decode cX9_crossed 65 = .ok (.aload_n 0, 1) := by decide +kernel
theorem dX9_crossed_66 : decode cX9_crossed 66 = .ok (.iload_n 3, 1) := by decide +kernel
theorem dX9_crossed_67 : decode cX9_crossed 67 = .ok (.iload_n 1, 1) := by decide +kernel
theorem dX9_crossed_68 : decode cX9_crossed 68 = .ok (.invokevirtual 243, 3) := by decide +kernel
theorem dX9_crossed_71 : decode cX9_crossed 71 = .ok (.aload_n 0, 1) := by decide +kernel
theorem dX9_crossed_72 : decode cX9_crossed 72 = .ok (.iload 4, 2) := by decide +kernel
theorem dX9_crossed_74 : decode cX9_crossed 74 = .ok (.iload_n 1, 1) := by decide +kernel
theorem dX9_crossed_75 : decode cX9_crossed 75 = .ok (.invokevirtual 243, 3) := by decide +kernel
theorem dX9_crossed_78 : decode cX9_crossed 78 = .ok (.isub, 1) := by decide +kernel
theorem dX9_crossed_79 : decode cX9_crossed 79 = .ok (.istore 6, 2) := by decide +kernel
theorem dX9_crossed_81 : decode cX9_crossed 81 = .ok (.iload_n 2, 1) := by decide +kernel
theorem dX9_crossed_82 : decode cX9_crossed 82 = .ok (.iload 5, 2) := by decide +kernel
theorem dX9_crossed_84 : decode cX9_crossed 84 = .ok (.iload 6, 2) := by decide +kernel
theorem dX9_crossed_86 : decode cX9_crossed 86 = .ok (.imul, 1) := by decide +kernel
theorem dX9_crossed_87 : decode cX9_crossed 87 = .ok (.ifCond .ge 7, 3) := by decide +kernel
theorem dX9_crossed_90 : decode cX9_crossed 90 = .ok (.iconst 1, 1) := by decide +kernel
theorem dX9_crossed_91 : decode cX9_crossed 91 = .ok (.goto 4, 3) := by decide +kernel
theorem dX9_crossed_94 : decode cX9_crossed 94 = .ok (.iconst 0, 1) := by decide +kernel
theorem dX9_crossed_95 : decode cX9_crossed 95 = .ok (.iadd, 1) := by decide +kernel
theorem dX9_crossed_96 : decode cX9_crossed 96 = .ok (.istore_n 2, 1) := by decide +kernel
theorem dX9_crossed_97 : decode cX9_crossed 97 = .ok (.iinc 4 1, 3) := by decide +kernel
theorem dX9_crossed_100 : decode cX9_crossed 100 = .ok (.goto (-70), 3) := by decide +kernel
theorem dX9_crossed_103 : decode cX9_crossed 103 = .ok (.iinc 3 1, 3) := by decide +kernel
theorem dX9_crossed_106 : decode cX9_crossed 106 = .ok (.goto (-89), 3) := by decide +kernel
theorem dX9_crossed_109 : decode cX9_crossed 109 = .ok (.iload_n 2, 1) := by decide +kernel
theorem dX9_crossed_110 : decode cX9_crossed 110 = .ok (.ireturn, 1) := by decide +kernel
theorem dX9_hung_0 : decode cX9_hung 0 = .ok (.aload_n 0, 1) := by decide +kernel
theorem dX9_hung_1 : decode cX9_hung 1 = .ok (.iload_n 1, 1) := by decide +kernel
theorem dX9_hung_2 : decode cX9_hung 2 = .ok (.invokevirtual 168, 3) := by decide +kernel
theorem dX9_hung_5 : decode cX9_hung 5 = .ok (.ifCond .ne 7, 3) := by decide +kernel
theorem dX9_hung_8 : decode cX9_hung 8 = .ok (.iconst (-1), 1) := by decide +kernel
theorem dX9_hung_9 : decode cX9_hung 9 = .ok (.goto 11, 3) := by decide +kernel
theorem dX9_hung_12 : decode cX9_hung 12 = .ok (.iload_n 2, 1) := by decide +kernel
theorem dX9_hung_13 : decode cX9_hung 13 = .ok (.iconst 0, 1) := by decide +kernel
theorem dX9_hung_14 : decode cX9_hung 14 = .ok (.sipush 4095, 3) := by decide +kernel
theorem dX9_hung_17 : decode cX9_hung 17 = .ok (.invokestatic 117, 3) := by decide +kernel
theorem dX9_hung_20 : decode cX9_hung 20 = .ok (.istore 4, 2) := by decide +kernel
theorem dX9_hung_22 : decode cX9_hung 22 = .ok (.iload 4, 2) := by decide +kernel
theorem dX9_hung_24 : decode cX9_hung 24 = .ok (.ifCond .ne 16, 3) := by decide +kernel
theorem dX9_hung_27 : decode cX9_hung 27 = .ok (.iload_n 3, 1) := by decide +kernel
theorem dX9_hung_28 : decode cX9_hung 28 = .ok (.iconst 0, 1) := by decide +kernel
theorem dX9_hung_29 : decode cX9_hung 29 = .ok (.iconst 1, 1) := by decide +kernel
theorem dX9_hung_30 : decode cX9_hung 30 = .ok (.invokestatic 135, 3) := by decide +kernel
theorem dX9_hung_33 : decode cX9_hung 33 = .ok (.ifCond .ne 7, 3) := by decide +kernel
theorem dX9_hung_36 : decode cX9_hung 36 = .ok (.bipush (-2), 2) := by decide +kernel
theorem dX9_hung_38 : decode cX9_hung 38 = .ok (.istore 4, 2) := by decide +kernel
theorem dX9_hung_40 : decode cX9_hung 40 = .ok (.iload 4, 2) := by decide +kernel
theorem dX9_hung_42 : decode cX9_hung 42 = .ok (.ifCond .eq 10, 3) := by decide +kernel
theorem dX9_hung_45 : decode cX9_hung 45 = .ok (.aload_n 0, 1) := by decide +kernel
theorem dX9_hung_46 : decode cX9_hung 46 = .ok (.iload 4, 2) := by decide +kernel
theorem dX9_hung_48 : decode cX9_hung 48 = .ok (.invokevirtual 124, 3) := by decide +kernel
theorem dX9_hung_51 : decode cX9_hung 51 = .ok (.ireturn, 1) := by decide +kernel
theorem dX9_hung_52 : decode cX9_hung 52 = .ok (.aload_n 0, 1) := by decide +kernel
theorem dX9_hung_53 : decode cX9_hung 53 = .ok (.getfield 34, 3) := by decide +kernel
theorem dX9_hung_56 : decode cX9_hung 56 = .ok (.iload_n 1, 1) := by decide +kernel
theorem dX9_hung_57 : decode cX9_hung 57 = .ok (.iaload, 1) := by decide +kernel
theorem dX9_hung_58 : decode cX9_hung 58 = .ok (.istore 5, 2) := by decide +kernel
theorem dX9_hung_60 : decode cX9_hung 60 = .ok (.iconst 0, 1) := by decide +kernel
theorem dX9_hung_61 : decode cX9_hung 61 = .ok (.istore 6, 2) := by decide +kernel
theorem dX9_hung_63 : decode cX9_hung 63 = .ok (.bipush (-9), 2) := by decide +kernel
theorem dX9_hung_65 : decode cX9_hung 65 = .ok (.istore 7, 2) := by decide +kernel
theorem dX9_hung_67 : decode cX9_hung 67 = .ok (.iconst 0, 1) := by decide +kernel
theorem dX9_hung_68 : decode cX9_hung 68 = .ok (.istore 8, 2) := by decide +kernel
theorem dX9_hung_70 : decode cX9_hung 70 = .ok (.iload 8, 2) := by decide +kernel
theorem dX9_hung_72 : decode cX9_hung 72 = .ok (.aload_n 0, 1) := by decide +kernel
theorem dX9_hung_73 : decode cX9_hung 73 = .ok (.getfield 110, 3) := by decide +kernel
theorem dX9_hung_76 : decode cX9_hung 76 = .ok (.bipush 100, 2) := by decide +kernel
theorem dX9_hung_78 : decode cX9_hung 78 = .ok (.imul, 1) := by decide +kernel
theorem dX9_hung_79 : decode cX9_hung 79 = .ok (.if_icmp .ge 54, 3) := by decide +kernel
theorem dX9_hung_82 : decode cX9_hung 82 = .ok (.aload_n 0, 1) := by decide +kernel
theorem dX9_hung_83 : decode cX9_hung 83 = .ok (.getfield 34, 3) := by decide +kernel
theorem dX9_hung_86 : decode cX9_hung 86 = .ok (.iload_n 1, 1) := by decide +kernel
theorem dX9_hung_87 : decode cX9_hung 87 = .ok (.iload 8, 2) := by decide +kernel
theorem dX9_hung_89 : decode cX9_hung 89 = .ok (.bipush 100, 2) := by decide +kernel
theorem dX9_hung_91 : decode cX9_hung 91 = .ok (.idiv, 1) := by decide +kernel
theorem dX9_hung_92 : decode cX9_hung 92 = .ok (.iastore, 1) := by decide +kernel
theorem dX9_hung_93 : decode cX9_hung 93 = .ok (.aload_n 0, 1) := by decide +kernel
theorem dX9_hung_94 : decode cX9_hung 94 = .ok (.iload_n 1, 1) := by decide +kernel
theorem dX9_hung_95 : decode cX9_hung 95 = .ok (.iload 8, 2) := by decide +kernel
theorem dX9_hung_97 : decode cX9_hung 97 = .ok (.bipush 100, 2) := by decide +kernel
theorem dX9_hung_99 : decode cX9_hung 99 = .ok (.irem, 1) := by decide +kernel
theorem dX9_hung_100 : decode cX9_hung 100 = .ok (.invokevirtual 246, 3) := by decide +kernel
theorem dX9_hung_103 : decode cX9_hung 103 = .ok (.iload_n 2, 1) := by decide +kernel
theorem dX9_hung_104 : decode cX9_hung 104 = .ok (.if_icmp .eq 6, 3) := by decide +kernel
theorem dX9_hung_107 : decode cX9_hung 107 = .ok (.goto 20, 3) := by decide +kernel
theorem dX9_hung_110 : decode cX9_hung 110 = .ok (.iload 6, 2) := by decide +kernel
theorem dX9_hung_112 : decode cX9_hung 112 = .ok (.ifCond .ne 8, 3) := by decide +kernel
theorem dX9_hung_115 : decode cX9_hung 115 = .ok (.iload 8, 2) := by decide +kernel
theorem dX9_hung_117 : decode cX9_hung 117 = .ok (.goto 5, 3) := by decide +kernel
theorem dX9_hung_120 : decode cX9_hung 120 = .ok (.iload 7, 2) := by decide +kernel
theorem dX9_hung_122 : decode cX9_hung 122 = .ok (.istore 7, 2) := by decide +kernel
theorem dX9_hung_124 : decode cX9_hung 124 = .ok (.iinc 6 1, 3) := by decide +kernel
theorem dX9_hung_127 : decode cX9_hung 127 = .ok (.iinc 8 1, 3) := by decide +kernel
theorem dX9_hung_130 : decode cX9_hung 130 = .ok (.goto (-60), 3) := by decide +kernel
theorem dX9_hung_133 : decode cX9_hung 133 = .ok (.aload_n 0, 1) := by decide +kernel
theorem dX9_hung_134 : decode cX9_hung 134 = .ok (.getfield 34, 3) := by decide +kernel
theorem dX9_hung_137 : decode cX9_hung 137 = .ok (.iload_n 1, 1) := by decide +kernel
theorem dX9_hung_138 : decode cX9_hung 138 = .ok (.iload 5, 2) := by decide +kernel
theorem dX9_hung_140 : decode cX9_hung 140 = .ok (.iastore, 1) := by decide +kernel
theorem dX9_hung_141 : decode cX9_hung 141 = .ok (.iload_n 3, 1) := by decide +kernel
theorem dX9_hung_142 : decode cX9_hung 142 = .ok (.ifCond .ne 8, 3) := by decide +kernel
theorem dX9_hung_145 : decode cX9_hung 145 = .ok (.iload 6, 2) := by decide +kernel
theorem dX9_hung_147 : decode cX9_hung 147 = .ok (.goto 5, 3) := by decide +kernel
theorem dX9_hung_150 : decode cX9_hung 150 = .ok (.iload 7, 2) := by decide +kernel
theorem dX9_hung_152 : decode cX9_hung 152 = .ok (.ireturn, 1) := by decide +kernel
theorem dX9_worthTo_0 : decode cX9_worthTo 0 = .ok (.bipush (-50), 2) := by decide +kernel
theorem dX9_worthTo_2 : decode cX9_worthTo 2 = .ok (.iload_n 2, 1) := by decide +kernel
theorem dX9_worthTo_3 : decode cX9_worthTo 3 = .ok (.imul, 1) := by decide +kernel
theorem dX9_worthTo_4 : decode cX9_worthTo 4 = .ok (.istore_n 3, 1) := by decide +kernel
theorem dX9_worthTo_5 : decode cX9_worthTo 5 = .ok (.iconst 0, 1) := by decide +kernel
theorem dX9_worthTo_6 : decode cX9_worthTo 6 = .ok (.istore 4, 2) := by decide +kernel
theorem dX9_worthTo_8 : decode cX9_worthTo 8 = .ok (.iload 4, 2) := by decide +kernel
theorem dX9_worthTo_10 : decode cX9_worthTo 10 = .ok (.bipush 12, 2) := by decide +kernel
theorem dX9_worthTo_12 : decode cX9_worthTo 12 = .ok (.if_icmp .ge 19, 3) := by decide +kernel
theorem dX9_worthTo_15 : decode cX9_worthTo 15 = .ok (.iload_n 3, 1) := by decide +kernel
theorem dX9_worthTo_16 : decode cX9_worthTo 16 = .ok (.aload_n 0, 1) := by decide +kernel
theorem dX9_worthTo_17 : decode cX9_worthTo 17 = .ok (.iload_n 1, 1) := by decide +kernel
theorem dX9_worthTo_18 : decode cX9_worthTo 18 = .ok (.iload 4, 2) := by decide +kernel
theorem dX9_worthTo_20 : decode cX9_worthTo 20 = .ok (.invokevirtual 230, 3) := by decide +kernel
theorem dX9_worthTo_23 : decode cX9_worthTo 23 = .ok (.iadd, 1) := by decide +kernel
theorem dX9_worthTo_24 : decode cX9_worthTo 24 = .ok (.istore_n 3, 1) := by decide +kernel
theorem dX9_worthTo_25 : decode cX9_worthTo 25 = .ok (.iinc 4 1, 3) := by decide +kernel
theorem dX9_worthTo_28 : decode cX9_worthTo 28 = .ok (.goto (-20), 3) := by decide +kernel
theorem dX9_worthTo_31 : decode cX9_worthTo 31 = .ok (.iload_n 3, 1) := by decide +kernel
theorem dX9_worthTo_32 : decode cX9_worthTo 32 = .ok (.bipush 99, 2) := by decide +kernel
theorem dX9_worthTo_34 : decode cX9_worthTo 34 = .ok (.aload_n 0, 1) := by decide +kernel
theorem dX9_worthTo_35 : decode cX9_worthTo 35 = .ok (.iload_n 1, 1) := by decide +kernel
theorem dX9_worthTo_36 : decode cX9_worthTo 36 = .ok (.aload_n 0, 1) := by decide +kernel
theorem dX9_worthTo_37 : decode cX9_worthTo 37 = .ok (.getfield 40, 3) := by decide +kernel
theorem dX9_worthTo_40 : decode cX9_worthTo 40 = .ok (.iload_n 1, 1) := by decide +kernel
theorem dX9_worthTo_41 : decode cX9_worthTo 41 = .ok (.iaload, 1) := by decide +kernel
theorem dX9_worthTo_42 : decode cX9_worthTo 42 = .ok (.invokevirtual 246, 3) := by decide +kernel
theorem dX9_worthTo_45 : decode cX9_worthTo 45 = .ok (.invokestatic 273, 3) := by decide +kernel
theorem dX9_worthTo_48 : decode cX9_worthTo 48 = .ok (.imul, 1) := by decide +kernel
theorem dX9_worthTo_49 : decode cX9_worthTo 49 = .ok (.isub, 1) := by decide +kernel
theorem dX9_worthTo_50 : decode cX9_worthTo 50 = .ok (.ireturn, 1) := by decide +kernel
theorem dX9_rests_0 : decode cX9_rests 0 = .ok (.iconst 0, 1) := by decide +kernel
theorem dX9_rests_1 : decode cX9_rests 1 = .ok (.istore_n 2, 1) := by decide +kernel
theorem dX9_rests_2 : decode cX9_rests 2 = .ok (.iload_n 2, 1) := by decide +kernel
theorem dX9_rests_3 : decode cX9_rests 3 = .ok (.iconst 5, 1) := by decide +kernel
theorem dX9_rests_4 : decode cX9_rests 4 = .ok (.if_icmp .ge 53, 3) := by decide +kernel
theorem dX9_rests_7 : decode cX9_rests 7 = .ok (.aload_n 0, 1) := by decide +kernel
theorem dX9_rests_8 : decode cX9_rests 8 = .ok (.getfield 103, 3) := by decide +kernel
theorem dX9_rests_11 : decode cX9_rests 11 = .ok (.iconst 5, 1) := by decide +kernel
theorem dX9_rests_12 : decode cX9_rests 12 = .ok (.iload_n 2, 1) := by decide +kernel
theorem dX9_rests_13 : decode cX9_rests 13 = .ok (.imul, 1) := by decide +kernel
theorem dX9_rests_14 : decode cX9_rests 14 = .ok (.iload_n 1, 1) := by decide +kernel
theorem dX9_rests_15 : decode cX9_rests 15 = .ok (.iconst 5, 1) := by decide +kernel
theorem dX9_rests_16 : decode cX9_rests 16 = .ok (.irem, 1) := by decide +kernel
theorem dX9_rests_17 : decode cX9_rests 17 = .ok (.iadd, 1) := by decide +kernel
theorem dX9_rests_18 : decode cX9_rests 18 = .ok (.iaload, 1) := by decide +kernel
theorem dX9_rests_19 : decode cX9_rests 19 = .ok (.aload_n 0, 1) := by decide +kernel
theorem dX9_rests_20 : decode cX9_rests 20 = .ok (.getfield 103, 3) := by decide +kernel
theorem dX9_rests_23 : decode cX9_rests 23 = .ok (.iload_n 1, 1) := by decide +kernel
theorem dX9_rests_24 : decode cX9_rests 24 = .ok (.iaload, 1) := by decide +kernel
theorem dX9_rests_25 : decode cX9_rests 25 = .ok (.if_icmp .gt 24, 3) := by decide +kernel
theorem dX9_rests_28 : decode cX9_rests 28 = .ok (.aload_n 0, 1) := by decide +kernel
theorem dX9_rests_29 : decode cX9_rests 29 = .ok (.getfield 106, 3) := by decide +kernel
theorem dX9_rests_32 : decode cX9_rests 32 = .ok (.iload_n 1, 1) := by decide +kernel
theorem dX9_rests_33 : decode cX9_rests 33 = .ok (.iconst 5, 1) := by decide +kernel
theorem dX9_rests_34 : decode cX9_rests 34 = .ok (.idiv, 1) := by decide +kernel
theorem dX9_rests_35 : decode cX9_rests 35 = .ok (.iconst 5, 1) := by decide +kernel
theorem dX9_rests_36 : decode cX9_rests 36 = .ok (.imul, 1) := by decide +kernel
theorem dX9_rests_37 : decode cX9_rests 37 = .ok (.iload_n 2, 1) := by decide +kernel
theorem dX9_rests_38 : decode cX9_rests 38 = .ok (.iadd, 1) := by decide +kernel
theorem dX9_rests_39 : decode cX9_rests 39 = .ok (.iaload, 1) := by decide +kernel
theorem dX9_rests_40 : decode cX9_rests 40 = .ok (.aload_n 0, 1) := by decide +kernel
theorem dX9_rests_41 : decode cX9_rests 41 = .ok (.getfield 106, 3) := by decide +kernel
theorem dX9_rests_44 : decode cX9_rests 44 = .ok (.iload_n 1, 1) := by decide +kernel
theorem dX9_rests_45 : decode cX9_rests 45 = .ok (.iaload, 1) := by decide +kernel
theorem dX9_rests_46 : decode cX9_rests 46 = .ok (.if_icmp .le 5, 3) := by decide +kernel
theorem dX9_rests_49 : decode cX9_rests 49 = .ok (.iconst 0, 1) := by decide +kernel
theorem dX9_rests_50 : decode cX9_rests 50 = .ok (.ireturn, 1) := by decide +kernel
theorem dX9_rests_51 : decode cX9_rests 51 = .ok (.iinc 2 1, 3) := by decide +kernel
theorem dX9_rests_54 : decode cX9_rests 54 = .ok (.goto (-52), 3) := by decide +kernel
theorem dX9_rests_57 : decode cX9_rests 57 = .ok (.iconst 1, 1) := by decide +kernel
theorem dX9_rests_58 : decode cX9_rests 58 = .ok (.ireturn, 1) := by decide +kernel
theorem dX9_choiceOf_0 : decode cX9_choiceOf 0 = .ok (.iload_n 0, 1) := by decide +kernel
theorem dX9_choiceOf_1 : decode cX9_choiceOf 1 = .ok (.iconst 2, 1) := by decide +kernel
theorem dX9_choiceOf_2 : decode cX9_choiceOf 2 = .ok (.isub, 1) := by decide +kernel
theorem dX9_choiceOf_3 : decode cX9_choiceOf 3 = .ok (.iload_n 1, 1) := by decide +kernel
theorem dX9_choiceOf_4 : decode cX9_choiceOf 4 = .ok (.iadd, 1) := by decide +kernel
theorem dX9_choiceOf_5 : decode cX9_choiceOf 5 = .ok (.istore_n 2, 1) := by decide +kernel
theorem dX9_choiceOf_6 : decode cX9_choiceOf 6 = .ok (.iload_n 2, 1) := by decide +kernel
theorem dX9_choiceOf_7 : decode cX9_choiceOf 7 = .ok (.ifCond .ge 7, 3) := by decide +kernel
theorem dX9_choiceOf_10 : decode cX9_choiceOf 10 = .ok (.iconst 0, 1) := by decide +kernel
theorem dX9_choiceOf_11 : decode cX9_choiceOf 11 = .ok (.goto 15, 3) := by decide +kernel
theorem dX9_choiceOf_14 : decode cX9_choiceOf 14 = .ok (.iload_n 2, 1) := by decide +kernel
theorem dX9_choiceOf_15 : decode cX9_choiceOf 15 = .ok (.bipush 99, 2) := by decide +kernel
theorem dX9_choiceOf_17 : decode cX9_choiceOf 17 = .ok (.if_icmp .le 8, 3) := by decide +kernel
theorem dX9_choiceOf_20 : decode cX9_choiceOf 20 = .ok (.bipush 99, 2) := by decide +kernel
theorem dX9_choiceOf_22 : decode cX9_choiceOf 22 = .ok (.goto 4, 3) := by decide +kernel
theorem dX9_choiceOf_25 : decode cX9_choiceOf 25 = .ok (.iload_n 2, 1) := by decide +kernel
theorem dX9_choiceOf_26 : decode cX9_choiceOf 26 = .ok (.ireturn, 1) := by decide +kernel
theorem dX9_skippers_0 : decode cX9_skippers 0 = .ok (.aload_n 0, 1) := by decide +kernel
theorem dX9_skippers_1 : decode cX9_skippers 1 = .ok (.iload_n 1, 1) := by decide +kernel
theorem dX9_skippers_2 : decode cX9_skippers 2 = .ok (.iload_n 2, 1) := by decide +kernel
theorem dX9_skippers_3 : decode cX9_skippers 3 = .ok (.invokevirtual 279, 3) := by decide +kernel
theorem dX9_skippers_6 : decode cX9_skippers 6 = .ok (.ifCond .ne 7, 3) := by decide +kernel
theorem dX9_skippers_9 : decode cX9_skippers 9 = .ok (.iconst (-1), 1) := by decide +kernel
theorem dX9_skippers_10 : decode cX9_skippers 10 = .ok (.goto 18, 3) := by decide +kernel
theorem dX9_skippers_13 : decode cX9_skippers 13 = .ok (.iload_n 3, 1) := by decide +kernel
theorem dX9_skippers_14 : decode cX9_skippers 14 = .ok (.iconst 0, 1) := by decide +kernel
theorem dX9_skippers_15 : decode cX9_skippers 15 = .ok (.iconst 1, 1) := by decide +kernel
theorem dX9_skippers_16 : decode cX9_skippers 16 = .ok (.invokestatic 135, 3) := by decide +kernel
theorem dX9_skippers_19 : decode cX9_skippers 19 = .ok (.ifCond .ne 8, 3) := by decide +kernel
theorem dX9_skippers_22 : decode cX9_skippers 22 = .ok (.bipush (-2), 2) := by decide +kernel
theorem dX9_skippers_24 : decode cX9_skippers 24 = .ok (.goto 4, 3) := by decide +kernel
theorem dX9_skippers_27 : decode cX9_skippers 27 = .ok (.iconst 0, 1) := by decide +kernel
theorem dX9_skippers_28 : decode cX9_skippers 28 = .ok (.istore 4, 2) := by decide +kernel
theorem dX9_skippers_30 : decode cX9_skippers 30 = .ok (.iload 4, 2) := by decide +kernel
theorem dX9_skippers_32 : decode cX9_skippers 32 = .ok (.ifCond .eq 10, 3) := by decide +kernel
theorem dX9_skippers_35 : decode cX9_skippers 35 = .ok (.aload_n 0, 1) := by decide +kernel
theorem dX9_skippers_36 : decode cX9_skippers 36 = .ok (.iload 4, 2) := by decide +kernel
theorem dX9_skippers_38 : decode cX9_skippers 38 = .ok (.invokevirtual 124, 3) := by decide +kernel
theorem dX9_skippers_41 : decode cX9_skippers 41 = .ok (.ireturn, 1) := by decide +kernel
theorem dX9_skippers_42 : decode cX9_skippers 42 = .ok (.aload_n 0, 1) := by decide +kernel
theorem dX9_skippers_43 : decode cX9_skippers 43 = .ok (.getfield 40, 3) := by decide +kernel
theorem dX9_skippers_46 : decode cX9_skippers 46 = .ok (.iload_n 1, 1) := by decide +kernel
theorem dX9_skippers_47 : decode cX9_skippers 47 = .ok (.iaload, 1) := by decide +kernel
theorem dX9_skippers_48 : decode cX9_skippers 48 = .ok (.istore 5, 2) := by decide +kernel
theorem dX9_skippers_50 : decode cX9_skippers 50 = .ok (.aload_n 0, 1) := by decide +kernel
theorem dX9_skippers_51 : decode cX9_skippers 51 = .ok (.getfield 40, 3) := by decide +kernel
theorem dX9_skippers_54 : decode cX9_skippers 54 = .ok (.iload_n 2, 1) := by decide +kernel
theorem dX9_skippers_55 : decode cX9_skippers 55 = .ok (.iaload, 1) := by decide +kernel
theorem dX9_skippers_56 : decode cX9_skippers 56 = .ok (.istore 6, 2) := by decide +kernel
theorem dX9_skippers_58 : decode cX9_skippers 58 = .ok (.iconst 0, 1) := by decide +kernel
theorem dX9_skippers_59 : decode cX9_skippers 59 = .ok (.istore 7, 2) := by decide +kernel
theorem dX9_skippers_61 : decode cX9_skippers 61 = .ok (.iload 7, 2) := by decide +kernel
theorem dX9_skippers_63 : decode cX9_skippers 63 = .ok (.bipush 25, 2) := by decide +kernel
theorem dX9_skippers_65 : decode cX9_skippers 65 = .ok (.if_icmp .ge 78, 3) := by decide +kernel
theorem dX9_skippers_68 : decode cX9_skippers 68 = .ok (.aload_n 0, 1) := by decide +kernel
theorem dX9_skippers_69 : decode cX9_skippers 69 = .ok (.getfield 40, 3) := by decide +kernel
theorem dX9_skippers_72 : decode cX9_skippers 72 = .ok (.iload_n 1, 1) := by decide +kernel
theorem dX9_skippers_73 : decode cX9_skippers 73 = .ok (.iload 5, 2) := by decide +kernel
theorem dX9_skippers_75 : decode cX9_skippers 75 = .ok (.iload 7, 2) := by decide +kernel
theorem dX9_skippers_77 : decode cX9_skippers 77 = .ok (.iconst 5, 1) := by decide +kernel
theorem dX9_skippers_78 : decode cX9_skippers 78 = .ok (.idiv, 1) := by decide +kernel
theorem dX9_skippers_79 : decode cX9_skippers 79 = .ok (.invokestatic 357, 3) := by decide +kernel
theorem dX9_skippers_82 : decode cX9_skippers 82 = .ok (.iastore, 1) := by decide +kernel
theorem dX9_skippers_83 : decode cX9_skippers 83 = .ok (.aload_n 0, 1) := by decide +kernel
theorem dX9_skippers_84 : decode cX9_skippers 84 = .ok (.getfield 40, 3) := by decide +kernel
theorem dX9_skippers_87 : decode cX9_skippers 87 = .ok (.iload_n 2, 1) := by decide +kernel
theorem dX9_skippers_88 : decode cX9_skippers 88 = .ok (.iload 6, 2) := by decide +kernel
theorem dX9_skippers_90 : decode cX9_skippers 90 = .ok (.iload 7, 2) := by decide +kernel
theorem dX9_skippers_92 : decode cX9_skippers 92 = .ok (.iconst 5, 1) := by decide +kernel
theorem dX9_skippers_93 : decode cX9_skippers 93 = .ok (.irem, 1) := by decide +kernel
theorem dX9_skippers_94 : decode cX9_skippers 94 = .ok (.invokestatic 357, 3) := by decide +kernel
theorem dX9_skippers_97 : decode cX9_skippers 97 = .ok (.iastore, 1) := by decide +kernel
theorem dX9_skippers_98 : decode cX9_skippers 98 = .ok (.aload_n 0, 1) := by decide +kernel
theorem dX9_skippers_99 : decode cX9_skippers 99 = .ok (.iload_n 1, 1) := by decide +kernel
theorem dX9_skippers_100 : decode cX9_skippers 100 = .ok (.iload_n 2, 1) := by decide +kernel
theorem dX9_skippers_101 : decode cX9_skippers 101 = .ok (.invokevirtual 282, 3) := by decide +kernel
theorem dX9_skippers_104 : decode cX9_skippers 104 = .ok (.invokestatic 273, 3) := by decide +kernel
theorem dX9_skippers_107 : decode cX9_skippers 107 = .ok (.istore 8, 2) := by decide +kernel
theorem dX9_skippers_109 : decode cX9_skippers 109 = .ok (.aload_n 0, 1) := by decide +kernel
theorem dX9_skippers_110 : decode cX9_skippers 110 = .ok (.getfield 103, 3) := by decide +kernel
theorem dX9_skippers_113 : decode cX9_skippers 113 = .ok (.iload 7, 2) := by decide +kernel
theorem dX9_skippers_115 : decode cX9_skippers 115 = .ok (.aload_n 0, 1) := by decide +kernel
theorem dX9_skippers_116 : decode cX9_skippers 116 = .ok (.iload_n 1, 1) := by decide +kernel
theorem dX9_skippers_117 : decode cX9_skippers 117 = .ok (.iload 8, 2) := by decide +kernel
theorem dX9_skippers_119 : decode cX9_skippers 119 = .ok (.invokevirtual 360, 3) := by decide +kernel
theorem dX9_skippers_122 : decode cX9_skippers 122 = .ok (.iastore, 1) := by decide +kernel
theorem dX9_skippers_123 : decode cX9_skippers 123 = .ok (.aload_n 0, 1) := by decide +kernel
theorem dX9_skippers_124 : decode cX9_skippers 124 = .ok (.getfield 106, 3) := by decide +kernel
theorem dX9_skippers_127 : decode cX9_skippers 127 = .ok (.iload 7, 2) := by decide +kernel
theorem dX9_skippers_129 : decode cX9_skippers 129 = .ok (.aload_n 0, 1) := by decide +kernel
theorem dX9_skippers_130 : decode cX9_skippers 130 = .ok (.iload_n 2, 1) := by decide +kernel
theorem dX9_skippers_131 : decode cX9_skippers 131 = .ok (.iload 8, 2) := by decide +kernel
theorem dX9_skippers_133 : decode cX9_skippers 133 = .ok (.invokevirtual 360, 3) := by decide +kernel
theorem dX9_skippers_136 : decode cX9_skippers 136 = .ok (.iastore, 1) := by decide +kernel
theorem dX9_skippers_137 : decode cX9_skippers 137 = .ok (.iinc 7 1, 3) := by decide +kernel
theorem dX9_skippers_140 : decode cX9_skippers 140 = .ok (.goto (-79), 3) := by decide +kernel
theorem dX9_skippers_143 : decode cX9_skippers 143 = .ok (.aload_n 0, 1) := by decide +kernel
theorem dX9_skippers_144 : decode cX9_skippers 144 = .ok (.getfield 40, 3) := by decide +kernel
theorem dX9_skippers_147 : decode cX9_skippers 147 = .ok (.iload_n 1, 1) := by decide +kernel
theorem dX9_skippers_148 : decode cX9_skippers 148 = .ok (.iload 5, 2) := by decide +kernel
theorem dX9_skippers_150 : decode cX9_skippers 150 = .ok (.iastore, 1) := by decide +kernel
theorem dX9_skippers_151 : decode cX9_skippers 151 = .ok (.aload_n 0, 1) := by decide +kernel
theorem dX9_skippers_152 : decode cX9_skippers 152 = .ok (.getfield 40, 3) := by decide +kernel
theorem dX9_skippers_155 : decode cX9_skippers 155 = .ok (.iload_n 2, 1) := by decide +kernel
theorem dX9_skippers_156 : decode cX9_skippers 156 = .ok (.iload 6, 2) := by decide +kernel
theorem dX9_skippers_158 : decode cX9_skippers 158 = .ok (.iastore, 1) := by decide +kernel
theorem dX9_skippers_159 : decode cX9_skippers 159 = .ok (.iconst 0, 1) := by decide +kernel
theorem dX9_skippers_160 : decode cX9_skippers 160 = .ok (.istore 7, 2) := by decide +kernel
theorem dX9_skippers_162 : decode cX9_skippers 162 = .ok (.iload 7, 2) := by decide +kernel
theorem dX9_skippers_164 : decode cX9_skippers 164 = .ok (.bipush 25, 2) := by decide +kernel
theorem dX9_skippers_166 : decode cX9_skippers 166 = .ok (.if_icmp .ge 44, 3) := by decide +kernel
theorem dX9_skippers_169 : decode cX9_skippers 169 = .ok (.aload_n 0, 1) := by decide +kernel
theorem dX9_skippers_170 : decode cX9_skippers 170 = .ok (.iload 7, 2) := by decide +kernel
theorem dX9_skippers_172 : decode cX9_skippers 172 = .ok (.invokevirtual 363, 3) := by decide +kernel
theorem dX9_skippers_175 : decode cX9_skippers 175 = .ok (.ifCond .eq 29, 3) := by decide +kernel
theorem dX9_skippers_178 : decode cX9_skippers 178 = .ok (.iload_n 3, 1) := by decide +kernel
theorem dX9_skippers_179 : decode cX9_skippers 179 = .ok (.ifCond .ne 15, 3) := by decide +kernel
theorem dX9_skippers_182 : decode cX9_skippers 182 = .ok (.iload 5, 2) := by decide +kernel
theorem dX9_skippers_184 : decode cX9_skippers 184 = .ok (.iload 7, 2) := by decide +kernel
theorem dX9_skippers_186 : decode cX9_skippers 186 = .ok (.iconst 5, 1) := by decide +kernel
theorem dX9_skippers_187 : decode cX9_skippers 187 = .ok (.idiv, 1) := by decide +kernel
theorem dX9_skippers_188 : decode cX9_skippers 188 = .ok (.invokestatic 357, 3) := by decide +kernel
theorem dX9_skippers_191 : decode cX9_skippers 191 = .ok (.goto 12, 3) := by decide +kernel
theorem dX9_skippers_194 : decode cX9_skippers 194 = .ok (.iload 6, 2) := by decide +kernel
theorem dX9_skippers_196 : decode cX9_skippers 196 = .ok (.iload 7, 2) := by decide +kernel
theorem dX9_skippers_198 : decode cX9_skippers 198 = .ok (.iconst 5, 1) := by decide +kernel
theorem dX9_skippers_199 : decode cX9_skippers 199 = .ok (.irem, 1) := by decide +kernel
theorem dX9_skippers_200 : decode cX9_skippers 200 = .ok (.invokestatic 357, 3) := by decide +kernel
theorem dX9_skippers_203 : decode cX9_skippers 203 = .ok (.ireturn, 1) := by decide +kernel
theorem dX9_skippers_204 : decode cX9_skippers 204 = .ok (.iinc 7 1, 3) := by decide +kernel
theorem dX9_skippers_207 : decode cX9_skippers 207 = .ok (.goto (-45), 3) := by decide +kernel
theorem dX9_skippers_210 : decode cX9_skippers 210 = .ok (.bipush (-9), 2) := by decide +kernel
theorem dX9_skippers_212 : decode cX9_skippers 212 = .ok (.ireturn, 1) := by decide +kernel
theorem dX9_row_0 : decode cX9_row 0 = .ok (.iload_n 1, 1) := by decide +kernel
theorem dX9_row_1 : decode cX9_row 1 = .ok (.iconst 0, 1) := by decide +kernel
theorem dX9_row_2 : decode cX9_row 2 = .ok (.bipush 99, 2) := by decide +kernel
theorem dX9_row_4 : decode cX9_row 4 = .ok (.invokestatic 117, 3) := by decide +kernel
theorem dX9_row_7 : decode cX9_row 7 = .ok (.istore_n 2, 1) := by decide +kernel
theorem dX9_row_8 : decode cX9_row 8 = .ok (.iload_n 2, 1) := by decide +kernel
theorem dX9_row_9 : decode cX9_row 9 = .ok (.ifCond .ne 15, 3) := by decide +kernel
theorem dX9_row_12 : decode cX9_row 12 = .ok (.aload_n 0, 1) := by decide +kernel
theorem dX9_row_13 : decode cX9_row 13 = .ok (.getfield 291, 3) := by decide +kernel
theorem dX9_row_16 : decode cX9_row 16 = .ok (.bipush 12, 2) := by decide +kernel
theorem dX9_row_18 : decode cX9_row 18 = .ok (.if_icmp .ne 6, 3) := by decide +kernel
theorem dX9_row_21 : decode cX9_row 21 = .ok (.bipush (-6), 2) := by decide +kernel
theorem dX9_row_23 : decode cX9_row 23 = .ok (.istore_n 2, 1) := by decide +kernel
theorem dX9_row_24 : decode cX9_row 24 = .ok (.iload_n 2, 1) := by decide +kernel
theorem dX9_row_25 : decode cX9_row 25 = .ok (.ifCond .eq 9, 3) := by decide +kernel
theorem dX9_row_28 : decode cX9_row 28 = .ok (.aload_n 0, 1) := by decide +kernel
theorem dX9_row_29 : decode cX9_row 29 = .ok (.iload_n 2, 1) := by decide +kernel
theorem dX9_row_30 : decode cX9_row 30 = .ok (.invokevirtual 124, 3) := by decide +kernel
theorem dX9_row_33 : decode cX9_row 33 = .ok (.ireturn, 1) := by decide +kernel
theorem dX9_row_34 : decode cX9_row 34 = .ok (.aload_n 0, 1) := by decide +kernel
theorem dX9_row_35 : decode cX9_row 35 = .ok (.getfield 76, 3) := by decide +kernel
theorem dX9_row_38 : decode cX9_row 38 = .ok (.aload_n 0, 1) := by decide +kernel
theorem dX9_row_39 : decode cX9_row 39 = .ok (.getfield 291, 3) := by decide +kernel
theorem dX9_row_42 : decode cX9_row 42 = .ok (.iload_n 1, 1) := by decide +kernel
theorem dX9_row_43 : decode cX9_row 43 = .ok (.iastore, 1) := by decide +kernel
theorem dX9_row_44 : decode cX9_row 44 = .ok (.aload_n 0, 1) := by decide +kernel
theorem dX9_row_45 : decode cX9_row 45 = .ok (.dup, 1) := by decide +kernel
theorem dX9_row_46 : decode cX9_row 46 = .ok (.getfield 291, 3) := by decide +kernel
theorem dX9_row_49 : decode cX9_row 49 = .ok (.iconst 1, 1) := by decide +kernel
theorem dX9_row_50 : decode cX9_row 50 = .ok (.iadd, 1) := by decide +kernel
theorem dX9_row_51 : decode cX9_row 51 = .ok (.putfield 291, 3) := by decide +kernel
theorem dX9_row_54 : decode cX9_row 54 = .ok (.aload_n 0, 1) := by decide +kernel
theorem dX9_row_55 : decode cX9_row 55 = .ok (.getfield 291, 3) := by decide +kernel
theorem dX9_row_58 : decode cX9_row 58 = .ok (.ireturn, 1) := by decide +kernel
theorem dX9_judge_0 : decode cX9_judge 0 = .ok (.aload_n 0, 1) := by decide +kernel
theorem dX9_judge_1 : decode cX9_judge 1 = .ok (.iload_n 1, 1) := by decide +kernel
theorem dX9_judge_2 : decode cX9_judge 2 = .ok (.invokevirtual 168, 3) := by decide +kernel
theorem dX9_judge_5 : decode cX9_judge 5 = .ok (.ifCond .ne 9, 3) := by decide +kernel
theorem dX9_judge_8 : decode cX9_judge 8 = .ok (.aload_n 0, 1) := by decide +kernel
theorem dX9_judge_9 : decode cX9_judge 9 = .ok (.iconst (-1), 1) := by decide +kernel
theorem dX9_judge_10 : decode cX9_judge 10 = .ok (.invokevirtual 124, 3) := by decide +kernel
theorem dX9_judge_13 : decode cX9_judge 13 = .ok (.ireturn, 1) := by decide +kernel
theorem dX9_judge_14 : decode cX9_judge 14 = .ok (.aload_n 0, 1) := by decide +kernel
theorem dX9_judge_15 : decode cX9_judge 15 = .ok (.getfield 291, 3) := by decide +kernel
theorem dX9_judge_18 : decode cX9_judge 18 = .ok (.istore_n 2, 1) := by decide +kernel
theorem dX9_judge_19 : decode cX9_judge 19 = .ok (.aload_n 0, 1) := by decide +kernel
theorem dX9_judge_20 : decode cX9_judge 20 = .ok (.iconst 0, 1) := by decide +kernel
theorem dX9_judge_21 : decode cX9_judge 21 = .ok (.putfield 291, 3) := by decide +kernel
theorem dX9_judge_24 : decode cX9_judge 24 = .ok (.iconst 0, 1) := by decide +kernel
theorem dX9_judge_25 : decode cX9_judge 25 = .ok (.istore_n 3, 1) := by decide +kernel
theorem dX9_judge_26 : decode cX9_judge 26 = .ok (.iload_n 3, 1) := by decide +kernel
theorem dX9_judge_27 : decode cX9_judge 27 = .ok (.iload_n 2, 1) := by decide +kernel
theorem dX9_judge_28 : decode cX9_judge 28 = .ok (.if_icmp .ge 34, 3) := by decide +kernel
theorem dX9_judge_31 : decode cX9_judge 31 = .ok (.aload_n 0, 1) := by decide +kernel
theorem dX9_judge_32 : decode cX9_judge 32 = .ok (.iload_n 1, 1) := by decide +kernel
theorem dX9_judge_33 : decode cX9_judge 33 = .ok (.aload_n 0, 1) := by decide +kernel
theorem dX9_judge_34 : decode cX9_judge 34 = .ok (.getfield 205, 3) := by decide +kernel
theorem dX9_judge_37 : decode cX9_judge 37 = .ok (.iload_n 3, 1) := by decide +kernel
theorem dX9_judge_38 : decode cX9_judge 38 = .ok (.iadd, 1) := by decide +kernel
theorem dX9_judge_39 : decode cX9_judge 39 = .ok (.bipush 12, 2) := by decide +kernel
theorem dX9_judge_41 : decode cX9_judge 41 = .ok (.irem, 1) := by decide +kernel
theorem dX9_judge_42 : decode cX9_judge 42 = .ok (.invokevirtual 230, 3) := by decide +kernel
theorem dX9_judge_45 : decode cX9_judge 45 = .ok (.aload_n 0, 1) := by decide +kernel
theorem dX9_judge_46 : decode cX9_judge 46 = .ok (.getfield 76, 3) := by decide +kernel
theorem dX9_judge_49 : decode cX9_judge 49 = .ok (.iload_n 3, 1) := by decide +kernel
theorem dX9_judge_50 : decode cX9_judge 50 = .ok (.iaload, 1) := by decide +kernel
theorem dX9_judge_51 : decode cX9_judge 51 = .ok (.if_icmp .eq 5, 3) := by decide +kernel
theorem dX9_judge_54 : decode cX9_judge 54 = .ok (.iload_n 3, 1) := by decide +kernel
theorem dX9_judge_55 : decode cX9_judge 55 = .ok (.ireturn, 1) := by decide +kernel
theorem dX9_judge_56 : decode cX9_judge 56 = .ok (.iinc 3 1, 3) := by decide +kernel
theorem dX9_judge_59 : decode cX9_judge 59 = .ok (.goto (-33), 3) := by decide +kernel
theorem dX9_judge_62 : decode cX9_judge 62 = .ok (.bipush (-9), 2) := by decide +kernel
theorem dX9_judge_64 : decode cX9_judge 64 = .ok (.ireturn, 1) := by decide +kernel
theorem dX9_drop_0 : decode cX9_drop 0 = .ok (.aload_n 0, 1) := by decide +kernel
theorem dX9_drop_1 : decode cX9_drop 1 = .ok (.getfield 291, 3) := by decide +kernel
theorem dX9_drop_4 : decode cX9_drop 4 = .ok (.istore_n 1, 1) := by decide +kernel
theorem dX9_drop_5 : decode cX9_drop 5 = .ok (.aload_n 0, 1) := by decide +kernel
theorem dX9_drop_6 : decode cX9_drop 6 = .ok (.iconst 0, 1) := by decide +kernel
theorem dX9_drop_7 : decode cX9_drop 7 = .ok (.putfield 291, 3) := by decide +kernel
theorem dX9_drop_10 : decode cX9_drop 10 = .ok (.iload_n 1, 1) := by decide +kernel
theorem dX9_drop_11 : decode cX9_drop 11 = .ok (.ireturn, 1) := by decide +kernel
theorem dX9_seeds_0 : decode cX9_seeds 0 = .ok (.aload_n 0, 1) := by decide +kernel
theorem dX9_seeds_1 : decode cX9_seeds 1 = .ok (.iload_n 1, 1) := by decide +kernel
theorem dX9_seeds_2 : decode cX9_seeds 2 = .ok (.invokevirtual 168, 3) := by decide +kernel
theorem dX9_seeds_5 : decode cX9_seeds 5 = .ok (.ifCond .ne 7, 3) := by decide +kernel
theorem dX9_seeds_8 : decode cX9_seeds 8 = .ok (.iconst (-1), 1) := by decide +kernel
theorem dX9_seeds_9 : decode cX9_seeds 9 = .ok (.goto 10, 3) := by decide +kernel
theorem dX9_seeds_12 : decode cX9_seeds 12 = .ok (.iload_n 2, 1) := by decide +kernel
theorem dX9_seeds_13 : decode cX9_seeds 13 = .ok (.iconst 1, 1) := by decide +kernel
theorem dX9_seeds_14 : decode cX9_seeds 14 = .ok (.bipush 20, 2) := by decide +kernel
theorem dX9_seeds_16 : decode cX9_seeds 16 = .ok (.invokestatic 117, 3) := by decide +kernel
theorem dX9_seeds_19 : decode cX9_seeds 19 = .ok (.istore 5, 2) := by decide +kernel
theorem dX9_seeds_21 : decode cX9_seeds 21 = .ok (.iload 5, 2) := by decide +kernel
theorem dX9_seeds_23 : decode cX9_seeds 23 = .ok (.ifCond .ne 17, 3) := by decide +kernel
theorem dX9_seeds_26 : decode cX9_seeds 26 = .ok (.iload 4, 2) := by decide +kernel
theorem dX9_seeds_28 : decode cX9_seeds 28 = .ok (.iconst 0, 1) := by decide +kernel
theorem dX9_seeds_29 : decode cX9_seeds 29 = .ok (.iconst 1, 1) := by decide +kernel
theorem dX9_seeds_30 : decode cX9_seeds 30 = .ok (.invokestatic 135, 3) := by decide +kernel
theorem dX9_seeds_33 : decode cX9_seeds 33 = .ok (.ifCond .ne 7, 3) := by decide +kernel
theorem dX9_seeds_36 : decode cX9_seeds 36 = .ok (.bipush (-2), 2) := by decide +kernel
theorem dX9_seeds_38 : decode cX9_seeds 38 = .ok (.istore 5, 2) := by decide +kernel
theorem dX9_seeds_40 : decode cX9_seeds 40 = .ok (.iload 5, 2) := by decide +kernel
theorem dX9_seeds_42 : decode cX9_seeds 42 = .ok (.ifCond .eq 10, 3) := by decide +kernel
theorem dX9_seeds_45 : decode cX9_seeds 45 = .ok (.aload_n 0, 1) := by decide +kernel
theorem dX9_seeds_46 : decode cX9_seeds 46 = .ok (.iload 5, 2) := by decide +kernel
theorem dX9_seeds_48 : decode cX9_seeds 48 = .ok (.invokevirtual 124, 3) := by decide +kernel
theorem dX9_seeds_51 : decode cX9_seeds 51 = .ok (.ireturn, 1) := by decide +kernel
theorem dX9_seeds_52 : decode cX9_seeds 52 = .ok (.aload_n 0, 1) := by decide +kernel
theorem dX9_seeds_53 : decode cX9_seeds 53 = .ok (.iconst 1, 1) := by decide +kernel
theorem dX9_seeds_54 : decode cX9_seeds 54 = .ok (.iconst 1, 1) := by decide +kernel
theorem dX9_seeds_55 : decode cX9_seeds 55 = .ok (.invokevirtual 175, 3) := by decide +kernel
theorem dX9_seeds_58 : decode cX9_seeds 58 = .ok (.iload_n 3, 1) := by decide +kernel
theorem dX9_seeds_59 : decode cX9_seeds 59 = .ok (.istore 6, 2) := by decide +kernel
theorem dX9_seeds_61 : decode cX9_seeds 61 = .ok (.iconst 0, 1) := by decide +kernel
theorem dX9_seeds_62 : decode cX9_seeds 62 = .ok (.istore 7, 2) := by decide +kernel
theorem dX9_seeds_64 : decode cX9_seeds 64 = .ok (.iconst 0, 1) := by decide +kernel
theorem dX9_seeds_65 : decode cX9_seeds 65 = .ok (.istore 8, 2) := by decide +kernel
theorem dX9_seeds_67 : decode cX9_seeds 67 = .ok (.iconst 0, 1) := by decide +kernel
theorem dX9_seeds_68 : decode cX9_seeds 68 = .ok (.istore 9, 2) := by decide +kernel
theorem dX9_seeds_70 : decode cX9_seeds 70 = .ok (.iload 9, 2) := by decide +kernel
theorem dX9_seeds_72 : decode cX9_seeds 72 = .ok (.iload_n 2, 1) := by decide +kernel
theorem dX9_seeds_73 : decode cX9_seeds 73 = .ok (.if_icmp .ge 95, 3) := by decide +kernel
theorem dX9_seeds_76 : decode cX9_seeds 76 = .ok (.iconst 0, 1) := by decide +kernel
theorem dX9_seeds_77 : decode cX9_seeds 77 = .ok (.istore 10, 2) := by decide +kernel
theorem dX9_seeds_79 : decode cX9_seeds 79 = .ok (.iload 10, 2) := by decide +kernel
theorem dX9_seeds_81 : decode cX9_seeds 81 = .ok (.bipush 12, 2) := by decide +kernel
theorem dX9_seeds_83 : decode cX9_seeds 83 = .ok (.if_icmp .ge 41, 3) := by decide +kernel
theorem dX9_seeds_86 : decode cX9_seeds 86 = .ok (.iload 6, 2) := by decide +kernel
theorem dX9_seeds_88 : decode cX9_seeds 88 = .ok (.ldc_w 366, 3) := by decide +kernel
theorem dX9_seeds_91 : decode cX9_seeds 91 = .ok (.imul, 1) := by decide +kernel
theorem dX9_seeds_92 : decode cX9_seeds 92 = .ok (.sipush 12345, 3) := by decide +kernel
theorem dX9_seeds_95 : decode cX9_seeds 95 = .ok (.iadd, 1) := by decide +kernel
theorem dX9_seeds_96 : decode cX9_seeds 96 = .ok (.istore 6, 2) := by decide +kernel
theorem dX9_seeds_98 : decode cX9_seeds 98 = .ok (.aload_n 0, 1) := by decide +kernel
theorem dX9_seeds_99 : decode cX9_seeds 99 = .ok (.getfield 13, 3) := by decide +kernel
theorem dX9_seeds_102 : decode cX9_seeds 102 = .ok (.iload 10, 2) := by decide +kernel
theorem dX9_seeds_104 : decode cX9_seeds 104 = .ok (.iload 6, 2) := by decide +kernel
theorem dX9_seeds_106 : decode cX9_seeds 106 = .ok (.ldc_w 367, 3) := by decide +kernel
theorem dX9_seeds_109 : decode cX9_seeds 109 = .ok (.iand, 1) := by decide +kernel
theorem dX9_seeds_110 : decode cX9_seeds 110 = .ok (.ldc_w 368, 3) := by decide +kernel
theorem dX9_seeds_113 : decode cX9_seeds 113 = .ok (.idiv, 1) := by decide +kernel
theorem dX9_seeds_114 : decode cX9_seeds 114 = .ok (.bipush 41, 2) := by decide +kernel
theorem dX9_seeds_116 : decode cX9_seeds 116 = .ok (.irem, 1) := by decide +kernel
theorem dX9_seeds_117 : decode cX9_seeds 117 = .ok (.iastore, 1) := by decide +kernel
theorem dX9_seeds_118 : decode cX9_seeds 118 = .ok (.iinc 10 1, 3) := by decide +kernel
theorem dX9_seeds_121 : decode cX9_seeds 121 = .ok (.goto (-42), 3) := by decide +kernel
theorem dX9_seeds_124 : decode cX9_seeds 124 = .ok (.aload_n 0, 1) := by decide +kernel
theorem dX9_seeds_125 : decode cX9_seeds 125 = .ok (.iload_n 1, 1) := by decide +kernel
theorem dX9_seeds_126 : decode cX9_seeds 126 = .ok (.aload_n 0, 1) := by decide +kernel
theorem dX9_seeds_127 : decode cX9_seeds 127 = .ok (.getfield 40, 3) := by decide +kernel
theorem dX9_seeds_130 : decode cX9_seeds 130 = .ok (.iload_n 1, 1) := by decide +kernel
theorem dX9_seeds_131 : decode cX9_seeds 131 = .ok (.iaload, 1) := by decide +kernel
theorem dX9_seeds_132 : decode cX9_seeds 132 = .ok (.invokevirtual 246, 3) := by decide +kernel
theorem dX9_seeds_135 : decode cX9_seeds 135 = .ok (.istore 10, 2) := by decide +kernel
theorem dX9_seeds_137 : decode cX9_seeds 137 = .ok (.iload 7, 2) := by decide +kernel
theorem dX9_seeds_139 : decode cX9_seeds 139 = .ok (.iload 10, 2) := by decide +kernel
theorem dX9_seeds_141 : decode cX9_seeds 141 = .ok (.invokestatic 273, 3) := by decide +kernel
theorem dX9_seeds_144 : decode cX9_seeds 144 = .ok (.iadd, 1) := by decide +kernel
theorem dX9_seeds_145 : decode cX9_seeds 145 = .ok (.istore 7, 2) := by decide +kernel
theorem dX9_seeds_147 : decode cX9_seeds 147 = .ok (.iload 8, 2) := by decide +kernel
theorem dX9_seeds_149 : decode cX9_seeds 149 = .ok (.iload 10, 2) := by decide +kernel
theorem dX9_seeds_151 : decode cX9_seeds 151 = .ok (.ifCond .ne 7, 3) := by decide +kernel
theorem dX9_seeds_154 : decode cX9_seeds 154 = .ok (.iconst 1, 1) := by decide +kernel
theorem dX9_seeds_155 : decode cX9_seeds 155 = .ok (.goto 4, 3) := by decide +kernel
theorem dX9_seeds_158 : decode cX9_seeds 158 = .ok (.iconst 0, 1) := by decide +kernel
theorem dX9_seeds_159 : decode cX9_seeds 159 = .ok (.iadd, 1) := by decide +kernel
theorem dX9_seeds_160 : decode cX9_seeds 160 = .ok (.istore 8, 2) := by decide +kernel
theorem dX9_seeds_162 : decode cX9_seeds 162 = .ok (.iinc 9 1, 3) := by decide +kernel
theorem dX9_seeds_165 : decode cX9_seeds 165 = .ok (.goto (-95), 3) := by decide +kernel
theorem dX9_seeds_168 : decode cX9_seeds 168 = .ok (.aload_n 0, 1) := by decide +kernel
theorem dX9_seeds_169 : decode cX9_seeds 169 = .ok (.iconst 1, 1) := by decide +kernel
theorem dX9_seeds_170 : decode cX9_seeds 170 = .ok (.iconst 0, 1) := by decide +kernel
theorem dX9_seeds_171 : decode cX9_seeds 171 = .ok (.invokevirtual 175, 3) := by decide +kernel
theorem dX9_seeds_174 : decode cX9_seeds 174 = .ok (.iload 4, 2) := by decide +kernel
theorem dX9_seeds_176 : decode cX9_seeds 176 = .ok (.ifCond .ne 8, 3) := by decide +kernel
theorem dX9_seeds_179 : decode cX9_seeds 179 = .ok (.iload 7, 2) := by decide +kernel
theorem dX9_seeds_181 : decode cX9_seeds 181 = .ok (.goto 5, 3) := by decide +kernel
theorem dX9_seeds_184 : decode cX9_seeds 184 = .ok (.iload 8, 2) := by decide +kernel
theorem dX9_seeds_186 : decode cX9_seeds 186 = .ok (.ireturn, 1) := by decide +kernel
theorem dX9_hangNow_0 : decode cX9_hangNow 0 = .ok (.iconst 0, 1) := by decide +kernel
theorem dX9_hangNow_1 : decode cX9_hangNow 1 = .ok (.istore_n 1, 1) := by decide +kernel
theorem dX9_hangNow_2 : decode cX9_hangNow 2 = .ok (.iconst 0, 1) := by decide +kernel
theorem dX9_hangNow_3 : decode cX9_hangNow 3 = .ok (.istore_n 2, 1) := by decide +kernel
theorem dX9_hangNow_4 : decode cX9_hangNow 4 = .ok (.iload_n 2, 1) := by decide +kernel
theorem dX9_hangNow_5 : decode cX9_hangNow 5 = .ok (.aload_n 0, 1) := by decide +kernel
theorem dX9_hangNow_6 : decode cX9_hangNow 6 = .ok (.getfield 114, 3) := by decide +kernel
theorem dX9_hangNow_9 : decode cX9_hangNow 9 = .ok (.if_icmp .ge 35, 3) := by decide +kernel
theorem dX9_hangNow_12 : decode cX9_hangNow 12 = .ok (.iload_n 1, 1) := by decide +kernel
theorem dX9_hangNow_13 : decode cX9_hangNow 13 = .ok (.aload_n 0, 1) := by decide +kernel
theorem dX9_hangNow_14 : decode cX9_hangNow 14 = .ok (.iload_n 2, 1) := by decide +kernel
theorem dX9_hangNow_15 : decode cX9_hangNow 15 = .ok (.aload_n 0, 1) := by decide +kernel
theorem dX9_hangNow_16 : decode cX9_hangNow 16 = .ok (.getfield 205, 3) := by decide +kernel
theorem dX9_hangNow_19 : decode cX9_hangNow 19 = .ok (.aload_n 0, 1) := by decide +kernel
theorem dX9_hangNow_20 : decode cX9_hangNow 20 = .ok (.getfield 40, 3) := by decide +kernel
theorem dX9_hangNow_23 : decode cX9_hangNow 23 = .ok (.iload_n 2, 1) := by decide +kernel
theorem dX9_hangNow_24 : decode cX9_hangNow 24 = .ok (.iaload, 1) := by decide +kernel
theorem dX9_hangNow_25 : decode cX9_hangNow 25 = .ok (.invokevirtual 218, 3) := by decide +kernel
theorem dX9_hangNow_28 : decode cX9_hangNow 28 = .ok (.ifCond .eq 7, 3) := by decide +kernel
theorem dX9_hangNow_31 : decode cX9_hangNow 31 = .ok (.iconst 1, 1) := by decide +kernel
theorem dX9_hangNow_32 : decode cX9_hangNow 32 = .ok (.goto 4, 3) := by decide +kernel
theorem dX9_hangNow_35 : decode cX9_hangNow 35 = .ok (.iconst 0, 1) := by decide +kernel
theorem dX9_hangNow_36 : decode cX9_hangNow 36 = .ok (.iadd, 1) := by decide +kernel
theorem dX9_hangNow_37 : decode cX9_hangNow 37 = .ok (.istore_n 1, 1) := by decide +kernel
theorem dX9_hangNow_38 : decode cX9_hangNow 38 = .ok (.iinc 2 1, 3) := by decide +kernel
theorem dX9_hangNow_41 : decode cX9_hangNow 41 = .ok (.goto (-37), 3) := by decide +kernel
theorem dX9_hangNow_44 : decode cX9_hangNow 44 = .ok (.iload_n 1, 1) := by decide +kernel
theorem dX9_hangNow_45 : decode cX9_hangNow 45 = .ok (.ireturn, 1) := by decide +kernel
theorem dX9_count_0 : decode cX9_count 0 = .ok (.iload_n 1, 1) := by decide +kernel
theorem dX9_count_1 : decode cX9_count 1 = .ok (.bipush 11, 2) := by decide +kernel
theorem dX9_count_3 : decode cX9_count 3 = .ok (.bipush 16, 2) := by decide +kernel
theorem dX9_count_5 : decode cX9_count 5 = .ok (.invokestatic 135, 3) := by decide +kernel
theorem dX9_count_8 : decode cX9_count 8 = .ok (.ifCond .eq 13, 3) := by decide +kernel
theorem dX9_count_11 : decode cX9_count 11 = .ok (.aload_n 0, 1) := by decide +kernel
theorem dX9_count_12 : decode cX9_count 12 = .ok (.getfield 7, 3) := by decide +kernel
theorem dX9_count_15 : decode cX9_count 15 = .ok (.iload_n 1, 1) := by decide +kernel
theorem dX9_count_16 : decode cX9_count 16 = .ok (.bipush 10, 2) := by decide +kernel
theorem dX9_count_18 : decode cX9_count 18 = .ok (.isub, 1) := by decide +kernel
theorem dX9_count_19 : decode cX9_count 19 = .ok (.iaload, 1) := by decide +kernel
theorem dX9_count_20 : decode cX9_count 20 = .ok (.ireturn, 1) := by decide +kernel
theorem dX9_count_21 : decode cX9_count 21 = .ok (.iconst 0, 1) := by decide +kernel
theorem dX9_count_22 : decode cX9_count 22 = .ok (.istore_n 2, 1) := by decide +kernel
theorem dX9_count_23 : decode cX9_count 23 = .ok (.iload_n 1, 1) := by decide +kernel
theorem dX9_count_24 : decode cX9_count 24 = .ok (.tableswitch 169 0 17 #[88, 93, 98, 103, 103, 112, 139, 144, 149, 154, 159, 169, 169, 169, 169, 169, 169, 164], 88) := by decide +kernel
theorem dX9_count_112 : decode cX9_count 112 = .ok (.aload_n 0, 1) := by decide +kernel
theorem dX9_count_113 : decode cX9_count 113 = .ok (.getfield 114, 3) := by decide +kernel
theorem dX9_count_116 : decode cX9_count 116 = .ok (.ireturn, 1) := by decide +kernel
theorem dX9_count_117 : decode cX9_count 117 = .ok (.aload_n 0, 1) := by decide +kernel
theorem dX9_count_118 : decode cX9_count 118 = .ok (.getfield 110, 3) := by decide +kernel
theorem dX9_count_121 : decode cX9_count 121 = .ok (.ireturn, 1) := by decide +kernel
theorem dX9_count_122 : decode cX9_count 122 = .ok (.aload_n 0, 1) := by decide +kernel
theorem dX9_count_123 : decode cX9_count 123 = .ok (.getfield 205, 3) := by decide +kernel
theorem dX9_count_126 : decode cX9_count 126 = .ok (.ireturn, 1) := by decide +kernel
theorem dX9_count_127 : decode cX9_count 127 = .ok (.aload_n 0, 1) := by decide +kernel
theorem dX9_count_128 : decode cX9_count 128 = .ok (.getfield 25, 3) := by decide +kernel
theorem dX9_count_131 : decode cX9_count 131 = .ok (.iload_n 1, 1) := by decide +kernel
theorem dX9_count_132 : decode cX9_count 132 = .ok (.iconst 3, 1) := by decide +kernel
theorem dX9_count_133 : decode cX9_count 133 = .ok (.isub, 1) := by decide +kernel
theorem dX9_count_134 : decode cX9_count 134 = .ok (.iaload, 1) := by decide +kernel
theorem dX9_count_135 : decode cX9_count 135 = .ok (.ireturn, 1) := by decide +kernel
theorem dX9_count_136 : decode cX9_count 136 = .ok (.iconst 0, 1) := by decide +kernel
theorem dX9_count_137 : decode cX9_count 137 = .ok (.istore_n 3, 1) := by decide +kernel
theorem dX9_count_138 : decode cX9_count 138 = .ok (.iload_n 3, 1) := by decide +kernel
theorem dX9_count_139 : decode cX9_count 139 = .ok (.aload_n 0, 1) := by decide +kernel
theorem dX9_count_140 : decode cX9_count 140 = .ok (.getfield 114, 3) := by decide +kernel
theorem dX9_count_143 : decode cX9_count 143 = .ok (.if_icmp .ge 18, 3) := by decide +kernel
theorem dX9_count_146 : decode cX9_count 146 = .ok (.iload_n 2, 1) := by decide +kernel
theorem dX9_count_147 : decode cX9_count 147 = .ok (.aload_n 0, 1) := by decide +kernel
theorem dX9_count_148 : decode cX9_count 148 = .ok (.getfield 40, 3) := by decide +kernel
theorem dX9_count_151 : decode cX9_count 151 = .ok (.iload_n 3, 1) := by decide +kernel
theorem dX9_count_152 : decode cX9_count 152 = .ok (.iaload, 1) := by decide +kernel
theorem dX9_count_153 : decode cX9_count 153 = .ok (.iadd, 1) := by decide +kernel
theorem dX9_count_154 : decode cX9_count 154 = .ok (.istore_n 2, 1) := by decide +kernel
theorem dX9_count_155 : decode cX9_count 155 = .ok (.iinc 3 1, 3) := by decide +kernel
theorem dX9_count_158 : decode cX9_count 158 = .ok (.goto (-20), 3) := by decide +kernel
theorem dX9_count_161 : decode cX9_count 161 = .ok (.iload_n 2, 1) := by decide +kernel
theorem dX9_count_162 : decode cX9_count 162 = .ok (.ireturn, 1) := by decide +kernel
theorem dX9_count_163 : decode cX9_count 163 = .ok (.aload_n 0, 1) := by decide +kernel
theorem dX9_count_164 : decode cX9_count 164 = .ok (.invokevirtual 369, 3) := by decide +kernel
theorem dX9_count_167 : decode cX9_count 167 = .ok (.ireturn, 1) := by decide +kernel
theorem dX9_count_168 : decode cX9_count 168 = .ok (.aload_n 0, 1) := by decide +kernel
theorem dX9_count_169 : decode cX9_count 169 = .ok (.getfield 121, 3) := by decide +kernel
theorem dX9_count_172 : decode cX9_count 172 = .ok (.ireturn, 1) := by decide +kernel
theorem dX9_count_173 : decode cX9_count 173 = .ok (.aload_n 0, 1) := by decide +kernel
theorem dX9_count_174 : decode cX9_count 174 = .ok (.getfield 291, 3) := by decide +kernel
theorem dX9_count_177 : decode cX9_count 177 = .ok (.ireturn, 1) := by decide +kernel
theorem dX9_count_178 : decode cX9_count 178 = .ok (.aload_n 0, 1) := by decide +kernel
theorem dX9_count_179 : decode cX9_count 179 = .ok (.getfield 196, 3) := by decide +kernel
theorem dX9_count_182 : decode cX9_count 182 = .ok (.ireturn, 1) := by decide +kernel
theorem dX9_count_183 : decode cX9_count 183 = .ok (.aload_n 0, 1) := by decide +kernel
theorem dX9_count_184 : decode cX9_count 184 = .ok (.getfield 202, 3) := by decide +kernel
theorem dX9_count_187 : decode cX9_count 187 = .ok (.ireturn, 1) := by decide +kernel
theorem dX9_count_188 : decode cX9_count 188 = .ok (.aload_n 0, 1) := by decide +kernel
theorem dX9_count_189 : decode cX9_count 189 = .ok (.getfield 182, 3) := by decide +kernel
theorem dX9_count_192 : decode cX9_count 192 = .ok (.ireturn, 1) := by decide +kernel
theorem dX9_count_193 : decode cX9_count 193 = .ok (.bipush (-9), 2) := by decide +kernel
theorem dX9_count_195 : decode cX9_count 195 = .ok (.ireturn, 1) := by decide +kernel
