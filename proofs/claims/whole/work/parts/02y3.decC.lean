theorem dX12_init_0 : decode cX12_init 0 = .ok (.aload_n 0, 1) := by decide +kernel
theorem dX12_init_1 : decode cX12_init 1 = .ok (.invokespecial 1, 3) := by decide +kernel
theorem dX12_init_4 : decode cX12_init 4 = .ok (.aload_n 0, 1) := by decide +kernel
theorem dX12_init_5 : decode cX12_init 5 = .ok (.bipush 31, 2) := by decide +kernel
theorem dX12_init_7 : decode cX12_init 7 = .ok (.newarray .int, 2) := by decide +kernel
theorem dX12_init_9 : decode cX12_init 9 = .ok (.putfield 7, 3) := by decide +kernel
theorem dX12_init_12 : decode cX12_init 12 = .ok (.aload_n 0, 1) := by decide +kernel
theorem dX12_init_13 : decode cX12_init 13 = .ok (.bipush 31, 2) := by decide +kernel
theorem dX12_init_15 : decode cX12_init 15 = .ok (.newarray .int, 2) := by decide +kernel
theorem dX12_init_17 : decode cX12_init 17 = .ok (.putfield 13, 3) := by decide +kernel
theorem dX12_init_20 : decode cX12_init 20 = .ok (.aload_n 0, 1) := by decide +kernel
theorem dX12_init_21 : decode cX12_init 21 = .ok (.bipush 31, 2) := by decide +kernel
theorem dX12_init_23 : decode cX12_init 23 = .ok (.newarray .int, 2) := by decide +kernel
theorem dX12_init_25 : decode cX12_init 25 = .ok (.putfield 16, 3) := by decide +kernel
theorem dX12_init_28 : decode cX12_init 28 = .ok (.aload_n 0, 1) := by decide +kernel
theorem dX12_init_29 : decode cX12_init 29 = .ok (.bipush 31, 2) := by decide +kernel
theorem dX12_init_31 : decode cX12_init 31 = .ok (.newarray .int, 2) := by decide +kernel
theorem dX12_init_33 : decode cX12_init 33 = .ok (.putfield 19, 3) := by decide +kernel
theorem dX12_init_36 : decode cX12_init 36 = .ok (.aload_n 0, 1) := by decide +kernel
theorem dX12_init_37 : decode cX12_init 37 = .ok (.bipush 31, 2) := by decide +kernel
theorem dX12_init_39 : decode cX12_init 39 = .ok (.newarray .boolean, 2) := by decide +kernel
theorem dX12_init_41 : decode cX12_init 41 = .ok (.putfield 22, 3) := by decide +kernel
theorem dX12_init_44 : decode cX12_init 44 = .ok (.aload_n 0, 1) := by decide +kernel
theorem dX12_init_45 : decode cX12_init 45 = .ok (.sipush 160, 3) := by decide +kernel
theorem dX12_init_48 : decode cX12_init 48 = .ok (.newarray .int, 2) := by decide +kernel
theorem dX12_init_50 : decode cX12_init 50 = .ok (.putfield 26, 3) := by decide +kernel
theorem dX12_init_53 : decode cX12_init 53 = .ok (.aload_n 0, 1) := by decide +kernel
theorem dX12_init_54 : decode cX12_init 54 = .ok (.bipush 12, 2) := by decide +kernel
theorem dX12_init_56 : decode cX12_init 56 = .ok (.newarray .boolean, 2) := by decide +kernel
theorem dX12_init_58 : decode cX12_init 58 = .ok (.putfield 29, 3) := by decide +kernel
theorem dX12_init_61 : decode cX12_init 61 = .ok (.aload_n 0, 1) := by decide +kernel
theorem dX12_init_62 : decode cX12_init 62 = .ok (.sipush 1700, 3) := by decide +kernel
theorem dX12_init_65 : decode cX12_init 65 = .ok (.newarray .int, 2) := by decide +kernel
theorem dX12_init_67 : decode cX12_init 67 = .ok (.putfield 32, 3) := by decide +kernel
theorem dX12_init_70 : decode cX12_init 70 = .ok (.aload_n 0, 1) := by decide +kernel
theorem dX12_init_71 : decode cX12_init 71 = .ok (.sipush 1710, 3) := by decide +kernel
theorem dX12_init_74 : decode cX12_init 74 = .ok (.newarray .int, 2) := by decide +kernel
theorem dX12_init_76 : decode cX12_init 76 = .ok (.putfield 35, 3) := by decide +kernel
theorem dX12_init_79 : decode cX12_init 79 = .ok (.aload_n 0, 1) := by decide +kernel
theorem dX12_init_80 : decode cX12_init 80 = .ok (.sipush 17100, 3) := by decide +kernel
theorem dX12_init_83 : decode cX12_init 83 = .ok (.newarray .int, 2) := by decide +kernel
theorem dX12_init_85 : decode cX12_init 85 = .ok (.putfield 38, 3) := by decide +kernel
theorem dX12_init_88 : decode cX12_init 88 = .ok (.aload_n 0, 1) := by decide +kernel
theorem dX12_init_89 : decode cX12_init 89 = .ok (.sipush 17100, 3) := by decide +kernel
theorem dX12_init_92 : decode cX12_init 92 = .ok (.newarray .int, 2) := by decide +kernel
theorem dX12_init_94 : decode cX12_init 94 = .ok (.putfield 41, 3) := by decide +kernel
theorem dX12_init_97 : decode cX12_init 97 = .ok (.aload_n 0, 1) := by decide +kernel
theorem dX12_init_98 : decode cX12_init 98 = .ok (.sipush 1710, 3) := by decide +kernel
theorem dX12_init_101 : decode cX12_init 101 = .ok (.newarray .boolean, 2) := by decide +kernel
theorem dX12_init_103 : decode cX12_init 103 = .ok (.putfield 44, 3) := by decide +kernel
theorem dX12_init_106 : decode cX12_init 106 = .ok (.aload_n 0, 1) := by decide +kernel
theorem dX12_init_107 : decode cX12_init 107 = .ok (.sipush 170, 3) := by decide +kernel
theorem dX12_init_110 : decode cX12_init 110 = .ok (.newarray .boolean, 2) := by decide +kernel
theorem dX12_init_112 : decode cX12_init 112 = .ok (.putfield 47, 3) := by decide +kernel
theorem dX12_init_115 : decode cX12_init 115 = .ok (.aload_n 0, 1) := by decide +kernel
theorem dX12_init_116 : decode cX12_init 116 = .ok (.iconst 3, 1) := by decide +kernel
theorem dX12_init_117 : decode cX12_init 117 = .ok (.newarray .int, 2) := by decide +kernel
theorem dX12_init_119 : decode cX12_init 119 = .ok (.putfield 50, 3) := by decide +kernel
theorem dX12_init_122 : decode cX12_init 122 = .ok (.aload_n 0, 1) := by decide +kernel
theorem dX12_init_123 : decode cX12_init 123 = .ok (.iconst 3, 1) := by decide +kernel
theorem dX12_init_124 : decode cX12_init 124 = .ok (.newarray .int, 2) := by decide +kernel
theorem dX12_init_126 : decode cX12_init 126 = .ok (.putfield 53, 3) := by decide +kernel
theorem dX12_init_129 : decode cX12_init 129 = .ok (.aload_n 0, 1) := by decide +kernel
theorem dX12_init_130 : decode cX12_init 130 = .ok (.sipush 1000, 3) := by decide +kernel
theorem dX12_init_133 : decode cX12_init 133 = .ok (.newarray .int, 2) := by decide +kernel
theorem dX12_init_135 : decode cX12_init 135 = .ok (.putfield 56, 3) := by decide +kernel
theorem dX12_init_138 : decode cX12_init 138 = .ok (.aload_n 0, 1) := by decide +kernel
theorem dX12_init_139 : decode cX12_init 139 = .ok (.sipush 1000, 3) := by decide +kernel
theorem dX12_init_142 : decode cX12_init 142 = .ok (.newarray .int, 2) := by decide +kernel
theorem dX12_init_144 : decode cX12_init 144 = .ok (.putfield 59, 3) := by decide +kernel
theorem dX12_init_147 : decode cX12_init 147 = .ok (.aload_n 0, 1) := by decide +kernel
theorem dX12_init_148 : decode cX12_init 148 = .ok (.sipush 1000, 3) := by decide +kernel
theorem dX12_init_151 : decode cX12_init 151 = .ok (.newarray .boolean, 2) := by decide +kernel
theorem dX12_init_153 : decode cX12_init 153 = .ok (.putfield 62, 3) := by decide +kernel
theorem dX12_init_156 : decode cX12_init 156 = .ok (.aload_n 0, 1) := by decide +kernel
theorem dX12_init_157 : decode cX12_init 157 = .ok (.sipush 1000, 3) := by decide +kernel
theorem dX12_init_160 : decode cX12_init 160 = .ok (.newarray .int, 2) := by decide +kernel
theorem dX12_init_162 : decode cX12_init 162 = .ok (.putfield 65, 3) := by decide +kernel
theorem dX12_init_165 : decode cX12_init 165 = .ok (.aload_n 0, 1) := by decide +kernel
theorem dX12_init_166 : decode cX12_init 166 = .ok (.sipush 1000, 3) := by decide +kernel
theorem dX12_init_169 : decode cX12_init 169 = .ok (.newarray .int, 2) := by decide +kernel
theorem dX12_init_171 : decode cX12_init 171 = .ok (.putfield 68, 3) := by decide +kernel
theorem dX12_init_174 : decode cX12_init 174 = .ok (.aload_n 0, 1) := by decide +kernel
theorem dX12_init_175 : decode cX12_init 175 = .ok (.sipush 1000, 3) := by decide +kernel
theorem dX12_init_178 : decode cX12_init 178 = .ok (.newarray .int, 2) := by decide +kernel
theorem dX12_init_180 : decode cX12_init 180 = .ok (.putfield 71, 3) := by decide +kernel
theorem dX12_init_183 : decode cX12_init 183 = .ok (.aload_n 0, 1) := by decide +kernel
theorem dX12_init_184 : decode cX12_init 184 = .ok (.bipush 60, 2) := by decide +kernel
theorem dX12_init_186 : decode cX12_init 186 = .ok (.newarray .int, 2) := by decide +kernel
theorem dX12_init_188 : decode cX12_init 188 = .ok (.putfield 74, 3) := by decide +kernel
theorem dX12_init_191 : decode cX12_init 191 = .ok (.aload_n 0, 1) := by decide +kernel
theorem dX12_init_192 : decode cX12_init 192 = .ok (.bipush 60, 2) := by decide +kernel
theorem dX12_init_194 : decode cX12_init 194 = .ok (.newarray .int, 2) := by decide +kernel
theorem dX12_init_196 : decode cX12_init 196 = .ok (.putfield 77, 3) := by decide +kernel
theorem dX12_init_199 : decode cX12_init 199 = .ok (.aload_n 0, 1) := by decide +kernel
theorem dX12_init_200 : decode cX12_init 200 = .ok (.sipush 1000, 3) := by decide +kernel
theorem dX12_init_203 : decode cX12_init 203 = .ok (.newarray .int, 2) := by decide +kernel
theorem dX12_init_205 : decode cX12_init 205 = .ok (.putfield 80, 3) := by decide +kernel
theorem dX12_init_208 : decode cX12_init 208 = .ok (.aload_n 0, 1) := by decide +kernel
theorem dX12_init_209 : decode cX12_init 209 = .ok (.sipush 1000, 3) := by decide +kernel
theorem dX12_init_212 : decode cX12_init 212 = .ok (.newarray .int, 2) := by decide +kernel
theorem dX12_init_214 : decode cX12_init 214 = .ok (.putfield 83, 3) := by decide +kernel
theorem dX12_init_217 : decode cX12_init 217 = .ok (.aload_n 0, 1) := by decide +kernel
theorem dX12_init_218 : decode cX12_init 218 = .ok (.sipush 1000, 3) := by decide +kernel
theorem dX12_init_221 : decode cX12_init 221 = .ok (.newarray .int, 2) := by decide +kernel
theorem dX12_init_223 : decode cX12_init 223 = .ok (.putfield 86, 3) := by decide +kernel
theorem dX12_init_226 : decode cX12_init 226 = .ok (.iconst 0, 1) := by decide +kernel
theorem dX12_init_227 : decode cX12_init 227 = .ok (.istore_n 1, 1) := by decide +kernel
theorem dX12_init_228 : decode cX12_init 228 = .ok (.iload_n 1, 1) := by decide +kernel
theorem dX12_init_229 : decode cX12_init 229 = .ok (.sipush 160, 3) := by decide +kernel
theorem dX12_init_232 : decode cX12_init 232 = .ok (.if_icmp .ge 16, 3) := by decide +kernel
theorem dX12_init_235 : decode cX12_init 235 = .ok (.aload_n 0, 1) := by decide +kernel
theorem dX12_init_236 : decode cX12_init 236 = .ok (.getfield 26, 3) := by decide +kernel
theorem dX12_init_239 : decode cX12_init 239 = .ok (.iload_n 1, 1) := by decide +kernel
theorem dX12_init_240 : decode cX12_init 240 = .ok (.iconst (-1), 1) := by decide +kernel
theorem dX12_init_241 : decode cX12_init 241 = .ok (.iastore, 1) := by decide +kernel
theorem dX12_init_242 : decode cX12_init 242 = .ok (.iinc 1 1, 3) := by decide +kernel
theorem dX12_init_245 : decode cX12_init 245 = .ok (.goto (-17), 3) := by decide +kernel
theorem dX12_init_248 : decode cX12_init 248 = .ok (.iconst 0, 1) := by decide +kernel
theorem dX12_init_249 : decode cX12_init 249 = .ok (.istore_n 1, 1) := by decide +kernel
theorem dX12_init_250 : decode cX12_init 250 = .ok (.iload_n 1, 1) := by decide +kernel
theorem dX12_init_251 : decode cX12_init 251 = .ok (.sipush 1700, 3) := by decide +kernel
theorem dX12_init_254 : decode cX12_init 254 = .ok (.if_icmp .ge 16, 3) := by decide +kernel
theorem dX12_init_257 : decode cX12_init 257 = .ok (.aload_n 0, 1) := by decide +kernel
theorem dX12_init_258 : decode cX12_init 258 = .ok (.getfield 32, 3) := by decide +kernel
theorem dX12_init_261 : decode cX12_init 261 = .ok (.iload_n 1, 1) := by decide +kernel
theorem dX12_init_262 : decode cX12_init 262 = .ok (.iconst (-1), 1) := by decide +kernel
theorem dX12_init_263 : decode cX12_init 263 = .ok (.iastore, 1) := by decide +kernel
theorem dX12_init_264 : decode cX12_init 264 = .ok (.iinc 1 1, 3) := by decide +kernel
theorem dX12_init_267 : decode cX12_init 267 = .ok (.goto (-17), 3) := by decide +kernel
theorem dX12_init_270 : decode cX12_init 270 = .ok (.iconst 0, 1) := by decide +kernel
theorem dX12_init_271 : decode cX12_init 271 = .ok (.istore_n 1, 1) := by decide +kernel
theorem dX12_init_272 : decode cX12_init 272 = .ok (.iload_n 1, 1) := by decide +kernel
theorem dX12_init_273 : decode cX12_init 273 = .ok (.iconst 3, 1) := by decide +kernel
theorem dX12_init_274 : decode cX12_init 274 = .ok (.if_icmp .ge 17, 3) := by decide +kernel
theorem dX12_init_277 : decode cX12_init 277 = .ok (.aload_n 0, 1) := by decide +kernel
theorem dX12_init_278 : decode cX12_init 278 = .ok (.getfield 53, 3) := by decide +kernel
theorem dX12_init_281 : decode cX12_init 281 = .ok (.iload_n 1, 1) := by decide +kernel
theorem dX12_init_282 : decode cX12_init 282 = .ok (.bipush 9, 2) := by decide +kernel
theorem dX12_init_284 : decode cX12_init 284 = .ok (.iastore, 1) := by decide +kernel
theorem dX12_init_285 : decode cX12_init 285 = .ok (.iinc 1 1, 3) := by decide +kernel
theorem dX12_init_288 : decode cX12_init 288 = .ok (.goto (-16), 3) := by decide +kernel
theorem dX12_init_291 : decode cX12_init 291 = .ok (.return_, 1) := by decide +kernel
theorem dX12_thrown_0 : decode cX12_thrown 0 = .ok (.aload_n 0, 1) := by decide +kernel
theorem dX12_thrown_1 : decode cX12_thrown 1 = .ok (.getfield 89, 3) := by decide +kernel
theorem dX12_thrown_4 : decode cX12_thrown 4 = .ok (.ireturn, 1) := by decide +kernel
theorem dX12_in_0 : decode cX12_in 0 = .ok (.iload_n 0, 1) := by decide +kernel
theorem dX12_in_1 : decode cX12_in 1 = .ok (.iload_n 1, 1) := by decide +kernel
theorem dX12_in_2 : decode cX12_in 2 = .ok (.if_icmp .lt 12, 3) := by decide +kernel
theorem dX12_in_5 : decode cX12_in 5 = .ok (.iload_n 0, 1) := by decide +kernel
theorem dX12_in_6 : decode cX12_in 6 = .ok (.iload_n 2, 1) := by decide +kernel
theorem dX12_in_7 : decode cX12_in 7 = .ok (.if_icmp .gt 7, 3) := by decide +kernel
theorem dX12_in_10 : decode cX12_in 10 = .ok (.iconst 1, 1) := by decide +kernel
theorem dX12_in_11 : decode cX12_in 11 = .ok (.goto 4, 3) := by decide +kernel
theorem dX12_in_14 : decode cX12_in 14 = .ok (.iconst 0, 1) := by decide +kernel
theorem dX12_in_15 : decode cX12_in 15 = .ok (.ireturn, 1) := by decide +kernel
theorem dX12_isYard_0 : decode cX12_isYard 0 = .ok (.iload_n 0, 1) := by decide +kernel
theorem dX12_isYard_1 : decode cX12_isYard 1 = .ok (.iconst 0, 1) := by decide +kernel
theorem dX12_isYard_2 : decode cX12_isYard 2 = .ok (.iconst 3, 1) := by decide +kernel
theorem dX12_isYard_3 : decode cX12_isYard 3 = .ok (.invokestatic 93, 3) := by decide +kernel
theorem dX12_isYard_6 : decode cX12_isYard 6 = .ok (.ireturn, 1) := by decide +kernel
theorem dX12_isSlot_0 : decode cX12_isSlot 0 = .ok (.iload_n 0, 1) := by decide +kernel
theorem dX12_isSlot_1 : decode cX12_isSlot 1 = .ok (.iconst 0, 1) := by decide +kernel
theorem dX12_isSlot_2 : decode cX12_isSlot 2 = .ok (.bipush 11, 2) := by decide +kernel
theorem dX12_isSlot_4 : decode cX12_isSlot 4 = .ok (.invokestatic 93, 3) := by decide +kernel
theorem dX12_isSlot_7 : decode cX12_isSlot 7 = .ok (.ireturn, 1) := by decide +kernel
theorem dX12_isTurn_0 : decode cX12_isTurn 0 = .ok (.iload_n 0, 1) := by decide +kernel
theorem dX12_isTurn_1 : decode cX12_isTurn 1 = .ok (.iconst 0, 1) := by decide +kernel
theorem dX12_isTurn_2 : decode cX12_isTurn 2 = .ok (.bipush 23, 2) := by decide +kernel
theorem dX12_isTurn_4 : decode cX12_isTurn 4 = .ok (.invokestatic 93, 3) := by decide +kernel
theorem dX12_isTurn_7 : decode cX12_isTurn 7 = .ok (.ireturn, 1) := by decide +kernel
theorem dX12_to_0 : decode cX12_to 0 = .ok (.getstatic 97, 3) := by decide +kernel
theorem dX12_to_3 : decode cX12_to 3 = .ok (.iconst 3, 1) := by decide +kernel
theorem dX12_to_4 : decode cX12_to 4 = .ok (.iload_n 0, 1) := by decide +kernel
theorem dX12_to_5 : decode cX12_to 5 = .ok (.iconst 4, 1) := by decide +kernel
theorem dX12_to_6 : decode cX12_to 6 = .ok (.idiv, 1) := by decide +kernel
theorem dX12_to_7 : decode cX12_to 7 = .ok (.imul, 1) := by decide +kernel
theorem dX12_to_8 : decode cX12_to 8 = .ok (.iload_n 1, 1) := by decide +kernel
theorem dX12_to_9 : decode cX12_to 9 = .ok (.iadd, 1) := by decide +kernel
theorem dX12_to_10 : decode cX12_to 10 = .ok (.iaload, 1) := by decide +kernel
theorem dX12_to_11 : decode cX12_to 11 = .ok (.ireturn, 1) := by decide +kernel
theorem dX12_sign_0 : decode cX12_sign 0 = .ok (.iload_n 0, 1) := by decide +kernel
theorem dX12_sign_1 : decode cX12_sign 1 = .ok (.iconst 2, 1) := by decide +kernel
theorem dX12_sign_2 : decode cX12_sign 2 = .ok (.irem, 1) := by decide +kernel
theorem dX12_sign_3 : decode cX12_sign 3 = .ok (.iconst 1, 1) := by decide +kernel
theorem dX12_sign_4 : decode cX12_sign 4 = .ok (.if_icmp .ne 7, 3) := by decide +kernel
theorem dX12_sign_7 : decode cX12_sign 7 = .ok (.iconst (-1), 1) := by decide +kernel
theorem dX12_sign_8 : decode cX12_sign 8 = .ok (.goto 4, 3) := by decide +kernel
theorem dX12_sign_11 : decode cX12_sign 11 = .ok (.iconst 1, 1) := by decide +kernel
theorem dX12_sign_12 : decode cX12_sign 12 = .ok (.istore_n 2, 1) := by decide +kernel
theorem dX12_sign_13 : decode cX12_sign 13 = .ok (.iload_n 0, 1) := by decide +kernel
theorem dX12_sign_14 : decode cX12_sign 14 = .ok (.iconst 4, 1) := by decide +kernel
theorem dX12_sign_15 : decode cX12_sign 15 = .ok (.irem, 1) := by decide +kernel
theorem dX12_sign_16 : decode cX12_sign 16 = .ok (.iconst 1, 1) := by decide +kernel
theorem dX12_sign_17 : decode cX12_sign 17 = .ok (.if_icmp .le 7, 3) := by decide +kernel
theorem dX12_sign_20 : decode cX12_sign 20 = .ok (.iconst (-1), 1) := by decide +kernel
theorem dX12_sign_21 : decode cX12_sign 21 = .ok (.goto 4, 3) := by decide +kernel
theorem dX12_sign_24 : decode cX12_sign 24 = .ok (.iconst 1, 1) := by decide +kernel
theorem dX12_sign_25 : decode cX12_sign 25 = .ok (.istore_n 3, 1) := by decide +kernel
theorem dX12_sign_26 : decode cX12_sign 26 = .ok (.iload_n 1, 1) := by decide +kernel
theorem dX12_sign_27 : decode cX12_sign 27 = .ok (.ifCond .ne 7, 3) := by decide +kernel
theorem dX12_sign_30 : decode cX12_sign 30 = .ok (.iload_n 2, 1) := by decide +kernel
theorem dX12_sign_31 : decode cX12_sign 31 = .ok (.goto 23, 3) := by decide +kernel
theorem dX12_sign_34 : decode cX12_sign 34 = .ok (.iload_n 1, 1) := by decide +kernel
theorem dX12_sign_35 : decode cX12_sign 35 = .ok (.iconst 1, 1) := by decide +kernel
theorem dX12_sign_36 : decode cX12_sign 36 = .ok (.if_icmp .ne 7, 3) := by decide +kernel
theorem dX12_sign_39 : decode cX12_sign 39 = .ok (.iload_n 3, 1) := by decide +kernel
theorem dX12_sign_40 : decode cX12_sign 40 = .ok (.goto 14, 3) := by decide +kernel
theorem dX12_sign_43 : decode cX12_sign 43 = .ok (.iload_n 2, 1) := by decide +kernel
theorem dX12_sign_44 : decode cX12_sign 44 = .ok (.iload_n 3, 1) := by decide +kernel
theorem dX12_sign_45 : decode cX12_sign 45 = .ok (.imul, 1) := by decide +kernel
theorem dX12_sign_46 : decode cX12_sign 46 = .ok (.getstatic 100, 3) := by decide +kernel
theorem dX12_sign_49 : decode cX12_sign 49 = .ok (.iload_n 0, 1) := by decide +kernel
theorem dX12_sign_50 : decode cX12_sign 50 = .ok (.iconst 4, 1) := by decide +kernel
theorem dX12_sign_51 : decode cX12_sign 51 = .ok (.idiv, 1) := by decide +kernel
theorem dX12_sign_52 : decode cX12_sign 52 = .ok (.iaload, 1) := by decide +kernel
theorem dX12_sign_53 : decode cX12_sign 53 = .ok (.imul, 1) := by decide +kernel
theorem dX12_sign_54 : decode cX12_sign 54 = .ok (.ireturn, 1) := by decide +kernel
theorem dX12_kind_0 : decode cX12_kind 0 = .ok (.aload_n 0, 1) := by decide +kernel
theorem dX12_kind_1 : decode cX12_kind 1 = .ok (.iconst 0, 1) := by decide +kernel
theorem dX12_kind_2 : decode cX12_kind 2 = .ok (.putfield 89, 3) := by decide +kernel
theorem dX12_kind_5 : decode cX12_kind 5 = .ok (.aload_n 0, 1) := by decide +kernel
theorem dX12_kind_6 : decode cX12_kind 6 = .ok (.getfield 103, 3) := by decide +kernel
theorem dX12_kind_9 : decode cX12_kind 9 = .ok (.bipush 30, 2) := by decide +kernel
theorem dX12_kind_11 : decode cX12_kind 11 = .ok (.if_icmp .eq 45, 3) := by decide +kernel
theorem dX12_kind_14 : decode cX12_kind 14 = .ok (.iload_n 1, 1) := by decide +kernel
theorem dX12_kind_15 : decode cX12_kind 15 = .ok (.iconst 1, 1) := by decide +kernel
theorem dX12_kind_16 : decode cX12_kind 16 = .ok (.sipush 10000, 3) := by decide +kernel
theorem dX12_kind_19 : decode cX12_kind 19 = .ok (.invokestatic 93, 3) := by decide +kernel
theorem dX12_kind_22 : decode cX12_kind 22 = .ok (.ifCond .eq 34, 3) := by decide +kernel
theorem dX12_kind_25 : decode cX12_kind 25 = .ok (.iload_n 2, 1) := by decide +kernel
theorem dX12_kind_26 : decode cX12_kind 26 = .ok (.iconst 0, 1) := by decide +kernel
theorem dX12_kind_27 : decode cX12_kind 27 = .ok (.ldc 106, 2) := by decide +kernel
theorem dX12_kind_29 : decode cX12_kind 29 = .ok (.invokestatic 93, 3) := by decide +kernel
theorem dX12_kind_32 : decode cX12_kind 32 = .ok (.ifCond .eq 24, 3) := by decide +kernel
theorem dX12_kind_35 : decode cX12_kind 35 = .ok (.iload_n 3, 1) := by decide +kernel
theorem dX12_kind_36 : decode cX12_kind 36 = .ok (.iconst 0, 1) := by decide +kernel
theorem dX12_kind_37 : decode cX12_kind 37 = .ok (.bipush 15, 2) := by decide +kernel
theorem dX12_kind_39 : decode cX12_kind 39 = .ok (.invokestatic 93, 3) := by decide +kernel
theorem dX12_kind_42 : decode cX12_kind 42 = .ok (.ifCond .eq 14, 3) := by decide +kernel
theorem dX12_kind_45 : decode cX12_kind 45 = .ok (.iload 4, 2) := by decide +kernel
theorem dX12_kind_47 : decode cX12_kind 47 = .ok (.iconst 1, 1) := by decide +kernel
theorem dX12_kind_48 : decode cX12_kind 48 = .ok (.bipush 16, 2) := by decide +kernel
theorem dX12_kind_50 : decode cX12_kind 50 = .ok (.invokestatic 93, 3) := by decide +kernel
theorem dX12_kind_53 : decode cX12_kind 53 = .ok (.ifCond .ne 5, 3) := by decide +kernel
theorem dX12_kind_56 : decode cX12_kind 56 = .ok (.iconst (-1), 1) := by decide +kernel
theorem dX12_kind_57 : decode cX12_kind 57 = .ok (.ireturn, 1) := by decide +kernel
theorem dX12_kind_58 : decode cX12_kind 58 = .ok (.aload_n 0, 1) := by decide +kernel
theorem dX12_kind_59 : decode cX12_kind 59 = .ok (.dup, 1) := by decide +kernel
theorem dX12_kind_60 : decode cX12_kind 60 = .ok (.getfield 103, 3) := by decide +kernel
theorem dX12_kind_63 : decode cX12_kind 63 = .ok (.iconst 1, 1) := by decide +kernel
theorem dX12_kind_64 : decode cX12_kind 64 = .ok (.iadd, 1) := by decide +kernel
theorem dX12_kind_65 : decode cX12_kind 65 = .ok (.putfield 103, 3) := by decide +kernel
theorem dX12_kind_68 : decode cX12_kind 68 = .ok (.aload_n 0, 1) := by decide +kernel
theorem dX12_kind_69 : decode cX12_kind 69 = .ok (.getfield 7, 3) := by decide +kernel
theorem dX12_kind_72 : decode cX12_kind 72 = .ok (.aload_n 0, 1) := by decide +kernel
theorem dX12_kind_73 : decode cX12_kind 73 = .ok (.getfield 103, 3) := by decide +kernel
theorem dX12_kind_76 : decode cX12_kind 76 = .ok (.iload_n 1, 1) := by decide +kernel
theorem dX12_kind_77 : decode cX12_kind 77 = .ok (.iastore, 1) := by decide +kernel
theorem dX12_kind_78 : decode cX12_kind 78 = .ok (.aload_n 0, 1) := by decide +kernel
theorem dX12_kind_79 : decode cX12_kind 79 = .ok (.getfield 13, 3) := by decide +kernel
theorem dX12_kind_82 : decode cX12_kind 82 = .ok (.aload_n 0, 1) := by decide +kernel
theorem dX12_kind_83 : decode cX12_kind 83 = .ok (.getfield 103, 3) := by decide +kernel
theorem dX12_kind_86 : decode cX12_kind 86 = .ok (.iload_n 2, 1) := by decide +kernel
theorem dX12_kind_87 : decode cX12_kind 87 = .ok (.iastore, 1) := by decide +kernel
theorem dX12_kind_88 : decode cX12_kind 88 = .ok (.aload_n 0, 1) := by decide +kernel
theorem dX12_kind_89 : decode cX12_kind 89 = .ok (.getfield 16, 3) := by decide +kernel
theorem dX12_kind_92 : decode cX12_kind 92 = .ok (.aload_n 0, 1) := by decide +kernel
theorem dX12_kind_93 : decode cX12_kind 93 = .ok (.getfield 103, 3) := by decide +kernel
theorem dX12_kind_96 : decode cX12_kind 96 = .ok (.iload_n 3, 1) := by decide +kernel
theorem dX12_kind_97 : decode cX12_kind 97 = .ok (.iastore, 1) := by decide +kernel
theorem dX12_kind_98 : decode cX12_kind 98 = .ok (.aload_n 0, 1) := by decide +kernel
theorem dX12_kind_99 : decode cX12_kind 99 = .ok (.getfield 19, 3) := by decide +kernel
theorem dX12_kind_102 : decode cX12_kind 102 = .ok (.aload_n 0, 1) := by decide +kernel
theorem dX12_kind_103 : decode cX12_kind 103 = .ok (.getfield 103, 3) := by decide +kernel
theorem dX12_kind_106 : decode cX12_kind 106 = .ok (.iload 4, 2) := by decide +kernel
theorem dX12_kind_108 : decode cX12_kind 108 = .ok (.iastore, 1) := by decide +kernel
theorem dX12_kind_109 : decode cX12_kind 109 = .ok (.aload_n 0, 1) := by decide +kernel
theorem dX12_kind_110 : decode cX12_kind 110 = .ok (.getfield 22, 3) := by decide +kernel
theorem dX12_kind_113 : decode cX12_kind 113 = .ok (.aload_n 0, 1) := by decide +kernel
theorem dX12_kind_114 : decode cX12_kind 114 = .ok (.getfield 103, 3) := by decide +kernel
theorem dX12_kind_117 : decode cX12_kind 117 = .ok (.iload 5, 2) := by decide +kernel
theorem dX12_kind_119 : decode cX12_kind 119 = .ok (.bastore, 1) := by decide +kernel
theorem dX12_kind_120 : decode cX12_kind 120 = .ok (.aload_n 0, 1) := by decide +kernel
theorem dX12_kind_121 : decode cX12_kind 121 = .ok (.getfield 103, 3) := by decide +kernel
theorem dX12_kind_124 : decode cX12_kind 124 = .ok (.ireturn, 1) := by decide +kernel
theorem dX12_times_0 : decode cX12_times 0 = .ok (.iconst 0, 1) := by decide +kernel
theorem dX12_times_1 : decode cX12_times 1 = .ok (.istore_n 3, 1) := by decide +kernel
theorem dX12_times_2 : decode cX12_times 2 = .ok (.iload_n 3, 1) := by decide +kernel
theorem dX12_times_3 : decode cX12_times 3 = .ok (.bipush 24, 2) := by decide +kernel
theorem dX12_times_5 : decode cX12_times 5 = .ok (.if_icmp .ge 91, 3) := by decide +kernel
theorem dX12_times_8 : decode cX12_times 8 = .ok (.iconst 1, 1) := by decide +kernel
theorem dX12_times_9 : decode cX12_times 9 = .ok (.istore 4, 2) := by decide +kernel
theorem dX12_times_11 : decode cX12_times 11 = .ok (.iconst 0, 1) := by decide +kernel
theorem dX12_times_12 : decode cX12_times 12 = .ok (.istore 5, 2) := by decide +kernel
theorem dX12_times_14 : decode cX12_times 14 = .ok (.iload 5, 2) := by decide +kernel
theorem dX12_times_16 : decode cX12_times 16 = .ok (.iconst 3, 1) := by decide +kernel
theorem dX12_times_17 : decode cX12_times 17 = .ok (.if_icmp .ge 66, 3) := by decide +kernel
theorem dX12_times_20 : decode cX12_times 20 = .ok (.iload 4, 2) := by decide +kernel
theorem dX12_times_22 : decode cX12_times 22 = .ok (.ifCond .eq 52, 3) := by decide +kernel
theorem dX12_times_25 : decode cX12_times 25 = .ok (.iload_n 3, 1) := by decide +kernel
theorem dX12_times_26 : decode cX12_times 26 = .ok (.iload 5, 2) := by decide +kernel
theorem dX12_times_28 : decode cX12_times 28 = .ok (.invokestatic 107, 3) := by decide +kernel
theorem dX12_times_31 : decode cX12_times 31 = .ok (.iload_n 1, 1) := by decide +kernel
theorem dX12_times_32 : decode cX12_times 32 = .ok (.iload_n 2, 1) := by decide +kernel
theorem dX12_times_33 : decode cX12_times 33 = .ok (.iload 5, 2) := by decide +kernel
theorem dX12_times_35 : decode cX12_times 35 = .ok (.invokestatic 107, 3) := by decide +kernel
theorem dX12_times_38 : decode cX12_times 38 = .ok (.invokestatic 107, 3) := by decide +kernel
theorem dX12_times_41 : decode cX12_times 41 = .ok (.if_icmp .ne 33, 3) := by decide +kernel
theorem dX12_times_44 : decode cX12_times 44 = .ok (.iload_n 3, 1) := by decide +kernel
theorem dX12_times_45 : decode cX12_times 45 = .ok (.iload 5, 2) := by decide +kernel
theorem dX12_times_47 : decode cX12_times 47 = .ok (.invokestatic 111, 3) := by decide +kernel
theorem dX12_times_50 : decode cX12_times 50 = .ok (.iload_n 2, 1) := by decide +kernel
theorem dX12_times_51 : decode cX12_times 51 = .ok (.iload 5, 2) := by decide +kernel
theorem dX12_times_53 : decode cX12_times 53 = .ok (.invokestatic 111, 3) := by decide +kernel
theorem dX12_times_56 : decode cX12_times 56 = .ok (.iload_n 1, 1) := by decide +kernel
theorem dX12_times_57 : decode cX12_times 57 = .ok (.iload_n 2, 1) := by decide +kernel
theorem dX12_times_58 : decode cX12_times 58 = .ok (.iload 5, 2) := by decide +kernel
theorem dX12_times_60 : decode cX12_times 60 = .ok (.invokestatic 107, 3) := by decide +kernel
theorem dX12_times_63 : decode cX12_times 63 = .ok (.invokestatic 111, 3) := by decide +kernel
theorem dX12_times_66 : decode cX12_times 66 = .ok (.imul, 1) := by decide +kernel
theorem dX12_times_67 : decode cX12_times 67 = .ok (.if_icmp .ne 7, 3) := by decide +kernel
theorem dX12_times_70 : decode cX12_times 70 = .ok (.iconst 1, 1) := by decide +kernel
theorem dX12_times_71 : decode cX12_times 71 = .ok (.goto 4, 3) := by decide +kernel
theorem dX12_times_74 : decode cX12_times 74 = .ok (.iconst 0, 1) := by decide +kernel
theorem dX12_times_75 : decode cX12_times 75 = .ok (.istore 4, 2) := by decide +kernel
theorem dX12_times_77 : decode cX12_times 77 = .ok (.iinc 5 1, 3) := by decide +kernel
theorem dX12_times_80 : decode cX12_times 80 = .ok (.goto (-66), 3) := by decide +kernel
theorem dX12_times_83 : decode cX12_times 83 = .ok (.iload 4, 2) := by decide +kernel
theorem dX12_times_85 : decode cX12_times 85 = .ok (.ifCond .eq 5, 3) := by decide +kernel
theorem dX12_times_88 : decode cX12_times 88 = .ok (.iload_n 3, 1) := by decide +kernel
theorem dX12_times_89 : decode cX12_times 89 = .ok (.ireturn, 1) := by decide +kernel
theorem dX12_times_90 : decode cX12_times 90 = .ok (.iinc 3 1, 3) := by decide +kernel
theorem dX12_times_93 : decode cX12_times 93 = .ok (.goto (-91), 3) := by decide +kernel
theorem dX12_times_96 : decode cX12_times 96 = .ok (.iconst (-1), 1) := by decide +kernel
theorem dX12_times_97 : decode cX12_times 97 = .ok (.ireturn, 1) := by decide +kernel
theorem dX12_product_0 : decode cX12_product 0 = .ok (.aload_n 0, 1) := by decide +kernel
theorem dX12_product_1 : decode cX12_product 1 = .ok (.iconst 0, 1) := by decide +kernel
theorem dX12_product_2 : decode cX12_product 2 = .ok (.putfield 89, 3) := by decide +kernel
theorem dX12_product_5 : decode cX12_product 5 = .ok (.iload_n 1, 1) := by decide +kernel
theorem dX12_product_6 : decode cX12_product 6 = .ok (.invokestatic 114, 3) := by decide +kernel
theorem dX12_product_9 : decode cX12_product 9 = .ok (.ifCond .eq 19, 3) := by decide +kernel
theorem dX12_product_12 : decode cX12_product 12 = .ok (.iload_n 2, 1) := by decide +kernel
theorem dX12_product_13 : decode cX12_product 13 = .ok (.invokestatic 114, 3) := by decide +kernel
theorem dX12_product_16 : decode cX12_product 16 = .ok (.ifCond .eq 12, 3) := by decide +kernel
theorem dX12_product_19 : decode cX12_product 19 = .ok (.aload_n 0, 1) := by decide +kernel
theorem dX12_product_20 : decode cX12_product 20 = .ok (.iload_n 1, 1) := by decide +kernel
theorem dX12_product_21 : decode cX12_product 21 = .ok (.iload_n 2, 1) := by decide +kernel
theorem dX12_product_22 : decode cX12_product 22 = .ok (.invokevirtual 118, 3) := by decide +kernel
theorem dX12_product_25 : decode cX12_product 25 = .ok (.goto 4, 3) := by decide +kernel
theorem dX12_product_28 : decode cX12_product 28 = .ok (.iconst (-1), 1) := by decide +kernel
theorem dX12_product_29 : decode cX12_product 29 = .ok (.ireturn, 1) := by decide +kernel
theorem dX12_holdsOf_0 : decode cX12_holdsOf 0 = .ok (.iconst 0, 1) := by decide +kernel
theorem dX12_holdsOf_1 : decode cX12_holdsOf 1 = .ok (.istore_n 2, 1) := by decide +kernel
theorem dX12_holdsOf_2 : decode cX12_holdsOf 2 = .ok (.iconst 0, 1) := by decide +kernel
theorem dX12_holdsOf_3 : decode cX12_holdsOf 3 = .ok (.istore_n 3, 1) := by decide +kernel
theorem dX12_holdsOf_4 : decode cX12_holdsOf 4 = .ok (.iload_n 3, 1) := by decide +kernel
theorem dX12_holdsOf_5 : decode cX12_holdsOf 5 = .ok (.sipush 160, 3) := by decide +kernel
theorem dX12_holdsOf_8 : decode cX12_holdsOf 8 = .ok (.if_icmp .ge 27, 3) := by decide +kernel
theorem dX12_holdsOf_11 : decode cX12_holdsOf 11 = .ok (.iload_n 2, 1) := by decide +kernel
theorem dX12_holdsOf_12 : decode cX12_holdsOf 12 = .ok (.aload_n 0, 1) := by decide +kernel
theorem dX12_holdsOf_13 : decode cX12_holdsOf 13 = .ok (.getfield 26, 3) := by decide +kernel
theorem dX12_holdsOf_16 : decode cX12_holdsOf 16 = .ok (.iload_n 3, 1) := by decide +kernel
theorem dX12_holdsOf_17 : decode cX12_holdsOf 17 = .ok (.iaload, 1) := by decide +kernel
theorem dX12_holdsOf_18 : decode cX12_holdsOf 18 = .ok (.iload_n 1, 1) := by decide +kernel
theorem dX12_holdsOf_19 : decode cX12_holdsOf 19 = .ok (.if_icmp .ne 7, 3) := by decide +kernel
theorem dX12_holdsOf_22 : decode cX12_holdsOf 22 = .ok (.iconst 1, 1) := by decide +kernel
theorem dX12_holdsOf_23 : decode cX12_holdsOf 23 = .ok (.goto 4, 3) := by decide +kernel
theorem dX12_holdsOf_26 : decode cX12_holdsOf 26 = .ok (.iconst 0, 1) := by decide +kernel
theorem dX12_holdsOf_27 : decode cX12_holdsOf 27 = .ok (.iadd, 1) := by decide +kernel
theorem dX12_holdsOf_28 : decode cX12_holdsOf 28 = .ok (.istore_n 2, 1) := by decide +kernel
theorem dX12_holdsOf_29 : decode cX12_holdsOf 29 = .ok (.iinc 3 1, 3) := by decide +kernel
theorem dX12_holdsOf_32 : decode cX12_holdsOf 32 = .ok (.goto (-28), 3) := by decide +kernel
theorem dX12_holdsOf_35 : decode cX12_holdsOf 35 = .ok (.iload_n 2, 1) := by decide +kernel
theorem dX12_holdsOf_36 : decode cX12_holdsOf 36 = .ok (.ireturn, 1) := by decide +kernel
theorem dX12_holdsOfRow_0 : decode cX12_holdsOfRow 0 = .ok (.iconst 0, 1) := by decide +kernel
theorem dX12_holdsOfRow_1 : decode cX12_holdsOfRow 1 = .ok (.istore_n 2, 1) := by decide +kernel
theorem dX12_holdsOfRow_2 : decode cX12_holdsOfRow 2 = .ok (.iconst 0, 1) := by decide +kernel
theorem dX12_holdsOfRow_3 : decode cX12_holdsOfRow 3 = .ok (.istore_n 3, 1) := by decide +kernel
theorem dX12_holdsOfRow_4 : decode cX12_holdsOfRow 4 = .ok (.iload_n 3, 1) := by decide +kernel
theorem dX12_holdsOfRow_5 : decode cX12_holdsOfRow 5 = .ok (.sipush 170, 3) := by decide +kernel
theorem dX12_holdsOfRow_8 : decode cX12_holdsOfRow 8 = .ok (.if_icmp .ge 60, 3) := by decide +kernel
theorem dX12_holdsOfRow_11 : decode cX12_holdsOfRow 11 = .ok (.aload_n 0, 1) := by decide +kernel
theorem dX12_holdsOfRow_12 : decode cX12_holdsOfRow 12 = .ok (.iload_n 3, 1) := by decide +kernel
theorem dX12_holdsOfRow_13 : decode cX12_holdsOfRow 13 = .ok (.invokevirtual 121, 3) := by decide +kernel
theorem dX12_holdsOfRow_16 : decode cX12_holdsOfRow 16 = .ok (.ifCond .ne 6, 3) := by decide +kernel
theorem dX12_holdsOfRow_19 : decode cX12_holdsOfRow 19 = .ok (.goto 43, 3) := by decide +kernel
theorem dX12_holdsOfRow_22 : decode cX12_holdsOfRow 22 = .ok (.iconst 0, 1) := by decide +kernel
theorem dX12_holdsOfRow_23 : decode cX12_holdsOfRow 23 = .ok (.istore 4, 2) := by decide +kernel
theorem dX12_holdsOfRow_25 : decode cX12_holdsOfRow 25 = .ok (.iload 4, 2) := by decide +kernel
theorem dX12_holdsOfRow_27 : decode cX12_holdsOfRow 27 = .ok (.bipush 10, 2) := by decide +kernel
theorem dX12_holdsOfRow_29 : decode cX12_holdsOfRow 29 = .ok (.if_icmp .ge 33, 3) := by decide +kernel
theorem dX12_holdsOfRow_32 : decode cX12_holdsOfRow 32 = .ok (.iload_n 2, 1) := by decide +kernel
theorem dX12_holdsOfRow_33 : decode cX12_holdsOfRow 33 = .ok (.aload_n 0, 1) := by decide +kernel
theorem dX12_holdsOfRow_34 : decode cX12_holdsOfRow 34 = .ok (.getfield 32, 3) := by decide +kernel
theorem dX12_holdsOfRow_37 : decode cX12_holdsOfRow 37 = .ok (.bipush 10, 2) := by decide +kernel
theorem dX12_holdsOfRow_39 : decode cX12_holdsOfRow 39 = .ok (.iload_n 3, 1) := by decide +kernel
theorem dX12_holdsOfRow_40 : decode cX12_holdsOfRow 40 = .ok (.imul, 1) := by decide +kernel
theorem dX12_holdsOfRow_41 : decode cX12_holdsOfRow 41 = .ok (.iload 4, 2) := by decide +kernel
theorem dX12_holdsOfRow_43 : decode cX12_holdsOfRow 43 = .ok (.iadd, 1) := by decide +kernel
theorem dX12_holdsOfRow_44 : decode cX12_holdsOfRow 44 = .ok (.iaload, 1) := by decide +kernel
theorem dX12_holdsOfRow_45 : decode cX12_holdsOfRow 45 = .ok (.iload_n 1, 1) := by decide +kernel
theorem dX12_holdsOfRow_46 : decode cX12_holdsOfRow 46 = .ok (.if_icmp .ne 7, 3) := by decide +kernel
theorem dX12_holdsOfRow_49 : decode cX12_holdsOfRow 49 = .ok (.iconst 1, 1) := by decide +kernel
theorem dX12_holdsOfRow_50 : decode cX12_holdsOfRow 50 = .ok (.goto 4, 3) := by decide +kernel
theorem dX12_holdsOfRow_53 : decode cX12_holdsOfRow 53 = .ok (.iconst 0, 1) := by decide +kernel
theorem dX12_holdsOfRow_54 : decode cX12_holdsOfRow 54 = .ok (.iadd, 1) := by decide +kernel
theorem dX12_holdsOfRow_55 : decode cX12_holdsOfRow 55 = .ok (.istore_n 2, 1) := by decide +kernel
theorem dX12_holdsOfRow_56 : decode cX12_holdsOfRow 56 = .ok (.iinc 4 1, 3) := by decide +kernel
theorem dX12_holdsOfRow_59 : decode cX12_holdsOfRow 59 = .ok (.goto (-34), 3) := by decide +kernel
theorem dX12_holdsOfRow_62 : decode cX12_holdsOfRow 62 = .ok (.iinc 3 1, 3) := by decide +kernel
theorem dX12_holdsOfRow_65 : decode cX12_holdsOfRow 65 = .ok (.goto (-61), 3) := by decide +kernel
theorem dX12_holdsOfRow_68 : decode cX12_holdsOfRow 68 = .ok (.iload_n 2, 1) := by decide +kernel
theorem dX12_holdsOfRow_69 : decode cX12_holdsOfRow 69 = .ok (.ireturn, 1) := by decide +kernel
theorem dX12_newLayer_0 : decode cX12_newLayer 0 = .ok (.iconst 0, 1) := by decide +kernel
theorem dX12_newLayer_1 : decode cX12_newLayer 1 = .ok (.istore_n 1, 1) := by decide +kernel
theorem dX12_newLayer_2 : decode cX12_newLayer 2 = .ok (.aload_n 0, 1) := by decide +kernel
theorem dX12_newLayer_3 : decode cX12_newLayer 3 = .ok (.iload_n 1, 1) := by decide +kernel
theorem dX12_newLayer_4 : decode cX12_newLayer 4 = .ok (.invokevirtual 121, 3) := by decide +kernel
theorem dX12_newLayer_7 : decode cX12_newLayer 7 = .ok (.ifCond .le 9, 3) := by decide +kernel
theorem dX12_newLayer_10 : decode cX12_newLayer 10 = .ok (.iinc 1 1, 3) := by decide +kernel
theorem dX12_newLayer_13 : decode cX12_newLayer 13 = .ok (.goto (-11), 3) := by decide +kernel
theorem dX12_newLayer_16 : decode cX12_newLayer 16 = .ok (.iconst 0, 1) := by decide +kernel
theorem dX12_newLayer_17 : decode cX12_newLayer 17 = .ok (.istore_n 2, 1) := by decide +kernel
theorem dX12_newLayer_18 : decode cX12_newLayer 18 = .ok (.iload_n 2, 1) := by decide +kernel
theorem dX12_newLayer_19 : decode cX12_newLayer 19 = .ok (.bipush 10, 2) := by decide +kernel
theorem dX12_newLayer_21 : decode cX12_newLayer 21 = .ok (.if_icmp .ge 21, 3) := by decide +kernel
theorem dX12_newLayer_24 : decode cX12_newLayer 24 = .ok (.aload_n 0, 1) := by decide +kernel
theorem dX12_newLayer_25 : decode cX12_newLayer 25 = .ok (.getfield 32, 3) := by decide +kernel
theorem dX12_newLayer_28 : decode cX12_newLayer 28 = .ok (.bipush 10, 2) := by decide +kernel
theorem dX12_newLayer_30 : decode cX12_newLayer 30 = .ok (.iload_n 1, 1) := by decide +kernel
theorem dX12_newLayer_31 : decode cX12_newLayer 31 = .ok (.imul, 1) := by decide +kernel
theorem dX12_newLayer_32 : decode cX12_newLayer 32 = .ok (.iload_n 2, 1) := by decide +kernel
theorem dX12_newLayer_33 : decode cX12_newLayer 33 = .ok (.iadd, 1) := by decide +kernel
theorem dX12_newLayer_34 : decode cX12_newLayer 34 = .ok (.iconst (-1), 1) := by decide +kernel
theorem dX12_newLayer_35 : decode cX12_newLayer 35 = .ok (.iastore, 1) := by decide +kernel
theorem dX12_newLayer_36 : decode cX12_newLayer 36 = .ok (.iinc 2 1, 3) := by decide +kernel
theorem dX12_newLayer_39 : decode cX12_newLayer 39 = .ok (.goto (-21), 3) := by decide +kernel
theorem dX12_newLayer_42 : decode cX12_newLayer 42 = .ok (.aload_n 0, 1) := by decide +kernel
theorem dX12_newLayer_43 : decode cX12_newLayer 43 = .ok (.dup, 1) := by decide +kernel
theorem dX12_newLayer_44 : decode cX12_newLayer 44 = .ok (.getfield 125, 3) := by decide +kernel
theorem dX12_newLayer_47 : decode cX12_newLayer 47 = .ok (.iconst 1, 1) := by decide +kernel
theorem dX12_newLayer_48 : decode cX12_newLayer 48 = .ok (.iadd, 1) := by decide +kernel
theorem dX12_newLayer_49 : decode cX12_newLayer 49 = .ok (.putfield 125, 3) := by decide +kernel
theorem dX12_newLayer_52 : decode cX12_newLayer 52 = .ok (.iload_n 1, 1) := by decide +kernel
theorem dX12_newLayer_53 : decode cX12_newLayer 53 = .ok (.ireturn, 1) := by decide +kernel
theorem dX12_meets_0 : decode cX12_meets 0 = .ok (.iconst 0, 1) := by decide +kernel
theorem dX12_meets_1 : decode cX12_meets 1 = .ok (.istore_n 1, 1) := by decide +kernel
theorem dX12_meets_2 : decode cX12_meets 2 = .ok (.iload_n 1, 1) := by decide +kernel
theorem dX12_meets_3 : decode cX12_meets 3 = .ok (.sipush 1710, 3) := by decide +kernel
theorem dX12_meets_6 : decode cX12_meets 6 = .ok (.if_icmp .ge 16, 3) := by decide +kernel
theorem dX12_meets_9 : decode cX12_meets 9 = .ok (.aload_n 0, 1) := by decide +kernel
theorem dX12_meets_10 : decode cX12_meets 10 = .ok (.getfield 44, 3) := by decide +kernel
theorem dX12_meets_13 : decode cX12_meets 13 = .ok (.iload_n 1, 1) := by decide +kernel
theorem dX12_meets_14 : decode cX12_meets 14 = .ok (.iconst 0, 1) := by decide +kernel
theorem dX12_meets_15 : decode cX12_meets 15 = .ok (.bastore, 1) := by decide +kernel
theorem dX12_meets_16 : decode cX12_meets 16 = .ok (.iinc 1 1, 3) := by decide +kernel
theorem dX12_meets_19 : decode cX12_meets 19 = .ok (.goto (-17), 3) := by decide +kernel
theorem dX12_meets_22 : decode cX12_meets 22 = .ok (.iconst 0, 1) := by decide +kernel
theorem dX12_meets_23 : decode cX12_meets 23 = .ok (.istore_n 1, 1) := by decide +kernel
theorem dX12_meets_24 : decode cX12_meets 24 = .ok (.iload_n 1, 1) := by decide +kernel
theorem dX12_meets_25 : decode cX12_meets 25 = .ok (.sipush 170, 3) := by decide +kernel
theorem dX12_meets_28 : decode cX12_meets 28 = .ok (.if_icmp .ge 16, 3) := by decide +kernel
theorem dX12_meets_31 : decode cX12_meets 31 = .ok (.aload_n 0, 1) := by decide +kernel
theorem dX12_meets_32 : decode cX12_meets 32 = .ok (.getfield 47, 3) := by decide +kernel
theorem dX12_meets_35 : decode cX12_meets 35 = .ok (.iload_n 1, 1) := by decide +kernel
theorem dX12_meets_36 : decode cX12_meets 36 = .ok (.iconst 0, 1) := by decide +kernel
theorem dX12_meets_37 : decode cX12_meets 37 = .ok (.bastore, 1) := by decide +kernel
theorem dX12_meets_38 : decode cX12_meets 38 = .ok (.iinc 1 1, 3) := by decide +kernel
theorem dX12_meets_41 : decode cX12_meets 41 = .ok (.goto (-17), 3) := by decide +kernel
theorem dX12_meets_44 : decode cX12_meets 44 = .ok (.iconst 0, 1) := by decide +kernel
theorem dX12_meets_45 : decode cX12_meets 45 = .ok (.istore_n 1, 1) := by decide +kernel
theorem dX12_meets_46 : decode cX12_meets 46 = .ok (.iconst 0, 1) := by decide +kernel
theorem dX12_meets_47 : decode cX12_meets 47 = .ok (.istore_n 2, 1) := by decide +kernel
theorem dX12_meets_48 : decode cX12_meets 48 = .ok (.iload_n 2, 1) := by decide +kernel
theorem dX12_meets_49 : decode cX12_meets 49 = .ok (.sipush 160, 3) := by decide +kernel
theorem dX12_meets_52 : decode cX12_meets 52 = .ok (.if_icmp .ge 93, 3) := by decide +kernel
theorem dX12_meets_55 : decode cX12_meets 55 = .ok (.aload_n 0, 1) := by decide +kernel
theorem dX12_meets_56 : decode cX12_meets 56 = .ok (.getfield 26, 3) := by decide +kernel
theorem dX12_meets_59 : decode cX12_meets 59 = .ok (.iload_n 2, 1) := by decide +kernel
theorem dX12_meets_60 : decode cX12_meets 60 = .ok (.iaload, 1) := by decide +kernel
theorem dX12_meets_61 : decode cX12_meets 61 = .ok (.istore_n 3, 1) := by decide +kernel
theorem dX12_meets_62 : decode cX12_meets 62 = .ok (.iload_n 3, 1) := by decide +kernel
theorem dX12_meets_63 : decode cX12_meets 63 = .ok (.iconst (-1), 1) := by decide +kernel
theorem dX12_meets_64 : decode cX12_meets 64 = .ok (.if_icmp .eq 75, 3) := by decide +kernel
theorem dX12_meets_67 : decode cX12_meets 67 = .ok (.aload_n 0, 1) := by decide +kernel
theorem dX12_meets_68 : decode cX12_meets 68 = .ok (.getfield 47, 3) := by decide +kernel
theorem dX12_meets_71 : decode cX12_meets 71 = .ok (.iload_n 3, 1) := by decide +kernel
theorem dX12_meets_72 : decode cX12_meets 72 = .ok (.baload, 1) := by decide +kernel
theorem dX12_meets_73 : decode cX12_meets 73 = .ok (.ifCond .eq 6, 3) := by decide +kernel
theorem dX12_meets_76 : decode cX12_meets 76 = .ok (.goto 63, 3) := by decide +kernel
theorem dX12_meets_79 : decode cX12_meets 79 = .ok (.aload_n 0, 1) := by decide +kernel
theorem dX12_meets_80 : decode cX12_meets 80 = .ok (.getfield 47, 3) := by decide +kernel
theorem dX12_meets_83 : decode cX12_meets 83 = .ok (.iload_n 3, 1) := by decide +kernel
theorem dX12_meets_84 : decode cX12_meets 84 = .ok (.iconst 1, 1) := by decide +kernel
theorem dX12_meets_85 : decode cX12_meets 85 = .ok (.bastore, 1) := by decide +kernel
theorem dX12_meets_86 : decode cX12_meets 86 = .ok (.iinc 1 1, 3) := by decide +kernel
theorem dX12_meets_89 : decode cX12_meets 89 = .ok (.iconst 0, 1) := by decide +kernel
theorem dX12_meets_90 : decode cX12_meets 90 = .ok (.istore 4, 2) := by decide +kernel
theorem dX12_meets_92 : decode cX12_meets 92 = .ok (.iload 4, 2) := by decide +kernel
theorem dX12_meets_94 : decode cX12_meets 94 = .ok (.bipush 10, 2) := by decide +kernel
theorem dX12_meets_96 : decode cX12_meets 96 = .ok (.if_icmp .ge 43, 3) := by decide +kernel
theorem dX12_meets_99 : decode cX12_meets 99 = .ok (.aload_n 0, 1) := by decide +kernel
theorem dX12_meets_100 : decode cX12_meets 100 = .ok (.getfield 32, 3) := by decide +kernel
theorem dX12_meets_103 : decode cX12_meets 103 = .ok (.bipush 10, 2) := by decide +kernel
theorem dX12_meets_105 : decode cX12_meets 105 = .ok (.iload_n 3, 1) := by decide +kernel
theorem dX12_meets_106 : decode cX12_meets 106 = .ok (.imul, 1) := by decide +kernel
theorem dX12_meets_107 : decode cX12_meets 107 = .ok (.iload 4, 2) := by decide +kernel
theorem dX12_meets_109 : decode cX12_meets 109 = .ok (.iadd, 1) := by decide +kernel
theorem dX12_meets_110 : decode cX12_meets 110 = .ok (.iaload, 1) := by decide +kernel
theorem dX12_meets_111 : decode cX12_meets 111 = .ok (.iconst (-1), 1) := by decide +kernel
theorem dX12_meets_112 : decode cX12_meets 112 = .ok (.if_icmp .eq 21, 3) := by decide +kernel
theorem dX12_meets_115 : decode cX12_meets 115 = .ok (.aload_n 0, 1) := by decide +kernel
theorem dX12_meets_116 : decode cX12_meets 116 = .ok (.getfield 44, 3) := by decide +kernel
theorem dX12_meets_119 : decode cX12_meets 119 = .ok (.aload_n 0, 1) := by decide +kernel
theorem dX12_meets_120 : decode cX12_meets 120 = .ok (.getfield 32, 3) := by decide +kernel
theorem dX12_meets_123 : decode cX12_meets 123 = .ok (.bipush 10, 2) := by decide +kernel
theorem dX12_meets_125 : decode cX12_meets 125 = .ok (.iload_n 3, 1) := by decide +kernel
theorem dX12_meets_126 : decode cX12_meets 126 = .ok (.imul, 1) := by decide +kernel
theorem dX12_meets_127 : decode cX12_meets 127 = .ok (.iload 4, 2) := by decide +kernel
theorem dX12_meets_129 : decode cX12_meets 129 = .ok (.iadd, 1) := by decide +kernel
theorem dX12_meets_130 : decode cX12_meets 130 = .ok (.iaload, 1) := by decide +kernel
theorem dX12_meets_131 : decode cX12_meets 131 = .ok (.iconst 1, 1) := by decide +kernel
theorem dX12_meets_132 : decode cX12_meets 132 = .ok (.bastore, 1) := by decide +kernel
theorem dX12_meets_133 : decode cX12_meets 133 = .ok (.iinc 4 1, 3) := by decide +kernel
theorem dX12_meets_136 : decode cX12_meets 136 = .ok (.goto (-44), 3) := by decide +kernel
theorem dX12_meets_139 : decode cX12_meets 139 = .ok (.iinc 2 1, 3) := by decide +kernel
theorem dX12_meets_142 : decode cX12_meets 142 = .ok (.goto (-94), 3) := by decide +kernel
theorem dX12_meets_145 : decode cX12_meets 145 = .ok (.iload_n 1, 1) := by decide +kernel
theorem dX12_meets_146 : decode cX12_meets 146 = .ok (.ireturn, 1) := by decide +kernel
theorem dX12_newRow_0 : decode cX12_newRow 0 = .ok (.aload_n 0, 1) := by decide +kernel
theorem dX12_newRow_1 : decode cX12_newRow 1 = .ok (.invokevirtual 128, 3) := by decide +kernel
theorem dX12_newRow_4 : decode cX12_newRow 4 = .ok (.istore_n 1, 1) := by decide +kernel
theorem dX12_newRow_5 : decode cX12_newRow 5 = .ok (.iconst 0, 1) := by decide +kernel
theorem dX12_newRow_6 : decode cX12_newRow 6 = .ok (.istore_n 2, 1) := by decide +kernel
theorem dX12_newRow_7 : decode cX12_newRow 7 = .ok (.aload_n 0, 1) := by decide +kernel
theorem dX12_newRow_8 : decode cX12_newRow 8 = .ok (.getfield 44, 3) := by decide +kernel
theorem dX12_newRow_11 : decode cX12_newRow 11 = .ok (.iload_n 2, 1) := by decide +kernel
theorem dX12_newRow_12 : decode cX12_newRow 12 = .ok (.baload, 1) := by decide +kernel
theorem dX12_newRow_13 : decode cX12_newRow 13 = .ok (.ifCond .eq 9, 3) := by decide +kernel
theorem dX12_newRow_16 : decode cX12_newRow 16 = .ok (.iinc 2 1, 3) := by decide +kernel
theorem dX12_newRow_19 : decode cX12_newRow 19 = .ok (.goto (-12), 3) := by decide +kernel
theorem dX12_newRow_22 : decode cX12_newRow 22 = .ok (.aload_n 0, 1) := by decide +kernel
theorem dX12_newRow_23 : decode cX12_newRow 23 = .ok (.dup, 1) := by decide +kernel
theorem dX12_newRow_24 : decode cX12_newRow 24 = .ok (.getfield 132, 3) := by decide +kernel
theorem dX12_newRow_27 : decode cX12_newRow 27 = .ok (.iconst 1, 1) := by decide +kernel
theorem dX12_newRow_28 : decode cX12_newRow 28 = .ok (.iadd, 1) := by decide +kernel
theorem dX12_newRow_29 : decode cX12_newRow 29 = .ok (.putfield 132, 3) := by decide +kernel
theorem dX12_newRow_32 : decode cX12_newRow 32 = .ok (.iload_n 2, 1) := by decide +kernel
theorem dX12_newRow_33 : decode cX12_newRow 33 = .ok (.ireturn, 1) := by decide +kernel
theorem dX12_aloneLayer_0 : decode cX12_aloneLayer 0 = .ok (.aload_n 0, 1) := by decide +kernel
theorem dX12_aloneLayer_1 : decode cX12_aloneLayer 1 = .ok (.getfield 26, 3) := by decide +kernel
theorem dX12_aloneLayer_4 : decode cX12_aloneLayer 4 = .ok (.bipush 10, 2) := by decide +kernel
theorem dX12_aloneLayer_6 : decode cX12_aloneLayer 6 = .ok (.iload_n 1, 1) := by decide +kernel
theorem dX12_aloneLayer_7 : decode cX12_aloneLayer 7 = .ok (.imul, 1) := by decide +kernel
theorem dX12_aloneLayer_8 : decode cX12_aloneLayer 8 = .ok (.iload_n 2, 1) := by decide +kernel
theorem dX12_aloneLayer_9 : decode cX12_aloneLayer 9 = .ok (.iadd, 1) := by decide +kernel
theorem dX12_aloneLayer_10 : decode cX12_aloneLayer 10 = .ok (.iaload, 1) := by decide +kernel
theorem dX12_aloneLayer_11 : decode cX12_aloneLayer 11 = .ok (.istore_n 3, 1) := by decide +kernel
theorem dX12_aloneLayer_12 : decode cX12_aloneLayer 12 = .ok (.aload_n 0, 1) := by decide +kernel
theorem dX12_aloneLayer_13 : decode cX12_aloneLayer 13 = .ok (.iload_n 3, 1) := by decide +kernel
theorem dX12_aloneLayer_14 : decode cX12_aloneLayer 14 = .ok (.invokevirtual 121, 3) := by decide +kernel
theorem dX12_aloneLayer_17 : decode cX12_aloneLayer 17 = .ok (.iconst 2, 1) := by decide +kernel
theorem dX12_aloneLayer_18 : decode cX12_aloneLayer 18 = .ok (.if_icmp .ge 4, 3) := by decide +kernel
theorem dX12_aloneLayer_21 : decode cX12_aloneLayer 21 = .ok (.return_, 1) := by decide +kernel
theorem dX12_aloneLayer_22 : decode cX12_aloneLayer 22 = .ok (.aload_n 0, 1) := by decide +kernel
theorem dX12_aloneLayer_23 : decode cX12_aloneLayer 23 = .ok (.invokevirtual 135, 3) := by decide +kernel
theorem dX12_aloneLayer_26 : decode cX12_aloneLayer 26 = .ok (.istore 4, 2) := by decide +kernel
theorem dX12_aloneLayer_28 : decode cX12_aloneLayer 28 = .ok (.iconst 0, 1) := by decide +kernel
theorem dX12_aloneLayer_29 : decode cX12_aloneLayer 29 = .ok (.istore 5, 2) := by decide +kernel
theorem dX12_aloneLayer_31 : decode cX12_aloneLayer 31 = .ok (.iload 5, 2) := by decide +kernel
theorem dX12_aloneLayer_33 : decode cX12_aloneLayer 33 = .ok (.bipush 10, 2) := by decide +kernel
theorem dX12_aloneLayer_35 : decode cX12_aloneLayer 35 = .ok (.if_icmp .ge 34, 3) := by decide +kernel
theorem dX12_aloneLayer_38 : decode cX12_aloneLayer 38 = .ok (.aload_n 0, 1) := by decide +kernel
theorem dX12_aloneLayer_39 : decode cX12_aloneLayer 39 = .ok (.getfield 32, 3) := by decide +kernel
theorem dX12_aloneLayer_42 : decode cX12_aloneLayer 42 = .ok (.bipush 10, 2) := by decide +kernel
theorem dX12_aloneLayer_44 : decode cX12_aloneLayer 44 = .ok (.iload 4, 2) := by decide +kernel
theorem dX12_aloneLayer_46 : decode cX12_aloneLayer 46 = .ok (.imul, 1) := by decide +kernel
theorem dX12_aloneLayer_47 : decode cX12_aloneLayer 47 = .ok (.iload 5, 2) := by decide +kernel
theorem dX12_aloneLayer_49 : decode cX12_aloneLayer 49 = .ok (.iadd, 1) := by decide +kernel
theorem dX12_aloneLayer_50 : decode cX12_aloneLayer 50 = .ok (.aload_n 0, 1) := by decide +kernel
theorem dX12_aloneLayer_51 : decode cX12_aloneLayer 51 = .ok (.getfield 32, 3) := by decide +kernel
theorem dX12_aloneLayer_54 : decode cX12_aloneLayer 54 = .ok (.bipush 10, 2) := by decide +kernel
theorem dX12_aloneLayer_56 : decode cX12_aloneLayer 56 = .ok (.iload_n 3, 1) := by decide +kernel
theorem dX12_aloneLayer_57 : decode cX12_aloneLayer 57 = .ok (.imul, 1) := by decide +kernel
theorem dX12_aloneLayer_58 : decode cX12_aloneLayer 58 = .ok (.iload 5, 2) := by decide +kernel
theorem dX12_aloneLayer_60 : decode cX12_aloneLayer 60 = .ok (.iadd, 1) := by decide +kernel
theorem dX12_aloneLayer_61 : decode cX12_aloneLayer 61 = .ok (.iaload, 1) := by decide +kernel
theorem dX12_aloneLayer_62 : decode cX12_aloneLayer 62 = .ok (.iastore, 1) := by decide +kernel
theorem dX12_aloneLayer_63 : decode cX12_aloneLayer 63 = .ok (.iinc 5 1, 3) := by decide +kernel
theorem dX12_aloneLayer_66 : decode cX12_aloneLayer 66 = .ok (.goto (-35), 3) := by decide +kernel
theorem dX12_aloneLayer_69 : decode cX12_aloneLayer 69 = .ok (.aload_n 0, 1) := by decide +kernel
theorem dX12_aloneLayer_70 : decode cX12_aloneLayer 70 = .ok (.getfield 26, 3) := by decide +kernel
theorem dX12_aloneLayer_73 : decode cX12_aloneLayer 73 = .ok (.bipush 10, 2) := by decide +kernel
theorem dX12_aloneLayer_75 : decode cX12_aloneLayer 75 = .ok (.iload_n 1, 1) := by decide +kernel
theorem dX12_aloneLayer_76 : decode cX12_aloneLayer 76 = .ok (.imul, 1) := by decide +kernel
theorem dX12_aloneLayer_77 : decode cX12_aloneLayer 77 = .ok (.iload_n 2, 1) := by decide +kernel
theorem dX12_aloneLayer_78 : decode cX12_aloneLayer 78 = .ok (.iadd, 1) := by decide +kernel
theorem dX12_aloneLayer_79 : decode cX12_aloneLayer 79 = .ok (.iload 4, 2) := by decide +kernel
theorem dX12_aloneLayer_81 : decode cX12_aloneLayer 81 = .ok (.iastore, 1) := by decide +kernel
theorem dX12_aloneLayer_82 : decode cX12_aloneLayer 82 = .ok (.return_, 1) := by decide +kernel
theorem dX12_aloneRow_0 : decode cX12_aloneRow 0 = .ok (.aload_n 0, 1) := by decide +kernel
theorem dX12_aloneRow_1 : decode cX12_aloneRow 1 = .ok (.getfield 26, 3) := by decide +kernel
theorem dX12_aloneRow_4 : decode cX12_aloneRow 4 = .ok (.bipush 10, 2) := by decide +kernel
theorem dX12_aloneRow_6 : decode cX12_aloneRow 6 = .ok (.iload_n 1, 1) := by decide +kernel
theorem dX12_aloneRow_7 : decode cX12_aloneRow 7 = .ok (.imul, 1) := by decide +kernel
theorem dX12_aloneRow_8 : decode cX12_aloneRow 8 = .ok (.iload_n 2, 1) := by decide +kernel
theorem dX12_aloneRow_9 : decode cX12_aloneRow 9 = .ok (.iadd, 1) := by decide +kernel
theorem dX12_aloneRow_10 : decode cX12_aloneRow 10 = .ok (.iaload, 1) := by decide +kernel
theorem dX12_aloneRow_11 : decode cX12_aloneRow 11 = .ok (.istore 4, 2) := by decide +kernel
theorem dX12_aloneRow_13 : decode cX12_aloneRow 13 = .ok (.aload_n 0, 1) := by decide +kernel
theorem dX12_aloneRow_14 : decode cX12_aloneRow 14 = .ok (.getfield 32, 3) := by decide +kernel
theorem dX12_aloneRow_17 : decode cX12_aloneRow 17 = .ok (.bipush 10, 2) := by decide +kernel
theorem dX12_aloneRow_19 : decode cX12_aloneRow 19 = .ok (.iload 4, 2) := by decide +kernel
theorem dX12_aloneRow_21 : decode cX12_aloneRow 21 = .ok (.imul, 1) := by decide +kernel
theorem dX12_aloneRow_22 : decode cX12_aloneRow 22 = .ok (.iload_n 3, 1) := by decide +kernel
theorem dX12_aloneRow_23 : decode cX12_aloneRow 23 = .ok (.iadd, 1) := by decide +kernel
theorem dX12_aloneRow_24 : decode cX12_aloneRow 24 = .ok (.iaload, 1) := by decide +kernel
theorem dX12_aloneRow_25 : decode cX12_aloneRow 25 = .ok (.istore 5, 2) := by decide +kernel
theorem dX12_aloneRow_27 : decode cX12_aloneRow 27 = .ok (.aload_n 0, 1) := by decide +kernel
theorem dX12_aloneRow_28 : decode cX12_aloneRow 28 = .ok (.iload 5, 2) := by decide +kernel
theorem dX12_aloneRow_30 : decode cX12_aloneRow 30 = .ok (.invokevirtual 138, 3) := by decide +kernel
theorem dX12_aloneRow_33 : decode cX12_aloneRow 33 = .ok (.iconst 2, 1) := by decide +kernel
theorem dX12_aloneRow_34 : decode cX12_aloneRow 34 = .ok (.if_icmp .ge 4, 3) := by decide +kernel
theorem dX12_aloneRow_37 : decode cX12_aloneRow 37 = .ok (.return_, 1) := by decide +kernel
theorem dX12_aloneRow_38 : decode cX12_aloneRow 38 = .ok (.aload_n 0, 1) := by decide +kernel
theorem dX12_aloneRow_39 : decode cX12_aloneRow 39 = .ok (.invokevirtual 141, 3) := by decide +kernel
theorem dX12_aloneRow_42 : decode cX12_aloneRow 42 = .ok (.istore 6, 2) := by decide +kernel
theorem dX12_aloneRow_44 : decode cX12_aloneRow 44 = .ok (.aload_n 0, 1) := by decide +kernel
theorem dX12_aloneRow_45 : decode cX12_aloneRow 45 = .ok (.getfield 35, 3) := by decide +kernel
theorem dX12_aloneRow_48 : decode cX12_aloneRow 48 = .ok (.iload 6, 2) := by decide +kernel
theorem dX12_aloneRow_50 : decode cX12_aloneRow 50 = .ok (.aload_n 0, 1) := by decide +kernel
theorem dX12_aloneRow_51 : decode cX12_aloneRow 51 = .ok (.getfield 35, 3) := by decide +kernel
theorem dX12_aloneRow_54 : decode cX12_aloneRow 54 = .ok (.iload 5, 2) := by decide +kernel
theorem dX12_aloneRow_56 : decode cX12_aloneRow 56 = .ok (.iaload, 1) := by decide +kernel
theorem dX12_aloneRow_57 : decode cX12_aloneRow 57 = .ok (.iastore, 1) := by decide +kernel
theorem dX12_aloneRow_58 : decode cX12_aloneRow 58 = .ok (.iconst 0, 1) := by decide +kernel
theorem dX12_aloneRow_59 : decode cX12_aloneRow 59 = .ok (.istore 7, 2) := by decide +kernel
theorem dX12_aloneRow_61 : decode cX12_aloneRow 61 = .ok (.iload 7, 2) := by decide +kernel
theorem dX12_aloneRow_63 : decode cX12_aloneRow 63 = .ok (.bipush 10, 2) := by decide +kernel
theorem dX12_aloneRow_65 : decode cX12_aloneRow 65 = .ok (.if_icmp .ge 61, 3) := by decide +kernel
theorem dX12_aloneRow_68 : decode cX12_aloneRow 68 = .ok (.aload_n 0, 1) := by decide +kernel
theorem dX12_aloneRow_69 : decode cX12_aloneRow 69 = .ok (.getfield 38, 3) := by decide +kernel
theorem dX12_aloneRow_72 : decode cX12_aloneRow 72 = .ok (.bipush 10, 2) := by decide +kernel
theorem dX12_aloneRow_74 : decode cX12_aloneRow 74 = .ok (.iload 6, 2) := by decide +kernel
theorem dX12_aloneRow_76 : decode cX12_aloneRow 76 = .ok (.imul, 1) := by decide +kernel
theorem dX12_aloneRow_77 : decode cX12_aloneRow 77 = .ok (.iload 7, 2) := by decide +kernel
theorem dX12_aloneRow_79 : decode cX12_aloneRow 79 = .ok (.iadd, 1) := by decide +kernel
theorem dX12_aloneRow_80 : decode cX12_aloneRow 80 = .ok (.aload_n 0, 1) := by decide +kernel
theorem dX12_aloneRow_81 : decode cX12_aloneRow 81 = .ok (.getfield 38, 3) := by decide +kernel
theorem dX12_aloneRow_84 : decode cX12_aloneRow 84 = .ok (.bipush 10, 2) := by decide +kernel
theorem dX12_aloneRow_86 : decode cX12_aloneRow 86 = .ok (.iload 5, 2) := by decide +kernel
theorem dX12_aloneRow_88 : decode cX12_aloneRow 88 = .ok (.imul, 1) := by decide +kernel
theorem dX12_aloneRow_89 : decode cX12_aloneRow 89 = .ok (.iload 7, 2) := by decide +kernel
theorem dX12_aloneRow_91 : decode cX12_aloneRow 91 = .ok (.iadd, 1) := by decide +kernel
theorem dX12_aloneRow_92 : decode cX12_aloneRow 92 = .ok (.iaload, 1) := by decide +kernel
theorem dX12_aloneRow_93 : decode cX12_aloneRow 93 = .ok (.iastore, 1) := by decide +kernel
theorem dX12_aloneRow_94 : decode cX12_aloneRow 94 = .ok (.aload_n 0, 1) := by decide +kernel
theorem dX12_aloneRow_95 : decode cX12_aloneRow 95 = .ok (.getfield 41, 3) := by decide +kernel
theorem dX12_aloneRow_98 : decode cX12_aloneRow 98 = .ok (.bipush 10, 2) := by decide +kernel
theorem dX12_aloneRow_100 : decode cX12_aloneRow 100 = .ok (.iload 6, 2) := by decide +kernel
theorem dX12_aloneRow_102 : decode cX12_aloneRow 102 = .ok (.imul, 1) := by decide +kernel
theorem dX12_aloneRow_103 : decode cX12_aloneRow 103 = .ok (.iload 7, 2) := by decide +kernel
theorem dX12_aloneRow_105 : decode cX12_aloneRow 105 = .ok (.iadd, 1) := by decide +kernel
theorem dX12_aloneRow_106 : decode cX12_aloneRow 106 = .ok (.aload_n 0, 1) := by decide +kernel
theorem dX12_aloneRow_107 : decode cX12_aloneRow 107 = .ok (.getfield 41, 3) := by decide +kernel
theorem dX12_aloneRow_110 : decode cX12_aloneRow 110 = .ok (.bipush 10, 2) := by decide +kernel
theorem dX12_aloneRow_112 : decode cX12_aloneRow 112 = .ok (.iload 5, 2) := by decide +kernel
theorem dX12_aloneRow_114 : decode cX12_aloneRow 114 = .ok (.imul, 1) := by decide +kernel
theorem dX12_aloneRow_115 : decode cX12_aloneRow 115 = .ok (.iload 7, 2) := by decide +kernel
theorem dX12_aloneRow_117 : decode cX12_aloneRow 117 = .ok (.iadd, 1) := by decide +kernel
theorem dX12_aloneRow_118 : decode cX12_aloneRow 118 = .ok (.iaload, 1) := by decide +kernel
theorem dX12_aloneRow_119 : decode cX12_aloneRow 119 = .ok (.iastore, 1) := by decide +kernel
theorem dX12_aloneRow_120 : decode cX12_aloneRow 120 = .ok (.iinc 7 1, 3) := by decide +kernel
theorem dX12_aloneRow_123 : decode cX12_aloneRow 123 = .ok (.goto (-62), 3) := by decide +kernel
theorem dX12_aloneRow_126 : decode cX12_aloneRow 126 = .ok (.aload_n 0, 1) := by decide +kernel
theorem dX12_aloneRow_127 : decode cX12_aloneRow 127 = .ok (.getfield 32, 3) := by decide +kernel
theorem dX12_aloneRow_130 : decode cX12_aloneRow 130 = .ok (.bipush 10, 2) := by decide +kernel
theorem dX12_aloneRow_132 : decode cX12_aloneRow 132 = .ok (.iload 4, 2) := by decide +kernel
theorem dX12_aloneRow_134 : decode cX12_aloneRow 134 = .ok (.imul, 1) := by decide +kernel
theorem dX12_aloneRow_135 : decode cX12_aloneRow 135 = .ok (.iload_n 3, 1) := by decide +kernel
theorem dX12_aloneRow_136 : decode cX12_aloneRow 136 = .ok (.iadd, 1) := by decide +kernel
theorem dX12_aloneRow_137 : decode cX12_aloneRow 137 = .ok (.iload 6, 2) := by decide +kernel
theorem dX12_aloneRow_139 : decode cX12_aloneRow 139 = .ok (.iastore, 1) := by decide +kernel
theorem dX12_aloneRow_140 : decode cX12_aloneRow 140 = .ok (.return_, 1) := by decide +kernel
theorem dX12_isThere_0 : decode cX12_isThere 0 = .ok (.iload_n 2, 1) := by decide +kernel
theorem dX12_isThere_1 : decode cX12_isThere 1 = .ok (.iconst 0, 1) := by decide +kernel
theorem dX12_isThere_2 : decode cX12_isThere 2 = .ok (.bipush 9, 2) := by decide +kernel
theorem dX12_isThere_4 : decode cX12_isThere 4 = .ok (.invokestatic 93, 3) := by decide +kernel
theorem dX12_isThere_7 : decode cX12_isThere 7 = .ok (.ifCond .ne 5, 3) := by decide +kernel
theorem dX12_isThere_10 : decode cX12_isThere 10 = .ok (.iconst 1, 1) := by decide +kernel
theorem dX12_isThere_11 : decode cX12_isThere 11 = .ok (.ireturn, 1) := by decide +kernel
theorem dX12_isThere_12 : decode cX12_isThere 12 = .ok (.aload_n 0, 1) := by decide +kernel
theorem dX12_isThere_13 : decode cX12_isThere 13 = .ok (.getfield 26, 3) := by decide +kernel
theorem dX12_isThere_16 : decode cX12_isThere 16 = .ok (.bipush 10, 2) := by decide +kernel
theorem dX12_isThere_18 : decode cX12_isThere 18 = .ok (.iload_n 1, 1) := by decide +kernel
theorem dX12_isThere_19 : decode cX12_isThere 19 = .ok (.imul, 1) := by decide +kernel
theorem dX12_isThere_20 : decode cX12_isThere 20 = .ok (.iload_n 2, 1) := by decide +kernel
theorem dX12_isThere_21 : decode cX12_isThere 21 = .ok (.iadd, 1) := by decide +kernel
theorem dX12_isThere_22 : decode cX12_isThere 22 = .ok (.iaload, 1) := by decide +kernel
theorem dX12_isThere_23 : decode cX12_isThere 23 = .ok (.istore 5, 2) := by decide +kernel
theorem dX12_isThere_25 : decode cX12_isThere 25 = .ok (.iload 5, 2) := by decide +kernel
theorem dX12_isThere_27 : decode cX12_isThere 27 = .ok (.iconst (-1), 1) := by decide +kernel
theorem dX12_isThere_28 : decode cX12_isThere 28 = .ok (.if_icmp .ne 5, 3) := by decide +kernel
theorem dX12_isThere_31 : decode cX12_isThere 31 = .ok (.iconst 2, 1) := by decide +kernel
theorem dX12_isThere_32 : decode cX12_isThere 32 = .ok (.ireturn, 1) := by decide +kernel
theorem dX12_isThere_33 : decode cX12_isThere 33 = .ok (.iload_n 3, 1) := by decide +kernel
theorem dX12_isThere_34 : decode cX12_isThere 34 = .ok (.iconst 0, 1) := by decide +kernel
theorem dX12_isThere_35 : decode cX12_isThere 35 = .ok (.bipush 9, 2) := by decide +kernel
theorem dX12_isThere_37 : decode cX12_isThere 37 = .ok (.invokestatic 93, 3) := by decide +kernel
theorem dX12_isThere_40 : decode cX12_isThere 40 = .ok (.ifCond .ne 5, 3) := by decide +kernel
theorem dX12_isThere_43 : decode cX12_isThere 43 = .ok (.iconst 3, 1) := by decide +kernel
theorem dX12_isThere_44 : decode cX12_isThere 44 = .ok (.ireturn, 1) := by decide +kernel
theorem dX12_isThere_45 : decode cX12_isThere 45 = .ok (.aload_n 0, 1) := by decide +kernel
theorem dX12_isThere_46 : decode cX12_isThere 46 = .ok (.getfield 32, 3) := by decide +kernel
theorem dX12_isThere_49 : decode cX12_isThere 49 = .ok (.bipush 10, 2) := by decide +kernel
theorem dX12_isThere_51 : decode cX12_isThere 51 = .ok (.iload 5, 2) := by decide +kernel
theorem dX12_isThere_53 : decode cX12_isThere 53 = .ok (.imul, 1) := by decide +kernel
theorem dX12_isThere_54 : decode cX12_isThere 54 = .ok (.iload_n 3, 1) := by decide +kernel
theorem dX12_isThere_55 : decode cX12_isThere 55 = .ok (.iadd, 1) := by decide +kernel
theorem dX12_isThere_56 : decode cX12_isThere 56 = .ok (.iaload, 1) := by decide +kernel
theorem dX12_isThere_57 : decode cX12_isThere 57 = .ok (.istore 6, 2) := by decide +kernel
theorem dX12_isThere_59 : decode cX12_isThere 59 = .ok (.iload 6, 2) := by decide +kernel
theorem dX12_isThere_61 : decode cX12_isThere 61 = .ok (.iconst (-1), 1) := by decide +kernel
theorem dX12_isThere_62 : decode cX12_isThere 62 = .ok (.if_icmp .ne 5, 3) := by decide +kernel
theorem dX12_isThere_65 : decode cX12_isThere 65 = .ok (.iconst 4, 1) := by decide +kernel
theorem dX12_isThere_66 : decode cX12_isThere 66 = .ok (.ireturn, 1) := by decide +kernel
theorem dX12_isThere_67 : decode cX12_isThere 67 = .ok (.iload 4, 2) := by decide +kernel
theorem dX12_isThere_69 : decode cX12_isThere 69 = .ok (.iconst 0, 1) := by decide +kernel
theorem dX12_isThere_70 : decode cX12_isThere 70 = .ok (.aload_n 0, 1) := by decide +kernel
theorem dX12_isThere_71 : decode cX12_isThere 71 = .ok (.getfield 35, 3) := by decide +kernel
theorem dX12_isThere_74 : decode cX12_isThere 74 = .ok (.iload 6, 2) := by decide +kernel
theorem dX12_isThere_76 : decode cX12_isThere 76 = .ok (.iaload, 1) := by decide +kernel
theorem dX12_isThere_77 : decode cX12_isThere 77 = .ok (.iconst 1, 1) := by decide +kernel
theorem dX12_isThere_78 : decode cX12_isThere 78 = .ok (.isub, 1) := by decide +kernel
theorem dX12_isThere_79 : decode cX12_isThere 79 = .ok (.invokestatic 93, 3) := by decide +kernel
theorem dX12_isThere_82 : decode cX12_isThere 82 = .ok (.ifCond .eq 7, 3) := by decide +kernel
theorem dX12_isThere_85 : decode cX12_isThere 85 = .ok (.iconst 0, 1) := by decide +kernel
theorem dX12_isThere_86 : decode cX12_isThere 86 = .ok (.goto 4, 3) := by decide +kernel
theorem dX12_isThere_89 : decode cX12_isThere 89 = .ok (.iconst 5, 1) := by decide +kernel
theorem dX12_isThere_90 : decode cX12_isThere 90 = .ok (.ireturn, 1) := by decide +kernel
theorem dX12_cell_0 : decode cX12_cell 0 = .ok (.bipush 10, 2) := by decide +kernel
theorem dX12_cell_2 : decode cX12_cell 2 = .ok (.aload_n 0, 1) := by decide +kernel
theorem dX12_cell_3 : decode cX12_cell 3 = .ok (.getfield 32, 3) := by decide +kernel
theorem dX12_cell_6 : decode cX12_cell 6 = .ok (.bipush 10, 2) := by decide +kernel
theorem dX12_cell_8 : decode cX12_cell 8 = .ok (.aload_n 0, 1) := by decide +kernel
theorem dX12_cell_9 : decode cX12_cell 9 = .ok (.getfield 26, 3) := by decide +kernel
theorem dX12_cell_12 : decode cX12_cell 12 = .ok (.bipush 10, 2) := by decide +kernel
theorem dX12_cell_14 : decode cX12_cell 14 = .ok (.iload_n 1, 1) := by decide +kernel
theorem dX12_cell_15 : decode cX12_cell 15 = .ok (.imul, 1) := by decide +kernel
theorem dX12_cell_16 : decode cX12_cell 16 = .ok (.iload_n 2, 1) := by decide +kernel
theorem dX12_cell_17 : decode cX12_cell 17 = .ok (.iadd, 1) := by decide +kernel
theorem dX12_cell_18 : decode cX12_cell 18 = .ok (.iaload, 1) := by decide +kernel
theorem dX12_cell_19 : decode cX12_cell 19 = .ok (.imul, 1) := by decide +kernel
theorem dX12_cell_20 : decode cX12_cell 20 = .ok (.iload_n 3, 1) := by decide +kernel
theorem dX12_cell_21 : decode cX12_cell 21 = .ok (.iadd, 1) := by decide +kernel
theorem dX12_cell_22 : decode cX12_cell 22 = .ok (.iaload, 1) := by decide +kernel
theorem dX12_cell_23 : decode cX12_cell 23 = .ok (.imul, 1) := by decide +kernel
theorem dX12_cell_24 : decode cX12_cell 24 = .ok (.iload 4, 2) := by decide +kernel
theorem dX12_cell_26 : decode cX12_cell 26 = .ok (.iadd, 1) := by decide +kernel
theorem dX12_cell_27 : decode cX12_cell 27 = .ok (.ireturn, 1) := by decide +kernel
theorem dX12_change_0 : decode cX12_change 0 = .ok (.iload 5, 2) := by decide +kernel
theorem dX12_change_2 : decode cX12_change 2 = .ok (.ifCond .ne 7, 3) := by decide +kernel
theorem dX12_change_5 : decode cX12_change 5 = .ok (.iconst 0, 1) := by decide +kernel
theorem dX12_change_6 : decode cX12_change 6 = .ok (.goto 5, 3) := by decide +kernel
theorem dX12_change_9 : decode cX12_change 9 = .ok (.iload 6, 2) := by decide +kernel
theorem dX12_change_11 : decode cX12_change 11 = .ok (.istore 7, 2) := by decide +kernel
theorem dX12_change_13 : decode cX12_change 13 = .ok (.aload_n 0, 1) := by decide +kernel
theorem dX12_change_14 : decode cX12_change 14 = .ok (.iload_n 1, 1) := by decide +kernel
theorem dX12_change_15 : decode cX12_change 15 = .ok (.iload_n 2, 1) := by decide +kernel
theorem dX12_change_16 : decode cX12_change 16 = .ok (.iload_n 3, 1) := by decide +kernel
theorem dX12_change_17 : decode cX12_change 17 = .ok (.iload 4, 2) := by decide +kernel
theorem dX12_change_19 : decode cX12_change 19 = .ok (.invokevirtual 144, 3) := by decide +kernel
theorem dX12_change_22 : decode cX12_change 22 = .ok (.istore 8, 2) := by decide +kernel
theorem dX12_change_24 : decode cX12_change 24 = .ok (.aload_n 0, 1) := by decide +kernel
theorem dX12_change_25 : decode cX12_change 25 = .ok (.getfield 38, 3) := by decide +kernel
theorem dX12_change_28 : decode cX12_change 28 = .ok (.iload 8, 2) := by decide +kernel
theorem dX12_change_30 : decode cX12_change 30 = .ok (.iaload, 1) := by decide +kernel
theorem dX12_change_31 : decode cX12_change 31 = .ok (.iload 5, 2) := by decide +kernel
theorem dX12_change_33 : decode cX12_change 33 = .ok (.if_icmp .ne 17, 3) := by decide +kernel
theorem dX12_change_36 : decode cX12_change 36 = .ok (.aload_n 0, 1) := by decide +kernel
theorem dX12_change_37 : decode cX12_change 37 = .ok (.getfield 41, 3) := by decide +kernel
theorem dX12_change_40 : decode cX12_change 40 = .ok (.iload 8, 2) := by decide +kernel
theorem dX12_change_42 : decode cX12_change 42 = .ok (.iaload, 1) := by decide +kernel
theorem dX12_change_43 : decode cX12_change 43 = .ok (.iload 7, 2) := by decide +kernel
theorem dX12_change_45 : decode cX12_change 45 = .ok (.if_icmp .ne 5, 3) := by decide +kernel
theorem dX12_change_48 : decode cX12_change 48 = .ok (.iconst 0, 1) := by decide +kernel
theorem dX12_change_49 : decode cX12_change 49 = .ok (.ireturn, 1) := by decide +kernel
theorem dX12_change_50 : decode cX12_change 50 = .ok (.aload_n 0, 1) := by decide +kernel
theorem dX12_change_51 : decode cX12_change 51 = .ok (.iload_n 1, 1) := by decide +kernel
theorem dX12_change_52 : decode cX12_change 52 = .ok (.iload_n 2, 1) := by decide +kernel
theorem dX12_change_53 : decode cX12_change 53 = .ok (.invokevirtual 148, 3) := by decide +kernel
theorem dX12_change_56 : decode cX12_change 56 = .ok (.aload_n 0, 1) := by decide +kernel
theorem dX12_change_57 : decode cX12_change 57 = .ok (.iload_n 1, 1) := by decide +kernel
theorem dX12_change_58 : decode cX12_change 58 = .ok (.iload_n 2, 1) := by decide +kernel
theorem dX12_change_59 : decode cX12_change 59 = .ok (.iload_n 3, 1) := by decide +kernel
theorem dX12_change_60 : decode cX12_change 60 = .ok (.invokevirtual 152, 3) := by decide +kernel
theorem dX12_change_63 : decode cX12_change 63 = .ok (.aload_n 0, 1) := by decide +kernel
theorem dX12_change_64 : decode cX12_change 64 = .ok (.iload_n 1, 1) := by decide +kernel
theorem dX12_change_65 : decode cX12_change 65 = .ok (.iload_n 2, 1) := by decide +kernel
theorem dX12_change_66 : decode cX12_change 66 = .ok (.iload_n 3, 1) := by decide +kernel
theorem dX12_change_67 : decode cX12_change 67 = .ok (.iload 4, 2) := by decide +kernel
theorem dX12_change_69 : decode cX12_change 69 = .ok (.invokevirtual 144, 3) := by decide +kernel
theorem dX12_change_72 : decode cX12_change 72 = .ok (.istore 8, 2) := by decide +kernel
theorem dX12_change_74 : decode cX12_change 74 = .ok (.aload_n 0, 1) := by decide +kernel
theorem dX12_change_75 : decode cX12_change 75 = .ok (.getfield 38, 3) := by decide +kernel
theorem dX12_change_78 : decode cX12_change 78 = .ok (.iload 8, 2) := by decide +kernel
theorem dX12_change_80 : decode cX12_change 80 = .ok (.iload 5, 2) := by decide +kernel
theorem dX12_change_82 : decode cX12_change 82 = .ok (.iastore, 1) := by decide +kernel
theorem dX12_change_83 : decode cX12_change 83 = .ok (.aload_n 0, 1) := by decide +kernel
theorem dX12_change_84 : decode cX12_change 84 = .ok (.getfield 41, 3) := by decide +kernel
theorem dX12_change_87 : decode cX12_change 87 = .ok (.iload 8, 2) := by decide +kernel
theorem dX12_change_89 : decode cX12_change 89 = .ok (.iload 7, 2) := by decide +kernel
theorem dX12_change_91 : decode cX12_change 91 = .ok (.iastore, 1) := by decide +kernel
theorem dX12_change_92 : decode cX12_change 92 = .ok (.iconst 1, 1) := by decide +kernel
theorem dX12_change_93 : decode cX12_change 93 = .ok (.ireturn, 1) := by decide +kernel
theorem dX12_layer_0 : decode cX12_layer 0 = .ok (.aload_n 0, 1) := by decide +kernel
theorem dX12_layer_1 : decode cX12_layer 1 = .ok (.iconst 0, 1) := by decide +kernel
theorem dX12_layer_2 : decode cX12_layer 2 = .ok (.putfield 89, 3) := by decide +kernel
theorem dX12_layer_5 : decode cX12_layer 5 = .ok (.iload_n 1, 1) := by decide +kernel
theorem dX12_layer_6 : decode cX12_layer 6 = .ok (.invokestatic 156, 3) := by decide +kernel
theorem dX12_layer_9 : decode cX12_layer 9 = .ok (.ifCond .eq 13, 3) := by decide +kernel
theorem dX12_layer_12 : decode cX12_layer 12 = .ok (.iload_n 2, 1) := by decide +kernel
theorem dX12_layer_13 : decode cX12_layer 13 = .ok (.iconst 0, 1) := by decide +kernel
theorem dX12_layer_14 : decode cX12_layer 14 = .ok (.bipush 9, 2) := by decide +kernel
theorem dX12_layer_16 : decode cX12_layer 16 = .ok (.invokestatic 93, 3) := by decide +kernel
theorem dX12_layer_19 : decode cX12_layer 19 = .ok (.ifCond .ne 5, 3) := by decide +kernel
theorem dX12_layer_22 : decode cX12_layer 22 = .ok (.iconst 0, 1) := by decide +kernel
theorem dX12_layer_23 : decode cX12_layer 23 = .ok (.ireturn, 1) := by decide +kernel
theorem dX12_layer_24 : decode cX12_layer 24 = .ok (.aload_n 0, 1) := by decide +kernel
theorem dX12_layer_25 : decode cX12_layer 25 = .ok (.invokevirtual 135, 3) := by decide +kernel
theorem dX12_layer_28 : decode cX12_layer 28 = .ok (.istore_n 3, 1) := by decide +kernel
theorem dX12_layer_29 : decode cX12_layer 29 = .ok (.aload_n 0, 1) := by decide +kernel
theorem dX12_layer_30 : decode cX12_layer 30 = .ok (.getfield 26, 3) := by decide +kernel
theorem dX12_layer_33 : decode cX12_layer 33 = .ok (.bipush 10, 2) := by decide +kernel
theorem dX12_layer_35 : decode cX12_layer 35 = .ok (.iload_n 1, 1) := by decide +kernel
theorem dX12_layer_36 : decode cX12_layer 36 = .ok (.imul, 1) := by decide +kernel
theorem dX12_layer_37 : decode cX12_layer 37 = .ok (.iload_n 2, 1) := by decide +kernel
theorem dX12_layer_38 : decode cX12_layer 38 = .ok (.iadd, 1) := by decide +kernel
theorem dX12_layer_39 : decode cX12_layer 39 = .ok (.iload_n 3, 1) := by decide +kernel
theorem dX12_layer_40 : decode cX12_layer 40 = .ok (.iastore, 1) := by decide +kernel
theorem dX12_layer_41 : decode cX12_layer 41 = .ok (.iconst 1, 1) := by decide +kernel
theorem dX12_layer_42 : decode cX12_layer 42 = .ok (.ireturn, 1) := by decide +kernel
theorem dX12_row_0 : decode cX12_row 0 = .ok (.aload_n 0, 1) := by decide +kernel
theorem dX12_row_1 : decode cX12_row 1 = .ok (.iconst 0, 1) := by decide +kernel
theorem dX12_row_2 : decode cX12_row 2 = .ok (.putfield 89, 3) := by decide +kernel
theorem dX12_row_5 : decode cX12_row 5 = .ok (.iload_n 1, 1) := by decide +kernel
theorem dX12_row_6 : decode cX12_row 6 = .ok (.invokestatic 156, 3) := by decide +kernel
theorem dX12_row_9 : decode cX12_row 9 = .ok (.ifCond .ne 5, 3) := by decide +kernel
theorem dX12_row_12 : decode cX12_row 12 = .ok (.iconst (-1), 1) := by decide +kernel
theorem dX12_row_13 : decode cX12_row 13 = .ok (.ireturn, 1) := by decide +kernel
theorem dX12_row_14 : decode cX12_row 14 = .ok (.iload_n 2, 1) := by decide +kernel
theorem dX12_row_15 : decode cX12_row 15 = .ok (.iconst 0, 1) := by decide +kernel
theorem dX12_row_16 : decode cX12_row 16 = .ok (.bipush 9, 2) := by decide +kernel
theorem dX12_row_18 : decode cX12_row 18 = .ok (.invokestatic 93, 3) := by decide +kernel
theorem dX12_row_21 : decode cX12_row 21 = .ok (.ifCond .ne 5, 3) := by decide +kernel
theorem dX12_row_24 : decode cX12_row 24 = .ok (.iconst 1, 1) := by decide +kernel
theorem dX12_row_25 : decode cX12_row 25 = .ok (.ireturn, 1) := by decide +kernel
theorem dX12_row_26 : decode cX12_row 26 = .ok (.aload_n 0, 1) := by decide +kernel
theorem dX12_row_27 : decode cX12_row 27 = .ok (.getfield 26, 3) := by decide +kernel
theorem dX12_row_30 : decode cX12_row 30 = .ok (.bipush 10, 2) := by decide +kernel
theorem dX12_row_32 : decode cX12_row 32 = .ok (.iload_n 1, 1) := by decide +kernel
theorem dX12_row_33 : decode cX12_row 33 = .ok (.imul, 1) := by decide +kernel
theorem dX12_row_34 : decode cX12_row 34 = .ok (.iload_n 2, 1) := by decide +kernel
theorem dX12_row_35 : decode cX12_row 35 = .ok (.iadd, 1) := by decide +kernel
theorem dX12_row_36 : decode cX12_row 36 = .ok (.iaload, 1) := by decide +kernel
theorem dX12_row_37 : decode cX12_row 37 = .ok (.iconst (-1), 1) := by decide +kernel
theorem dX12_row_38 : decode cX12_row 38 = .ok (.if_icmp .ne 5, 3) := by decide +kernel
theorem dX12_row_41 : decode cX12_row 41 = .ok (.iconst 2, 1) := by decide +kernel
theorem dX12_row_42 : decode cX12_row 42 = .ok (.ireturn, 1) := by decide +kernel
theorem dX12_row_43 : decode cX12_row 43 = .ok (.iload_n 3, 1) := by decide +kernel
theorem dX12_row_44 : decode cX12_row 44 = .ok (.iconst 0, 1) := by decide +kernel
theorem dX12_row_45 : decode cX12_row 45 = .ok (.bipush 9, 2) := by decide +kernel
theorem dX12_row_47 : decode cX12_row 47 = .ok (.invokestatic 93, 3) := by decide +kernel
theorem dX12_row_50 : decode cX12_row 50 = .ok (.ifCond .ne 5, 3) := by decide +kernel
theorem dX12_row_53 : decode cX12_row 53 = .ok (.iconst 3, 1) := by decide +kernel
theorem dX12_row_54 : decode cX12_row 54 = .ok (.ireturn, 1) := by decide +kernel
theorem dX12_row_55 : decode cX12_row 55 = .ok (.iload 4, 2) := by decide +kernel
theorem dX12_row_57 : decode cX12_row 57 = .ok (.ifCond .ge 5, 3) := by decide +kernel
theorem dX12_row_60 : decode cX12_row 60 = .ok (.iconst 4, 1) := by decide +kernel
theorem dX12_row_61 : decode cX12_row 61 = .ok (.ireturn, 1) := by decide +kernel
theorem dX12_row_62 : decode cX12_row 62 = .ok (.iload 4, 2) := by decide +kernel
theorem dX12_row_64 : decode cX12_row 64 = .ok (.bipush 10, 2) := by decide +kernel
theorem dX12_row_66 : decode cX12_row 66 = .ok (.if_icmp .le 5, 3) := by decide +kernel
theorem dX12_row_69 : decode cX12_row 69 = .ok (.iconst 5, 1) := by decide +kernel
theorem dX12_row_70 : decode cX12_row 70 = .ok (.ireturn, 1) := by decide +kernel
theorem dX12_row_71 : decode cX12_row 71 = .ok (.aload_n 0, 1) := by decide +kernel
theorem dX12_row_72 : decode cX12_row 72 = .ok (.iload_n 1, 1) := by decide +kernel
theorem dX12_row_73 : decode cX12_row 73 = .ok (.iload_n 2, 1) := by decide +kernel
theorem dX12_row_74 : decode cX12_row 74 = .ok (.invokevirtual 148, 3) := by decide +kernel
theorem dX12_row_77 : decode cX12_row 77 = .ok (.aload_n 0, 1) := by decide +kernel
theorem dX12_row_78 : decode cX12_row 78 = .ok (.invokevirtual 141, 3) := by decide +kernel
theorem dX12_row_81 : decode cX12_row 81 = .ok (.istore 5, 2) := by decide +kernel
theorem dX12_row_83 : decode cX12_row 83 = .ok (.aload_n 0, 1) := by decide +kernel
theorem dX12_row_84 : decode cX12_row 84 = .ok (.getfield 35, 3) := by decide +kernel
theorem dX12_row_87 : decode cX12_row 87 = .ok (.iload 5, 2) := by decide +kernel
theorem dX12_row_89 : decode cX12_row 89 = .ok (.iload 4, 2) := by decide +kernel
theorem dX12_row_91 : decode cX12_row 91 = .ok (.iastore, 1) := by decide +kernel
theorem dX12_row_92 : decode cX12_row 92 = .ok (.iconst 0, 1) := by decide +kernel
theorem dX12_row_93 : decode cX12_row 93 = .ok (.istore 6, 2) := by decide +kernel
theorem dX12_row_95 : decode cX12_row 95 = .ok (.iload 6, 2) := by decide +kernel
theorem dX12_row_97 : decode cX12_row 97 = .ok (.bipush 10, 2) := by decide +kernel
theorem dX12_row_99 : decode cX12_row 99 = .ok (.if_icmp .ge 37, 3) := by decide +kernel
theorem dX12_row_102 : decode cX12_row 102 = .ok (.aload_n 0, 1) := by decide +kernel
theorem dX12_row_103 : decode cX12_row 103 = .ok (.getfield 38, 3) := by decide +kernel
theorem dX12_row_106 : decode cX12_row 106 = .ok (.bipush 10, 2) := by decide +kernel
theorem dX12_row_108 : decode cX12_row 108 = .ok (.iload 5, 2) := by decide +kernel
theorem dX12_row_110 : decode cX12_row 110 = .ok (.imul, 1) := by decide +kernel
theorem dX12_row_111 : decode cX12_row 111 = .ok (.iload 6, 2) := by decide +kernel
theorem dX12_row_113 : decode cX12_row 113 = .ok (.iadd, 1) := by decide +kernel
theorem dX12_row_114 : decode cX12_row 114 = .ok (.iconst 0, 1) := by decide +kernel
theorem dX12_row_115 : decode cX12_row 115 = .ok (.iastore, 1) := by decide +kernel
theorem dX12_row_116 : decode cX12_row 116 = .ok (.aload_n 0, 1) := by decide +kernel
theorem dX12_row_117 : decode cX12_row 117 = .ok (.getfield 41, 3) := by decide +kernel
theorem dX12_row_120 : decode cX12_row 120 = .ok (.bipush 10, 2) := by decide +kernel
theorem dX12_row_122 : decode cX12_row 122 = .ok (.iload 5, 2) := by decide +kernel
theorem dX12_row_124 : decode cX12_row 124 = .ok (.imul, 1) := by decide +kernel
theorem dX12_row_125 : decode cX12_row 125 = .ok (.iload 6, 2) := by decide +kernel
theorem dX12_row_127 : decode cX12_row 127 = .ok (.iadd, 1) := by decide +kernel
theorem dX12_row_128 : decode cX12_row 128 = .ok (.iconst 0, 1) := by decide +kernel
theorem dX12_row_129 : decode cX12_row 129 = .ok (.iastore, 1) := by decide +kernel
theorem dX12_row_130 : decode cX12_row 130 = .ok (.iinc 6 1, 3) := by decide +kernel
theorem dX12_row_133 : decode cX12_row 133 = .ok (.goto (-38), 3) := by decide +kernel
theorem dX12_row_136 : decode cX12_row 136 = .ok (.aload_n 0, 1) := by decide +kernel
theorem dX12_row_137 : decode cX12_row 137 = .ok (.getfield 32, 3) := by decide +kernel
theorem dX12_row_140 : decode cX12_row 140 = .ok (.bipush 10, 2) := by decide +kernel
theorem dX12_row_142 : decode cX12_row 142 = .ok (.aload_n 0, 1) := by decide +kernel
theorem dX12_row_143 : decode cX12_row 143 = .ok (.getfield 26, 3) := by decide +kernel
theorem dX12_row_146 : decode cX12_row 146 = .ok (.bipush 10, 2) := by decide +kernel
theorem dX12_row_148 : decode cX12_row 148 = .ok (.iload_n 1, 1) := by decide +kernel
theorem dX12_row_149 : decode cX12_row 149 = .ok (.imul, 1) := by decide +kernel
theorem dX12_row_150 : decode cX12_row 150 = .ok (.iload_n 2, 1) := by decide +kernel
theorem dX12_row_151 : decode cX12_row 151 = .ok (.iadd, 1) := by decide +kernel
theorem dX12_row_152 : decode cX12_row 152 = .ok (.iaload, 1) := by decide +kernel
theorem dX12_row_153 : decode cX12_row 153 = .ok (.imul, 1) := by decide +kernel
theorem dX12_row_154 : decode cX12_row 154 = .ok (.iload_n 3, 1) := by decide +kernel
theorem dX12_row_155 : decode cX12_row 155 = .ok (.iadd, 1) := by decide +kernel
theorem dX12_row_156 : decode cX12_row 156 = .ok (.iload 5, 2) := by decide +kernel
theorem dX12_row_158 : decode cX12_row 158 = .ok (.iastore, 1) := by decide +kernel
theorem dX12_row_159 : decode cX12_row 159 = .ok (.iconst 0, 1) := by decide +kernel
theorem dX12_row_160 : decode cX12_row 160 = .ok (.ireturn, 1) := by decide +kernel
theorem dX12_less_0 : decode cX12_less 0 = .ok (.aload_n 0, 1) := by decide +kernel
theorem dX12_less_1 : decode cX12_less 1 = .ok (.iconst 0, 1) := by decide +kernel
theorem dX12_less_2 : decode cX12_less 2 = .ok (.putfield 89, 3) := by decide +kernel
theorem dX12_less_5 : decode cX12_less 5 = .ok (.iload_n 1, 1) := by decide +kernel
theorem dX12_less_6 : decode cX12_less 6 = .ok (.invokestatic 156, 3) := by decide +kernel
theorem dX12_less_9 : decode cX12_less 9 = .ok (.ifCond .eq 28, 3) := by decide +kernel
theorem dX12_less_12 : decode cX12_less 12 = .ok (.iload_n 2, 1) := by decide +kernel
theorem dX12_less_13 : decode cX12_less 13 = .ok (.iconst 0, 1) := by decide +kernel
theorem dX12_less_14 : decode cX12_less 14 = .ok (.bipush 9, 2) := by decide +kernel
theorem dX12_less_16 : decode cX12_less 16 = .ok (.invokestatic 93, 3) := by decide +kernel
theorem dX12_less_19 : decode cX12_less 19 = .ok (.ifCond .eq 18, 3) := by decide +kernel
theorem dX12_less_22 : decode cX12_less 22 = .ok (.aload_n 0, 1) := by decide +kernel
theorem dX12_less_23 : decode cX12_less 23 = .ok (.getfield 26, 3) := by decide +kernel
theorem dX12_less_26 : decode cX12_less 26 = .ok (.bipush 10, 2) := by decide +kernel
theorem dX12_less_28 : decode cX12_less 28 = .ok (.iload_n 1, 1) := by decide +kernel
theorem dX12_less_29 : decode cX12_less 29 = .ok (.imul, 1) := by decide +kernel
theorem dX12_less_30 : decode cX12_less 30 = .ok (.iload_n 2, 1) := by decide +kernel
theorem dX12_less_31 : decode cX12_less 31 = .ok (.iadd, 1) := by decide +kernel
theorem dX12_less_32 : decode cX12_less 32 = .ok (.iaload, 1) := by decide +kernel
theorem dX12_less_33 : decode cX12_less 33 = .ok (.iconst (-1), 1) := by decide +kernel
theorem dX12_less_34 : decode cX12_less 34 = .ok (.if_icmp .ne 5, 3) := by decide +kernel
theorem dX12_less_37 : decode cX12_less 37 = .ok (.iconst 0, 1) := by decide +kernel
theorem dX12_less_38 : decode cX12_less 38 = .ok (.ireturn, 1) := by decide +kernel
theorem dX12_less_39 : decode cX12_less 39 = .ok (.aload_n 0, 1) := by decide +kernel
theorem dX12_less_40 : decode cX12_less 40 = .ok (.getfield 26, 3) := by decide +kernel
theorem dX12_less_43 : decode cX12_less 43 = .ok (.bipush 10, 2) := by decide +kernel
theorem dX12_less_45 : decode cX12_less 45 = .ok (.iload_n 1, 1) := by decide +kernel
theorem dX12_less_46 : decode cX12_less 46 = .ok (.imul, 1) := by decide +kernel
theorem dX12_less_47 : decode cX12_less 47 = .ok (.iload_n 2, 1) := by decide +kernel
theorem dX12_less_48 : decode cX12_less 48 = .ok (.iadd, 1) := by decide +kernel
theorem dX12_less_49 : decode cX12_less 49 = .ok (.iconst (-1), 1) := by decide +kernel
theorem dX12_less_50 : decode cX12_less 50 = .ok (.iastore, 1) := by decide +kernel
theorem dX12_less_51 : decode cX12_less 51 = .ok (.iconst 1, 1) := by decide +kernel
theorem dX12_less_52 : decode cX12_less 52 = .ok (.ireturn, 1) := by decide +kernel
theorem dX12_isKindOrOpen_0 : decode cX12_isKindOrOpen 0 = .ok (.iload_n 1, 1) := by decide +kernel
theorem dX12_isKindOrOpen_1 : decode cX12_isKindOrOpen 1 = .ok (.iconst 0, 1) := by decide +kernel
theorem dX12_isKindOrOpen_2 : decode cX12_isKindOrOpen 2 = .ok (.aload_n 0, 1) := by decide +kernel
theorem dX12_isKindOrOpen_3 : decode cX12_isKindOrOpen 3 = .ok (.getfield 103, 3) := by decide +kernel
theorem dX12_isKindOrOpen_6 : decode cX12_isKindOrOpen 6 = .ok (.invokestatic 93, 3) := by decide +kernel
theorem dX12_isKindOrOpen_9 : decode cX12_isKindOrOpen 9 = .ok (.ireturn, 1) := by decide +kernel
theorem dX12_put_0 : decode cX12_put 0 = .ok (.aload_n 0, 1) := by decide +kernel
theorem dX12_put_1 : decode cX12_put 1 = .ok (.iconst 0, 1) := by decide +kernel
theorem dX12_put_2 : decode cX12_put 2 = .ok (.putfield 89, 3) := by decide +kernel
theorem dX12_put_5 : decode cX12_put 5 = .ok (.iload_n 1, 1) := by decide +kernel
theorem dX12_put_6 : decode cX12_put 6 = .ok (.invokestatic 156, 3) := by decide +kernel
theorem dX12_put_9 : decode cX12_put 9 = .ok (.ifCond .ne 5, 3) := by decide +kernel
theorem dX12_put_12 : decode cX12_put 12 = .ok (.iconst (-1), 1) := by decide +kernel
theorem dX12_put_13 : decode cX12_put 13 = .ok (.ireturn, 1) := by decide +kernel
theorem dX12_put_14 : decode cX12_put 14 = .ok (.aload_n 0, 1) := by decide +kernel
theorem dX12_put_15 : decode cX12_put 15 = .ok (.iload_n 1, 1) := by decide +kernel
theorem dX12_put_16 : decode cX12_put 16 = .ok (.iload_n 2, 1) := by decide +kernel
theorem dX12_put_17 : decode cX12_put 17 = .ok (.iload_n 3, 1) := by decide +kernel
theorem dX12_put_18 : decode cX12_put 18 = .ok (.iload 4, 2) := by decide +kernel
theorem dX12_put_20 : decode cX12_put 20 = .ok (.invokevirtual 159, 3) := by decide +kernel
theorem dX12_put_23 : decode cX12_put 23 = .ok (.istore 6, 2) := by decide +kernel
theorem dX12_put_25 : decode cX12_put 25 = .ok (.iload 6, 2) := by decide +kernel
theorem dX12_put_27 : decode cX12_put 27 = .ok (.ifCond .le 6, 3) := by decide +kernel
theorem dX12_put_30 : decode cX12_put 30 = .ok (.iload 6, 2) := by decide +kernel
theorem dX12_put_32 : decode cX12_put 32 = .ok (.ireturn, 1) := by decide +kernel
theorem dX12_put_33 : decode cX12_put 33 = .ok (.aload_n 0, 1) := by decide +kernel
theorem dX12_put_34 : decode cX12_put 34 = .ok (.iload 5, 2) := by decide +kernel
theorem dX12_put_36 : decode cX12_put 36 = .ok (.invokevirtual 162, 3) := by decide +kernel
theorem dX12_put_39 : decode cX12_put 39 = .ok (.ifCond .ne 6, 3) := by decide +kernel
theorem dX12_put_42 : decode cX12_put 42 = .ok (.bipush 6, 2) := by decide +kernel
theorem dX12_put_44 : decode cX12_put 44 = .ok (.ireturn, 1) := by decide +kernel
theorem dX12_put_45 : decode cX12_put 45 = .ok (.aload_n 0, 1) := by decide +kernel
theorem dX12_put_46 : decode cX12_put 46 = .ok (.iload_n 1, 1) := by decide +kernel
theorem dX12_put_47 : decode cX12_put 47 = .ok (.iload_n 2, 1) := by decide +kernel
theorem dX12_put_48 : decode cX12_put 48 = .ok (.iload_n 3, 1) := by decide +kernel
theorem dX12_put_49 : decode cX12_put 49 = .ok (.iload 4, 2) := by decide +kernel
theorem dX12_put_51 : decode cX12_put 51 = .ok (.iload 5, 2) := by decide +kernel
theorem dX12_put_53 : decode cX12_put 53 = .ok (.aload_n 0, 1) := by decide +kernel
theorem dX12_put_54 : decode cX12_put 54 = .ok (.getfield 41, 3) := by decide +kernel
theorem dX12_put_57 : decode cX12_put 57 = .ok (.aload_n 0, 1) := by decide +kernel
theorem dX12_put_58 : decode cX12_put 58 = .ok (.iload_n 1, 1) := by decide +kernel
theorem dX12_put_59 : decode cX12_put 59 = .ok (.iload_n 2, 1) := by decide +kernel
theorem dX12_put_60 : decode cX12_put 60 = .ok (.iload_n 3, 1) := by decide +kernel
theorem dX12_put_61 : decode cX12_put 61 = .ok (.iload 4, 2) := by decide +kernel
theorem dX12_put_63 : decode cX12_put 63 = .ok (.invokevirtual 144, 3) := by decide +kernel
theorem dX12_put_66 : decode cX12_put 66 = .ok (.iaload, 1) := by decide +kernel
theorem dX12_put_67 : decode cX12_put 67 = .ok (.invokevirtual 165, 3) := by decide +kernel
theorem dX12_put_70 : decode cX12_put 70 = .ok (.istore 7, 2) := by decide +kernel
theorem dX12_put_72 : decode cX12_put 72 = .ok (.iconst 0, 1) := by decide +kernel
theorem dX12_put_73 : decode cX12_put 73 = .ok (.ireturn, 1) := by decide +kernel
theorem dX12_face_0 : decode cX12_face 0 = .ok (.aload_n 0, 1) := by decide +kernel
theorem dX12_face_1 : decode cX12_face 1 = .ok (.iconst 0, 1) := by decide +kernel
theorem dX12_face_2 : decode cX12_face 2 = .ok (.putfield 89, 3) := by decide +kernel
theorem dX12_face_5 : decode cX12_face 5 = .ok (.iload_n 1, 1) := by decide +kernel
theorem dX12_face_6 : decode cX12_face 6 = .ok (.invokestatic 156, 3) := by decide +kernel
theorem dX12_face_9 : decode cX12_face 9 = .ok (.ifCond .ne 5, 3) := by decide +kernel
theorem dX12_face_12 : decode cX12_face 12 = .ok (.iconst (-1), 1) := by decide +kernel
theorem dX12_face_13 : decode cX12_face 13 = .ok (.ireturn, 1) := by decide +kernel
theorem dX12_face_14 : decode cX12_face 14 = .ok (.aload_n 0, 1) := by decide +kernel
theorem dX12_face_15 : decode cX12_face 15 = .ok (.iload_n 1, 1) := by decide +kernel
theorem dX12_face_16 : decode cX12_face 16 = .ok (.iload_n 2, 1) := by decide +kernel
theorem dX12_face_17 : decode cX12_face 17 = .ok (.iload_n 3, 1) := by decide +kernel
theorem dX12_face_18 : decode cX12_face 18 = .ok (.iload 4, 2) := by decide +kernel
theorem dX12_face_20 : decode cX12_face 20 = .ok (.invokevirtual 159, 3) := by decide +kernel
theorem dX12_face_23 : decode cX12_face 23 = .ok (.istore 6, 2) := by decide +kernel
theorem dX12_face_25 : decode cX12_face 25 = .ok (.iload 6, 2) := by decide +kernel
theorem dX12_face_27 : decode cX12_face 27 = .ok (.ifCond .le 6, 3) := by decide +kernel
theorem dX12_face_30 : decode cX12_face 30 = .ok (.iload 6, 2) := by decide +kernel
theorem dX12_face_32 : decode cX12_face 32 = .ok (.ireturn, 1) := by decide +kernel
theorem dX12_face_33 : decode cX12_face 33 = .ok (.aload_n 0, 1) := by decide +kernel
theorem dX12_face_34 : decode cX12_face 34 = .ok (.getfield 38, 3) := by decide +kernel
theorem dX12_face_37 : decode cX12_face 37 = .ok (.aload_n 0, 1) := by decide +kernel
theorem dX12_face_38 : decode cX12_face 38 = .ok (.iload_n 1, 1) := by decide +kernel
theorem dX12_face_39 : decode cX12_face 39 = .ok (.iload_n 2, 1) := by decide +kernel
theorem dX12_face_40 : decode cX12_face 40 = .ok (.iload_n 3, 1) := by decide +kernel
theorem dX12_face_41 : decode cX12_face 41 = .ok (.iload 4, 2) := by decide +kernel
theorem dX12_face_43 : decode cX12_face 43 = .ok (.invokevirtual 144, 3) := by decide +kernel
theorem dX12_face_46 : decode cX12_face 46 = .ok (.iaload, 1) := by decide +kernel
theorem dX12_face_47 : decode cX12_face 47 = .ok (.istore 7, 2) := by decide +kernel
theorem dX12_face_49 : decode cX12_face 49 = .ok (.iload 7, 2) := by decide +kernel
theorem dX12_face_51 : decode cX12_face 51 = .ok (.ifCond .ne 6, 3) := by decide +kernel
theorem dX12_face_54 : decode cX12_face 54 = .ok (.bipush 6, 2) := by decide +kernel
theorem dX12_face_56 : decode cX12_face 56 = .ok (.ireturn, 1) := by decide +kernel
theorem dX12_face_57 : decode cX12_face 57 = .ok (.iload 5, 2) := by decide +kernel
theorem dX12_face_59 : decode cX12_face 59 = .ok (.invokestatic 114, 3) := by decide +kernel
theorem dX12_face_62 : decode cX12_face 62 = .ok (.ifCond .ne 6, 3) := by decide +kernel
theorem dX12_face_65 : decode cX12_face 65 = .ok (.bipush 7, 2) := by decide +kernel
theorem dX12_face_67 : decode cX12_face 67 = .ok (.ireturn, 1) := by decide +kernel
theorem dX12_face_68 : decode cX12_face 68 = .ok (.aload_n 0, 1) := by decide +kernel
theorem dX12_face_69 : decode cX12_face 69 = .ok (.iload_n 1, 1) := by decide +kernel
theorem dX12_face_70 : decode cX12_face 70 = .ok (.iload_n 2, 1) := by decide +kernel
theorem dX12_face_71 : decode cX12_face 71 = .ok (.iload_n 3, 1) := by decide +kernel
theorem dX12_face_72 : decode cX12_face 72 = .ok (.iload 4, 2) := by decide +kernel
theorem dX12_face_74 : decode cX12_face 74 = .ok (.iload 7, 2) := by decide +kernel
theorem dX12_face_76 : decode cX12_face 76 = .ok (.iload 5, 2) := by decide +kernel
theorem dX12_face_78 : decode cX12_face 78 = .ok (.invokevirtual 165, 3) := by decide +kernel
theorem dX12_face_81 : decode cX12_face 81 = .ok (.istore 8, 2) := by decide +kernel
theorem dX12_face_83 : decode cX12_face 83 = .ok (.iconst 0, 1) := by decide +kernel
theorem dX12_face_84 : decode cX12_face 84 = .ok (.ireturn, 1) := by decide +kernel
theorem dX12_there_0 : decode cX12_there 0 = .ok (.aload_n 0, 1) := by decide +kernel
theorem dX12_there_1 : decode cX12_there 1 = .ok (.iconst 0, 1) := by decide +kernel
theorem dX12_there_2 : decode cX12_there 2 = .ok (.putfield 89, 3) := by decide +kernel
theorem dX12_there_5 : decode cX12_there 5 = .ok (.iload_n 1, 1) := by decide +kernel
theorem dX12_there_6 : decode cX12_there 6 = .ok (.invokestatic 156, 3) := by decide +kernel
theorem dX12_there_9 : decode cX12_there 9 = .ok (.ifCond .eq 15, 3) := by decide +kernel
theorem dX12_there_12 : decode cX12_there 12 = .ok (.aload_n 0, 1) := by decide +kernel
theorem dX12_there_13 : decode cX12_there 13 = .ok (.iload_n 1, 1) := by decide +kernel
theorem dX12_there_14 : decode cX12_there 14 = .ok (.iload_n 2, 1) := by decide +kernel
theorem dX12_there_15 : decode cX12_there 15 = .ok (.iload_n 3, 1) := by decide +kernel
theorem dX12_there_16 : decode cX12_there 16 = .ok (.iload 4, 2) := by decide +kernel
theorem dX12_there_18 : decode cX12_there 18 = .ok (.invokevirtual 159, 3) := by decide +kernel
theorem dX12_there_21 : decode cX12_there 21 = .ok (.goto 4, 3) := by decide +kernel
theorem dX12_there_24 : decode cX12_there 24 = .ok (.iconst (-1), 1) := by decide +kernel
theorem dX12_there_25 : decode cX12_there 25 = .ok (.ireturn, 1) := by decide +kernel
theorem dX12_kindAt_0 : decode cX12_kindAt 0 = .ok (.aload_n 0, 1) := by decide +kernel
theorem dX12_kindAt_1 : decode cX12_kindAt 1 = .ok (.iload_n 1, 1) := by decide +kernel
theorem dX12_kindAt_2 : decode cX12_kindAt 2 = .ok (.iload_n 2, 1) := by decide +kernel
theorem dX12_kindAt_3 : decode cX12_kindAt 3 = .ok (.iload_n 3, 1) := by decide +kernel
theorem dX12_kindAt_4 : decode cX12_kindAt 4 = .ok (.iload 4, 2) := by decide +kernel
theorem dX12_kindAt_6 : decode cX12_kindAt 6 = .ok (.invokevirtual 159, 3) := by decide +kernel
theorem dX12_kindAt_9 : decode cX12_kindAt 9 = .ok (.ifCond .ne 20, 3) := by decide +kernel
theorem dX12_kindAt_12 : decode cX12_kindAt 12 = .ok (.aload_n 0, 1) := by decide +kernel
theorem dX12_kindAt_13 : decode cX12_kindAt 13 = .ok (.getfield 38, 3) := by decide +kernel
theorem dX12_kindAt_16 : decode cX12_kindAt 16 = .ok (.aload_n 0, 1) := by decide +kernel
theorem dX12_kindAt_17 : decode cX12_kindAt 17 = .ok (.iload_n 1, 1) := by decide +kernel
theorem dX12_kindAt_18 : decode cX12_kindAt 18 = .ok (.iload_n 2, 1) := by decide +kernel
theorem dX12_kindAt_19 : decode cX12_kindAt 19 = .ok (.iload_n 3, 1) := by decide +kernel
theorem dX12_kindAt_20 : decode cX12_kindAt 20 = .ok (.iload 4, 2) := by decide +kernel
theorem dX12_kindAt_22 : decode cX12_kindAt 22 = .ok (.invokevirtual 144, 3) := by decide +kernel
theorem dX12_kindAt_25 : decode cX12_kindAt 25 = .ok (.iaload, 1) := by decide +kernel
theorem dX12_kindAt_26 : decode cX12_kindAt 26 = .ok (.goto 4, 3) := by decide +kernel
theorem dX12_kindAt_29 : decode cX12_kindAt 29 = .ok (.iconst (-1), 1) := by decide +kernel
theorem dX12_kindAt_30 : decode cX12_kindAt 30 = .ok (.ireturn, 1) := by decide +kernel
theorem dX12_at_0 : decode cX12_at 0 = .ok (.aload_n 0, 1) := by decide +kernel
theorem dX12_at_1 : decode cX12_at 1 = .ok (.iconst 0, 1) := by decide +kernel
theorem dX12_at_2 : decode cX12_at 2 = .ok (.putfield 89, 3) := by decide +kernel
theorem dX12_at_5 : decode cX12_at 5 = .ok (.iload_n 1, 1) := by decide +kernel
theorem dX12_at_6 : decode cX12_at 6 = .ok (.invokestatic 156, 3) := by decide +kernel
theorem dX12_at_9 : decode cX12_at 9 = .ok (.ifCond .eq 15, 3) := by decide +kernel
theorem dX12_at_12 : decode cX12_at 12 = .ok (.aload_n 0, 1) := by decide +kernel
theorem dX12_at_13 : decode cX12_at 13 = .ok (.iload_n 1, 1) := by decide +kernel
theorem dX12_at_14 : decode cX12_at 14 = .ok (.iload_n 2, 1) := by decide +kernel
theorem dX12_at_15 : decode cX12_at 15 = .ok (.iload_n 3, 1) := by decide +kernel
theorem dX12_at_16 : decode cX12_at 16 = .ok (.iload 4, 2) := by decide +kernel
theorem dX12_at_18 : decode cX12_at 18 = .ok (.invokevirtual 169, 3) := by decide +kernel
theorem dX12_at_21 : decode cX12_at 21 = .ok (.goto 4, 3) := by decide +kernel
theorem dX12_at_24 : decode cX12_at 24 = .ok (.iconst (-1), 1) := by decide +kernel
theorem dX12_at_25 : decode cX12_at 25 = .ok (.ireturn, 1) := by decide +kernel
theorem dX12_turnAt_0 : decode cX12_turnAt 0 = .ok (.aload_n 0, 1) := by decide +kernel
theorem dX12_turnAt_1 : decode cX12_turnAt 1 = .ok (.iconst 0, 1) := by decide +kernel
theorem dX12_turnAt_2 : decode cX12_turnAt 2 = .ok (.putfield 89, 3) := by decide +kernel
theorem dX12_turnAt_5 : decode cX12_turnAt 5 = .ok (.iload_n 1, 1) := by decide +kernel
theorem dX12_turnAt_6 : decode cX12_turnAt 6 = .ok (.invokestatic 156, 3) := by decide +kernel
theorem dX12_turnAt_9 : decode cX12_turnAt 9 = .ok (.ifCond .eq 32, 3) := by decide +kernel
theorem dX12_turnAt_12 : decode cX12_turnAt 12 = .ok (.aload_n 0, 1) := by decide +kernel
theorem dX12_turnAt_13 : decode cX12_turnAt 13 = .ok (.iload_n 1, 1) := by decide +kernel
theorem dX12_turnAt_14 : decode cX12_turnAt 14 = .ok (.iload_n 2, 1) := by decide +kernel
theorem dX12_turnAt_15 : decode cX12_turnAt 15 = .ok (.iload_n 3, 1) := by decide +kernel
theorem dX12_turnAt_16 : decode cX12_turnAt 16 = .ok (.iload 4, 2) := by decide +kernel
theorem dX12_turnAt_18 : decode cX12_turnAt 18 = .ok (.invokevirtual 159, 3) := by decide +kernel
theorem dX12_turnAt_21 : decode cX12_turnAt 21 = .ok (.ifCond .ne 20, 3) := by decide +kernel
theorem dX12_turnAt_24 : decode cX12_turnAt 24 = .ok (.aload_n 0, 1) := by decide +kernel
theorem dX12_turnAt_25 : decode cX12_turnAt 25 = .ok (.getfield 41, 3) := by decide +kernel
theorem dX12_turnAt_28 : decode cX12_turnAt 28 = .ok (.aload_n 0, 1) := by decide +kernel
theorem dX12_turnAt_29 : decode cX12_turnAt 29 = .ok (.iload_n 1, 1) := by decide +kernel
theorem dX12_turnAt_30 : decode cX12_turnAt 30 = .ok (.iload_n 2, 1) := by decide +kernel
theorem dX12_turnAt_31 : decode cX12_turnAt 31 = .ok (.iload_n 3, 1) := by decide +kernel
theorem dX12_turnAt_32 : decode cX12_turnAt 32 = .ok (.iload 4, 2) := by decide +kernel
theorem dX12_turnAt_34 : decode cX12_turnAt 34 = .ok (.invokevirtual 144, 3) := by decide +kernel
theorem dX12_turnAt_37 : decode cX12_turnAt 37 = .ok (.iaload, 1) := by decide +kernel
theorem dX12_turnAt_38 : decode cX12_turnAt 38 = .ok (.goto 4, 3) := by decide +kernel
theorem dX12_turnAt_41 : decode cX12_turnAt 41 = .ok (.iconst (-1), 1) := by decide +kernel
theorem dX12_turnAt_42 : decode cX12_turnAt 42 = .ok (.ireturn, 1) := by decide +kernel
theorem dX12_copy_0 : decode cX12_copy 0 = .ok (.iconst 0, 1) := by decide +kernel
theorem dX12_copy_1 : decode cX12_copy 1 = .ok (.istore_n 3, 1) := by decide +kernel
theorem dX12_copy_2 : decode cX12_copy 2 = .ok (.iload_n 3, 1) := by decide +kernel
theorem dX12_copy_3 : decode cX12_copy 3 = .ok (.bipush 10, 2) := by decide +kernel
theorem dX12_copy_5 : decode cX12_copy 5 = .ok (.if_icmp .ge 31, 3) := by decide +kernel
theorem dX12_copy_8 : decode cX12_copy 8 = .ok (.aload_n 0, 1) := by decide +kernel
theorem dX12_copy_9 : decode cX12_copy 9 = .ok (.getfield 26, 3) := by decide +kernel
theorem dX12_copy_12 : decode cX12_copy 12 = .ok (.bipush 10, 2) := by decide +kernel
theorem dX12_copy_14 : decode cX12_copy 14 = .ok (.iload_n 2, 1) := by decide +kernel
theorem dX12_copy_15 : decode cX12_copy 15 = .ok (.imul, 1) := by decide +kernel
theorem dX12_copy_16 : decode cX12_copy 16 = .ok (.iload_n 3, 1) := by decide +kernel
theorem dX12_copy_17 : decode cX12_copy 17 = .ok (.iadd, 1) := by decide +kernel
theorem dX12_copy_18 : decode cX12_copy 18 = .ok (.aload_n 0, 1) := by decide +kernel
theorem dX12_copy_19 : decode cX12_copy 19 = .ok (.getfield 26, 3) := by decide +kernel
theorem dX12_copy_22 : decode cX12_copy 22 = .ok (.bipush 10, 2) := by decide +kernel
theorem dX12_copy_24 : decode cX12_copy 24 = .ok (.iload_n 1, 1) := by decide +kernel
theorem dX12_copy_25 : decode cX12_copy 25 = .ok (.imul, 1) := by decide +kernel
theorem dX12_copy_26 : decode cX12_copy 26 = .ok (.iload_n 3, 1) := by decide +kernel
theorem dX12_copy_27 : decode cX12_copy 27 = .ok (.iadd, 1) := by decide +kernel
theorem dX12_copy_28 : decode cX12_copy 28 = .ok (.iaload, 1) := by decide +kernel
theorem dX12_copy_29 : decode cX12_copy 29 = .ok (.iastore, 1) := by decide +kernel
theorem dX12_copy_30 : decode cX12_copy 30 = .ok (.iinc 3 1, 3) := by decide +kernel
theorem dX12_copy_33 : decode cX12_copy 33 = .ok (.goto (-31), 3) := by decide +kernel
theorem dX12_copy_36 : decode cX12_copy 36 = .ok (.return_, 1) := by decide +kernel
theorem dX12_share_0 : decode cX12_share 0 = .ok (.aload_n 0, 1) := by decide +kernel
theorem dX12_share_1 : decode cX12_share 1 = .ok (.iconst 0, 1) := by decide +kernel
theorem dX12_share_2 : decode cX12_share 2 = .ok (.putfield 89, 3) := by decide +kernel
theorem dX12_share_5 : decode cX12_share 5 = .ok (.iload_n 1, 1) := by decide +kernel
theorem dX12_share_6 : decode cX12_share 6 = .ok (.invokestatic 156, 3) := by decide +kernel
theorem dX12_share_9 : decode cX12_share 9 = .ok (.ifCond .eq 10, 3) := by decide +kernel
theorem dX12_share_12 : decode cX12_share 12 = .ok (.iload_n 2, 1) := by decide +kernel
theorem dX12_share_13 : decode cX12_share 13 = .ok (.invokestatic 156, 3) := by decide +kernel
theorem dX12_share_16 : decode cX12_share 16 = .ok (.ifCond .ne 5, 3) := by decide +kernel
theorem dX12_share_19 : decode cX12_share 19 = .ok (.iconst 0, 1) := by decide +kernel
theorem dX12_share_20 : decode cX12_share 20 = .ok (.ireturn, 1) := by decide +kernel
theorem dX12_share_21 : decode cX12_share 21 = .ok (.aload_n 0, 1) := by decide +kernel
theorem dX12_share_22 : decode cX12_share 22 = .ok (.iload_n 1, 1) := by decide +kernel
theorem dX12_share_23 : decode cX12_share 23 = .ok (.iload_n 2, 1) := by decide +kernel
theorem dX12_share_24 : decode cX12_share 24 = .ok (.invokevirtual 172, 3) := by decide +kernel
theorem dX12_share_27 : decode cX12_share 27 = .ok (.iconst 1, 1) := by decide +kernel
theorem dX12_share_28 : decode cX12_share 28 = .ok (.ireturn, 1) := by decide +kernel
theorem dX12_keep_0 : decode cX12_keep 0 = .ok (.aload_n 0, 1) := by decide +kernel
theorem dX12_keep_1 : decode cX12_keep 1 = .ok (.iconst 0, 1) := by decide +kernel
theorem dX12_keep_2 : decode cX12_keep 2 = .ok (.putfield 89, 3) := by decide +kernel
theorem dX12_keep_5 : decode cX12_keep 5 = .ok (.iload_n 1, 1) := by decide +kernel
theorem dX12_keep_6 : decode cX12_keep 6 = .ok (.invokestatic 175, 3) := by decide +kernel
theorem dX12_keep_9 : decode cX12_keep 9 = .ok (.ifCond .eq 10, 3) := by decide +kernel
theorem dX12_keep_12 : decode cX12_keep 12 = .ok (.iload_n 2, 1) := by decide +kernel
theorem dX12_keep_13 : decode cX12_keep 13 = .ok (.invokestatic 156, 3) := by decide +kernel
theorem dX12_keep_16 : decode cX12_keep 16 = .ok (.ifCond .ne 5, 3) := by decide +kernel
theorem dX12_keep_19 : decode cX12_keep 19 = .ok (.iconst 0, 1) := by decide +kernel
theorem dX12_keep_20 : decode cX12_keep 20 = .ok (.ireturn, 1) := by decide +kernel
theorem dX12_keep_21 : decode cX12_keep 21 = .ok (.aload_n 0, 1) := by decide +kernel
theorem dX12_keep_22 : decode cX12_keep 22 = .ok (.iload_n 2, 1) := by decide +kernel
theorem dX12_keep_23 : decode cX12_keep 23 = .ok (.iconst 4, 1) := by decide +kernel
theorem dX12_keep_24 : decode cX12_keep 24 = .ok (.iload_n 1, 1) := by decide +kernel
theorem dX12_keep_25 : decode cX12_keep 25 = .ok (.iadd, 1) := by decide +kernel
theorem dX12_keep_26 : decode cX12_keep 26 = .ok (.invokevirtual 172, 3) := by decide +kernel
theorem dX12_keep_29 : decode cX12_keep 29 = .ok (.aload_n 0, 1) := by decide +kernel
theorem dX12_keep_30 : decode cX12_keep 30 = .ok (.getfield 29, 3) := by decide +kernel
theorem dX12_keep_33 : decode cX12_keep 33 = .ok (.iload_n 1, 1) := by decide +kernel
theorem dX12_keep_34 : decode cX12_keep 34 = .ok (.iconst 1, 1) := by decide +kernel
theorem dX12_keep_35 : decode cX12_keep 35 = .ok (.bastore, 1) := by decide +kernel
theorem dX12_keep_36 : decode cX12_keep 36 = .ok (.iconst 1, 1) := by decide +kernel
theorem dX12_keep_37 : decode cX12_keep 37 = .ok (.ireturn, 1) := by decide +kernel
theorem dX12_back_0 : decode cX12_back 0 = .ok (.aload_n 0, 1) := by decide +kernel
theorem dX12_back_1 : decode cX12_back 1 = .ok (.iconst 0, 1) := by decide +kernel
theorem dX12_back_2 : decode cX12_back 2 = .ok (.putfield 89, 3) := by decide +kernel
theorem dX12_back_5 : decode cX12_back 5 = .ok (.iload_n 1, 1) := by decide +kernel
theorem dX12_back_6 : decode cX12_back 6 = .ok (.invokestatic 175, 3) := by decide +kernel
theorem dX12_back_9 : decode cX12_back 9 = .ok (.ifCond .eq 19, 3) := by decide +kernel
theorem dX12_back_12 : decode cX12_back 12 = .ok (.iload_n 2, 1) := by decide +kernel
theorem dX12_back_13 : decode cX12_back 13 = .ok (.invokestatic 156, 3) := by decide +kernel
theorem dX12_back_16 : decode cX12_back 16 = .ok (.ifCond .eq 12, 3) := by decide +kernel
theorem dX12_back_19 : decode cX12_back 19 = .ok (.aload_n 0, 1) := by decide +kernel
theorem dX12_back_20 : decode cX12_back 20 = .ok (.getfield 29, 3) := by decide +kernel
theorem dX12_back_23 : decode cX12_back 23 = .ok (.iload_n 1, 1) := by decide +kernel
theorem dX12_back_24 : decode cX12_back 24 = .ok (.baload, 1) := by decide +kernel
theorem dX12_back_25 : decode cX12_back 25 = .ok (.ifCond .ne 5, 3) := by decide +kernel
theorem dX12_back_28 : decode cX12_back 28 = .ok (.iconst 0, 1) := by decide +kernel
theorem dX12_back_29 : decode cX12_back 29 = .ok (.ireturn, 1) := by decide +kernel
theorem dX12_back_30 : decode cX12_back 30 = .ok (.aload_n 0, 1) := by decide +kernel
theorem dX12_back_31 : decode cX12_back 31 = .ok (.iconst 4, 1) := by decide +kernel
theorem dX12_back_32 : decode cX12_back 32 = .ok (.iload_n 1, 1) := by decide +kernel
theorem dX12_back_33 : decode cX12_back 33 = .ok (.iadd, 1) := by decide +kernel
theorem dX12_back_34 : decode cX12_back 34 = .ok (.iload_n 2, 1) := by decide +kernel
theorem dX12_back_35 : decode cX12_back 35 = .ok (.invokevirtual 172, 3) := by decide +kernel
theorem dX12_back_38 : decode cX12_back 38 = .ok (.iconst 1, 1) := by decide +kernel
theorem dX12_back_39 : decode cX12_back 39 = .ok (.ireturn, 1) := by decide +kernel
theorem dX12_forget_0 : decode cX12_forget 0 = .ok (.aload_n 0, 1) := by decide +kernel
theorem dX12_forget_1 : decode cX12_forget 1 = .ok (.iconst 0, 1) := by decide +kernel
theorem dX12_forget_2 : decode cX12_forget 2 = .ok (.putfield 89, 3) := by decide +kernel
theorem dX12_forget_5 : decode cX12_forget 5 = .ok (.iload_n 1, 1) := by decide +kernel
theorem dX12_forget_6 : decode cX12_forget 6 = .ok (.invokestatic 175, 3) := by decide +kernel
theorem dX12_forget_9 : decode cX12_forget 9 = .ok (.ifCond .eq 12, 3) := by decide +kernel
theorem dX12_forget_12 : decode cX12_forget 12 = .ok (.aload_n 0, 1) := by decide +kernel
theorem dX12_forget_13 : decode cX12_forget 13 = .ok (.getfield 29, 3) := by decide +kernel
theorem dX12_forget_16 : decode cX12_forget 16 = .ok (.iload_n 1, 1) := by decide +kernel
theorem dX12_forget_17 : decode cX12_forget 17 = .ok (.baload, 1) := by decide +kernel
theorem dX12_forget_18 : decode cX12_forget 18 = .ok (.ifCond .ne 5, 3) := by decide +kernel
theorem dX12_forget_21 : decode cX12_forget 21 = .ok (.iconst 0, 1) := by decide +kernel
theorem dX12_forget_22 : decode cX12_forget 22 = .ok (.ireturn, 1) := by decide +kernel
theorem dX12_forget_23 : decode cX12_forget 23 = .ok (.aload_n 0, 1) := by decide +kernel
theorem dX12_forget_24 : decode cX12_forget 24 = .ok (.getfield 29, 3) := by decide +kernel
theorem dX12_forget_27 : decode cX12_forget 27 = .ok (.iload_n 1, 1) := by decide +kernel
theorem dX12_forget_28 : decode cX12_forget 28 = .ok (.iconst 0, 1) := by decide +kernel
theorem dX12_forget_29 : decode cX12_forget 29 = .ok (.bastore, 1) := by decide +kernel
theorem dX12_forget_30 : decode cX12_forget 30 = .ok (.iconst 0, 1) := by decide +kernel
theorem dX12_forget_31 : decode cX12_forget 31 = .ok (.istore_n 2, 1) := by decide +kernel
theorem dX12_forget_32 : decode cX12_forget 32 = .ok (.iload_n 2, 1) := by decide +kernel
theorem dX12_forget_33 : decode cX12_forget 33 = .ok (.bipush 10, 2) := by decide +kernel
theorem dX12_forget_35 : decode cX12_forget 35 = .ok (.if_icmp .ge 23, 3) := by decide +kernel
theorem dX12_forget_38 : decode cX12_forget 38 = .ok (.aload_n 0, 1) := by decide +kernel
theorem dX12_forget_39 : decode cX12_forget 39 = .ok (.getfield 26, 3) := by decide +kernel
theorem dX12_forget_42 : decode cX12_forget 42 = .ok (.bipush 10, 2) := by decide +kernel
theorem dX12_forget_44 : decode cX12_forget 44 = .ok (.iconst 4, 1) := by decide +kernel
theorem dX12_forget_45 : decode cX12_forget 45 = .ok (.iload_n 1, 1) := by decide +kernel
theorem dX12_forget_46 : decode cX12_forget 46 = .ok (.iadd, 1) := by decide +kernel
theorem dX12_forget_47 : decode cX12_forget 47 = .ok (.imul, 1) := by decide +kernel
theorem dX12_forget_48 : decode cX12_forget 48 = .ok (.iload_n 2, 1) := by decide +kernel
theorem dX12_forget_49 : decode cX12_forget 49 = .ok (.iadd, 1) := by decide +kernel
theorem dX12_forget_50 : decode cX12_forget 50 = .ok (.iconst (-1), 1) := by decide +kernel
theorem dX12_forget_51 : decode cX12_forget 51 = .ok (.iastore, 1) := by decide +kernel
theorem dX12_forget_52 : decode cX12_forget 52 = .ok (.iinc 2 1, 3) := by decide +kernel
theorem dX12_forget_55 : decode cX12_forget 55 = .ok (.goto (-23), 3) := by decide +kernel
theorem dX12_forget_58 : decode cX12_forget 58 = .ok (.iconst 1, 1) := by decide +kernel
theorem dX12_forget_59 : decode cX12_forget 59 = .ok (.ireturn, 1) := by decide +kernel
theorem dX12_same_0 : decode cX12_same 0 = .ok (.aload_n 0, 1) := by decide +kernel
theorem dX12_same_1 : decode cX12_same 1 = .ok (.iconst 0, 1) := by decide +kernel
theorem dX12_same_2 : decode cX12_same 2 = .ok (.putfield 89, 3) := by decide +kernel
theorem dX12_same_5 : decode cX12_same 5 = .ok (.iload_n 1, 1) := by decide +kernel
theorem dX12_same_6 : decode cX12_same 6 = .ok (.invokestatic 156, 3) := by decide +kernel
theorem dX12_same_9 : decode cX12_same 9 = .ok (.ifCond .eq 42, 3) := by decide +kernel
theorem dX12_same_12 : decode cX12_same 12 = .ok (.iload_n 3, 1) := by decide +kernel
theorem dX12_same_13 : decode cX12_same 13 = .ok (.invokestatic 156, 3) := by decide +kernel
theorem dX12_same_16 : decode cX12_same 16 = .ok (.ifCond .eq 35, 3) := by decide +kernel
theorem dX12_same_19 : decode cX12_same 19 = .ok (.iload_n 2, 1) := by decide +kernel
theorem dX12_same_20 : decode cX12_same 20 = .ok (.iconst 0, 1) := by decide +kernel
theorem dX12_same_21 : decode cX12_same 21 = .ok (.bipush 9, 2) := by decide +kernel
theorem dX12_same_23 : decode cX12_same 23 = .ok (.invokestatic 93, 3) := by decide +kernel
theorem dX12_same_26 : decode cX12_same 26 = .ok (.ifCond .eq 25, 3) := by decide +kernel
theorem dX12_same_29 : decode cX12_same 29 = .ok (.iload 4, 2) := by decide +kernel
theorem dX12_same_31 : decode cX12_same 31 = .ok (.iconst 0, 1) := by decide +kernel
theorem dX12_same_32 : decode cX12_same 32 = .ok (.bipush 9, 2) := by decide +kernel
theorem dX12_same_34 : decode cX12_same 34 = .ok (.invokestatic 93, 3) := by decide +kernel
theorem dX12_same_37 : decode cX12_same 37 = .ok (.ifCond .eq 14, 3) := by decide +kernel
theorem dX12_same_40 : decode cX12_same 40 = .ok (.iload 5, 2) := by decide +kernel
theorem dX12_same_42 : decode cX12_same 42 = .ok (.iconst 0, 1) := by decide +kernel
theorem dX12_same_43 : decode cX12_same 43 = .ok (.bipush 10, 2) := by decide +kernel
theorem dX12_same_45 : decode cX12_same 45 = .ok (.invokestatic 93, 3) := by decide +kernel
theorem dX12_same_48 : decode cX12_same 48 = .ok (.ifCond .ne 5, 3) := by decide +kernel
theorem dX12_same_51 : decode cX12_same 51 = .ok (.iconst (-1), 1) := by decide +kernel
theorem dX12_same_52 : decode cX12_same 52 = .ok (.ireturn, 1) := by decide +kernel
theorem dX12_same_53 : decode cX12_same 53 = .ok (.aload_n 0, 1) := by decide +kernel
theorem dX12_same_54 : decode cX12_same 54 = .ok (.getfield 26, 3) := by decide +kernel
theorem dX12_same_57 : decode cX12_same 57 = .ok (.bipush 10, 2) := by decide +kernel
theorem dX12_same_59 : decode cX12_same 59 = .ok (.iload_n 1, 1) := by decide +kernel
theorem dX12_same_60 : decode cX12_same 60 = .ok (.imul, 1) := by decide +kernel
theorem dX12_same_61 : decode cX12_same 61 = .ok (.iload_n 2, 1) := by decide +kernel
theorem dX12_same_62 : decode cX12_same 62 = .ok (.iadd, 1) := by decide +kernel
theorem dX12_same_63 : decode cX12_same 63 = .ok (.iaload, 1) := by decide +kernel
theorem dX12_same_64 : decode cX12_same 64 = .ok (.istore 6, 2) := by decide +kernel
theorem dX12_same_66 : decode cX12_same 66 = .ok (.aload_n 0, 1) := by decide +kernel
theorem dX12_same_67 : decode cX12_same 67 = .ok (.getfield 26, 3) := by decide +kernel
theorem dX12_same_70 : decode cX12_same 70 = .ok (.bipush 10, 2) := by decide +kernel
theorem dX12_same_72 : decode cX12_same 72 = .ok (.iload_n 3, 1) := by decide +kernel
theorem dX12_same_73 : decode cX12_same 73 = .ok (.imul, 1) := by decide +kernel
theorem dX12_same_74 : decode cX12_same 74 = .ok (.iload 4, 2) := by decide +kernel
theorem dX12_same_76 : decode cX12_same 76 = .ok (.iadd, 1) := by decide +kernel
theorem dX12_same_77 : decode cX12_same 77 = .ok (.iaload, 1) := by decide +kernel
theorem dX12_same_78 : decode cX12_same 78 = .ok (.istore 7, 2) := by decide +kernel
theorem dX12_same_80 : decode cX12_same 80 = .ok (.iload 6, 2) := by decide +kernel
theorem dX12_same_82 : decode cX12_same 82 = .ok (.iconst (-1), 1) := by decide +kernel
theorem dX12_same_83 : decode cX12_same 83 = .ok (.if_icmp .eq 9, 3) := by decide +kernel
theorem dX12_same_86 : decode cX12_same 86 = .ok (.iload 7, 2) := by decide +kernel
theorem dX12_same_88 : decode cX12_same 88 = .ok (.iconst (-1), 1) := by decide +kernel
theorem dX12_same_89 : decode cX12_same 89 = .ok (.if_icmp .ne 5, 3) := by decide +kernel
theorem dX12_same_92 : decode cX12_same 92 = .ok (.iconst (-1), 1) := by decide +kernel
theorem dX12_same_93 : decode cX12_same 93 = .ok (.ireturn, 1) := by decide +kernel
theorem dX12_same_94 : decode cX12_same 94 = .ok (.iload 5, 2) := by decide +kernel
theorem dX12_same_96 : decode cX12_same 96 = .ok (.ifCond .ne 16, 3) := by decide +kernel
theorem dX12_same_99 : decode cX12_same 99 = .ok (.iload 6, 2) := by decide +kernel
theorem dX12_same_101 : decode cX12_same 101 = .ok (.iload 7, 2) := by decide +kernel
theorem dX12_same_103 : decode cX12_same 103 = .ok (.if_icmp .ne 7, 3) := by decide +kernel
theorem dX12_same_106 : decode cX12_same 106 = .ok (.iconst 1, 1) := by decide +kernel
theorem dX12_same_107 : decode cX12_same 107 = .ok (.goto 4, 3) := by decide +kernel
theorem dX12_same_110 : decode cX12_same 110 = .ok (.iconst 0, 1) := by decide +kernel
theorem dX12_same_111 : decode cX12_same 111 = .ok (.ireturn, 1) := by decide +kernel
theorem dX12_same_112 : decode cX12_same 112 = .ok (.aload_n 0, 1) := by decide +kernel
theorem dX12_same_113 : decode cX12_same 113 = .ok (.getfield 32, 3) := by decide +kernel
theorem dX12_same_116 : decode cX12_same 116 = .ok (.bipush 10, 2) := by decide +kernel
theorem dX12_same_118 : decode cX12_same 118 = .ok (.iload 6, 2) := by decide +kernel
theorem dX12_same_120 : decode cX12_same 120 = .ok (.imul, 1) := by decide +kernel
theorem dX12_same_121 : decode cX12_same 121 = .ok (.iload 5, 2) := by decide +kernel
theorem dX12_same_123 : decode cX12_same 123 = .ok (.iadd, 1) := by decide +kernel
theorem dX12_same_124 : decode cX12_same 124 = .ok (.iconst 1, 1) := by decide +kernel
theorem dX12_same_125 : decode cX12_same 125 = .ok (.isub, 1) := by decide +kernel
theorem dX12_same_126 : decode cX12_same 126 = .ok (.iaload, 1) := by decide +kernel
theorem dX12_same_127 : decode cX12_same 127 = .ok (.istore 8, 2) := by decide +kernel
theorem dX12_same_129 : decode cX12_same 129 = .ok (.aload_n 0, 1) := by decide +kernel
theorem dX12_same_130 : decode cX12_same 130 = .ok (.getfield 32, 3) := by decide +kernel
theorem dX12_same_133 : decode cX12_same 133 = .ok (.bipush 10, 2) := by decide +kernel
theorem dX12_same_135 : decode cX12_same 135 = .ok (.iload 7, 2) := by decide +kernel
theorem dX12_same_137 : decode cX12_same 137 = .ok (.imul, 1) := by decide +kernel
theorem dX12_same_138 : decode cX12_same 138 = .ok (.iload 5, 2) := by decide +kernel
theorem dX12_same_140 : decode cX12_same 140 = .ok (.iadd, 1) := by decide +kernel
theorem dX12_same_141 : decode cX12_same 141 = .ok (.iconst 1, 1) := by decide +kernel
theorem dX12_same_142 : decode cX12_same 142 = .ok (.isub, 1) := by decide +kernel
theorem dX12_same_143 : decode cX12_same 143 = .ok (.iaload, 1) := by decide +kernel
theorem dX12_same_144 : decode cX12_same 144 = .ok (.istore 9, 2) := by decide +kernel
theorem dX12_same_146 : decode cX12_same 146 = .ok (.iload 8, 2) := by decide +kernel
theorem dX12_same_148 : decode cX12_same 148 = .ok (.iconst (-1), 1) := by decide +kernel
theorem dX12_same_149 : decode cX12_same 149 = .ok (.if_icmp .eq 9, 3) := by decide +kernel
theorem dX12_same_152 : decode cX12_same 152 = .ok (.iload 9, 2) := by decide +kernel
theorem dX12_same_154 : decode cX12_same 154 = .ok (.iconst (-1), 1) := by decide +kernel
theorem dX12_same_155 : decode cX12_same 155 = .ok (.if_icmp .ne 7, 3) := by decide +kernel
theorem dX12_same_158 : decode cX12_same 158 = .ok (.iconst (-1), 1) := by decide +kernel
theorem dX12_same_159 : decode cX12_same 159 = .ok (.goto 15, 3) := by decide +kernel
theorem dX12_same_162 : decode cX12_same 162 = .ok (.iload 8, 2) := by decide +kernel
theorem dX12_same_164 : decode cX12_same 164 = .ok (.iload 9, 2) := by decide +kernel
theorem dX12_same_166 : decode cX12_same 166 = .ok (.if_icmp .ne 7, 3) := by decide +kernel
theorem dX12_same_169 : decode cX12_same 169 = .ok (.iconst 1, 1) := by decide +kernel
theorem dX12_same_170 : decode cX12_same 170 = .ok (.goto 4, 3) := by decide +kernel
theorem dX12_same_173 : decode cX12_same 173 = .ok (.iconst 0, 1) := by decide +kernel
theorem dX12_same_174 : decode cX12_same 174 = .ok (.ireturn, 1) := by decide +kernel
theorem dX12_made_0 : decode cX12_made 0 = .ok (.aload_n 0, 1) := by decide +kernel
theorem dX12_made_1 : decode cX12_made 1 = .ok (.iconst 0, 1) := by decide +kernel
theorem dX12_made_2 : decode cX12_made 2 = .ok (.putfield 89, 3) := by decide +kernel
theorem dX12_made_5 : decode cX12_made 5 = .ok (.iconst 0, 1) := by decide +kernel
theorem dX12_made_6 : decode cX12_made 6 = .ok (.istore_n 2, 1) := by decide +kernel
theorem dX12_made_7 : decode cX12_made 7 = .ok (.iload_n 1, 1) := by decide +kernel
theorem dX12_made_8 : decode cX12_made 8 = .ok (.tableswitch 143 0 6 #[44, 49, 54, 59, 100, 105, 138], 44) := by decide +kernel
theorem dX12_made_52 : decode cX12_made 52 = .ok (.aload_n 0, 1) := by decide +kernel
theorem dX12_made_53 : decode cX12_made 53 = .ok (.getfield 125, 3) := by decide +kernel
theorem dX12_made_56 : decode cX12_made 56 = .ok (.ireturn, 1) := by decide +kernel
theorem dX12_made_57 : decode cX12_made 57 = .ok (.aload_n 0, 1) := by decide +kernel
theorem dX12_made_58 : decode cX12_made 58 = .ok (.getfield 132, 3) := by decide +kernel
theorem dX12_made_61 : decode cX12_made 61 = .ok (.ireturn, 1) := by decide +kernel
theorem dX12_made_62 : decode cX12_made 62 = .ok (.aload_n 0, 1) := by decide +kernel
theorem dX12_made_63 : decode cX12_made 63 = .ok (.invokevirtual 128, 3) := by decide +kernel
theorem dX12_made_66 : decode cX12_made 66 = .ok (.ireturn, 1) := by decide +kernel
theorem dX12_made_67 : decode cX12_made 67 = .ok (.aload_n 0, 1) := by decide +kernel
theorem dX12_made_68 : decode cX12_made 68 = .ok (.invokevirtual 128, 3) := by decide +kernel
theorem dX12_made_71 : decode cX12_made 71 = .ok (.istore_n 2, 1) := by decide +kernel
theorem dX12_made_72 : decode cX12_made 72 = .ok (.iconst 0, 1) := by decide +kernel
theorem dX12_made_73 : decode cX12_made 73 = .ok (.istore_n 2, 1) := by decide +kernel
theorem dX12_made_74 : decode cX12_made 74 = .ok (.iconst 0, 1) := by decide +kernel
theorem dX12_made_75 : decode cX12_made 75 = .ok (.istore_n 3, 1) := by decide +kernel
theorem dX12_made_76 : decode cX12_made 76 = .ok (.iload_n 3, 1) := by decide +kernel
theorem dX12_made_77 : decode cX12_made 77 = .ok (.sipush 1710, 3) := by decide +kernel
theorem dX12_made_80 : decode cX12_made 80 = .ok (.if_icmp .ge 26, 3) := by decide +kernel
theorem dX12_made_83 : decode cX12_made 83 = .ok (.iload_n 2, 1) := by decide +kernel
theorem dX12_made_84 : decode cX12_made 84 = .ok (.aload_n 0, 1) := by decide +kernel
theorem dX12_made_85 : decode cX12_made 85 = .ok (.getfield 44, 3) := by decide +kernel
theorem dX12_made_88 : decode cX12_made 88 = .ok (.iload_n 3, 1) := by decide +kernel
theorem dX12_made_89 : decode cX12_made 89 = .ok (.baload, 1) := by decide +kernel
theorem dX12_made_90 : decode cX12_made 90 = .ok (.ifCond .eq 7, 3) := by decide +kernel
theorem dX12_made_93 : decode cX12_made 93 = .ok (.iconst 1, 1) := by decide +kernel
theorem dX12_made_94 : decode cX12_made 94 = .ok (.goto 4, 3) := by decide +kernel
theorem dX12_made_97 : decode cX12_made 97 = .ok (.iconst 0, 1) := by decide +kernel
theorem dX12_made_98 : decode cX12_made 98 = .ok (.iadd, 1) := by decide +kernel
theorem dX12_made_99 : decode cX12_made 99 = .ok (.istore_n 2, 1) := by decide +kernel
theorem dX12_made_100 : decode cX12_made 100 = .ok (.iinc 3 1, 3) := by decide +kernel
theorem dX12_made_103 : decode cX12_made 103 = .ok (.goto (-27), 3) := by decide +kernel
theorem dX12_made_106 : decode cX12_made 106 = .ok (.iload_n 2, 1) := by decide +kernel
theorem dX12_made_107 : decode cX12_made 107 = .ok (.ireturn, 1) := by decide +kernel
theorem dX12_made_108 : decode cX12_made 108 = .ok (.aload_n 0, 1) := by decide +kernel
theorem dX12_made_109 : decode cX12_made 109 = .ok (.getfield 103, 3) := by decide +kernel
theorem dX12_made_112 : decode cX12_made 112 = .ok (.ireturn, 1) := by decide +kernel
theorem dX12_made_113 : decode cX12_made 113 = .ok (.iconst 0, 1) := by decide +kernel
theorem dX12_made_114 : decode cX12_made 114 = .ok (.istore_n 3, 1) := by decide +kernel
theorem dX12_made_115 : decode cX12_made 115 = .ok (.iload_n 3, 1) := by decide +kernel
theorem dX12_made_116 : decode cX12_made 116 = .ok (.bipush 12, 2) := by decide +kernel
theorem dX12_made_118 : decode cX12_made 118 = .ok (.if_icmp .ge 26, 3) := by decide +kernel
theorem dX12_made_121 : decode cX12_made 121 = .ok (.iload_n 2, 1) := by decide +kernel
theorem dX12_made_122 : decode cX12_made 122 = .ok (.aload_n 0, 1) := by decide +kernel
theorem dX12_made_123 : decode cX12_made 123 = .ok (.getfield 29, 3) := by decide +kernel
theorem dX12_made_126 : decode cX12_made 126 = .ok (.iload_n 3, 1) := by decide +kernel
theorem dX12_made_127 : decode cX12_made 127 = .ok (.baload, 1) := by decide +kernel
theorem dX12_made_128 : decode cX12_made 128 = .ok (.ifCond .eq 7, 3) := by decide +kernel
theorem dX12_made_131 : decode cX12_made 131 = .ok (.iconst 1, 1) := by decide +kernel
theorem dX12_made_132 : decode cX12_made 132 = .ok (.goto 4, 3) := by decide +kernel
theorem dX12_made_135 : decode cX12_made 135 = .ok (.iconst 0, 1) := by decide +kernel
theorem dX12_made_136 : decode cX12_made 136 = .ok (.iadd, 1) := by decide +kernel
theorem dX12_made_137 : decode cX12_made 137 = .ok (.istore_n 2, 1) := by decide +kernel
theorem dX12_made_138 : decode cX12_made 138 = .ok (.iinc 3 1, 3) := by decide +kernel
theorem dX12_made_141 : decode cX12_made 141 = .ok (.goto (-26), 3) := by decide +kernel
theorem dX12_made_144 : decode cX12_made 144 = .ok (.iload_n 2, 1) := by decide +kernel
theorem dX12_made_145 : decode cX12_made 145 = .ok (.ireturn, 1) := by decide +kernel
theorem dX12_made_146 : decode cX12_made 146 = .ok (.aload_n 0, 1) := by decide +kernel
theorem dX12_made_147 : decode cX12_made 147 = .ok (.getfield 178, 3) := by decide +kernel
theorem dX12_made_150 : decode cX12_made 150 = .ok (.ireturn, 1) := by decide +kernel
theorem dX12_made_151 : decode cX12_made 151 = .ok (.iconst (-1), 1) := by decide +kernel
theorem dX12_made_152 : decode cX12_made 152 = .ok (.ireturn, 1) := by decide +kernel
theorem dX12_box_0 : decode cX12_box 0 = .ok (.aload_n 0, 1) := by decide +kernel
theorem dX12_box_1 : decode cX12_box 1 = .ok (.iconst 0, 1) := by decide +kernel
theorem dX12_box_2 : decode cX12_box 2 = .ok (.putfield 89, 3) := by decide +kernel
theorem dX12_box_5 : decode cX12_box 5 = .ok (.iload_n 1, 1) := by decide +kernel
theorem dX12_box_6 : decode cX12_box 6 = .ok (.ifCond .lt 17, 3) := by decide +kernel
theorem dX12_box_9 : decode cX12_box 9 = .ok (.iload_n 1, 1) := by decide +kernel
theorem dX12_box_10 : decode cX12_box 10 = .ok (.ldc 181, 2) := by decide +kernel
theorem dX12_box_12 : decode cX12_box 12 = .ok (.if_icmp .gt 11, 3) := by decide +kernel
theorem dX12_box_15 : decode cX12_box 15 = .ok (.iload_n 1, 1) := by decide +kernel
theorem dX12_box_16 : decode cX12_box 16 = .ok (.bipush 10, 2) := by decide +kernel
theorem dX12_box_18 : decode cX12_box 18 = .ok (.irem, 1) := by decide +kernel
theorem dX12_box_19 : decode cX12_box 19 = .ok (.iconst 1, 1) := by decide +kernel
theorem dX12_box_20 : decode cX12_box 20 = .ok (.if_icmp .eq 5, 3) := by decide +kernel
theorem dX12_box_23 : decode cX12_box 23 = .ok (.iconst 0, 1) := by decide +kernel
theorem dX12_box_24 : decode cX12_box 24 = .ok (.ireturn, 1) := by decide +kernel
theorem dX12_box_25 : decode cX12_box 25 = .ok (.iload_n 1, 1) := by decide +kernel
theorem dX12_box_26 : decode cX12_box 26 = .ok (.bipush 10, 2) := by decide +kernel
theorem dX12_box_28 : decode cX12_box 28 = .ok (.idiv, 1) := by decide +kernel
theorem dX12_box_29 : decode cX12_box 29 = .ok (.istore_n 2, 1) := by decide +kernel
theorem dX12_box_30 : decode cX12_box 30 = .ok (.iload_n 2, 1) := by decide +kernel
theorem dX12_box_31 : decode cX12_box 31 = .ok (.bipush 10, 2) := by decide +kernel
theorem dX12_box_33 : decode cX12_box 33 = .ok (.irem, 1) := by decide +kernel
theorem dX12_box_34 : decode cX12_box 34 = .ok (.istore_n 3, 1) := by decide +kernel
theorem dX12_box_35 : decode cX12_box 35 = .ok (.iload_n 2, 1) := by decide +kernel
theorem dX12_box_36 : decode cX12_box 36 = .ok (.bipush 10, 2) := by decide +kernel
theorem dX12_box_38 : decode cX12_box 38 = .ok (.idiv, 1) := by decide +kernel
theorem dX12_box_39 : decode cX12_box 39 = .ok (.bipush 10, 2) := by decide +kernel
theorem dX12_box_41 : decode cX12_box 41 = .ok (.irem, 1) := by decide +kernel
theorem dX12_box_42 : decode cX12_box 42 = .ok (.istore 4, 2) := by decide +kernel
theorem dX12_box_44 : decode cX12_box 44 = .ok (.iload_n 2, 1) := by decide +kernel
theorem dX12_box_45 : decode cX12_box 45 = .ok (.bipush 100, 2) := by decide +kernel
theorem dX12_box_47 : decode cX12_box 47 = .ok (.idiv, 1) := by decide +kernel
theorem dX12_box_48 : decode cX12_box 48 = .ok (.bipush 10, 2) := by decide +kernel
theorem dX12_box_50 : decode cX12_box 50 = .ok (.irem, 1) := by decide +kernel
theorem dX12_box_51 : decode cX12_box 51 = .ok (.istore 5, 2) := by decide +kernel
theorem dX12_box_53 : decode cX12_box 53 = .ok (.iload_n 2, 1) := by decide +kernel
theorem dX12_box_54 : decode cX12_box 54 = .ok (.sipush 1000, 3) := by decide +kernel
theorem dX12_box_57 : decode cX12_box 57 = .ok (.idiv, 1) := by decide +kernel
theorem dX12_box_58 : decode cX12_box 58 = .ok (.bipush 10, 2) := by decide +kernel
theorem dX12_box_60 : decode cX12_box 60 = .ok (.irem, 1) := by decide +kernel
theorem dX12_box_61 : decode cX12_box 61 = .ok (.istore 6, 2) := by decide +kernel
theorem dX12_box_63 : decode cX12_box 63 = .ok (.iload_n 2, 1) := by decide +kernel
theorem dX12_box_64 : decode cX12_box 64 = .ok (.sipush 10000, 3) := by decide +kernel
theorem dX12_box_67 : decode cX12_box 67 = .ok (.idiv, 1) := by decide +kernel
theorem dX12_box_68 : decode cX12_box 68 = .ok (.bipush 10, 2) := by decide +kernel
theorem dX12_box_70 : decode cX12_box 70 = .ok (.irem, 1) := by decide +kernel
theorem dX12_box_71 : decode cX12_box 71 = .ok (.istore 7, 2) := by decide +kernel
theorem dX12_box_73 : decode cX12_box 73 = .ok (.iload_n 2, 1) := by decide +kernel
theorem dX12_box_74 : decode cX12_box 74 = .ok (.ldc 182, 2) := by decide +kernel
theorem dX12_box_76 : decode cX12_box 76 = .ok (.idiv, 1) := by decide +kernel
theorem dX12_box_77 : decode cX12_box 77 = .ok (.istore 8, 2) := by decide +kernel
theorem dX12_box_79 : decode cX12_box 79 = .ok (.iload 8, 2) := by decide +kernel
theorem dX12_box_81 : decode cX12_box 81 = .ok (.iload 7, 2) := by decide +kernel
theorem dX12_box_83 : decode cX12_box 83 = .ok (.if_icmp .gt 16, 3) := by decide +kernel
theorem dX12_box_86 : decode cX12_box 86 = .ok (.iload 6, 2) := by decide +kernel
theorem dX12_box_88 : decode cX12_box 88 = .ok (.iload 5, 2) := by decide +kernel
theorem dX12_box_90 : decode cX12_box 90 = .ok (.if_icmp .gt 9, 3) := by decide +kernel
theorem dX12_box_93 : decode cX12_box 93 = .ok (.iload 4, 2) := by decide +kernel
theorem dX12_box_95 : decode cX12_box 95 = .ok (.iload_n 3, 1) := by decide +kernel
theorem dX12_box_96 : decode cX12_box 96 = .ok (.if_icmp .le 5, 3) := by decide +kernel
theorem dX12_box_99 : decode cX12_box 99 = .ok (.iconst 0, 1) := by decide +kernel
theorem dX12_box_100 : decode cX12_box 100 = .ok (.ireturn, 1) := by decide +kernel
theorem dX12_box_101 : decode cX12_box 101 = .ok (.aload_n 0, 1) := by decide +kernel
theorem dX12_box_102 : decode cX12_box 102 = .ok (.getfield 50, 3) := by decide +kernel
theorem dX12_box_105 : decode cX12_box 105 = .ok (.iconst 0, 1) := by decide +kernel
theorem dX12_box_106 : decode cX12_box 106 = .ok (.iload 8, 2) := by decide +kernel
theorem dX12_box_108 : decode cX12_box 108 = .ok (.iastore, 1) := by decide +kernel
theorem dX12_box_109 : decode cX12_box 109 = .ok (.aload_n 0, 1) := by decide +kernel
theorem dX12_box_110 : decode cX12_box 110 = .ok (.getfield 53, 3) := by decide +kernel
theorem dX12_box_113 : decode cX12_box 113 = .ok (.iconst 0, 1) := by decide +kernel
theorem dX12_box_114 : decode cX12_box 114 = .ok (.iload 7, 2) := by decide +kernel
theorem dX12_box_116 : decode cX12_box 116 = .ok (.iastore, 1) := by decide +kernel
theorem dX12_box_117 : decode cX12_box 117 = .ok (.aload_n 0, 1) := by decide +kernel
theorem dX12_box_118 : decode cX12_box 118 = .ok (.getfield 50, 3) := by decide +kernel
theorem dX12_box_121 : decode cX12_box 121 = .ok (.iconst 1, 1) := by decide +kernel
theorem dX12_box_122 : decode cX12_box 122 = .ok (.iload 6, 2) := by decide +kernel
theorem dX12_box_124 : decode cX12_box 124 = .ok (.iastore, 1) := by decide +kernel
theorem dX12_box_125 : decode cX12_box 125 = .ok (.aload_n 0, 1) := by decide +kernel
theorem dX12_box_126 : decode cX12_box 126 = .ok (.getfield 53, 3) := by decide +kernel
theorem dX12_box_129 : decode cX12_box 129 = .ok (.iconst 1, 1) := by decide +kernel
theorem dX12_box_130 : decode cX12_box 130 = .ok (.iload 5, 2) := by decide +kernel
theorem dX12_box_132 : decode cX12_box 132 = .ok (.iastore, 1) := by decide +kernel
theorem dX12_box_133 : decode cX12_box 133 = .ok (.aload_n 0, 1) := by decide +kernel
theorem dX12_box_134 : decode cX12_box 134 = .ok (.getfield 50, 3) := by decide +kernel
theorem dX12_box_137 : decode cX12_box 137 = .ok (.iconst 2, 1) := by decide +kernel
theorem dX12_box_138 : decode cX12_box 138 = .ok (.iload 4, 2) := by decide +kernel
theorem dX12_box_140 : decode cX12_box 140 = .ok (.iastore, 1) := by decide +kernel
theorem dX12_box_141 : decode cX12_box 141 = .ok (.aload_n 0, 1) := by decide +kernel
theorem dX12_box_142 : decode cX12_box 142 = .ok (.getfield 53, 3) := by decide +kernel
theorem dX12_box_145 : decode cX12_box 145 = .ok (.iconst 2, 1) := by decide +kernel
theorem dX12_box_146 : decode cX12_box 146 = .ok (.iload_n 3, 1) := by decide +kernel
theorem dX12_box_147 : decode cX12_box 147 = .ok (.iastore, 1) := by decide +kernel
theorem dX12_box_148 : decode cX12_box 148 = .ok (.iconst 1, 1) := by decide +kernel
theorem dX12_box_149 : decode cX12_box 149 = .ok (.ireturn, 1) := by decide +kernel
theorem dX12_isIn_0 : decode cX12_isIn 0 = .ok (.iload_n 1, 1) := by decide +kernel
theorem dX12_isIn_1 : decode cX12_isIn 1 = .ok (.bipush 100, 2) := by decide +kernel
theorem dX12_isIn_3 : decode cX12_isIn 3 = .ok (.idiv, 1) := by decide +kernel
theorem dX12_isIn_4 : decode cX12_isIn 4 = .ok (.aload_n 0, 1) := by decide +kernel
theorem dX12_isIn_5 : decode cX12_isIn 5 = .ok (.getfield 50, 3) := by decide +kernel
theorem dX12_isIn_8 : decode cX12_isIn 8 = .ok (.iconst 0, 1) := by decide +kernel
theorem dX12_isIn_9 : decode cX12_isIn 9 = .ok (.iaload, 1) := by decide +kernel
theorem dX12_isIn_10 : decode cX12_isIn 10 = .ok (.aload_n 0, 1) := by decide +kernel
theorem dX12_isIn_11 : decode cX12_isIn 11 = .ok (.getfield 53, 3) := by decide +kernel
theorem dX12_isIn_14 : decode cX12_isIn 14 = .ok (.iconst 0, 1) := by decide +kernel
theorem dX12_isIn_15 : decode cX12_isIn 15 = .ok (.iaload, 1) := by decide +kernel
theorem dX12_isIn_16 : decode cX12_isIn 16 = .ok (.invokestatic 93, 3) := by decide +kernel
theorem dX12_isIn_19 : decode cX12_isIn 19 = .ok (.ifCond .eq 54, 3) := by decide +kernel
theorem dX12_isIn_22 : decode cX12_isIn 22 = .ok (.iload_n 1, 1) := by decide +kernel
theorem dX12_isIn_23 : decode cX12_isIn 23 = .ok (.bipush 10, 2) := by decide +kernel
theorem dX12_isIn_25 : decode cX12_isIn 25 = .ok (.idiv, 1) := by decide +kernel
theorem dX12_isIn_26 : decode cX12_isIn 26 = .ok (.bipush 10, 2) := by decide +kernel
theorem dX12_isIn_28 : decode cX12_isIn 28 = .ok (.irem, 1) := by decide +kernel
theorem dX12_isIn_29 : decode cX12_isIn 29 = .ok (.aload_n 0, 1) := by decide +kernel
theorem dX12_isIn_30 : decode cX12_isIn 30 = .ok (.getfield 50, 3) := by decide +kernel
theorem dX12_isIn_33 : decode cX12_isIn 33 = .ok (.iconst 1, 1) := by decide +kernel
theorem dX12_isIn_34 : decode cX12_isIn 34 = .ok (.iaload, 1) := by decide +kernel
theorem dX12_isIn_35 : decode cX12_isIn 35 = .ok (.aload_n 0, 1) := by decide +kernel
theorem dX12_isIn_36 : decode cX12_isIn 36 = .ok (.getfield 53, 3) := by decide +kernel
theorem dX12_isIn_39 : decode cX12_isIn 39 = .ok (.iconst 1, 1) := by decide +kernel
theorem dX12_isIn_40 : decode cX12_isIn 40 = .ok (.iaload, 1) := by decide +kernel
theorem dX12_isIn_41 : decode cX12_isIn 41 = .ok (.invokestatic 93, 3) := by decide +kernel
theorem dX12_isIn_44 : decode cX12_isIn 44 = .ok (.ifCond .eq 29, 3) := by decide +kernel
theorem dX12_isIn_47 : decode cX12_isIn 47 = .ok (.iload_n 1, 1) := by decide +kernel
theorem dX12_isIn_48 : decode cX12_isIn 48 = .ok (.bipush 10, 2) := by decide +kernel
theorem dX12_isIn_50 : decode cX12_isIn 50 = .ok (.irem, 1) := by decide +kernel
theorem dX12_isIn_51 : decode cX12_isIn 51 = .ok (.aload_n 0, 1) := by decide +kernel
theorem dX12_isIn_52 : decode cX12_isIn 52 = .ok (.getfield 50, 3) := by decide +kernel
theorem dX12_isIn_55 : decode cX12_isIn 55 = .ok (.iconst 2, 1) := by decide +kernel
theorem dX12_isIn_56 : decode cX12_isIn 56 = .ok (.iaload, 1) := by decide +kernel
theorem dX12_isIn_57 : decode cX12_isIn 57 = .ok (.aload_n 0, 1) := by decide +kernel
theorem dX12_isIn_58 : decode cX12_isIn 58 = .ok (.getfield 53, 3) := by decide +kernel
theorem dX12_isIn_61 : decode cX12_isIn 61 = .ok (.iconst 2, 1) := by decide +kernel
theorem dX12_isIn_62 : decode cX12_isIn 62 = .ok (.iaload, 1) := by decide +kernel
theorem dX12_isIn_63 : decode cX12_isIn 63 = .ok (.invokestatic 93, 3) := by decide +kernel
theorem dX12_isIn_66 : decode cX12_isIn 66 = .ok (.ifCond .eq 7, 3) := by decide +kernel
theorem dX12_isIn_69 : decode cX12_isIn 69 = .ok (.iconst 1, 1) := by decide +kernel
theorem dX12_isIn_70 : decode cX12_isIn 70 = .ok (.goto 4, 3) := by decide +kernel
theorem dX12_isIn_73 : decode cX12_isIn 73 = .ok (.iconst 0, 1) := by decide +kernel
theorem dX12_isIn_74 : decode cX12_isIn 74 = .ok (.ireturn, 1) := by decide +kernel
theorem dX12_kindOf_0 : decode cX12_kindOf 0 = .ok (.aload_n 0, 1) := by decide +kernel
theorem dX12_kindOf_1 : decode cX12_kindOf 1 = .ok (.iload_n 1, 1) := by decide +kernel
theorem dX12_kindOf_2 : decode cX12_kindOf 2 = .ok (.iload_n 2, 1) := by decide +kernel
theorem dX12_kindOf_3 : decode cX12_kindOf 3 = .ok (.bipush 100, 2) := by decide +kernel
theorem dX12_kindOf_5 : decode cX12_kindOf 5 = .ok (.idiv, 1) := by decide +kernel
theorem dX12_kindOf_6 : decode cX12_kindOf 6 = .ok (.iload_n 2, 1) := by decide +kernel
theorem dX12_kindOf_7 : decode cX12_kindOf 7 = .ok (.bipush 10, 2) := by decide +kernel
theorem dX12_kindOf_9 : decode cX12_kindOf 9 = .ok (.idiv, 1) := by decide +kernel
theorem dX12_kindOf_10 : decode cX12_kindOf 10 = .ok (.bipush 10, 2) := by decide +kernel
theorem dX12_kindOf_12 : decode cX12_kindOf 12 = .ok (.irem, 1) := by decide +kernel
theorem dX12_kindOf_13 : decode cX12_kindOf 13 = .ok (.iload_n 2, 1) := by decide +kernel
theorem dX12_kindOf_14 : decode cX12_kindOf 14 = .ok (.bipush 10, 2) := by decide +kernel
theorem dX12_kindOf_16 : decode cX12_kindOf 16 = .ok (.irem, 1) := by decide +kernel
theorem dX12_kindOf_17 : decode cX12_kindOf 17 = .ok (.invokevirtual 169, 3) := by decide +kernel
theorem dX12_kindOf_20 : decode cX12_kindOf 20 = .ok (.ireturn, 1) := by decide +kernel
theorem dX12_turnOf_0 : decode cX12_turnOf 0 = .ok (.aload_n 0, 1) := by decide +kernel
theorem dX12_turnOf_1 : decode cX12_turnOf 1 = .ok (.getfield 41, 3) := by decide +kernel
theorem dX12_turnOf_4 : decode cX12_turnOf 4 = .ok (.aload_n 0, 1) := by decide +kernel
theorem dX12_turnOf_5 : decode cX12_turnOf 5 = .ok (.iload_n 1, 1) := by decide +kernel
theorem dX12_turnOf_6 : decode cX12_turnOf 6 = .ok (.iload_n 2, 1) := by decide +kernel
theorem dX12_turnOf_7 : decode cX12_turnOf 7 = .ok (.bipush 100, 2) := by decide +kernel
theorem dX12_turnOf_9 : decode cX12_turnOf 9 = .ok (.idiv, 1) := by decide +kernel
theorem dX12_turnOf_10 : decode cX12_turnOf 10 = .ok (.iload_n 2, 1) := by decide +kernel
theorem dX12_turnOf_11 : decode cX12_turnOf 11 = .ok (.bipush 10, 2) := by decide +kernel
theorem dX12_turnOf_13 : decode cX12_turnOf 13 = .ok (.idiv, 1) := by decide +kernel
theorem dX12_turnOf_14 : decode cX12_turnOf 14 = .ok (.bipush 10, 2) := by decide +kernel
theorem dX12_turnOf_16 : decode cX12_turnOf 16 = .ok (.irem, 1) := by decide +kernel
theorem dX12_turnOf_17 : decode cX12_turnOf 17 = .ok (.iload_n 2, 1) := by decide +kernel
theorem dX12_turnOf_18 : decode cX12_turnOf 18 = .ok (.bipush 10, 2) := by decide +kernel
theorem dX12_turnOf_20 : decode cX12_turnOf 20 = .ok (.irem, 1) := by decide +kernel
theorem dX12_turnOf_21 : decode cX12_turnOf 21 = .ok (.invokevirtual 144, 3) := by decide +kernel
theorem dX12_turnOf_24 : decode cX12_turnOf 24 = .ok (.iaload, 1) := by decide +kernel
theorem dX12_turnOf_25 : decode cX12_turnOf 25 = .ok (.ireturn, 1) := by decide +kernel
theorem dX12_changeAt_0 : decode cX12_changeAt 0 = .ok (.aload_n 0, 1) := by decide +kernel
theorem dX12_changeAt_1 : decode cX12_changeAt 1 = .ok (.iload_n 1, 1) := by decide +kernel
theorem dX12_changeAt_2 : decode cX12_changeAt 2 = .ok (.iload_n 2, 1) := by decide +kernel
theorem dX12_changeAt_3 : decode cX12_changeAt 3 = .ok (.bipush 100, 2) := by decide +kernel
theorem dX12_changeAt_5 : decode cX12_changeAt 5 = .ok (.idiv, 1) := by decide +kernel
theorem dX12_changeAt_6 : decode cX12_changeAt 6 = .ok (.iload_n 2, 1) := by decide +kernel
theorem dX12_changeAt_7 : decode cX12_changeAt 7 = .ok (.bipush 10, 2) := by decide +kernel
theorem dX12_changeAt_9 : decode cX12_changeAt 9 = .ok (.idiv, 1) := by decide +kernel
theorem dX12_changeAt_10 : decode cX12_changeAt 10 = .ok (.bipush 10, 2) := by decide +kernel
theorem dX12_changeAt_12 : decode cX12_changeAt 12 = .ok (.irem, 1) := by decide +kernel
theorem dX12_changeAt_13 : decode cX12_changeAt 13 = .ok (.iload_n 2, 1) := by decide +kernel
theorem dX12_changeAt_14 : decode cX12_changeAt 14 = .ok (.bipush 10, 2) := by decide +kernel
theorem dX12_changeAt_16 : decode cX12_changeAt 16 = .ok (.irem, 1) := by decide +kernel
theorem dX12_changeAt_17 : decode cX12_changeAt 17 = .ok (.iload_n 3, 1) := by decide +kernel
theorem dX12_changeAt_18 : decode cX12_changeAt 18 = .ok (.iload 4, 2) := by decide +kernel
theorem dX12_changeAt_20 : decode cX12_changeAt 20 = .ok (.invokevirtual 165, 3) := by decide +kernel
theorem dX12_changeAt_23 : decode cX12_changeAt 23 = .ok (.ireturn, 1) := by decide +kernel
theorem dX12_fill_0 : decode cX12_fill 0 = .ok (.aload_n 0, 1) := by decide +kernel
theorem dX12_fill_1 : decode cX12_fill 1 = .ok (.iconst 0, 1) := by decide +kernel
theorem dX12_fill_2 : decode cX12_fill 2 = .ok (.putfield 89, 3) := by decide +kernel
theorem dX12_fill_5 : decode cX12_fill 5 = .ok (.iload_n 1, 1) := by decide +kernel
theorem dX12_fill_6 : decode cX12_fill 6 = .ok (.invokestatic 156, 3) := by decide +kernel
theorem dX12_fill_9 : decode cX12_fill 9 = .ok (.ifCond .eq 18, 3) := by decide +kernel
theorem dX12_fill_12 : decode cX12_fill 12 = .ok (.aload_n 0, 1) := by decide +kernel
theorem dX12_fill_13 : decode cX12_fill 13 = .ok (.iload_n 2, 1) := by decide +kernel
theorem dX12_fill_14 : decode cX12_fill 14 = .ok (.invokevirtual 162, 3) := by decide +kernel
theorem dX12_fill_17 : decode cX12_fill 17 = .ok (.ifCond .eq 10, 3) := by decide +kernel
theorem dX12_fill_20 : decode cX12_fill 20 = .ok (.iload_n 3, 1) := by decide +kernel
theorem dX12_fill_21 : decode cX12_fill 21 = .ok (.invokestatic 114, 3) := by decide +kernel
theorem dX12_fill_24 : decode cX12_fill 24 = .ok (.ifCond .ne 5, 3) := by decide +kernel
theorem dX12_fill_27 : decode cX12_fill 27 = .ok (.iconst (-1), 1) := by decide +kernel
theorem dX12_fill_28 : decode cX12_fill 28 = .ok (.ireturn, 1) := by decide +kernel
theorem dX12_fill_29 : decode cX12_fill 29 = .ok (.iconst 0, 1) := by decide +kernel
theorem dX12_fill_30 : decode cX12_fill 30 = .ok (.istore 4, 2) := by decide +kernel
theorem dX12_fill_32 : decode cX12_fill 32 = .ok (.iconst 0, 1) := by decide +kernel
theorem dX12_fill_33 : decode cX12_fill 33 = .ok (.istore 5, 2) := by decide +kernel
theorem dX12_fill_35 : decode cX12_fill 35 = .ok (.iload 5, 2) := by decide +kernel
theorem dX12_fill_37 : decode cX12_fill 37 = .ok (.sipush 1000, 3) := by decide +kernel
theorem dX12_fill_40 : decode cX12_fill 40 = .ok (.if_icmp .ge 44, 3) := by decide +kernel
theorem dX12_fill_43 : decode cX12_fill 43 = .ok (.aload_n 0, 1) := by decide +kernel
theorem dX12_fill_44 : decode cX12_fill 44 = .ok (.iload 5, 2) := by decide +kernel
theorem dX12_fill_46 : decode cX12_fill 46 = .ok (.invokevirtual 183, 3) := by decide +kernel
theorem dX12_fill_49 : decode cX12_fill 49 = .ok (.ifCond .eq 29, 3) := by decide +kernel
theorem dX12_fill_52 : decode cX12_fill 52 = .ok (.aload_n 0, 1) := by decide +kernel
theorem dX12_fill_53 : decode cX12_fill 53 = .ok (.iload_n 1, 1) := by decide +kernel
theorem dX12_fill_54 : decode cX12_fill 54 = .ok (.iload 5, 2) := by decide +kernel
theorem dX12_fill_56 : decode cX12_fill 56 = .ok (.invokevirtual 186, 3) := by decide +kernel
theorem dX12_fill_59 : decode cX12_fill 59 = .ok (.iconst (-1), 1) := by decide +kernel
theorem dX12_fill_60 : decode cX12_fill 60 = .ok (.if_icmp .eq 18, 3) := by decide +kernel
theorem dX12_fill_63 : decode cX12_fill 63 = .ok (.aload_n 0, 1) := by decide +kernel
theorem dX12_fill_64 : decode cX12_fill 64 = .ok (.iload_n 1, 1) := by decide +kernel
theorem dX12_fill_65 : decode cX12_fill 65 = .ok (.iload 5, 2) := by decide +kernel
theorem dX12_fill_67 : decode cX12_fill 67 = .ok (.iload_n 2, 1) := by decide +kernel
theorem dX12_fill_68 : decode cX12_fill 68 = .ok (.iload_n 3, 1) := by decide +kernel
theorem dX12_fill_69 : decode cX12_fill 69 = .ok (.invokevirtual 189, 3) := by decide +kernel
theorem dX12_fill_72 : decode cX12_fill 72 = .ok (.ifCond .eq 6, 3) := by decide +kernel
theorem dX12_fill_75 : decode cX12_fill 75 = .ok (.iinc 4 1, 3) := by decide +kernel
theorem dX12_fill_78 : decode cX12_fill 78 = .ok (.iinc 5 1, 3) := by decide +kernel
theorem dX12_fill_81 : decode cX12_fill 81 = .ok (.goto (-46), 3) := by decide +kernel
theorem dX12_fill_84 : decode cX12_fill 84 = .ok (.iload 4, 2) := by decide +kernel
theorem dX12_fill_86 : decode cX12_fill 86 = .ok (.ireturn, 1) := by decide +kernel
theorem dX12_replace_0 : decode cX12_replace 0 = .ok (.aload_n 0, 1) := by decide +kernel
theorem dX12_replace_1 : decode cX12_replace 1 = .ok (.iconst 0, 1) := by decide +kernel
theorem dX12_replace_2 : decode cX12_replace 2 = .ok (.putfield 89, 3) := by decide +kernel
theorem dX12_replace_5 : decode cX12_replace 5 = .ok (.iload_n 1, 1) := by decide +kernel
theorem dX12_replace_6 : decode cX12_replace 6 = .ok (.invokestatic 156, 3) := by decide +kernel
theorem dX12_replace_9 : decode cX12_replace 9 = .ok (.ifCond .eq 23, 3) := by decide +kernel
theorem dX12_replace_12 : decode cX12_replace 12 = .ok (.iload_n 2, 1) := by decide +kernel
theorem dX12_replace_13 : decode cX12_replace 13 = .ok (.iconst 1, 1) := by decide +kernel
theorem dX12_replace_14 : decode cX12_replace 14 = .ok (.aload_n 0, 1) := by decide +kernel
theorem dX12_replace_15 : decode cX12_replace 15 = .ok (.getfield 103, 3) := by decide +kernel
theorem dX12_replace_18 : decode cX12_replace 18 = .ok (.invokestatic 93, 3) := by decide +kernel
theorem dX12_replace_21 : decode cX12_replace 21 = .ok (.ifCond .eq 11, 3) := by decide +kernel
theorem dX12_replace_24 : decode cX12_replace 24 = .ok (.aload_n 0, 1) := by decide +kernel
theorem dX12_replace_25 : decode cX12_replace 25 = .ok (.iload_n 3, 1) := by decide +kernel
theorem dX12_replace_26 : decode cX12_replace 26 = .ok (.invokevirtual 162, 3) := by decide +kernel
theorem dX12_replace_29 : decode cX12_replace 29 = .ok (.ifCond .ne 5, 3) := by decide +kernel
theorem dX12_replace_32 : decode cX12_replace 32 = .ok (.iconst (-1), 1) := by decide +kernel
theorem dX12_replace_33 : decode cX12_replace 33 = .ok (.ireturn, 1) := by decide +kernel
theorem dX12_replace_34 : decode cX12_replace 34 = .ok (.iconst 0, 1) := by decide +kernel
theorem dX12_replace_35 : decode cX12_replace 35 = .ok (.istore 4, 2) := by decide +kernel
theorem dX12_replace_37 : decode cX12_replace 37 = .ok (.iconst 0, 1) := by decide +kernel
theorem dX12_replace_38 : decode cX12_replace 38 = .ok (.istore 5, 2) := by decide +kernel
theorem dX12_replace_40 : decode cX12_replace 40 = .ok (.iload 5, 2) := by decide +kernel
theorem dX12_replace_42 : decode cX12_replace 42 = .ok (.sipush 1000, 3) := by decide +kernel
theorem dX12_replace_45 : decode cX12_replace 45 = .ok (.if_icmp .ge 50, 3) := by decide +kernel
theorem dX12_replace_48 : decode cX12_replace 48 = .ok (.aload_n 0, 1) := by decide +kernel
theorem dX12_replace_49 : decode cX12_replace 49 = .ok (.iload 5, 2) := by decide +kernel
theorem dX12_replace_51 : decode cX12_replace 51 = .ok (.invokevirtual 183, 3) := by decide +kernel
theorem dX12_replace_54 : decode cX12_replace 54 = .ok (.ifCond .eq 35, 3) := by decide +kernel
theorem dX12_replace_57 : decode cX12_replace 57 = .ok (.aload_n 0, 1) := by decide +kernel
theorem dX12_replace_58 : decode cX12_replace 58 = .ok (.iload_n 1, 1) := by decide +kernel
theorem dX12_replace_59 : decode cX12_replace 59 = .ok (.iload 5, 2) := by decide +kernel
theorem dX12_replace_61 : decode cX12_replace 61 = .ok (.invokevirtual 186, 3) := by decide +kernel
theorem dX12_replace_64 : decode cX12_replace 64 = .ok (.iload_n 2, 1) := by decide +kernel
theorem dX12_replace_65 : decode cX12_replace 65 = .ok (.if_icmp .ne 24, 3) := by decide +kernel
theorem dX12_replace_68 : decode cX12_replace 68 = .ok (.aload_n 0, 1) := by decide +kernel
theorem dX12_replace_69 : decode cX12_replace 69 = .ok (.iload_n 1, 1) := by decide +kernel
theorem dX12_replace_70 : decode cX12_replace 70 = .ok (.iload 5, 2) := by decide +kernel
theorem dX12_replace_72 : decode cX12_replace 72 = .ok (.iload_n 3, 1) := by decide +kernel
theorem dX12_replace_73 : decode cX12_replace 73 = .ok (.aload_n 0, 1) := by decide +kernel
theorem dX12_replace_74 : decode cX12_replace 74 = .ok (.iload_n 1, 1) := by decide +kernel
theorem dX12_replace_75 : decode cX12_replace 75 = .ok (.iload 5, 2) := by decide +kernel
theorem dX12_replace_77 : decode cX12_replace 77 = .ok (.invokevirtual 193, 3) := by decide +kernel
theorem dX12_replace_80 : decode cX12_replace 80 = .ok (.invokevirtual 189, 3) := by decide +kernel
theorem dX12_replace_83 : decode cX12_replace 83 = .ok (.ifCond .eq 6, 3) := by decide +kernel
theorem dX12_replace_86 : decode cX12_replace 86 = .ok (.iinc 4 1, 3) := by decide +kernel
theorem dX12_replace_89 : decode cX12_replace 89 = .ok (.iinc 5 1, 3) := by decide +kernel
theorem dX12_replace_92 : decode cX12_replace 92 = .ok (.goto (-52), 3) := by decide +kernel
theorem dX12_replace_95 : decode cX12_replace 95 = .ok (.iload 4, 2) := by decide +kernel
theorem dX12_replace_97 : decode cX12_replace 97 = .ok (.ireturn, 1) := by decide +kernel
theorem dX12_count_0 : decode cX12_count 0 = .ok (.aload_n 0, 1) := by decide +kernel
theorem dX12_count_1 : decode cX12_count 1 = .ok (.iconst 0, 1) := by decide +kernel
theorem dX12_count_2 : decode cX12_count 2 = .ok (.putfield 89, 3) := by decide +kernel
theorem dX12_count_5 : decode cX12_count 5 = .ok (.iload_n 1, 1) := by decide +kernel
theorem dX12_count_6 : decode cX12_count 6 = .ok (.invokestatic 156, 3) := by decide +kernel
theorem dX12_count_9 : decode cX12_count 9 = .ok (.ifCond .eq 11, 3) := by decide +kernel
theorem dX12_count_12 : decode cX12_count 12 = .ok (.aload_n 0, 1) := by decide +kernel
theorem dX12_count_13 : decode cX12_count 13 = .ok (.iload_n 2, 1) := by decide +kernel
theorem dX12_count_14 : decode cX12_count 14 = .ok (.invokevirtual 162, 3) := by decide +kernel
theorem dX12_count_17 : decode cX12_count 17 = .ok (.ifCond .ne 5, 3) := by decide +kernel
theorem dX12_count_20 : decode cX12_count 20 = .ok (.iconst (-1), 1) := by decide +kernel
theorem dX12_count_21 : decode cX12_count 21 = .ok (.ireturn, 1) := by decide +kernel
theorem dX12_count_22 : decode cX12_count 22 = .ok (.iconst 0, 1) := by decide +kernel
theorem dX12_count_23 : decode cX12_count 23 = .ok (.istore_n 3, 1) := by decide +kernel
theorem dX12_count_24 : decode cX12_count 24 = .ok (.iconst 0, 1) := by decide +kernel
theorem dX12_count_25 : decode cX12_count 25 = .ok (.istore 4, 2) := by decide +kernel
theorem dX12_count_27 : decode cX12_count 27 = .ok (.iload 4, 2) := by decide +kernel
theorem dX12_count_29 : decode cX12_count 29 = .ok (.sipush 1000, 3) := by decide +kernel
theorem dX12_count_32 : decode cX12_count 32 = .ok (.if_icmp .ge 37, 3) := by decide +kernel
theorem dX12_count_35 : decode cX12_count 35 = .ok (.iload_n 3, 1) := by decide +kernel
theorem dX12_count_36 : decode cX12_count 36 = .ok (.aload_n 0, 1) := by decide +kernel
theorem dX12_count_37 : decode cX12_count 37 = .ok (.iload 4, 2) := by decide +kernel
theorem dX12_count_39 : decode cX12_count 39 = .ok (.invokevirtual 183, 3) := by decide +kernel
theorem dX12_count_42 : decode cX12_count 42 = .ok (.ifCond .eq 18, 3) := by decide +kernel
theorem dX12_count_45 : decode cX12_count 45 = .ok (.aload_n 0, 1) := by decide +kernel
theorem dX12_count_46 : decode cX12_count 46 = .ok (.iload_n 1, 1) := by decide +kernel
theorem dX12_count_47 : decode cX12_count 47 = .ok (.iload 4, 2) := by decide +kernel
theorem dX12_count_49 : decode cX12_count 49 = .ok (.invokevirtual 186, 3) := by decide +kernel
theorem dX12_count_52 : decode cX12_count 52 = .ok (.iload_n 2, 1) := by decide +kernel
theorem dX12_count_53 : decode cX12_count 53 = .ok (.if_icmp .ne 7, 3) := by decide +kernel
theorem dX12_count_56 : decode cX12_count 56 = .ok (.iconst 1, 1) := by decide +kernel
theorem dX12_count_57 : decode cX12_count 57 = .ok (.goto 4, 3) := by decide +kernel
theorem dX12_count_60 : decode cX12_count 60 = .ok (.iconst 0, 1) := by decide +kernel
theorem dX12_count_61 : decode cX12_count 61 = .ok (.iadd, 1) := by decide +kernel
theorem dX12_count_62 : decode cX12_count 62 = .ok (.istore_n 3, 1) := by decide +kernel
theorem dX12_count_63 : decode cX12_count 63 = .ok (.iinc 4 1, 3) := by decide +kernel
theorem dX12_count_66 : decode cX12_count 66 = .ok (.goto (-39), 3) := by decide +kernel
theorem dX12_count_69 : decode cX12_count 69 = .ok (.iload_n 3, 1) := by decide +kernel
theorem dX12_count_70 : decode cX12_count 70 = .ok (.ireturn, 1) := by decide +kernel
theorem dX12_next_0 : decode cX12_next 0 = .ok (.iload_n 0, 1) := by decide +kernel
theorem dX12_next_1 : decode cX12_next 1 = .ok (.bipush 100, 2) := by decide +kernel
theorem dX12_next_3 : decode cX12_next 3 = .ok (.idiv, 1) := by decide +kernel
theorem dX12_next_4 : decode cX12_next 4 = .ok (.istore_n 2, 1) := by decide +kernel
theorem dX12_next_5 : decode cX12_next 5 = .ok (.iload_n 0, 1) := by decide +kernel
theorem dX12_next_6 : decode cX12_next 6 = .ok (.bipush 10, 2) := by decide +kernel
theorem dX12_next_8 : decode cX12_next 8 = .ok (.idiv, 1) := by decide +kernel
theorem dX12_next_9 : decode cX12_next 9 = .ok (.bipush 10, 2) := by decide +kernel
theorem dX12_next_11 : decode cX12_next 11 = .ok (.irem, 1) := by decide +kernel
theorem dX12_next_12 : decode cX12_next 12 = .ok (.istore_n 3, 1) := by decide +kernel
theorem dX12_next_13 : decode cX12_next 13 = .ok (.iload_n 0, 1) := by decide +kernel
theorem dX12_next_14 : decode cX12_next 14 = .ok (.bipush 10, 2) := by decide +kernel
theorem dX12_next_16 : decode cX12_next 16 = .ok (.irem, 1) := by decide +kernel
theorem dX12_next_17 : decode cX12_next 17 = .ok (.istore 4, 2) := by decide +kernel
theorem dX12_next_19 : decode cX12_next 19 = .ok (.iload_n 1, 1) := by decide +kernel
theorem dX12_next_20 : decode cX12_next 20 = .ok (.tableswitch 105 0 4 #[36, 49, 64, 77, 92], 36) := by decide +kernel
theorem dX12_next_56 : decode cX12_next 56 = .ok (.iload_n 2, 1) := by decide +kernel
theorem dX12_next_57 : decode cX12_next 57 = .ok (.ifCond .le 10, 3) := by decide +kernel
theorem dX12_next_60 : decode cX12_next 60 = .ok (.iload_n 0, 1) := by decide +kernel
theorem dX12_next_61 : decode cX12_next 61 = .ok (.bipush 100, 2) := by decide +kernel
theorem dX12_next_63 : decode cX12_next 63 = .ok (.isub, 1) := by decide +kernel
theorem dX12_next_64 : decode cX12_next 64 = .ok (.goto 4, 3) := by decide +kernel
theorem dX12_next_67 : decode cX12_next 67 = .ok (.iconst (-1), 1) := by decide +kernel
theorem dX12_next_68 : decode cX12_next 68 = .ok (.ireturn, 1) := by decide +kernel
theorem dX12_next_69 : decode cX12_next 69 = .ok (.iload_n 2, 1) := by decide +kernel
theorem dX12_next_70 : decode cX12_next 70 = .ok (.bipush 9, 2) := by decide +kernel
theorem dX12_next_72 : decode cX12_next 72 = .ok (.if_icmp .ge 10, 3) := by decide +kernel
theorem dX12_next_75 : decode cX12_next 75 = .ok (.iload_n 0, 1) := by decide +kernel
theorem dX12_next_76 : decode cX12_next 76 = .ok (.bipush 100, 2) := by decide +kernel
theorem dX12_next_78 : decode cX12_next 78 = .ok (.iadd, 1) := by decide +kernel
theorem dX12_next_79 : decode cX12_next 79 = .ok (.goto 4, 3) := by decide +kernel
theorem dX12_next_82 : decode cX12_next 82 = .ok (.iconst (-1), 1) := by decide +kernel
theorem dX12_next_83 : decode cX12_next 83 = .ok (.ireturn, 1) := by decide +kernel
theorem dX12_next_84 : decode cX12_next 84 = .ok (.iload_n 3, 1) := by decide +kernel
theorem dX12_next_85 : decode cX12_next 85 = .ok (.ifCond .le 10, 3) := by decide +kernel
theorem dX12_next_88 : decode cX12_next 88 = .ok (.iload_n 0, 1) := by decide +kernel
theorem dX12_next_89 : decode cX12_next 89 = .ok (.bipush 10, 2) := by decide +kernel
theorem dX12_next_91 : decode cX12_next 91 = .ok (.isub, 1) := by decide +kernel
theorem dX12_next_92 : decode cX12_next 92 = .ok (.goto 4, 3) := by decide +kernel
theorem dX12_next_95 : decode cX12_next 95 = .ok (.iconst (-1), 1) := by decide +kernel
theorem dX12_next_96 : decode cX12_next 96 = .ok (.ireturn, 1) := by decide +kernel
theorem dX12_next_97 : decode cX12_next 97 = .ok (.iload_n 3, 1) := by decide +kernel
theorem dX12_next_98 : decode cX12_next 98 = .ok (.bipush 9, 2) := by decide +kernel
theorem dX12_next_100 : decode cX12_next 100 = .ok (.if_icmp .ge 10, 3) := by decide +kernel
theorem dX12_next_103 : decode cX12_next 103 = .ok (.iload_n 0, 1) := by decide +kernel
theorem dX12_next_104 : decode cX12_next 104 = .ok (.bipush 10, 2) := by decide +kernel
theorem dX12_next_106 : decode cX12_next 106 = .ok (.iadd, 1) := by decide +kernel
theorem dX12_next_107 : decode cX12_next 107 = .ok (.goto 4, 3) := by decide +kernel
theorem dX12_next_110 : decode cX12_next 110 = .ok (.iconst (-1), 1) := by decide +kernel
theorem dX12_next_111 : decode cX12_next 111 = .ok (.ireturn, 1) := by decide +kernel
theorem dX12_next_112 : decode cX12_next 112 = .ok (.iload 4, 2) := by decide +kernel
theorem dX12_next_114 : decode cX12_next 114 = .ok (.ifCond .le 9, 3) := by decide +kernel
theorem dX12_next_117 : decode cX12_next 117 = .ok (.iload_n 0, 1) := by decide +kernel
theorem dX12_next_118 : decode cX12_next 118 = .ok (.iconst 1, 1) := by decide +kernel
theorem dX12_next_119 : decode cX12_next 119 = .ok (.isub, 1) := by decide +kernel
theorem dX12_next_120 : decode cX12_next 120 = .ok (.goto 4, 3) := by decide +kernel
theorem dX12_next_123 : decode cX12_next 123 = .ok (.iconst (-1), 1) := by decide +kernel
theorem dX12_next_124 : decode cX12_next 124 = .ok (.ireturn, 1) := by decide +kernel
theorem dX12_next_125 : decode cX12_next 125 = .ok (.iload 4, 2) := by decide +kernel
theorem dX12_next_127 : decode cX12_next 127 = .ok (.bipush 9, 2) := by decide +kernel
theorem dX12_next_129 : decode cX12_next 129 = .ok (.if_icmp .ge 9, 3) := by decide +kernel
theorem dX12_next_132 : decode cX12_next 132 = .ok (.iload_n 0, 1) := by decide +kernel
theorem dX12_next_133 : decode cX12_next 133 = .ok (.iconst 1, 1) := by decide +kernel
theorem dX12_next_134 : decode cX12_next 134 = .ok (.iadd, 1) := by decide +kernel
theorem dX12_next_135 : decode cX12_next 135 = .ok (.goto 4, 3) := by decide +kernel
theorem dX12_next_138 : decode cX12_next 138 = .ok (.iconst (-1), 1) := by decide +kernel
theorem dX12_next_139 : decode cX12_next 139 = .ok (.ireturn, 1) := by decide +kernel
theorem dX12_kindBeside_0 : decode cX12_kindBeside 0 = .ok (.iload_n 2, 1) := by decide +kernel
theorem dX12_kindBeside_1 : decode cX12_kindBeside 1 = .ok (.iload_n 3, 1) := by decide +kernel
theorem dX12_kindBeside_2 : decode cX12_kindBeside 2 = .ok (.invokestatic 196, 3) := by decide +kernel
theorem dX12_kindBeside_5 : decode cX12_kindBeside 5 = .ok (.istore 4, 2) := by decide +kernel
theorem dX12_kindBeside_7 : decode cX12_kindBeside 7 = .ok (.iload 4, 2) := by decide +kernel
theorem dX12_kindBeside_9 : decode cX12_kindBeside 9 = .ok (.iconst (-1), 1) := by decide +kernel
theorem dX12_kindBeside_10 : decode cX12_kindBeside 10 = .ok (.if_icmp .ne 7, 3) := by decide +kernel
theorem dX12_kindBeside_13 : decode cX12_kindBeside 13 = .ok (.iconst (-1), 1) := by decide +kernel
theorem dX12_kindBeside_14 : decode cX12_kindBeside 14 = .ok (.goto 10, 3) := by decide +kernel
theorem dX12_kindBeside_17 : decode cX12_kindBeside 17 = .ok (.aload_n 0, 1) := by decide +kernel
theorem dX12_kindBeside_18 : decode cX12_kindBeside 18 = .ok (.iload_n 1, 1) := by decide +kernel
theorem dX12_kindBeside_19 : decode cX12_kindBeside 19 = .ok (.iload 4, 2) := by decide +kernel
theorem dX12_kindBeside_21 : decode cX12_kindBeside 21 = .ok (.invokevirtual 186, 3) := by decide +kernel
theorem dX12_kindBeside_24 : decode cX12_kindBeside 24 = .ok (.ireturn, 1) := by decide +kernel
theorem dX12_reads_0 : decode cX12_reads 0 = .ok (.iconst 0, 1) := by decide +kernel
theorem dX12_reads_1 : decode cX12_reads 1 = .ok (.istore_n 2, 1) := by decide +kernel
theorem dX12_reads_2 : decode cX12_reads 2 = .ok (.iload_n 2, 1) := by decide +kernel
theorem dX12_reads_3 : decode cX12_reads 3 = .ok (.sipush 1000, 3) := by decide +kernel
theorem dX12_reads_6 : decode cX12_reads 6 = .ok (.if_icmp .ge 47, 3) := by decide +kernel
theorem dX12_reads_9 : decode cX12_reads 9 = .ok (.aload_n 0, 1) := by decide +kernel
theorem dX12_reads_10 : decode cX12_reads 10 = .ok (.getfield 56, 3) := by decide +kernel
theorem dX12_reads_13 : decode cX12_reads 13 = .ok (.iload_n 2, 1) := by decide +kernel
theorem dX12_reads_14 : decode cX12_reads 14 = .ok (.aload_n 0, 1) := by decide +kernel
theorem dX12_reads_15 : decode cX12_reads 15 = .ok (.iload_n 1, 1) := by decide +kernel
theorem dX12_reads_16 : decode cX12_reads 16 = .ok (.iload_n 2, 1) := by decide +kernel
theorem dX12_reads_17 : decode cX12_reads 17 = .ok (.invokevirtual 186, 3) := by decide +kernel
theorem dX12_reads_20 : decode cX12_reads 20 = .ok (.iastore, 1) := by decide +kernel
theorem dX12_reads_21 : decode cX12_reads 21 = .ok (.aload_n 0, 1) := by decide +kernel
theorem dX12_reads_22 : decode cX12_reads 22 = .ok (.getfield 59, 3) := by decide +kernel
theorem dX12_reads_25 : decode cX12_reads 25 = .ok (.iload_n 2, 1) := by decide +kernel
theorem dX12_reads_26 : decode cX12_reads 26 = .ok (.aload_n 0, 1) := by decide +kernel
theorem dX12_reads_27 : decode cX12_reads 27 = .ok (.getfield 56, 3) := by decide +kernel
theorem dX12_reads_30 : decode cX12_reads 30 = .ok (.iload_n 2, 1) := by decide +kernel
theorem dX12_reads_31 : decode cX12_reads 31 = .ok (.iaload, 1) := by decide +kernel
theorem dX12_reads_32 : decode cX12_reads 32 = .ok (.iconst (-1), 1) := by decide +kernel
theorem dX12_reads_33 : decode cX12_reads 33 = .ok (.if_icmp .ne 7, 3) := by decide +kernel
theorem dX12_reads_36 : decode cX12_reads 36 = .ok (.iconst 0, 1) := by decide +kernel
theorem dX12_reads_37 : decode cX12_reads 37 = .ok (.goto 9, 3) := by decide +kernel
theorem dX12_reads_40 : decode cX12_reads 40 = .ok (.aload_n 0, 1) := by decide +kernel
theorem dX12_reads_41 : decode cX12_reads 41 = .ok (.iload_n 1, 1) := by decide +kernel
theorem dX12_reads_42 : decode cX12_reads 42 = .ok (.iload_n 2, 1) := by decide +kernel
theorem dX12_reads_43 : decode cX12_reads 43 = .ok (.invokevirtual 193, 3) := by decide +kernel
theorem dX12_reads_46 : decode cX12_reads 46 = .ok (.iastore, 1) := by decide +kernel
theorem dX12_reads_47 : decode cX12_reads 47 = .ok (.iinc 2 1, 3) := by decide +kernel
theorem dX12_reads_50 : decode cX12_reads 50 = .ok (.goto (-48), 3) := by decide +kernel
theorem dX12_reads_53 : decode cX12_reads 53 = .ok (.return_, 1) := by decide +kernel
theorem dX12_hollow_0 : decode cX12_hollow 0 = .ok (.aload_n 0, 1) := by decide +kernel
theorem dX12_hollow_1 : decode cX12_hollow 1 = .ok (.iconst 0, 1) := by decide +kernel
theorem dX12_hollow_2 : decode cX12_hollow 2 = .ok (.putfield 89, 3) := by decide +kernel
theorem dX12_hollow_5 : decode cX12_hollow 5 = .ok (.iload_n 1, 1) := by decide +kernel
theorem dX12_hollow_6 : decode cX12_hollow 6 = .ok (.invokestatic 156, 3) := by decide +kernel
theorem dX12_hollow_9 : decode cX12_hollow 9 = .ok (.ifCond .ne 5, 3) := by decide +kernel
theorem dX12_hollow_12 : decode cX12_hollow 12 = .ok (.iconst (-1), 1) := by decide +kernel
theorem dX12_hollow_13 : decode cX12_hollow 13 = .ok (.ireturn, 1) := by decide +kernel
theorem dX12_hollow_14 : decode cX12_hollow 14 = .ok (.iconst 0, 1) := by decide +kernel
theorem dX12_hollow_15 : decode cX12_hollow 15 = .ok (.istore_n 2, 1) := by decide +kernel
theorem dX12_hollow_16 : decode cX12_hollow 16 = .ok (.iconst 0, 1) := by decide +kernel
theorem dX12_hollow_17 : decode cX12_hollow 17 = .ok (.istore_n 3, 1) := by decide +kernel
theorem dX12_hollow_18 : decode cX12_hollow 18 = .ok (.iload_n 3, 1) := by decide +kernel
theorem dX12_hollow_19 : decode cX12_hollow 19 = .ok (.sipush 1000, 3) := by decide +kernel
theorem dX12_hollow_22 : decode cX12_hollow 22 = .ok (.if_icmp .ge 84, 3) := by decide +kernel
theorem dX12_hollow_25 : decode cX12_hollow 25 = .ok (.aload_n 0, 1) := by decide +kernel
theorem dX12_hollow_26 : decode cX12_hollow 26 = .ok (.getfield 62, 3) := by decide +kernel
theorem dX12_hollow_29 : decode cX12_hollow 29 = .ok (.iload_n 3, 1) := by decide +kernel
theorem dX12_hollow_30 : decode cX12_hollow 30 = .ok (.aload_n 0, 1) := by decide +kernel
theorem dX12_hollow_31 : decode cX12_hollow 31 = .ok (.iload_n 3, 1) := by decide +kernel
theorem dX12_hollow_32 : decode cX12_hollow 32 = .ok (.invokevirtual 183, 3) := by decide +kernel
theorem dX12_hollow_35 : decode cX12_hollow 35 = .ok (.ifCond .eq 16, 3) := by decide +kernel
theorem dX12_hollow_38 : decode cX12_hollow 38 = .ok (.aload_n 0, 1) := by decide +kernel
theorem dX12_hollow_39 : decode cX12_hollow 39 = .ok (.iload_n 1, 1) := by decide +kernel
theorem dX12_hollow_40 : decode cX12_hollow 40 = .ok (.iload_n 3, 1) := by decide +kernel
theorem dX12_hollow_41 : decode cX12_hollow 41 = .ok (.invokevirtual 186, 3) := by decide +kernel
theorem dX12_hollow_44 : decode cX12_hollow 44 = .ok (.ifCond .le 7, 3) := by decide +kernel
theorem dX12_hollow_47 : decode cX12_hollow 47 = .ok (.iconst 1, 1) := by decide +kernel
theorem dX12_hollow_48 : decode cX12_hollow 48 = .ok (.goto 4, 3) := by decide +kernel
theorem dX12_hollow_51 : decode cX12_hollow 51 = .ok (.iconst 0, 1) := by decide +kernel
theorem dX12_hollow_52 : decode cX12_hollow 52 = .ok (.bastore, 1) := by decide +kernel
theorem dX12_hollow_53 : decode cX12_hollow 53 = .ok (.iconst 0, 1) := by decide +kernel
theorem dX12_hollow_54 : decode cX12_hollow 54 = .ok (.istore 4, 2) := by decide +kernel
theorem dX12_hollow_56 : decode cX12_hollow 56 = .ok (.iload 4, 2) := by decide +kernel
theorem dX12_hollow_58 : decode cX12_hollow 58 = .ok (.bipush 6, 2) := by decide +kernel
theorem dX12_hollow_60 : decode cX12_hollow 60 = .ok (.if_icmp .ge 40, 3) := by decide +kernel
theorem dX12_hollow_63 : decode cX12_hollow 63 = .ok (.aload_n 0, 1) := by decide +kernel
theorem dX12_hollow_64 : decode cX12_hollow 64 = .ok (.getfield 62, 3) := by decide +kernel
theorem dX12_hollow_67 : decode cX12_hollow 67 = .ok (.iload_n 3, 1) := by decide +kernel
theorem dX12_hollow_68 : decode cX12_hollow 68 = .ok (.aload_n 0, 1) := by decide +kernel
theorem dX12_hollow_69 : decode cX12_hollow 69 = .ok (.getfield 62, 3) := by decide +kernel
theorem dX12_hollow_72 : decode cX12_hollow 72 = .ok (.iload_n 3, 1) := by decide +kernel
theorem dX12_hollow_73 : decode cX12_hollow 73 = .ok (.baload, 1) := by decide +kernel
theorem dX12_hollow_74 : decode cX12_hollow 74 = .ok (.ifCond .eq 18, 3) := by decide +kernel
theorem dX12_hollow_77 : decode cX12_hollow 77 = .ok (.aload_n 0, 1) := by decide +kernel
theorem dX12_hollow_78 : decode cX12_hollow 78 = .ok (.iload_n 1, 1) := by decide +kernel
theorem dX12_hollow_79 : decode cX12_hollow 79 = .ok (.iload_n 3, 1) := by decide +kernel
theorem dX12_hollow_80 : decode cX12_hollow 80 = .ok (.iload 4, 2) := by decide +kernel
theorem dX12_hollow_82 : decode cX12_hollow 82 = .ok (.invokevirtual 199, 3) := by decide +kernel
theorem dX12_hollow_85 : decode cX12_hollow 85 = .ok (.ifCond .le 7, 3) := by decide +kernel
theorem dX12_hollow_88 : decode cX12_hollow 88 = .ok (.iconst 1, 1) := by decide +kernel
theorem dX12_hollow_89 : decode cX12_hollow 89 = .ok (.goto 4, 3) := by decide +kernel
theorem dX12_hollow_92 : decode cX12_hollow 92 = .ok (.iconst 0, 1) := by decide +kernel
theorem dX12_hollow_93 : decode cX12_hollow 93 = .ok (.bastore, 1) := by decide +kernel
theorem dX12_hollow_94 : decode cX12_hollow 94 = .ok (.iinc 4 1, 3) := by decide +kernel
theorem dX12_hollow_97 : decode cX12_hollow 97 = .ok (.goto (-41), 3) := by decide +kernel
theorem dX12_hollow_100 : decode cX12_hollow 100 = .ok (.iinc 3 1, 3) := by decide +kernel
theorem dX12_hollow_103 : decode cX12_hollow 103 = .ok (.goto (-85), 3) := by decide +kernel
theorem dX12_hollow_106 : decode cX12_hollow 106 = .ok (.iconst 0, 1) := by decide +kernel
theorem dX12_hollow_107 : decode cX12_hollow 107 = .ok (.istore_n 3, 1) := by decide +kernel
theorem dX12_hollow_108 : decode cX12_hollow 108 = .ok (.iload_n 3, 1) := by decide +kernel
theorem dX12_hollow_109 : decode cX12_hollow 109 = .ok (.sipush 1000, 3) := by decide +kernel
theorem dX12_hollow_112 : decode cX12_hollow 112 = .ok (.if_icmp .ge 32, 3) := by decide +kernel
theorem dX12_hollow_115 : decode cX12_hollow 115 = .ok (.aload_n 0, 1) := by decide +kernel
theorem dX12_hollow_116 : decode cX12_hollow 116 = .ok (.getfield 62, 3) := by decide +kernel
theorem dX12_hollow_119 : decode cX12_hollow 119 = .ok (.iload_n 3, 1) := by decide +kernel
theorem dX12_hollow_120 : decode cX12_hollow 120 = .ok (.baload, 1) := by decide +kernel
theorem dX12_hollow_121 : decode cX12_hollow 121 = .ok (.ifCond .eq 17, 3) := by decide +kernel
theorem dX12_hollow_124 : decode cX12_hollow 124 = .ok (.aload_n 0, 1) := by decide +kernel
theorem dX12_hollow_125 : decode cX12_hollow 125 = .ok (.iload_n 1, 1) := by decide +kernel
theorem dX12_hollow_126 : decode cX12_hollow 126 = .ok (.iload_n 3, 1) := by decide +kernel
theorem dX12_hollow_127 : decode cX12_hollow 127 = .ok (.iconst 0, 1) := by decide +kernel
theorem dX12_hollow_128 : decode cX12_hollow 128 = .ok (.iconst 0, 1) := by decide +kernel
theorem dX12_hollow_129 : decode cX12_hollow 129 = .ok (.invokevirtual 189, 3) := by decide +kernel
theorem dX12_hollow_132 : decode cX12_hollow 132 = .ok (.ifCond .eq 6, 3) := by decide +kernel
theorem dX12_hollow_135 : decode cX12_hollow 135 = .ok (.iinc 2 1, 3) := by decide +kernel
theorem dX12_hollow_138 : decode cX12_hollow 138 = .ok (.iinc 3 1, 3) := by decide +kernel
theorem dX12_hollow_141 : decode cX12_hollow 141 = .ok (.goto (-33), 3) := by decide +kernel
theorem dX12_hollow_144 : decode cX12_hollow 144 = .ok (.iload_n 2, 1) := by decide +kernel
theorem dX12_hollow_145 : decode cX12_hollow 145 = .ok (.ireturn, 1) := by decide +kernel
theorem dX12_move_0 : decode cX12_move 0 = .ok (.aload_n 0, 1) := by decide +kernel
theorem dX12_move_1 : decode cX12_move 1 = .ok (.iconst 0, 1) := by decide +kernel
theorem dX12_move_2 : decode cX12_move 2 = .ok (.putfield 89, 3) := by decide +kernel
theorem dX12_move_5 : decode cX12_move 5 = .ok (.iload_n 1, 1) := by decide +kernel
theorem dX12_move_6 : decode cX12_move 6 = .ok (.invokestatic 156, 3) := by decide +kernel
theorem dX12_move_9 : decode cX12_move 9 = .ok (.ifCond .eq 14, 3) := by decide +kernel
theorem dX12_move_12 : decode cX12_move 12 = .ok (.iload_n 2, 1) := by decide +kernel
theorem dX12_move_13 : decode cX12_move 13 = .ok (.invokestatic 156, 3) := by decide +kernel
theorem dX12_move_16 : decode cX12_move 16 = .ok (.ifCond .eq 7, 3) := by decide +kernel
theorem dX12_move_19 : decode cX12_move 19 = .ok (.iload_n 3, 1) := by decide +kernel
theorem dX12_move_20 : decode cX12_move 20 = .ok (.ifCond .ge 5, 3) := by decide +kernel
theorem dX12_move_23 : decode cX12_move 23 = .ok (.iconst (-1), 1) := by decide +kernel
theorem dX12_move_24 : decode cX12_move 24 = .ok (.ireturn, 1) := by decide +kernel
theorem dX12_move_25 : decode cX12_move 25 = .ok (.iload_n 3, 1) := by decide +kernel
theorem dX12_move_26 : decode cX12_move 26 = .ok (.sipush 10000, 3) := by decide +kernel
theorem dX12_move_29 : decode cX12_move 29 = .ok (.idiv, 1) := by decide +kernel
theorem dX12_move_30 : decode cX12_move 30 = .ok (.bipush 9, 2) := by decide +kernel
theorem dX12_move_32 : decode cX12_move 32 = .ok (.isub, 1) := by decide +kernel
theorem dX12_move_33 : decode cX12_move 33 = .ok (.istore 5, 2) := by decide +kernel
theorem dX12_move_35 : decode cX12_move 35 = .ok (.iload_n 3, 1) := by decide +kernel
theorem dX12_move_36 : decode cX12_move 36 = .ok (.bipush 100, 2) := by decide +kernel
theorem dX12_move_38 : decode cX12_move 38 = .ok (.idiv, 1) := by decide +kernel
theorem dX12_move_39 : decode cX12_move 39 = .ok (.bipush 100, 2) := by decide +kernel
theorem dX12_move_41 : decode cX12_move 41 = .ok (.irem, 1) := by decide +kernel
theorem dX12_move_42 : decode cX12_move 42 = .ok (.bipush 9, 2) := by decide +kernel
theorem dX12_move_44 : decode cX12_move 44 = .ok (.isub, 1) := by decide +kernel
theorem dX12_move_45 : decode cX12_move 45 = .ok (.istore 6, 2) := by decide +kernel
theorem dX12_move_47 : decode cX12_move 47 = .ok (.iload_n 3, 1) := by decide +kernel
theorem dX12_move_48 : decode cX12_move 48 = .ok (.bipush 100, 2) := by decide +kernel
theorem dX12_move_50 : decode cX12_move 50 = .ok (.irem, 1) := by decide +kernel
theorem dX12_move_51 : decode cX12_move 51 = .ok (.bipush 9, 2) := by decide +kernel
theorem dX12_move_53 : decode cX12_move 53 = .ok (.isub, 1) := by decide +kernel
theorem dX12_move_54 : decode cX12_move 54 = .ok (.istore 7, 2) := by decide +kernel
theorem dX12_move_56 : decode cX12_move 56 = .ok (.iload 5, 2) := by decide +kernel
theorem dX12_move_58 : decode cX12_move 58 = .ok (.bipush 9, 2) := by decide +kernel
theorem dX12_move_60 : decode cX12_move 60 = .ok (.if_icmp .gt 17, 3) := by decide +kernel
theorem dX12_move_63 : decode cX12_move 63 = .ok (.iload 6, 2) := by decide +kernel
theorem dX12_move_65 : decode cX12_move 65 = .ok (.bipush 9, 2) := by decide +kernel
theorem dX12_move_67 : decode cX12_move 67 = .ok (.if_icmp .gt 10, 3) := by decide +kernel
theorem dX12_move_70 : decode cX12_move 70 = .ok (.iload 7, 2) := by decide +kernel
theorem dX12_move_72 : decode cX12_move 72 = .ok (.bipush 9, 2) := by decide +kernel
theorem dX12_move_74 : decode cX12_move 74 = .ok (.if_icmp .le 5, 3) := by decide +kernel
theorem dX12_move_77 : decode cX12_move 77 = .ok (.iconst (-1), 1) := by decide +kernel
theorem dX12_move_78 : decode cX12_move 78 = .ok (.ireturn, 1) := by decide +kernel
theorem dX12_move_79 : decode cX12_move 79 = .ok (.aload_n 0, 1) := by decide +kernel
theorem dX12_move_80 : decode cX12_move 80 = .ok (.iload_n 1, 1) := by decide +kernel
theorem dX12_move_81 : decode cX12_move 81 = .ok (.invokevirtual 203, 3) := by decide +kernel
theorem dX12_move_84 : decode cX12_move 84 = .ok (.iconst 0, 1) := by decide +kernel
theorem dX12_move_85 : decode cX12_move 85 = .ok (.istore 8, 2) := by decide +kernel
theorem dX12_move_87 : decode cX12_move 87 = .ok (.iconst 0, 1) := by decide +kernel
theorem dX12_move_88 : decode cX12_move 88 = .ok (.istore 9, 2) := by decide +kernel
theorem dX12_move_90 : decode cX12_move 90 = .ok (.iload 9, 2) := by decide +kernel
theorem dX12_move_92 : decode cX12_move 92 = .ok (.sipush 1000, 3) := by decide +kernel
theorem dX12_move_95 : decode cX12_move 95 = .ok (.if_icmp .ge 71, 3) := by decide +kernel
theorem dX12_move_98 : decode cX12_move 98 = .ok (.aload_n 0, 1) := by decide +kernel
theorem dX12_move_99 : decode cX12_move 99 = .ok (.iload 9, 2) := by decide +kernel
theorem dX12_move_101 : decode cX12_move 101 = .ok (.invokevirtual 183, 3) := by decide +kernel
theorem dX12_move_104 : decode cX12_move 104 = .ok (.ifCond .eq 56, 3) := by decide +kernel
theorem dX12_move_107 : decode cX12_move 107 = .ok (.aload_n 0, 1) := by decide +kernel
theorem dX12_move_108 : decode cX12_move 108 = .ok (.getfield 56, 3) := by decide +kernel
theorem dX12_move_111 : decode cX12_move 111 = .ok (.iload 9, 2) := by decide +kernel
theorem dX12_move_113 : decode cX12_move 113 = .ok (.iaload, 1) := by decide +kernel
theorem dX12_move_114 : decode cX12_move 114 = .ok (.ifCond .gt 6, 3) := by decide +kernel
theorem dX12_move_117 : decode cX12_move 117 = .ok (.goto 43, 3) := by decide +kernel
theorem dX12_move_120 : decode cX12_move 120 = .ok (.aload_n 0, 1) := by decide +kernel
theorem dX12_move_121 : decode cX12_move 121 = .ok (.iload_n 2, 1) := by decide +kernel
theorem dX12_move_122 : decode cX12_move 122 = .ok (.iload 9, 2) := by decide +kernel
theorem dX12_move_124 : decode cX12_move 124 = .ok (.bipush 100, 2) := by decide +kernel
theorem dX12_move_126 : decode cX12_move 126 = .ok (.idiv, 1) := by decide +kernel
theorem dX12_move_127 : decode cX12_move 127 = .ok (.iload 5, 2) := by decide +kernel
theorem dX12_move_129 : decode cX12_move 129 = .ok (.iadd, 1) := by decide +kernel
theorem dX12_move_130 : decode cX12_move 130 = .ok (.iload 9, 2) := by decide +kernel
theorem dX12_move_132 : decode cX12_move 132 = .ok (.bipush 10, 2) := by decide +kernel
theorem dX12_move_134 : decode cX12_move 134 = .ok (.idiv, 1) := by decide +kernel
theorem dX12_move_135 : decode cX12_move 135 = .ok (.bipush 10, 2) := by decide +kernel
theorem dX12_move_137 : decode cX12_move 137 = .ok (.irem, 1) := by decide +kernel
theorem dX12_move_138 : decode cX12_move 138 = .ok (.iload 6, 2) := by decide +kernel
theorem dX12_move_140 : decode cX12_move 140 = .ok (.iadd, 1) := by decide +kernel
theorem dX12_move_141 : decode cX12_move 141 = .ok (.iload 9, 2) := by decide +kernel
theorem dX12_move_143 : decode cX12_move 143 = .ok (.bipush 10, 2) := by decide +kernel
theorem dX12_move_145 : decode cX12_move 145 = .ok (.irem, 1) := by decide +kernel
theorem dX12_move_146 : decode cX12_move 146 = .ok (.iload 7, 2) := by decide +kernel
theorem dX12_move_148 : decode cX12_move 148 = .ok (.iadd, 1) := by decide +kernel
theorem dX12_move_149 : decode cX12_move 149 = .ok (.invokevirtual 159, 3) := by decide +kernel
theorem dX12_move_152 : decode cX12_move 152 = .ok (.ifCond .eq 5, 3) := by decide +kernel
theorem dX12_move_155 : decode cX12_move 155 = .ok (.iconst (-1), 1) := by decide +kernel
theorem dX12_move_156 : decode cX12_move 156 = .ok (.ireturn, 1) := by decide +kernel
theorem dX12_move_157 : decode cX12_move 157 = .ok (.iinc 8 1, 3) := by decide +kernel
theorem dX12_move_160 : decode cX12_move 160 = .ok (.iinc 9 1, 3) := by decide +kernel
theorem dX12_move_163 : decode cX12_move 163 = .ok (.goto (-73), 3) := by decide +kernel
theorem dX12_move_166 : decode cX12_move 166 = .ok (.iconst 0, 1) := by decide +kernel
theorem dX12_move_167 : decode cX12_move 167 = .ok (.istore 9, 2) := by decide +kernel
theorem dX12_move_169 : decode cX12_move 169 = .ok (.iload 9, 2) := by decide +kernel
theorem dX12_move_171 : decode cX12_move 171 = .ok (.sipush 1000, 3) := by decide +kernel
theorem dX12_move_174 : decode cX12_move 174 = .ok (.if_icmp .ge 44, 3) := by decide +kernel
theorem dX12_move_177 : decode cX12_move 177 = .ok (.iload 4, 2) := by decide +kernel
theorem dX12_move_179 : decode cX12_move 179 = .ok (.ifCond .eq 39, 3) := by decide +kernel
theorem dX12_move_182 : decode cX12_move 182 = .ok (.aload_n 0, 1) := by decide +kernel
theorem dX12_move_183 : decode cX12_move 183 = .ok (.iload 9, 2) := by decide +kernel
theorem dX12_move_185 : decode cX12_move 185 = .ok (.invokevirtual 183, 3) := by decide +kernel
theorem dX12_move_188 : decode cX12_move 188 = .ok (.ifCond .eq 24, 3) := by decide +kernel
theorem dX12_move_191 : decode cX12_move 191 = .ok (.aload_n 0, 1) := by decide +kernel
theorem dX12_move_192 : decode cX12_move 192 = .ok (.getfield 56, 3) := by decide +kernel
theorem dX12_move_195 : decode cX12_move 195 = .ok (.iload 9, 2) := by decide +kernel
theorem dX12_move_197 : decode cX12_move 197 = .ok (.iaload, 1) := by decide +kernel
theorem dX12_move_198 : decode cX12_move 198 = .ok (.ifCond .le 14, 3) := by decide +kernel
theorem dX12_move_201 : decode cX12_move 201 = .ok (.aload_n 0, 1) := by decide +kernel
theorem dX12_move_202 : decode cX12_move 202 = .ok (.iload_n 1, 1) := by decide +kernel
theorem dX12_move_203 : decode cX12_move 203 = .ok (.iload 9, 2) := by decide +kernel
theorem dX12_move_205 : decode cX12_move 205 = .ok (.iconst 0, 1) := by decide +kernel
theorem dX12_move_206 : decode cX12_move 206 = .ok (.iconst 0, 1) := by decide +kernel
theorem dX12_move_207 : decode cX12_move 207 = .ok (.invokevirtual 189, 3) := by decide +kernel
theorem dX12_move_210 : decode cX12_move 210 = .ok (.istore 10, 2) := by decide +kernel
theorem dX12_move_212 : decode cX12_move 212 = .ok (.iinc 9 1, 3) := by decide +kernel
theorem dX12_move_215 : decode cX12_move 215 = .ok (.goto (-46), 3) := by decide +kernel
theorem dX12_move_218 : decode cX12_move 218 = .ok (.iconst 0, 1) := by decide +kernel
theorem dX12_move_219 : decode cX12_move 219 = .ok (.istore 9, 2) := by decide +kernel
theorem dX12_move_221 : decode cX12_move 221 = .ok (.iload 9, 2) := by decide +kernel
theorem dX12_move_223 : decode cX12_move 223 = .ok (.sipush 1000, 3) := by decide +kernel
theorem dX12_move_226 : decode cX12_move 226 = .ok (.if_icmp .ge 76, 3) := by decide +kernel
theorem dX12_move_229 : decode cX12_move 229 = .ok (.aload_n 0, 1) := by decide +kernel
theorem dX12_move_230 : decode cX12_move 230 = .ok (.iload 9, 2) := by decide +kernel
theorem dX12_move_232 : decode cX12_move 232 = .ok (.invokevirtual 183, 3) := by decide +kernel
theorem dX12_move_235 : decode cX12_move 235 = .ok (.ifCond .eq 61, 3) := by decide +kernel
theorem dX12_move_238 : decode cX12_move 238 = .ok (.aload_n 0, 1) := by decide +kernel
theorem dX12_move_239 : decode cX12_move 239 = .ok (.getfield 56, 3) := by decide +kernel
theorem dX12_move_242 : decode cX12_move 242 = .ok (.iload 9, 2) := by decide +kernel
theorem dX12_move_244 : decode cX12_move 244 = .ok (.iaload, 1) := by decide +kernel
theorem dX12_move_245 : decode cX12_move 245 = .ok (.ifCond .le 51, 3) := by decide +kernel
theorem dX12_move_248 : decode cX12_move 248 = .ok (.aload_n 0, 1) := by decide +kernel
theorem dX12_move_249 : decode cX12_move 249 = .ok (.iload_n 2, 1) := by decide +kernel
theorem dX12_move_250 : decode cX12_move 250 = .ok (.iload 9, 2) := by decide +kernel
theorem dX12_move_252 : decode cX12_move 252 = .ok (.bipush 100, 2) := by decide +kernel
theorem dX12_move_254 : decode cX12_move 254 = .ok (.idiv, 1) := by decide +kernel
theorem dX12_move_255 : decode cX12_move 255 = .ok (.iload 5, 2) := by decide +kernel
theorem dX12_move_257 : decode cX12_move 257 = .ok (.iadd, 1) := by decide +kernel
theorem dX12_move_258 : decode cX12_move 258 = .ok (.iload 9, 2) := by decide +kernel
theorem dX12_move_260 : decode cX12_move 260 = .ok (.bipush 10, 2) := by decide +kernel
theorem dX12_move_262 : decode cX12_move 262 = .ok (.idiv, 1) := by decide +kernel
theorem dX12_move_263 : decode cX12_move 263 = .ok (.bipush 10, 2) := by decide +kernel
theorem dX12_move_265 : decode cX12_move 265 = .ok (.irem, 1) := by decide +kernel
theorem dX12_move_266 : decode cX12_move 266 = .ok (.iload 6, 2) := by decide +kernel
theorem dX12_move_268 : decode cX12_move 268 = .ok (.iadd, 1) := by decide +kernel
theorem dX12_move_269 : decode cX12_move 269 = .ok (.iload 9, 2) := by decide +kernel
theorem dX12_move_271 : decode cX12_move 271 = .ok (.bipush 10, 2) := by decide +kernel
theorem dX12_move_273 : decode cX12_move 273 = .ok (.irem, 1) := by decide +kernel
theorem dX12_move_274 : decode cX12_move 274 = .ok (.iload 7, 2) := by decide +kernel
theorem dX12_move_276 : decode cX12_move 276 = .ok (.iadd, 1) := by decide +kernel
theorem dX12_move_277 : decode cX12_move 277 = .ok (.aload_n 0, 1) := by decide +kernel
theorem dX12_move_278 : decode cX12_move 278 = .ok (.getfield 56, 3) := by decide +kernel
theorem dX12_move_281 : decode cX12_move 281 = .ok (.iload 9, 2) := by decide +kernel
theorem dX12_move_283 : decode cX12_move 283 = .ok (.iaload, 1) := by decide +kernel
theorem dX12_move_284 : decode cX12_move 284 = .ok (.aload_n 0, 1) := by decide +kernel
theorem dX12_move_285 : decode cX12_move 285 = .ok (.getfield 59, 3) := by decide +kernel
theorem dX12_move_288 : decode cX12_move 288 = .ok (.iload 9, 2) := by decide +kernel
theorem dX12_move_290 : decode cX12_move 290 = .ok (.iaload, 1) := by decide +kernel
theorem dX12_move_291 : decode cX12_move 291 = .ok (.invokevirtual 165, 3) := by decide +kernel
theorem dX12_move_294 : decode cX12_move 294 = .ok (.istore 10, 2) := by decide +kernel
theorem dX12_move_296 : decode cX12_move 296 = .ok (.iinc 9 1, 3) := by decide +kernel
theorem dX12_move_299 : decode cX12_move 299 = .ok (.goto (-78), 3) := by decide +kernel
theorem dX12_move_302 : decode cX12_move 302 = .ok (.iload 8, 2) := by decide +kernel
theorem dX12_move_304 : decode cX12_move 304 = .ok (.ireturn, 1) := by decide +kernel
theorem dX12_along_0 : decode cX12_along 0 = .ok (.aload_n 0, 1) := by decide +kernel
theorem dX12_along_1 : decode cX12_along 1 = .ok (.getfield 53, 3) := by decide +kernel
theorem dX12_along_4 : decode cX12_along 4 = .ok (.iload_n 1, 1) := by decide +kernel
theorem dX12_along_5 : decode cX12_along 5 = .ok (.iaload, 1) := by decide +kernel
theorem dX12_along_6 : decode cX12_along 6 = .ok (.aload_n 0, 1) := by decide +kernel
theorem dX12_along_7 : decode cX12_along 7 = .ok (.getfield 50, 3) := by decide +kernel
theorem dX12_along_10 : decode cX12_along 10 = .ok (.iload_n 1, 1) := by decide +kernel
theorem dX12_along_11 : decode cX12_along 11 = .ok (.iaload, 1) := by decide +kernel
theorem dX12_along_12 : decode cX12_along 12 = .ok (.isub, 1) := by decide +kernel
theorem dX12_along_13 : decode cX12_along 13 = .ok (.iconst 1, 1) := by decide +kernel
theorem dX12_along_14 : decode cX12_along 14 = .ok (.iadd, 1) := by decide +kernel
theorem dX12_along_15 : decode cX12_along 15 = .ok (.ireturn, 1) := by decide +kernel
theorem dX12_turnBox_0 : decode cX12_turnBox 0 = .ok (.aload_n 0, 1) := by decide +kernel
theorem dX12_turnBox_1 : decode cX12_turnBox 1 = .ok (.iconst 0, 1) := by decide +kernel
theorem dX12_turnBox_2 : decode cX12_turnBox 2 = .ok (.putfield 89, 3) := by decide +kernel
theorem dX12_turnBox_5 : decode cX12_turnBox 5 = .ok (.iload_n 1, 1) := by decide +kernel
theorem dX12_turnBox_6 : decode cX12_turnBox 6 = .ok (.invokestatic 156, 3) := by decide +kernel
theorem dX12_turnBox_9 : decode cX12_turnBox 9 = .ok (.ifCond .eq 10, 3) := by decide +kernel
theorem dX12_turnBox_12 : decode cX12_turnBox 12 = .ok (.iload_n 2, 1) := by decide +kernel
theorem dX12_turnBox_13 : decode cX12_turnBox 13 = .ok (.invokestatic 114, 3) := by decide +kernel
theorem dX12_turnBox_16 : decode cX12_turnBox 16 = .ok (.ifCond .ne 5, 3) := by decide +kernel
theorem dX12_turnBox_19 : decode cX12_turnBox 19 = .ok (.iconst (-1), 1) := by decide +kernel
theorem dX12_turnBox_20 : decode cX12_turnBox 20 = .ok (.ireturn, 1) := by decide +kernel
theorem dX12_turnBox_21 : decode cX12_turnBox 21 = .ok (.iconst 0, 1) := by decide +kernel
theorem dX12_turnBox_22 : decode cX12_turnBox 22 = .ok (.istore_n 3, 1) := by decide +kernel
theorem dX12_turnBox_23 : decode cX12_turnBox 23 = .ok (.iload_n 3, 1) := by decide +kernel
theorem dX12_turnBox_24 : decode cX12_turnBox 24 = .ok (.iconst 3, 1) := by decide +kernel
theorem dX12_turnBox_25 : decode cX12_turnBox 25 = .ok (.if_icmp .ge 28, 3) := by decide +kernel
theorem dX12_turnBox_28 : decode cX12_turnBox 28 = .ok (.aload_n 0, 1) := by decide +kernel
theorem dX12_turnBox_29 : decode cX12_turnBox 29 = .ok (.iload_n 3, 1) := by decide +kernel
theorem dX12_turnBox_30 : decode cX12_turnBox 30 = .ok (.invokevirtual 207, 3) := by decide +kernel
theorem dX12_turnBox_33 : decode cX12_turnBox 33 = .ok (.aload_n 0, 1) := by decide +kernel
theorem dX12_turnBox_34 : decode cX12_turnBox 34 = .ok (.iload_n 2, 1) := by decide +kernel
theorem dX12_turnBox_35 : decode cX12_turnBox 35 = .ok (.iload_n 3, 1) := by decide +kernel
theorem dX12_turnBox_36 : decode cX12_turnBox 36 = .ok (.invokestatic 107, 3) := by decide +kernel
theorem dX12_turnBox_39 : decode cX12_turnBox 39 = .ok (.invokevirtual 207, 3) := by decide +kernel
theorem dX12_turnBox_42 : decode cX12_turnBox 42 = .ok (.if_icmp .eq 5, 3) := by decide +kernel
theorem dX12_turnBox_45 : decode cX12_turnBox 45 = .ok (.iconst (-1), 1) := by decide +kernel
theorem dX12_turnBox_46 : decode cX12_turnBox 46 = .ok (.ireturn, 1) := by decide +kernel
theorem dX12_turnBox_47 : decode cX12_turnBox 47 = .ok (.iinc 3 1, 3) := by decide +kernel
theorem dX12_turnBox_50 : decode cX12_turnBox 50 = .ok (.goto (-27), 3) := by decide +kernel
theorem dX12_turnBox_53 : decode cX12_turnBox 53 = .ok (.aload_n 0, 1) := by decide +kernel
theorem dX12_turnBox_54 : decode cX12_turnBox 54 = .ok (.iload_n 1, 1) := by decide +kernel
theorem dX12_turnBox_55 : decode cX12_turnBox 55 = .ok (.invokevirtual 203, 3) := by decide +kernel
theorem dX12_turnBox_58 : decode cX12_turnBox 58 = .ok (.iconst 0, 1) := by decide +kernel
theorem dX12_turnBox_59 : decode cX12_turnBox 59 = .ok (.istore_n 3, 1) := by decide +kernel
theorem dX12_turnBox_60 : decode cX12_turnBox 60 = .ok (.iconst 0, 1) := by decide +kernel
theorem dX12_turnBox_61 : decode cX12_turnBox 61 = .ok (.istore 4, 2) := by decide +kernel
theorem dX12_turnBox_63 : decode cX12_turnBox 63 = .ok (.iload 4, 2) := by decide +kernel
theorem dX12_turnBox_65 : decode cX12_turnBox 65 = .ok (.sipush 1000, 3) := by decide +kernel
theorem dX12_turnBox_68 : decode cX12_turnBox 68 = .ok (.if_icmp .ge 52, 3) := by decide +kernel
theorem dX12_turnBox_71 : decode cX12_turnBox 71 = .ok (.aload_n 0, 1) := by decide +kernel
theorem dX12_turnBox_72 : decode cX12_turnBox 72 = .ok (.iload 4, 2) := by decide +kernel
theorem dX12_turnBox_74 : decode cX12_turnBox 74 = .ok (.invokevirtual 183, 3) := by decide +kernel
theorem dX12_turnBox_77 : decode cX12_turnBox 77 = .ok (.ifCond .ne 6, 3) := by decide +kernel
theorem dX12_turnBox_80 : decode cX12_turnBox 80 = .ok (.goto 34, 3) := by decide +kernel
theorem dX12_turnBox_83 : decode cX12_turnBox 83 = .ok (.aload_n 0, 1) := by decide +kernel
theorem dX12_turnBox_84 : decode cX12_turnBox 84 = .ok (.getfield 56, 3) := by decide +kernel
theorem dX12_turnBox_87 : decode cX12_turnBox 87 = .ok (.iload 4, 2) := by decide +kernel
theorem dX12_turnBox_89 : decode cX12_turnBox 89 = .ok (.iaload, 1) := by decide +kernel
theorem dX12_turnBox_90 : decode cX12_turnBox 90 = .ok (.iconst (-1), 1) := by decide +kernel
theorem dX12_turnBox_91 : decode cX12_turnBox 91 = .ok (.if_icmp .ne 5, 3) := by decide +kernel
theorem dX12_turnBox_94 : decode cX12_turnBox 94 = .ok (.iconst (-1), 1) := by decide +kernel
theorem dX12_turnBox_95 : decode cX12_turnBox 95 = .ok (.ireturn, 1) := by decide +kernel
theorem dX12_turnBox_96 : decode cX12_turnBox 96 = .ok (.iload_n 3, 1) := by decide +kernel
theorem dX12_turnBox_97 : decode cX12_turnBox 97 = .ok (.aload_n 0, 1) := by decide +kernel
theorem dX12_turnBox_98 : decode cX12_turnBox 98 = .ok (.getfield 56, 3) := by decide +kernel
theorem dX12_turnBox_101 : decode cX12_turnBox 101 = .ok (.iload 4, 2) := by decide +kernel
theorem dX12_turnBox_103 : decode cX12_turnBox 103 = .ok (.iaload, 1) := by decide +kernel
theorem dX12_turnBox_104 : decode cX12_turnBox 104 = .ok (.ifCond .le 7, 3) := by decide +kernel
theorem dX12_turnBox_107 : decode cX12_turnBox 107 = .ok (.iconst 1, 1) := by decide +kernel
theorem dX12_turnBox_108 : decode cX12_turnBox 108 = .ok (.goto 4, 3) := by decide +kernel
theorem dX12_turnBox_111 : decode cX12_turnBox 111 = .ok (.iconst 0, 1) := by decide +kernel
theorem dX12_turnBox_112 : decode cX12_turnBox 112 = .ok (.iadd, 1) := by decide +kernel
theorem dX12_turnBox_113 : decode cX12_turnBox 113 = .ok (.istore_n 3, 1) := by decide +kernel
theorem dX12_turnBox_114 : decode cX12_turnBox 114 = .ok (.iinc 4 1, 3) := by decide +kernel
theorem dX12_turnBox_117 : decode cX12_turnBox 117 = .ok (.goto (-54), 3) := by decide +kernel
theorem dX12_turnBox_120 : decode cX12_turnBox 120 = .ok (.iconst 0, 1) := by decide +kernel
theorem dX12_turnBox_121 : decode cX12_turnBox 121 = .ok (.istore 4, 2) := by decide +kernel
theorem dX12_turnBox_123 : decode cX12_turnBox 123 = .ok (.iload 4, 2) := by decide +kernel
theorem dX12_turnBox_125 : decode cX12_turnBox 125 = .ok (.sipush 1000, 3) := by decide +kernel
theorem dX12_turnBox_128 : decode cX12_turnBox 128 = .ok (.if_icmp .ge 203, 3) := by decide +kernel
theorem dX12_turnBox_131 : decode cX12_turnBox 131 = .ok (.aload_n 0, 1) := by decide +kernel
theorem dX12_turnBox_132 : decode cX12_turnBox 132 = .ok (.iload 4, 2) := by decide +kernel
theorem dX12_turnBox_134 : decode cX12_turnBox 134 = .ok (.invokevirtual 183, 3) := by decide +kernel
theorem dX12_turnBox_137 : decode cX12_turnBox 137 = .ok (.ifCond .ne 6, 3) := by decide +kernel
theorem dX12_turnBox_140 : decode cX12_turnBox 140 = .ok (.goto 185, 3) := by decide +kernel
theorem dX12_turnBox_143 : decode cX12_turnBox 143 = .ok (.iconst 0, 1) := by decide +kernel
theorem dX12_turnBox_144 : decode cX12_turnBox 144 = .ok (.istore 5, 2) := by decide +kernel
theorem dX12_turnBox_146 : decode cX12_turnBox 146 = .ok (.iconst 0, 1) := by decide +kernel
theorem dX12_turnBox_147 : decode cX12_turnBox 147 = .ok (.istore 6, 2) := by decide +kernel
theorem dX12_turnBox_149 : decode cX12_turnBox 149 = .ok (.iload 6, 2) := by decide +kernel
theorem dX12_turnBox_151 : decode cX12_turnBox 151 = .ok (.iconst 3, 1) := by decide +kernel
theorem dX12_turnBox_152 : decode cX12_turnBox 152 = .ok (.if_icmp .ge 131, 3) := by decide +kernel
theorem dX12_turnBox_155 : decode cX12_turnBox 155 = .ok (.iload 6, 2) := by decide +kernel
theorem dX12_turnBox_157 : decode cX12_turnBox 157 = .ok (.ifCond .ne 11, 3) := by decide +kernel
theorem dX12_turnBox_160 : decode cX12_turnBox 160 = .ok (.iload 4, 2) := by decide +kernel
theorem dX12_turnBox_162 : decode cX12_turnBox 162 = .ok (.bipush 100, 2) := by decide +kernel
theorem dX12_turnBox_164 : decode cX12_turnBox 164 = .ok (.idiv, 1) := by decide +kernel
theorem dX12_turnBox_165 : decode cX12_turnBox 165 = .ok (.goto 25, 3) := by decide +kernel
theorem dX12_turnBox_168 : decode cX12_turnBox 168 = .ok (.iload 6, 2) := by decide +kernel
theorem dX12_turnBox_170 : decode cX12_turnBox 170 = .ok (.iconst 1, 1) := by decide +kernel
theorem dX12_turnBox_171 : decode cX12_turnBox 171 = .ok (.if_icmp .ne 14, 3) := by decide +kernel
theorem dX12_turnBox_174 : decode cX12_turnBox 174 = .ok (.iload 4, 2) := by decide +kernel
theorem dX12_turnBox_176 : decode cX12_turnBox 176 = .ok (.bipush 10, 2) := by decide +kernel
theorem dX12_turnBox_178 : decode cX12_turnBox 178 = .ok (.idiv, 1) := by decide +kernel
theorem dX12_turnBox_179 : decode cX12_turnBox 179 = .ok (.bipush 10, 2) := by decide +kernel
theorem dX12_turnBox_181 : decode cX12_turnBox 181 = .ok (.irem, 1) := by decide +kernel
theorem dX12_turnBox_182 : decode cX12_turnBox 182 = .ok (.goto 8, 3) := by decide +kernel
theorem dX12_turnBox_185 : decode cX12_turnBox 185 = .ok (.iload 4, 2) := by decide +kernel
theorem dX12_turnBox_187 : decode cX12_turnBox 187 = .ok (.bipush 10, 2) := by decide +kernel
theorem dX12_turnBox_189 : decode cX12_turnBox 189 = .ok (.irem, 1) := by decide +kernel
theorem dX12_turnBox_190 : decode cX12_turnBox 190 = .ok (.aload_n 0, 1) := by decide +kernel
theorem dX12_turnBox_191 : decode cX12_turnBox 191 = .ok (.getfield 50, 3) := by decide +kernel
theorem dX12_turnBox_194 : decode cX12_turnBox 194 = .ok (.iload 6, 2) := by decide +kernel
theorem dX12_turnBox_196 : decode cX12_turnBox 196 = .ok (.iaload, 1) := by decide +kernel
theorem dX12_turnBox_197 : decode cX12_turnBox 197 = .ok (.isub, 1) := by decide +kernel
theorem dX12_turnBox_198 : decode cX12_turnBox 198 = .ok (.istore 7, 2) := by decide +kernel
theorem dX12_turnBox_200 : decode cX12_turnBox 200 = .ok (.iload_n 2, 1) := by decide +kernel
theorem dX12_turnBox_201 : decode cX12_turnBox 201 = .ok (.iload 6, 2) := by decide +kernel
theorem dX12_turnBox_203 : decode cX12_turnBox 203 = .ok (.invokestatic 107, 3) := by decide +kernel
theorem dX12_turnBox_206 : decode cX12_turnBox 206 = .ok (.istore 8, 2) := by decide +kernel
theorem dX12_turnBox_208 : decode cX12_turnBox 208 = .ok (.aload_n 0, 1) := by decide +kernel
theorem dX12_turnBox_209 : decode cX12_turnBox 209 = .ok (.getfield 50, 3) := by decide +kernel
theorem dX12_turnBox_212 : decode cX12_turnBox 212 = .ok (.iload 8, 2) := by decide +kernel
theorem dX12_turnBox_214 : decode cX12_turnBox 214 = .ok (.iaload, 1) := by decide +kernel
theorem dX12_turnBox_215 : decode cX12_turnBox 215 = .ok (.iload_n 2, 1) := by decide +kernel
theorem dX12_turnBox_216 : decode cX12_turnBox 216 = .ok (.iload 6, 2) := by decide +kernel
theorem dX12_turnBox_218 : decode cX12_turnBox 218 = .ok (.invokestatic 111, 3) := by decide +kernel
theorem dX12_turnBox_221 : decode cX12_turnBox 221 = .ok (.ifCond .le 8, 3) := by decide +kernel
theorem dX12_turnBox_224 : decode cX12_turnBox 224 = .ok (.iload 7, 2) := by decide +kernel
theorem dX12_turnBox_226 : decode cX12_turnBox 226 = .ok (.goto 14, 3) := by decide +kernel
theorem dX12_turnBox_229 : decode cX12_turnBox 229 = .ok (.aload_n 0, 1) := by decide +kernel
theorem dX12_turnBox_230 : decode cX12_turnBox 230 = .ok (.iload 6, 2) := by decide +kernel
theorem dX12_turnBox_232 : decode cX12_turnBox 232 = .ok (.invokevirtual 207, 3) := by decide +kernel
theorem dX12_turnBox_235 : decode cX12_turnBox 235 = .ok (.iconst 1, 1) := by decide +kernel
theorem dX12_turnBox_236 : decode cX12_turnBox 236 = .ok (.isub, 1) := by decide +kernel
theorem dX12_turnBox_237 : decode cX12_turnBox 237 = .ok (.iload 7, 2) := by decide +kernel
theorem dX12_turnBox_239 : decode cX12_turnBox 239 = .ok (.isub, 1) := by decide +kernel
theorem dX12_turnBox_240 : decode cX12_turnBox 240 = .ok (.iadd, 1) := by decide +kernel
theorem dX12_turnBox_241 : decode cX12_turnBox 241 = .ok (.istore 9, 2) := by decide +kernel
theorem dX12_turnBox_243 : decode cX12_turnBox 243 = .ok (.iload 5, 2) := by decide +kernel
theorem dX12_turnBox_245 : decode cX12_turnBox 245 = .ok (.iload 8, 2) := by decide +kernel
theorem dX12_turnBox_247 : decode cX12_turnBox 247 = .ok (.ifCond .ne 11, 3) := by decide +kernel
theorem dX12_turnBox_250 : decode cX12_turnBox 250 = .ok (.bipush 100, 2) := by decide +kernel
theorem dX12_turnBox_252 : decode cX12_turnBox 252 = .ok (.iload 9, 2) := by decide +kernel
theorem dX12_turnBox_254 : decode cX12_turnBox 254 = .ok (.imul, 1) := by decide +kernel
theorem dX12_turnBox_255 : decode cX12_turnBox 255 = .ok (.goto 19, 3) := by decide +kernel
theorem dX12_turnBox_258 : decode cX12_turnBox 258 = .ok (.iload 8, 2) := by decide +kernel
theorem dX12_turnBox_260 : decode cX12_turnBox 260 = .ok (.iconst 1, 1) := by decide +kernel
theorem dX12_turnBox_261 : decode cX12_turnBox 261 = .ok (.if_icmp .ne 11, 3) := by decide +kernel
theorem dX12_turnBox_264 : decode cX12_turnBox 264 = .ok (.bipush 10, 2) := by decide +kernel
theorem dX12_turnBox_266 : decode cX12_turnBox 266 = .ok (.iload 9, 2) := by decide +kernel
theorem dX12_turnBox_268 : decode cX12_turnBox 268 = .ok (.imul, 1) := by decide +kernel
theorem dX12_turnBox_269 : decode cX12_turnBox 269 = .ok (.goto 5, 3) := by decide +kernel
theorem dX12_turnBox_272 : decode cX12_turnBox 272 = .ok (.iload 9, 2) := by decide +kernel
theorem dX12_turnBox_274 : decode cX12_turnBox 274 = .ok (.iadd, 1) := by decide +kernel
theorem dX12_turnBox_275 : decode cX12_turnBox 275 = .ok (.istore 5, 2) := by decide +kernel
theorem dX12_turnBox_277 : decode cX12_turnBox 277 = .ok (.iinc 6 1, 3) := by decide +kernel
theorem dX12_turnBox_280 : decode cX12_turnBox 280 = .ok (.goto (-131), 3) := by decide +kernel
theorem dX12_turnBox_283 : decode cX12_turnBox 283 = .ok (.aload_n 0, 1) := by decide +kernel
theorem dX12_turnBox_284 : decode cX12_turnBox 284 = .ok (.iload_n 1, 1) := by decide +kernel
theorem dX12_turnBox_285 : decode cX12_turnBox 285 = .ok (.iload 5, 2) := by decide +kernel
theorem dX12_turnBox_287 : decode cX12_turnBox 287 = .ok (.aload_n 0, 1) := by decide +kernel
theorem dX12_turnBox_288 : decode cX12_turnBox 288 = .ok (.getfield 56, 3) := by decide +kernel
theorem dX12_turnBox_291 : decode cX12_turnBox 291 = .ok (.iload 4, 2) := by decide +kernel
theorem dX12_turnBox_293 : decode cX12_turnBox 293 = .ok (.iaload, 1) := by decide +kernel
theorem dX12_turnBox_294 : decode cX12_turnBox 294 = .ok (.aload_n 0, 1) := by decide +kernel
theorem dX12_turnBox_295 : decode cX12_turnBox 295 = .ok (.getfield 56, 3) := by decide +kernel
theorem dX12_turnBox_298 : decode cX12_turnBox 298 = .ok (.iload 4, 2) := by decide +kernel
theorem dX12_turnBox_300 : decode cX12_turnBox 300 = .ok (.iaload, 1) := by decide +kernel
theorem dX12_turnBox_301 : decode cX12_turnBox 301 = .ok (.ifCond .ne 7, 3) := by decide +kernel
theorem dX12_turnBox_304 : decode cX12_turnBox 304 = .ok (.iconst 0, 1) := by decide +kernel
theorem dX12_turnBox_305 : decode cX12_turnBox 305 = .ok (.goto 15, 3) := by decide +kernel
theorem dX12_turnBox_308 : decode cX12_turnBox 308 = .ok (.aload_n 0, 1) := by decide +kernel
theorem dX12_turnBox_309 : decode cX12_turnBox 309 = .ok (.iload_n 2, 1) := by decide +kernel
theorem dX12_turnBox_310 : decode cX12_turnBox 310 = .ok (.aload_n 0, 1) := by decide +kernel
theorem dX12_turnBox_311 : decode cX12_turnBox 311 = .ok (.getfield 59, 3) := by decide +kernel
theorem dX12_turnBox_314 : decode cX12_turnBox 314 = .ok (.iload 4, 2) := by decide +kernel
theorem dX12_turnBox_316 : decode cX12_turnBox 316 = .ok (.iaload, 1) := by decide +kernel
theorem dX12_turnBox_317 : decode cX12_turnBox 317 = .ok (.invokevirtual 118, 3) := by decide +kernel
theorem dX12_turnBox_320 : decode cX12_turnBox 320 = .ok (.invokevirtual 189, 3) := by decide +kernel
theorem dX12_turnBox_323 : decode cX12_turnBox 323 = .ok (.istore 6, 2) := by decide +kernel
theorem dX12_turnBox_325 : decode cX12_turnBox 325 = .ok (.iinc 4 1, 3) := by decide +kernel
theorem dX12_turnBox_328 : decode cX12_turnBox 328 = .ok (.goto (-205), 3) := by decide +kernel
theorem dX12_turnBox_331 : decode cX12_turnBox 331 = .ok (.iload_n 3, 1) := by decide +kernel
theorem dX12_turnBox_332 : decode cX12_turnBox 332 = .ok (.ireturn, 1) := by decide +kernel
theorem dX12_cut_0 : decode cX12_cut 0 = .ok (.aload_n 0, 1) := by decide +kernel
theorem dX12_cut_1 : decode cX12_cut 1 = .ok (.iconst 0, 1) := by decide +kernel
theorem dX12_cut_2 : decode cX12_cut 2 = .ok (.putfield 89, 3) := by decide +kernel
theorem dX12_cut_5 : decode cX12_cut 5 = .ok (.iload_n 1, 1) := by decide +kernel
theorem dX12_cut_6 : decode cX12_cut 6 = .ok (.invokestatic 156, 3) := by decide +kernel
theorem dX12_cut_9 : decode cX12_cut 9 = .ok (.ifCond .ne 5, 3) := by decide +kernel
theorem dX12_cut_12 : decode cX12_cut 12 = .ok (.iconst (-1), 1) := by decide +kernel
theorem dX12_cut_13 : decode cX12_cut 13 = .ok (.ireturn, 1) := by decide +kernel
theorem dX12_cut_14 : decode cX12_cut 14 = .ok (.iconst 0, 1) := by decide +kernel
theorem dX12_cut_15 : decode cX12_cut 15 = .ok (.istore 6, 2) := by decide +kernel
theorem dX12_cut_17 : decode cX12_cut 17 = .ok (.iconst 0, 1) := by decide +kernel
theorem dX12_cut_18 : decode cX12_cut 18 = .ok (.istore 7, 2) := by decide +kernel
theorem dX12_cut_20 : decode cX12_cut 20 = .ok (.iload 7, 2) := by decide +kernel
theorem dX12_cut_22 : decode cX12_cut 22 = .ok (.sipush 1000, 3) := by decide +kernel
theorem dX12_cut_25 : decode cX12_cut 25 = .ok (.if_icmp .ge 103, 3) := by decide +kernel
theorem dX12_cut_28 : decode cX12_cut 28 = .ok (.iload_n 2, 1) := by decide +kernel
theorem dX12_cut_29 : decode cX12_cut 29 = .ok (.i2l, 1) := by decide +kernel
theorem dX12_cut_30 : decode cX12_cut 30 = .ok (.iconst 2, 1) := by decide +kernel
theorem dX12_cut_31 : decode cX12_cut 31 = .ok (.iload 7, 2) := by decide +kernel
theorem dX12_cut_33 : decode cX12_cut 33 = .ok (.bipush 100, 2) := by decide +kernel
theorem dX12_cut_35 : decode cX12_cut 35 = .ok (.idiv, 1) := by decide +kernel
theorem dX12_cut_36 : decode cX12_cut 36 = .ok (.imul, 1) := by decide +kernel
theorem dX12_cut_37 : decode cX12_cut 37 = .ok (.iconst 1, 1) := by decide +kernel
theorem dX12_cut_38 : decode cX12_cut 38 = .ok (.iadd, 1) := by decide +kernel
theorem dX12_cut_39 : decode cX12_cut 39 = .ok (.i2l, 1) := by decide +kernel
theorem dX12_cut_40 : decode cX12_cut 40 = .ok (.lmul, 1) := by decide +kernel
theorem dX12_cut_41 : decode cX12_cut 41 = .ok (.iload_n 3, 1) := by decide +kernel
theorem dX12_cut_42 : decode cX12_cut 42 = .ok (.i2l, 1) := by decide +kernel
theorem dX12_cut_43 : decode cX12_cut 43 = .ok (.iconst 2, 1) := by decide +kernel
theorem dX12_cut_44 : decode cX12_cut 44 = .ok (.iload 7, 2) := by decide +kernel
theorem dX12_cut_46 : decode cX12_cut 46 = .ok (.bipush 10, 2) := by decide +kernel
theorem dX12_cut_48 : decode cX12_cut 48 = .ok (.idiv, 1) := by decide +kernel
theorem dX12_cut_49 : decode cX12_cut 49 = .ok (.bipush 10, 2) := by decide +kernel
theorem dX12_cut_51 : decode cX12_cut 51 = .ok (.irem, 1) := by decide +kernel
theorem dX12_cut_52 : decode cX12_cut 52 = .ok (.imul, 1) := by decide +kernel
theorem dX12_cut_53 : decode cX12_cut 53 = .ok (.iconst 1, 1) := by decide +kernel
theorem dX12_cut_54 : decode cX12_cut 54 = .ok (.iadd, 1) := by decide +kernel
theorem dX12_cut_55 : decode cX12_cut 55 = .ok (.i2l, 1) := by decide +kernel
theorem dX12_cut_56 : decode cX12_cut 56 = .ok (.lmul, 1) := by decide +kernel
theorem dX12_cut_57 : decode cX12_cut 57 = .ok (.ladd, 1) := by decide +kernel
theorem dX12_cut_58 : decode cX12_cut 58 = .ok (.iload 4, 2) := by decide +kernel
theorem dX12_cut_60 : decode cX12_cut 60 = .ok (.i2l, 1) := by decide +kernel
theorem dX12_cut_61 : decode cX12_cut 61 = .ok (.iconst 2, 1) := by decide +kernel
theorem dX12_cut_62 : decode cX12_cut 62 = .ok (.iload 7, 2) := by decide +kernel
theorem dX12_cut_64 : decode cX12_cut 64 = .ok (.bipush 10, 2) := by decide +kernel
theorem dX12_cut_66 : decode cX12_cut 66 = .ok (.irem, 1) := by decide +kernel
theorem dX12_cut_67 : decode cX12_cut 67 = .ok (.imul, 1) := by decide +kernel
theorem dX12_cut_68 : decode cX12_cut 68 = .ok (.iconst 1, 1) := by decide +kernel
theorem dX12_cut_69 : decode cX12_cut 69 = .ok (.iadd, 1) := by decide +kernel
theorem dX12_cut_70 : decode cX12_cut 70 = .ok (.i2l, 1) := by decide +kernel
theorem dX12_cut_71 : decode cX12_cut 71 = .ok (.lmul, 1) := by decide +kernel
theorem dX12_cut_72 : decode cX12_cut 72 = .ok (.ladd, 1) := by decide +kernel
theorem dX12_cut_73 : decode cX12_cut 73 = .ok (.lstore 8, 2) := by decide +kernel
theorem dX12_cut_75 : decode cX12_cut 75 = .ok (.aload_n 0, 1) := by decide +kernel
theorem dX12_cut_76 : decode cX12_cut 76 = .ok (.iload 7, 2) := by decide +kernel
theorem dX12_cut_78 : decode cX12_cut 78 = .ok (.invokevirtual 183, 3) := by decide +kernel
theorem dX12_cut_81 : decode cX12_cut 81 = .ok (.ifCond .eq 41, 3) := by decide +kernel
theorem dX12_cut_84 : decode cX12_cut 84 = .ok (.aload_n 0, 1) := by decide +kernel
theorem dX12_cut_85 : decode cX12_cut 85 = .ok (.iload_n 1, 1) := by decide +kernel
theorem dX12_cut_86 : decode cX12_cut 86 = .ok (.iload 7, 2) := by decide +kernel
theorem dX12_cut_88 : decode cX12_cut 88 = .ok (.invokevirtual 186, 3) := by decide +kernel
theorem dX12_cut_91 : decode cX12_cut 91 = .ok (.ifCond .le 31, 3) := by decide +kernel
theorem dX12_cut_94 : decode cX12_cut 94 = .ok (.lload 8, 2) := by decide +kernel
theorem dX12_cut_96 : decode cX12_cut 96 = .ok (.ldc2_w 210, 3) := by decide +kernel
theorem dX12_cut_99 : decode cX12_cut 99 = .ok (.iload 5, 2) := by decide +kernel
theorem dX12_cut_101 : decode cX12_cut 101 = .ok (.i2l, 1) := by decide +kernel
theorem dX12_cut_102 : decode cX12_cut 102 = .ok (.lmul, 1) := by decide +kernel
theorem dX12_cut_103 : decode cX12_cut 103 = .ok (.lcmp, 1) := by decide +kernel
theorem dX12_cut_104 : decode cX12_cut 104 = .ok (.ifCond .le 18, 3) := by decide +kernel
theorem dX12_cut_107 : decode cX12_cut 107 = .ok (.aload_n 0, 1) := by decide +kernel
theorem dX12_cut_108 : decode cX12_cut 108 = .ok (.iload_n 1, 1) := by decide +kernel
theorem dX12_cut_109 : decode cX12_cut 109 = .ok (.iload 7, 2) := by decide +kernel
theorem dX12_cut_111 : decode cX12_cut 111 = .ok (.iconst 0, 1) := by decide +kernel
theorem dX12_cut_112 : decode cX12_cut 112 = .ok (.iconst 0, 1) := by decide +kernel
theorem dX12_cut_113 : decode cX12_cut 113 = .ok (.invokevirtual 189, 3) := by decide +kernel
theorem dX12_cut_116 : decode cX12_cut 116 = .ok (.ifCond .eq 6, 3) := by decide +kernel
theorem dX12_cut_119 : decode cX12_cut 119 = .ok (.iinc 6 1, 3) := by decide +kernel
theorem dX12_cut_122 : decode cX12_cut 122 = .ok (.iinc 7 1, 3) := by decide +kernel
theorem dX12_cut_125 : decode cX12_cut 125 = .ok (.goto (-105), 3) := by decide +kernel
theorem dX12_cut_128 : decode cX12_cut 128 = .ok (.iload 6, 2) := by decide +kernel
theorem dX12_cut_130 : decode cX12_cut 130 = .ok (.ireturn, 1) := by decide +kernel
theorem dX12_findParts_0 : decode cX12_findParts 0 = .ok (.aload_n 0, 1) := by decide +kernel
theorem dX12_findParts_1 : decode cX12_findParts 1 = .ok (.iconst 0, 1) := by decide +kernel
theorem dX12_findParts_2 : decode cX12_findParts 2 = .ok (.putfield 212, 3) := by decide +kernel
theorem dX12_findParts_5 : decode cX12_findParts 5 = .ok (.iconst 0, 1) := by decide +kernel
theorem dX12_findParts_6 : decode cX12_findParts 6 = .ok (.istore_n 2, 1) := by decide +kernel
theorem dX12_findParts_7 : decode cX12_findParts 7 = .ok (.iload_n 2, 1) := by decide +kernel
theorem dX12_findParts_8 : decode cX12_findParts 8 = .ok (.sipush 1000, 3) := by decide +kernel
theorem dX12_findParts_11 : decode cX12_findParts 11 = .ok (.if_icmp .ge 16, 3) := by decide +kernel
theorem dX12_findParts_14 : decode cX12_findParts 14 = .ok (.aload_n 0, 1) := by decide +kernel
theorem dX12_findParts_15 : decode cX12_findParts 15 = .ok (.getfield 65, 3) := by decide +kernel
theorem dX12_findParts_18 : decode cX12_findParts 18 = .ok (.iload_n 2, 1) := by decide +kernel
theorem dX12_findParts_19 : decode cX12_findParts 19 = .ok (.iconst (-1), 1) := by decide +kernel
theorem dX12_findParts_20 : decode cX12_findParts 20 = .ok (.iastore, 1) := by decide +kernel
theorem dX12_findParts_21 : decode cX12_findParts 21 = .ok (.iinc 2 1, 3) := by decide +kernel
theorem dX12_findParts_24 : decode cX12_findParts 24 = .ok (.goto (-17), 3) := by decide +kernel
theorem dX12_findParts_27 : decode cX12_findParts 27 = .ok (.iconst 0, 1) := by decide +kernel
theorem dX12_findParts_28 : decode cX12_findParts 28 = .ok (.istore_n 2, 1) := by decide +kernel
theorem dX12_findParts_29 : decode cX12_findParts 29 = .ok (.iload_n 2, 1) := by decide +kernel
theorem dX12_findParts_30 : decode cX12_findParts 30 = .ok (.sipush 1000, 3) := by decide +kernel
theorem dX12_findParts_33 : decode cX12_findParts 33 = .ok (.if_icmp .ge 167, 3) := by decide +kernel
theorem dX12_findParts_36 : decode cX12_findParts 36 = .ok (.aload_n 0, 1) := by decide +kernel
theorem dX12_findParts_37 : decode cX12_findParts 37 = .ok (.getfield 65, 3) := by decide +kernel
theorem dX12_findParts_40 : decode cX12_findParts 40 = .ok (.iload_n 2, 1) := by decide +kernel
theorem dX12_findParts_41 : decode cX12_findParts 41 = .ok (.iaload, 1) := by decide +kernel
theorem dX12_findParts_42 : decode cX12_findParts 42 = .ok (.iconst (-1), 1) := by decide +kernel
theorem dX12_findParts_43 : decode cX12_findParts 43 = .ok (.if_icmp .ne 151, 3) := by decide +kernel
theorem dX12_findParts_46 : decode cX12_findParts 46 = .ok (.aload_n 0, 1) := by decide +kernel
theorem dX12_findParts_47 : decode cX12_findParts 47 = .ok (.iload_n 1, 1) := by decide +kernel
theorem dX12_findParts_48 : decode cX12_findParts 48 = .ok (.iload_n 2, 1) := by decide +kernel
theorem dX12_findParts_49 : decode cX12_findParts 49 = .ok (.invokevirtual 186, 3) := by decide +kernel
theorem dX12_findParts_52 : decode cX12_findParts 52 = .ok (.ifCond .gt 6, 3) := by decide +kernel
theorem dX12_findParts_55 : decode cX12_findParts 55 = .ok (.goto 139, 3) := by decide +kernel
theorem dX12_findParts_58 : decode cX12_findParts 58 = .ok (.iconst 1, 1) := by decide +kernel
theorem dX12_findParts_59 : decode cX12_findParts 59 = .ok (.istore_n 3, 1) := by decide +kernel
theorem dX12_findParts_60 : decode cX12_findParts 60 = .ok (.aload_n 0, 1) := by decide +kernel
theorem dX12_findParts_61 : decode cX12_findParts 61 = .ok (.getfield 71, 3) := by decide +kernel
theorem dX12_findParts_64 : decode cX12_findParts 64 = .ok (.iconst 0, 1) := by decide +kernel
theorem dX12_findParts_65 : decode cX12_findParts 65 = .ok (.iload_n 2, 1) := by decide +kernel
theorem dX12_findParts_66 : decode cX12_findParts 66 = .ok (.iastore, 1) := by decide +kernel
theorem dX12_findParts_67 : decode cX12_findParts 67 = .ok (.aload_n 0, 1) := by decide +kernel
theorem dX12_findParts_68 : decode cX12_findParts 68 = .ok (.getfield 65, 3) := by decide +kernel
theorem dX12_findParts_71 : decode cX12_findParts 71 = .ok (.iload_n 2, 1) := by decide +kernel
theorem dX12_findParts_72 : decode cX12_findParts 72 = .ok (.aload_n 0, 1) := by decide +kernel
theorem dX12_findParts_73 : decode cX12_findParts 73 = .ok (.getfield 212, 3) := by decide +kernel
theorem dX12_findParts_76 : decode cX12_findParts 76 = .ok (.iastore, 1) := by decide +kernel
theorem dX12_findParts_77 : decode cX12_findParts 77 = .ok (.iconst 0, 1) := by decide +kernel
theorem dX12_findParts_78 : decode cX12_findParts 78 = .ok (.istore 4, 2) := by decide +kernel
theorem dX12_findParts_80 : decode cX12_findParts 80 = .ok (.iload 4, 2) := by decide +kernel
theorem dX12_findParts_82 : decode cX12_findParts 82 = .ok (.iload_n 3, 1) := by decide +kernel
theorem dX12_findParts_83 : decode cX12_findParts 83 = .ok (.if_icmp .ge 91, 3) := by decide +kernel
theorem dX12_findParts_86 : decode cX12_findParts 86 = .ok (.iconst 0, 1) := by decide +kernel
theorem dX12_findParts_87 : decode cX12_findParts 87 = .ok (.istore 5, 2) := by decide +kernel
theorem dX12_findParts_89 : decode cX12_findParts 89 = .ok (.iload 5, 2) := by decide +kernel
theorem dX12_findParts_91 : decode cX12_findParts 91 = .ok (.bipush 6, 2) := by decide +kernel
theorem dX12_findParts_93 : decode cX12_findParts 93 = .ok (.if_icmp .ge 75, 3) := by decide +kernel
theorem dX12_findParts_96 : decode cX12_findParts 96 = .ok (.aload_n 0, 1) := by decide +kernel
theorem dX12_findParts_97 : decode cX12_findParts 97 = .ok (.getfield 71, 3) := by decide +kernel
theorem dX12_findParts_100 : decode cX12_findParts 100 = .ok (.iload 4, 2) := by decide +kernel
theorem dX12_findParts_102 : decode cX12_findParts 102 = .ok (.iaload, 1) := by decide +kernel
theorem dX12_findParts_103 : decode cX12_findParts 103 = .ok (.iload 5, 2) := by decide +kernel
theorem dX12_findParts_105 : decode cX12_findParts 105 = .ok (.invokestatic 196, 3) := by decide +kernel
theorem dX12_findParts_108 : decode cX12_findParts 108 = .ok (.istore 6, 2) := by decide +kernel
theorem dX12_findParts_110 : decode cX12_findParts 110 = .ok (.iload 6, 2) := by decide +kernel
theorem dX12_findParts_112 : decode cX12_findParts 112 = .ok (.iconst (-1), 1) := by decide +kernel
theorem dX12_findParts_113 : decode cX12_findParts 113 = .ok (.if_icmp .eq 49, 3) := by decide +kernel
theorem dX12_findParts_116 : decode cX12_findParts 116 = .ok (.aload_n 0, 1) := by decide +kernel
theorem dX12_findParts_117 : decode cX12_findParts 117 = .ok (.getfield 65, 3) := by decide +kernel
theorem dX12_findParts_120 : decode cX12_findParts 120 = .ok (.iload 6, 2) := by decide +kernel
theorem dX12_findParts_122 : decode cX12_findParts 122 = .ok (.iaload, 1) := by decide +kernel
theorem dX12_findParts_123 : decode cX12_findParts 123 = .ok (.iconst (-1), 1) := by decide +kernel
theorem dX12_findParts_124 : decode cX12_findParts 124 = .ok (.if_icmp .ne 38, 3) := by decide +kernel
theorem dX12_findParts_127 : decode cX12_findParts 127 = .ok (.aload_n 0, 1) := by decide +kernel
theorem dX12_findParts_128 : decode cX12_findParts 128 = .ok (.iload_n 1, 1) := by decide +kernel
theorem dX12_findParts_129 : decode cX12_findParts 129 = .ok (.iload 6, 2) := by decide +kernel
theorem dX12_findParts_131 : decode cX12_findParts 131 = .ok (.invokevirtual 186, 3) := by decide +kernel
theorem dX12_findParts_134 : decode cX12_findParts 134 = .ok (.ifCond .gt 6, 3) := by decide +kernel
theorem dX12_findParts_137 : decode cX12_findParts 137 = .ok (.goto 25, 3) := by decide +kernel
theorem dX12_findParts_140 : decode cX12_findParts 140 = .ok (.aload_n 0, 1) := by decide +kernel
theorem dX12_findParts_141 : decode cX12_findParts 141 = .ok (.getfield 65, 3) := by decide +kernel
theorem dX12_findParts_144 : decode cX12_findParts 144 = .ok (.iload 6, 2) := by decide +kernel
theorem dX12_findParts_146 : decode cX12_findParts 146 = .ok (.aload_n 0, 1) := by decide +kernel
theorem dX12_findParts_147 : decode cX12_findParts 147 = .ok (.getfield 212, 3) := by decide +kernel
theorem dX12_findParts_150 : decode cX12_findParts 150 = .ok (.iastore, 1) := by decide +kernel
theorem dX12_findParts_151 : decode cX12_findParts 151 = .ok (.aload_n 0, 1) := by decide +kernel
theorem dX12_findParts_152 : decode cX12_findParts 152 = .ok (.getfield 71, 3) := by decide +kernel
theorem dX12_findParts_155 : decode cX12_findParts 155 = .ok (.iload_n 3, 1) := by decide +kernel
theorem dX12_findParts_156 : decode cX12_findParts 156 = .ok (.iload 6, 2) := by decide +kernel
theorem dX12_findParts_158 : decode cX12_findParts 158 = .ok (.iastore, 1) := by decide +kernel
theorem dX12_findParts_159 : decode cX12_findParts 159 = .ok (.iinc 3 1, 3) := by decide +kernel
theorem dX12_findParts_162 : decode cX12_findParts 162 = .ok (.iinc 5 1, 3) := by decide +kernel
theorem dX12_findParts_165 : decode cX12_findParts 165 = .ok (.goto (-76), 3) := by decide +kernel
theorem dX12_findParts_168 : decode cX12_findParts 168 = .ok (.iinc 4 1, 3) := by decide +kernel
theorem dX12_findParts_171 : decode cX12_findParts 171 = .ok (.goto (-91), 3) := by decide +kernel
theorem dX12_findParts_174 : decode cX12_findParts 174 = .ok (.aload_n 0, 1) := by decide +kernel
theorem dX12_findParts_175 : decode cX12_findParts 175 = .ok (.getfield 68, 3) := by decide +kernel
theorem dX12_findParts_178 : decode cX12_findParts 178 = .ok (.aload_n 0, 1) := by decide +kernel
theorem dX12_findParts_179 : decode cX12_findParts 179 = .ok (.getfield 212, 3) := by decide +kernel
theorem dX12_findParts_182 : decode cX12_findParts 182 = .ok (.iload_n 2, 1) := by decide +kernel
theorem dX12_findParts_183 : decode cX12_findParts 183 = .ok (.iastore, 1) := by decide +kernel
theorem dX12_findParts_184 : decode cX12_findParts 184 = .ok (.aload_n 0, 1) := by decide +kernel
theorem dX12_findParts_185 : decode cX12_findParts 185 = .ok (.dup, 1) := by decide +kernel
theorem dX12_findParts_186 : decode cX12_findParts 186 = .ok (.getfield 212, 3) := by decide +kernel
theorem dX12_findParts_189 : decode cX12_findParts 189 = .ok (.iconst 1, 1) := by decide +kernel
theorem dX12_findParts_190 : decode cX12_findParts 190 = .ok (.iadd, 1) := by decide +kernel
theorem dX12_findParts_191 : decode cX12_findParts 191 = .ok (.putfield 212, 3) := by decide +kernel
theorem dX12_findParts_194 : decode cX12_findParts 194 = .ok (.iinc 2 1, 3) := by decide +kernel
theorem dX12_findParts_197 : decode cX12_findParts 197 = .ok (.goto (-168), 3) := by decide +kernel
theorem dX12_findParts_200 : decode cX12_findParts 200 = .ok (.return_, 1) := by decide +kernel
theorem dX12_isLoose_0 : decode cX12_isLoose 0 = .ok (.iconst 0, 1) := by decide +kernel
theorem dX12_isLoose_1 : decode cX12_isLoose 1 = .ok (.istore_n 3, 1) := by decide +kernel
theorem dX12_isLoose_2 : decode cX12_isLoose 2 = .ok (.iload_n 3, 1) := by decide +kernel
theorem dX12_isLoose_3 : decode cX12_isLoose 3 = .ok (.sipush 1000, 3) := by decide +kernel
theorem dX12_isLoose_6 : decode cX12_isLoose 6 = .ok (.if_icmp .ge 41, 3) := by decide +kernel
theorem dX12_isLoose_9 : decode cX12_isLoose 9 = .ok (.aload_n 0, 1) := by decide +kernel
theorem dX12_isLoose_10 : decode cX12_isLoose 10 = .ok (.getfield 65, 3) := by decide +kernel
theorem dX12_isLoose_13 : decode cX12_isLoose 13 = .ok (.iload_n 3, 1) := by decide +kernel
theorem dX12_isLoose_14 : decode cX12_isLoose 14 = .ok (.iaload, 1) := by decide +kernel
theorem dX12_isLoose_15 : decode cX12_isLoose 15 = .ok (.iload_n 2, 1) := by decide +kernel
theorem dX12_isLoose_16 : decode cX12_isLoose 16 = .ok (.if_icmp .ne 25, 3) := by decide +kernel
theorem dX12_isLoose_19 : decode cX12_isLoose 19 = .ok (.iload_n 3, 1) := by decide +kernel
theorem dX12_isLoose_20 : decode cX12_isLoose 20 = .ok (.bipush 100, 2) := by decide +kernel
theorem dX12_isLoose_22 : decode cX12_isLoose 22 = .ok (.if_icmp .lt 17, 3) := by decide +kernel
theorem dX12_isLoose_25 : decode cX12_isLoose 25 = .ok (.aload_n 0, 1) := by decide +kernel
theorem dX12_isLoose_26 : decode cX12_isLoose 26 = .ok (.getfield 22, 3) := by decide +kernel
theorem dX12_isLoose_29 : decode cX12_isLoose 29 = .ok (.aload_n 0, 1) := by decide +kernel
theorem dX12_isLoose_30 : decode cX12_isLoose 30 = .ok (.iload_n 1, 1) := by decide +kernel
theorem dX12_isLoose_31 : decode cX12_isLoose 31 = .ok (.iload_n 3, 1) := by decide +kernel
theorem dX12_isLoose_32 : decode cX12_isLoose 32 = .ok (.invokevirtual 186, 3) := by decide +kernel
theorem dX12_isLoose_35 : decode cX12_isLoose 35 = .ok (.baload, 1) := by decide +kernel
theorem dX12_isLoose_36 : decode cX12_isLoose 36 = .ok (.ifCond .eq 5, 3) := by decide +kernel
theorem dX12_isLoose_39 : decode cX12_isLoose 39 = .ok (.iconst 0, 1) := by decide +kernel
theorem dX12_isLoose_40 : decode cX12_isLoose 40 = .ok (.ireturn, 1) := by decide +kernel
theorem dX12_isLoose_41 : decode cX12_isLoose 41 = .ok (.iinc 3 1, 3) := by decide +kernel
theorem dX12_isLoose_44 : decode cX12_isLoose 44 = .ok (.goto (-42), 3) := by decide +kernel
theorem dX12_isLoose_47 : decode cX12_isLoose 47 = .ok (.iconst 1, 1) := by decide +kernel
theorem dX12_isLoose_48 : decode cX12_isLoose 48 = .ok (.ireturn, 1) := by decide +kernel
theorem dX12_falls_0 : decode cX12_falls 0 = .ok (.iconst 0, 1) := by decide +kernel
theorem dX12_falls_1 : decode cX12_falls 1 = .ok (.istore_n 3, 1) := by decide +kernel
theorem dX12_falls_2 : decode cX12_falls 2 = .ok (.iconst 1, 1) := by decide +kernel
theorem dX12_falls_3 : decode cX12_falls 3 = .ok (.istore 4, 2) := by decide +kernel
theorem dX12_falls_5 : decode cX12_falls 5 = .ok (.iload 4, 2) := by decide +kernel
theorem dX12_falls_7 : decode cX12_falls 7 = .ok (.ifCond .eq 99, 3) := by decide +kernel
theorem dX12_falls_10 : decode cX12_falls 10 = .ok (.iconst 0, 1) := by decide +kernel
theorem dX12_falls_11 : decode cX12_falls 11 = .ok (.istore 5, 2) := by decide +kernel
theorem dX12_falls_13 : decode cX12_falls 13 = .ok (.iload 5, 2) := by decide +kernel
theorem dX12_falls_15 : decode cX12_falls 15 = .ok (.sipush 1000, 3) := by decide +kernel
theorem dX12_falls_18 : decode cX12_falls 18 = .ok (.if_icmp .ge 72, 3) := by decide +kernel
theorem dX12_falls_21 : decode cX12_falls 21 = .ok (.iload 4, 2) := by decide +kernel
theorem dX12_falls_23 : decode cX12_falls 23 = .ok (.ifCond .eq 67, 3) := by decide +kernel
theorem dX12_falls_26 : decode cX12_falls 26 = .ok (.aload_n 0, 1) := by decide +kernel
theorem dX12_falls_27 : decode cX12_falls 27 = .ok (.getfield 65, 3) := by decide +kernel
theorem dX12_falls_30 : decode cX12_falls 30 = .ok (.iload 5, 2) := by decide +kernel
theorem dX12_falls_32 : decode cX12_falls 32 = .ok (.iaload, 1) := by decide +kernel
theorem dX12_falls_33 : decode cX12_falls 33 = .ok (.iload_n 2, 1) := by decide +kernel
theorem dX12_falls_34 : decode cX12_falls 34 = .ok (.if_icmp .eq 6, 3) := by decide +kernel
theorem dX12_falls_37 : decode cX12_falls 37 = .ok (.goto 47, 3) := by decide +kernel
theorem dX12_falls_40 : decode cX12_falls 40 = .ok (.iload 5, 2) := by decide +kernel
theorem dX12_falls_42 : decode cX12_falls 42 = .ok (.bipush 100, 2) := by decide +kernel
theorem dX12_falls_44 : decode cX12_falls 44 = .ok (.iload_n 3, 1) := by decide +kernel
theorem dX12_falls_45 : decode cX12_falls 45 = .ok (.iconst 1, 1) := by decide +kernel
theorem dX12_falls_46 : decode cX12_falls 46 = .ok (.iadd, 1) := by decide +kernel
theorem dX12_falls_47 : decode cX12_falls 47 = .ok (.imul, 1) := by decide +kernel
theorem dX12_falls_48 : decode cX12_falls 48 = .ok (.isub, 1) := by decide +kernel
theorem dX12_falls_49 : decode cX12_falls 49 = .ok (.istore 6, 2) := by decide +kernel
theorem dX12_falls_51 : decode cX12_falls 51 = .ok (.iload 6, 2) := by decide +kernel
theorem dX12_falls_53 : decode cX12_falls 53 = .ok (.ifCond .lt 28, 3) := by decide +kernel
theorem dX12_falls_56 : decode cX12_falls 56 = .ok (.aload_n 0, 1) := by decide +kernel
theorem dX12_falls_57 : decode cX12_falls 57 = .ok (.iload_n 1, 1) := by decide +kernel
theorem dX12_falls_58 : decode cX12_falls 58 = .ok (.iload 6, 2) := by decide +kernel
theorem dX12_falls_60 : decode cX12_falls 60 = .ok (.invokevirtual 186, 3) := by decide +kernel
theorem dX12_falls_63 : decode cX12_falls 63 = .ok (.ifCond .eq 14, 3) := by decide +kernel
theorem dX12_falls_66 : decode cX12_falls 66 = .ok (.aload_n 0, 1) := by decide +kernel
theorem dX12_falls_67 : decode cX12_falls 67 = .ok (.getfield 65, 3) := by decide +kernel
theorem dX12_falls_70 : decode cX12_falls 70 = .ok (.iload 6, 2) := by decide +kernel
theorem dX12_falls_72 : decode cX12_falls 72 = .ok (.iaload, 1) := by decide +kernel
theorem dX12_falls_73 : decode cX12_falls 73 = .ok (.iload_n 2, 1) := by decide +kernel
theorem dX12_falls_74 : decode cX12_falls 74 = .ok (.if_icmp .ne 7, 3) := by decide +kernel
theorem dX12_falls_77 : decode cX12_falls 77 = .ok (.iconst 1, 1) := by decide +kernel
theorem dX12_falls_78 : decode cX12_falls 78 = .ok (.goto 4, 3) := by decide +kernel
theorem dX12_falls_81 : decode cX12_falls 81 = .ok (.iconst 0, 1) := by decide +kernel
theorem dX12_falls_82 : decode cX12_falls 82 = .ok (.istore 4, 2) := by decide +kernel
theorem dX12_falls_84 : decode cX12_falls 84 = .ok (.iinc 5 1, 3) := by decide +kernel
theorem dX12_falls_87 : decode cX12_falls 87 = .ok (.goto (-74), 3) := by decide +kernel
theorem dX12_falls_90 : decode cX12_falls 90 = .ok (.iload_n 3, 1) := by decide +kernel
theorem dX12_falls_91 : decode cX12_falls 91 = .ok (.iload 4, 2) := by decide +kernel
theorem dX12_falls_93 : decode cX12_falls 93 = .ok (.ifCond .eq 7, 3) := by decide +kernel
theorem dX12_falls_96 : decode cX12_falls 96 = .ok (.iconst 1, 1) := by decide +kernel
theorem dX12_falls_97 : decode cX12_falls 97 = .ok (.goto 4, 3) := by decide +kernel
theorem dX12_falls_100 : decode cX12_falls 100 = .ok (.iconst 0, 1) := by decide +kernel
theorem dX12_falls_101 : decode cX12_falls 101 = .ok (.iadd, 1) := by decide +kernel
theorem dX12_falls_102 : decode cX12_falls 102 = .ok (.istore_n 3, 1) := by decide +kernel
theorem dX12_falls_103 : decode cX12_falls 103 = .ok (.goto (-98), 3) := by decide +kernel
theorem dX12_falls_106 : decode cX12_falls 106 = .ok (.iload_n 3, 1) := by decide +kernel
theorem dX12_falls_107 : decode cX12_falls 107 = .ok (.ireturn, 1) := by decide +kernel
theorem dX12_parts_0 : decode cX12_parts 0 = .ok (.aload_n 0, 1) := by decide +kernel
theorem dX12_parts_1 : decode cX12_parts 1 = .ok (.iconst 0, 1) := by decide +kernel
theorem dX12_parts_2 : decode cX12_parts 2 = .ok (.putfield 89, 3) := by decide +kernel
theorem dX12_parts_5 : decode cX12_parts 5 = .ok (.iload_n 1, 1) := by decide +kernel
theorem dX12_parts_6 : decode cX12_parts 6 = .ok (.invokestatic 156, 3) := by decide +kernel
theorem dX12_parts_9 : decode cX12_parts 9 = .ok (.ifCond .ne 5, 3) := by decide +kernel
theorem dX12_parts_12 : decode cX12_parts 12 = .ok (.iconst (-1), 1) := by decide +kernel
theorem dX12_parts_13 : decode cX12_parts 13 = .ok (.ireturn, 1) := by decide +kernel
theorem dX12_parts_14 : decode cX12_parts 14 = .ok (.aload_n 0, 1) := by decide +kernel
theorem dX12_parts_15 : decode cX12_parts 15 = .ok (.iload_n 1, 1) := by decide +kernel
theorem dX12_parts_16 : decode cX12_parts 16 = .ok (.invokevirtual 215, 3) := by decide +kernel
theorem dX12_parts_19 : decode cX12_parts 19 = .ok (.aload_n 0, 1) := by decide +kernel
theorem dX12_parts_20 : decode cX12_parts 20 = .ok (.getfield 212, 3) := by decide +kernel
theorem dX12_parts_23 : decode cX12_parts 23 = .ok (.ireturn, 1) := by decide +kernel
theorem dX12_part_0 : decode cX12_part 0 = .ok (.aload_n 0, 1) := by decide +kernel
theorem dX12_part_1 : decode cX12_part 1 = .ok (.iconst 0, 1) := by decide +kernel
theorem dX12_part_2 : decode cX12_part 2 = .ok (.putfield 89, 3) := by decide +kernel
theorem dX12_part_5 : decode cX12_part 5 = .ok (.iload_n 1, 1) := by decide +kernel
theorem dX12_part_6 : decode cX12_part 6 = .ok (.invokestatic 156, 3) := by decide +kernel
theorem dX12_part_9 : decode cX12_part 9 = .ok (.ifCond .eq 15, 3) := by decide +kernel
theorem dX12_part_12 : decode cX12_part 12 = .ok (.aload_n 0, 1) := by decide +kernel
theorem dX12_part_13 : decode cX12_part 13 = .ok (.iload_n 1, 1) := by decide +kernel
theorem dX12_part_14 : decode cX12_part 14 = .ok (.iload_n 2, 1) := by decide +kernel
theorem dX12_part_15 : decode cX12_part 15 = .ok (.iload_n 3, 1) := by decide +kernel
theorem dX12_part_16 : decode cX12_part 16 = .ok (.iload 4, 2) := by decide +kernel
theorem dX12_part_18 : decode cX12_part 18 = .ok (.invokevirtual 169, 3) := by decide +kernel
theorem dX12_part_21 : decode cX12_part 21 = .ok (.ifCond .gt 5, 3) := by decide +kernel
theorem dX12_part_24 : decode cX12_part 24 = .ok (.iconst (-1), 1) := by decide +kernel
theorem dX12_part_25 : decode cX12_part 25 = .ok (.ireturn, 1) := by decide +kernel
theorem dX12_part_26 : decode cX12_part 26 = .ok (.aload_n 0, 1) := by decide +kernel
theorem dX12_part_27 : decode cX12_part 27 = .ok (.iload_n 1, 1) := by decide +kernel
theorem dX12_part_28 : decode cX12_part 28 = .ok (.invokevirtual 215, 3) := by decide +kernel
theorem dX12_part_31 : decode cX12_part 31 = .ok (.aload_n 0, 1) := by decide +kernel
theorem dX12_part_32 : decode cX12_part 32 = .ok (.getfield 65, 3) := by decide +kernel
theorem dX12_part_35 : decode cX12_part 35 = .ok (.bipush 100, 2) := by decide +kernel
theorem dX12_part_37 : decode cX12_part 37 = .ok (.iload_n 2, 1) := by decide +kernel
theorem dX12_part_38 : decode cX12_part 38 = .ok (.imul, 1) := by decide +kernel
theorem dX12_part_39 : decode cX12_part 39 = .ok (.bipush 10, 2) := by decide +kernel
theorem dX12_part_41 : decode cX12_part 41 = .ok (.iload_n 3, 1) := by decide +kernel
theorem dX12_part_42 : decode cX12_part 42 = .ok (.imul, 1) := by decide +kernel
theorem dX12_part_43 : decode cX12_part 43 = .ok (.iadd, 1) := by decide +kernel
theorem dX12_part_44 : decode cX12_part 44 = .ok (.iload 4, 2) := by decide +kernel
theorem dX12_part_46 : decode cX12_part 46 = .ok (.iadd, 1) := by decide +kernel
theorem dX12_part_47 : decode cX12_part 47 = .ok (.iaload, 1) := by decide +kernel
theorem dX12_part_48 : decode cX12_part 48 = .ok (.ireturn, 1) := by decide +kernel
theorem dX12_partOf_0 : decode cX12_partOf 0 = .ok (.aload_n 0, 1) := by decide +kernel
theorem dX12_partOf_1 : decode cX12_partOf 1 = .ok (.iconst 0, 1) := by decide +kernel
theorem dX12_partOf_2 : decode cX12_partOf 2 = .ok (.putfield 89, 3) := by decide +kernel
theorem dX12_partOf_5 : decode cX12_partOf 5 = .ok (.iload_n 1, 1) := by decide +kernel
theorem dX12_partOf_6 : decode cX12_partOf 6 = .ok (.invokestatic 156, 3) := by decide +kernel
theorem dX12_partOf_9 : decode cX12_partOf 9 = .ok (.ifCond .ne 5, 3) := by decide +kernel
theorem dX12_partOf_12 : decode cX12_partOf 12 = .ok (.iconst (-1), 1) := by decide +kernel
theorem dX12_partOf_13 : decode cX12_partOf 13 = .ok (.ireturn, 1) := by decide +kernel
theorem dX12_partOf_14 : decode cX12_partOf 14 = .ok (.aload_n 0, 1) := by decide +kernel
theorem dX12_partOf_15 : decode cX12_partOf 15 = .ok (.iload_n 1, 1) := by decide +kernel
theorem dX12_partOf_16 : decode cX12_partOf 16 = .ok (.invokevirtual 215, 3) := by decide +kernel
theorem dX12_partOf_19 : decode cX12_partOf 19 = .ok (.iload_n 2, 1) := by decide +kernel
theorem dX12_partOf_20 : decode cX12_partOf 20 = .ok (.iconst 0, 1) := by decide +kernel
theorem dX12_partOf_21 : decode cX12_partOf 21 = .ok (.aload_n 0, 1) := by decide +kernel
theorem dX12_partOf_22 : decode cX12_partOf 22 = .ok (.getfield 212, 3) := by decide +kernel
theorem dX12_partOf_25 : decode cX12_partOf 25 = .ok (.iconst 1, 1) := by decide +kernel
theorem dX12_partOf_26 : decode cX12_partOf 26 = .ok (.isub, 1) := by decide +kernel
theorem dX12_partOf_27 : decode cX12_partOf 27 = .ok (.invokestatic 93, 3) := by decide +kernel
theorem dX12_partOf_30 : decode cX12_partOf 30 = .ok (.ifCond .ne 5, 3) := by decide +kernel
theorem dX12_partOf_33 : decode cX12_partOf 33 = .ok (.iconst (-1), 1) := by decide +kernel
theorem dX12_partOf_34 : decode cX12_partOf 34 = .ok (.ireturn, 1) := by decide +kernel
theorem dX12_partOf_35 : decode cX12_partOf 35 = .ok (.iconst 0, 1) := by decide +kernel
theorem dX12_partOf_36 : decode cX12_partOf 36 = .ok (.istore 4, 2) := by decide +kernel
theorem dX12_partOf_38 : decode cX12_partOf 38 = .ok (.iload_n 3, 1) := by decide +kernel
theorem dX12_partOf_39 : decode cX12_partOf 39 = .ok (.tableswitch 99 0 3 #[29, 70, 85, 92], 29) := by decide +kernel
theorem dX12_partOf_68 : decode cX12_partOf 68 = .ok (.iconst 0, 1) := by decide +kernel
theorem dX12_partOf_69 : decode cX12_partOf 69 = .ok (.istore 5, 2) := by decide +kernel
theorem dX12_partOf_71 : decode cX12_partOf 71 = .ok (.iload 5, 2) := by decide +kernel
theorem dX12_partOf_73 : decode cX12_partOf 73 = .ok (.sipush 1000, 3) := by decide +kernel
theorem dX12_partOf_76 : decode cX12_partOf 76 = .ok (.if_icmp .ge 30, 3) := by decide +kernel
theorem dX12_partOf_79 : decode cX12_partOf 79 = .ok (.iload 4, 2) := by decide +kernel
theorem dX12_partOf_81 : decode cX12_partOf 81 = .ok (.aload_n 0, 1) := by decide +kernel
theorem dX12_partOf_82 : decode cX12_partOf 82 = .ok (.getfield 65, 3) := by decide +kernel
theorem dX12_partOf_85 : decode cX12_partOf 85 = .ok (.iload 5, 2) := by decide +kernel
theorem dX12_partOf_87 : decode cX12_partOf 87 = .ok (.iaload, 1) := by decide +kernel
theorem dX12_partOf_88 : decode cX12_partOf 88 = .ok (.iload_n 2, 1) := by decide +kernel
theorem dX12_partOf_89 : decode cX12_partOf 89 = .ok (.if_icmp .ne 7, 3) := by decide +kernel
theorem dX12_partOf_92 : decode cX12_partOf 92 = .ok (.iconst 1, 1) := by decide +kernel
theorem dX12_partOf_93 : decode cX12_partOf 93 = .ok (.goto 4, 3) := by decide +kernel
theorem dX12_partOf_96 : decode cX12_partOf 96 = .ok (.iconst 0, 1) := by decide +kernel
theorem dX12_partOf_97 : decode cX12_partOf 97 = .ok (.iadd, 1) := by decide +kernel
theorem dX12_partOf_98 : decode cX12_partOf 98 = .ok (.istore 4, 2) := by decide +kernel
theorem dX12_partOf_100 : decode cX12_partOf 100 = .ok (.iinc 5 1, 3) := by decide +kernel
theorem dX12_partOf_103 : decode cX12_partOf 103 = .ok (.goto (-32), 3) := by decide +kernel
theorem dX12_partOf_106 : decode cX12_partOf 106 = .ok (.iload 4, 2) := by decide +kernel
theorem dX12_partOf_108 : decode cX12_partOf 108 = .ok (.ireturn, 1) := by decide +kernel
theorem dX12_partOf_109 : decode cX12_partOf 109 = .ok (.aload_n 0, 1) := by decide +kernel
theorem dX12_partOf_110 : decode cX12_partOf 110 = .ok (.iload_n 1, 1) := by decide +kernel
theorem dX12_partOf_111 : decode cX12_partOf 111 = .ok (.iload_n 2, 1) := by decide +kernel
theorem dX12_partOf_112 : decode cX12_partOf 112 = .ok (.invokevirtual 218, 3) := by decide +kernel
theorem dX12_partOf_115 : decode cX12_partOf 115 = .ok (.ifCond .eq 7, 3) := by decide +kernel
theorem dX12_partOf_118 : decode cX12_partOf 118 = .ok (.iconst 1, 1) := by decide +kernel
theorem dX12_partOf_119 : decode cX12_partOf 119 = .ok (.goto 4, 3) := by decide +kernel
theorem dX12_partOf_122 : decode cX12_partOf 122 = .ok (.iconst 0, 1) := by decide +kernel
theorem dX12_partOf_123 : decode cX12_partOf 123 = .ok (.ireturn, 1) := by decide +kernel
theorem dX12_partOf_124 : decode cX12_partOf 124 = .ok (.aload_n 0, 1) := by decide +kernel
theorem dX12_partOf_125 : decode cX12_partOf 125 = .ok (.getfield 68, 3) := by decide +kernel
theorem dX12_partOf_128 : decode cX12_partOf 128 = .ok (.iload_n 2, 1) := by decide +kernel
theorem dX12_partOf_129 : decode cX12_partOf 129 = .ok (.iaload, 1) := by decide +kernel
theorem dX12_partOf_130 : decode cX12_partOf 130 = .ok (.ireturn, 1) := by decide +kernel
theorem dX12_partOf_131 : decode cX12_partOf 131 = .ok (.aload_n 0, 1) := by decide +kernel
theorem dX12_partOf_132 : decode cX12_partOf 132 = .ok (.iload_n 1, 1) := by decide +kernel
theorem dX12_partOf_133 : decode cX12_partOf 133 = .ok (.iload_n 2, 1) := by decide +kernel
theorem dX12_partOf_134 : decode cX12_partOf 134 = .ok (.invokevirtual 222, 3) := by decide +kernel
theorem dX12_partOf_137 : decode cX12_partOf 137 = .ok (.ireturn, 1) := by decide +kernel
theorem dX12_partOf_138 : decode cX12_partOf 138 = .ok (.iconst (-1), 1) := by decide +kernel
theorem dX12_partOf_139 : decode cX12_partOf 139 = .ok (.ireturn, 1) := by decide +kernel
theorem dX12_fall_0 : decode cX12_fall 0 = .ok (.aload_n 0, 1) := by decide +kernel
theorem dX12_fall_1 : decode cX12_fall 1 = .ok (.getfield 178, 3) := by decide +kernel
theorem dX12_fall_4 : decode cX12_fall 4 = .ok (.bipush 60, 2) := by decide +kernel
theorem dX12_fall_6 : decode cX12_fall 6 = .ok (.if_icmp .ge 28, 3) := by decide +kernel
theorem dX12_fall_9 : decode cX12_fall 9 = .ok (.aload_n 0, 1) := by decide +kernel
theorem dX12_fall_10 : decode cX12_fall 10 = .ok (.getfield 74, 3) := by decide +kernel
theorem dX12_fall_13 : decode cX12_fall 13 = .ok (.aload_n 0, 1) := by decide +kernel
theorem dX12_fall_14 : decode cX12_fall 14 = .ok (.getfield 178, 3) := by decide +kernel
theorem dX12_fall_17 : decode cX12_fall 17 = .ok (.aload_n 0, 1) := by decide +kernel
theorem dX12_fall_18 : decode cX12_fall 18 = .ok (.getfield 68, 3) := by decide +kernel
theorem dX12_fall_21 : decode cX12_fall 21 = .ok (.iload_n 2, 1) := by decide +kernel
theorem dX12_fall_22 : decode cX12_fall 22 = .ok (.iaload, 1) := by decide +kernel
theorem dX12_fall_23 : decode cX12_fall 23 = .ok (.iastore, 1) := by decide +kernel
theorem dX12_fall_24 : decode cX12_fall 24 = .ok (.aload_n 0, 1) := by decide +kernel
theorem dX12_fall_25 : decode cX12_fall 25 = .ok (.getfield 77, 3) := by decide +kernel
theorem dX12_fall_28 : decode cX12_fall 28 = .ok (.aload_n 0, 1) := by decide +kernel
theorem dX12_fall_29 : decode cX12_fall 29 = .ok (.getfield 178, 3) := by decide +kernel
theorem dX12_fall_32 : decode cX12_fall 32 = .ok (.iload_n 3, 1) := by decide +kernel
theorem dX12_fall_33 : decode cX12_fall 33 = .ok (.iastore, 1) := by decide +kernel
theorem dX12_fall_34 : decode cX12_fall 34 = .ok (.aload_n 0, 1) := by decide +kernel
theorem dX12_fall_35 : decode cX12_fall 35 = .ok (.dup, 1) := by decide +kernel
theorem dX12_fall_36 : decode cX12_fall 36 = .ok (.getfield 178, 3) := by decide +kernel
theorem dX12_fall_39 : decode cX12_fall 39 = .ok (.iconst 1, 1) := by decide +kernel
theorem dX12_fall_40 : decode cX12_fall 40 = .ok (.iadd, 1) := by decide +kernel
theorem dX12_fall_41 : decode cX12_fall 41 = .ok (.putfield 178, 3) := by decide +kernel
theorem dX12_fall_44 : decode cX12_fall 44 = .ok (.aload_n 0, 1) := by decide +kernel
theorem dX12_fall_45 : decode cX12_fall 45 = .ok (.iload_n 1, 1) := by decide +kernel
theorem dX12_fall_46 : decode cX12_fall 46 = .ok (.invokevirtual 203, 3) := by decide +kernel
theorem dX12_fall_49 : decode cX12_fall 49 = .ok (.iconst 0, 1) := by decide +kernel
theorem dX12_fall_50 : decode cX12_fall 50 = .ok (.istore 4, 2) := by decide +kernel
theorem dX12_fall_52 : decode cX12_fall 52 = .ok (.iload 4, 2) := by decide +kernel
theorem dX12_fall_54 : decode cX12_fall 54 = .ok (.sipush 1000, 3) := by decide +kernel
theorem dX12_fall_57 : decode cX12_fall 57 = .ok (.if_icmp .ge 31, 3) := by decide +kernel
theorem dX12_fall_60 : decode cX12_fall 60 = .ok (.aload_n 0, 1) := by decide +kernel
theorem dX12_fall_61 : decode cX12_fall 61 = .ok (.getfield 65, 3) := by decide +kernel
theorem dX12_fall_64 : decode cX12_fall 64 = .ok (.iload 4, 2) := by decide +kernel
theorem dX12_fall_66 : decode cX12_fall 66 = .ok (.iaload, 1) := by decide +kernel
theorem dX12_fall_67 : decode cX12_fall 67 = .ok (.iload_n 2, 1) := by decide +kernel
theorem dX12_fall_68 : decode cX12_fall 68 = .ok (.if_icmp .ne 14, 3) := by decide +kernel
theorem dX12_fall_71 : decode cX12_fall 71 = .ok (.aload_n 0, 1) := by decide +kernel
theorem dX12_fall_72 : decode cX12_fall 72 = .ok (.iload_n 1, 1) := by decide +kernel
theorem dX12_fall_73 : decode cX12_fall 73 = .ok (.iload 4, 2) := by decide +kernel
theorem dX12_fall_75 : decode cX12_fall 75 = .ok (.iconst 0, 1) := by decide +kernel
theorem dX12_fall_76 : decode cX12_fall 76 = .ok (.iconst 0, 1) := by decide +kernel
theorem dX12_fall_77 : decode cX12_fall 77 = .ok (.invokevirtual 189, 3) := by decide +kernel
theorem dX12_fall_80 : decode cX12_fall 80 = .ok (.istore 5, 2) := by decide +kernel
theorem dX12_fall_82 : decode cX12_fall 82 = .ok (.iinc 4 1, 3) := by decide +kernel
theorem dX12_fall_85 : decode cX12_fall 85 = .ok (.goto (-33), 3) := by decide +kernel
theorem dX12_fall_88 : decode cX12_fall 88 = .ok (.iconst 0, 1) := by decide +kernel
theorem dX12_fall_89 : decode cX12_fall 89 = .ok (.istore 4, 2) := by decide +kernel
theorem dX12_fall_91 : decode cX12_fall 91 = .ok (.iload 4, 2) := by decide +kernel
theorem dX12_fall_93 : decode cX12_fall 93 = .ok (.sipush 1000, 3) := by decide +kernel
theorem dX12_fall_96 : decode cX12_fall 96 = .ok (.if_icmp .ge 48, 3) := by decide +kernel
theorem dX12_fall_99 : decode cX12_fall 99 = .ok (.aload_n 0, 1) := by decide +kernel
theorem dX12_fall_100 : decode cX12_fall 100 = .ok (.getfield 65, 3) := by decide +kernel
theorem dX12_fall_103 : decode cX12_fall 103 = .ok (.iload 4, 2) := by decide +kernel
theorem dX12_fall_105 : decode cX12_fall 105 = .ok (.iaload, 1) := by decide +kernel
theorem dX12_fall_106 : decode cX12_fall 106 = .ok (.iload_n 2, 1) := by decide +kernel
theorem dX12_fall_107 : decode cX12_fall 107 = .ok (.if_icmp .ne 31, 3) := by decide +kernel
theorem dX12_fall_110 : decode cX12_fall 110 = .ok (.aload_n 0, 1) := by decide +kernel
theorem dX12_fall_111 : decode cX12_fall 111 = .ok (.iload_n 1, 1) := by decide +kernel
theorem dX12_fall_112 : decode cX12_fall 112 = .ok (.iload 4, 2) := by decide +kernel
theorem dX12_fall_114 : decode cX12_fall 114 = .ok (.bipush 100, 2) := by decide +kernel
theorem dX12_fall_116 : decode cX12_fall 116 = .ok (.iload_n 3, 1) := by decide +kernel
theorem dX12_fall_117 : decode cX12_fall 117 = .ok (.imul, 1) := by decide +kernel
theorem dX12_fall_118 : decode cX12_fall 118 = .ok (.isub, 1) := by decide +kernel
theorem dX12_fall_119 : decode cX12_fall 119 = .ok (.aload_n 0, 1) := by decide +kernel
theorem dX12_fall_120 : decode cX12_fall 120 = .ok (.getfield 56, 3) := by decide +kernel
theorem dX12_fall_123 : decode cX12_fall 123 = .ok (.iload 4, 2) := by decide +kernel
theorem dX12_fall_125 : decode cX12_fall 125 = .ok (.iaload, 1) := by decide +kernel
theorem dX12_fall_126 : decode cX12_fall 126 = .ok (.aload_n 0, 1) := by decide +kernel
theorem dX12_fall_127 : decode cX12_fall 127 = .ok (.getfield 59, 3) := by decide +kernel
theorem dX12_fall_130 : decode cX12_fall 130 = .ok (.iload 4, 2) := by decide +kernel
theorem dX12_fall_132 : decode cX12_fall 132 = .ok (.iaload, 1) := by decide +kernel
theorem dX12_fall_133 : decode cX12_fall 133 = .ok (.invokevirtual 189, 3) := by decide +kernel
theorem dX12_fall_136 : decode cX12_fall 136 = .ok (.istore 5, 2) := by decide +kernel
theorem dX12_fall_138 : decode cX12_fall 138 = .ok (.iinc 4 1, 3) := by decide +kernel
theorem dX12_fall_141 : decode cX12_fall 141 = .ok (.goto (-50), 3) := by decide +kernel
theorem dX12_fall_144 : decode cX12_fall 144 = .ok (.return_, 1) := by decide +kernel
theorem dX12_nextToFall_0 : decode cX12_nextToFall 0 = .ok (.iconst (-1), 1) := by decide +kernel
theorem dX12_nextToFall_1 : decode cX12_nextToFall 1 = .ok (.istore_n 2, 1) := by decide +kernel
theorem dX12_nextToFall_2 : decode cX12_nextToFall 2 = .ok (.iconst 0, 1) := by decide +kernel
theorem dX12_nextToFall_3 : decode cX12_nextToFall 3 = .ok (.istore_n 3, 1) := by decide +kernel
theorem dX12_nextToFall_4 : decode cX12_nextToFall 4 = .ok (.iload_n 3, 1) := by decide +kernel
theorem dX12_nextToFall_5 : decode cX12_nextToFall 5 = .ok (.aload_n 0, 1) := by decide +kernel
theorem dX12_nextToFall_6 : decode cX12_nextToFall 6 = .ok (.getfield 212, 3) := by decide +kernel
theorem dX12_nextToFall_9 : decode cX12_nextToFall 9 = .ok (.if_icmp .ge 58, 3) := by decide +kernel
theorem dX12_nextToFall_12 : decode cX12_nextToFall 12 = .ok (.iload_n 2, 1) := by decide +kernel
theorem dX12_nextToFall_13 : decode cX12_nextToFall 13 = .ok (.iconst (-1), 1) := by decide +kernel
theorem dX12_nextToFall_14 : decode cX12_nextToFall 14 = .ok (.if_icmp .eq 27, 3) := by decide +kernel
theorem dX12_nextToFall_17 : decode cX12_nextToFall 17 = .ok (.aload_n 0, 1) := by decide +kernel
theorem dX12_nextToFall_18 : decode cX12_nextToFall 18 = .ok (.getfield 68, 3) := by decide +kernel
theorem dX12_nextToFall_21 : decode cX12_nextToFall 21 = .ok (.iload_n 3, 1) := by decide +kernel
theorem dX12_nextToFall_22 : decode cX12_nextToFall 22 = .ok (.iaload, 1) := by decide +kernel
theorem dX12_nextToFall_23 : decode cX12_nextToFall 23 = .ok (.bipush 100, 2) := by decide +kernel
theorem dX12_nextToFall_25 : decode cX12_nextToFall 25 = .ok (.idiv, 1) := by decide +kernel
theorem dX12_nextToFall_26 : decode cX12_nextToFall 26 = .ok (.aload_n 0, 1) := by decide +kernel
theorem dX12_nextToFall_27 : decode cX12_nextToFall 27 = .ok (.getfield 68, 3) := by decide +kernel
theorem dX12_nextToFall_30 : decode cX12_nextToFall 30 = .ok (.iload_n 2, 1) := by decide +kernel
theorem dX12_nextToFall_31 : decode cX12_nextToFall 31 = .ok (.iaload, 1) := by decide +kernel
theorem dX12_nextToFall_32 : decode cX12_nextToFall 32 = .ok (.bipush 100, 2) := by decide +kernel
theorem dX12_nextToFall_34 : decode cX12_nextToFall 34 = .ok (.idiv, 1) := by decide +kernel
theorem dX12_nextToFall_35 : decode cX12_nextToFall 35 = .ok (.if_icmp .lt 6, 3) := by decide +kernel
theorem dX12_nextToFall_38 : decode cX12_nextToFall 38 = .ok (.goto 23, 3) := by decide +kernel
theorem dX12_nextToFall_41 : decode cX12_nextToFall 41 = .ok (.aload_n 0, 1) := by decide +kernel
theorem dX12_nextToFall_42 : decode cX12_nextToFall 42 = .ok (.iload_n 1, 1) := by decide +kernel
theorem dX12_nextToFall_43 : decode cX12_nextToFall 43 = .ok (.iload_n 3, 1) := by decide +kernel
theorem dX12_nextToFall_44 : decode cX12_nextToFall 44 = .ok (.invokevirtual 218, 3) := by decide +kernel
theorem dX12_nextToFall_47 : decode cX12_nextToFall 47 = .ok (.ifCond .eq 14, 3) := by decide +kernel
theorem dX12_nextToFall_50 : decode cX12_nextToFall 50 = .ok (.aload_n 0, 1) := by decide +kernel
theorem dX12_nextToFall_51 : decode cX12_nextToFall 51 = .ok (.iload_n 1, 1) := by decide +kernel
theorem dX12_nextToFall_52 : decode cX12_nextToFall 52 = .ok (.iload_n 3, 1) := by decide +kernel
theorem dX12_nextToFall_53 : decode cX12_nextToFall 53 = .ok (.invokevirtual 222, 3) := by decide +kernel
theorem dX12_nextToFall_56 : decode cX12_nextToFall 56 = .ok (.ifCond .le 5, 3) := by decide +kernel
theorem dX12_nextToFall_59 : decode cX12_nextToFall 59 = .ok (.iload_n 3, 1) := by decide +kernel
theorem dX12_nextToFall_60 : decode cX12_nextToFall 60 = .ok (.istore_n 2, 1) := by decide +kernel
theorem dX12_nextToFall_61 : decode cX12_nextToFall 61 = .ok (.iinc 3 1, 3) := by decide +kernel
theorem dX12_nextToFall_64 : decode cX12_nextToFall 64 = .ok (.goto (-60), 3) := by decide +kernel
theorem dX12_nextToFall_67 : decode cX12_nextToFall 67 = .ok (.iload_n 2, 1) := by decide +kernel
theorem dX12_nextToFall_68 : decode cX12_nextToFall 68 = .ok (.ireturn, 1) := by decide +kernel
theorem dX12_settle_0 : decode cX12_settle 0 = .ok (.aload_n 0, 1) := by decide +kernel
theorem dX12_settle_1 : decode cX12_settle 1 = .ok (.iconst 0, 1) := by decide +kernel
theorem dX12_settle_2 : decode cX12_settle 2 = .ok (.putfield 89, 3) := by decide +kernel
theorem dX12_settle_5 : decode cX12_settle 5 = .ok (.iload_n 1, 1) := by decide +kernel
theorem dX12_settle_6 : decode cX12_settle 6 = .ok (.invokestatic 156, 3) := by decide +kernel
theorem dX12_settle_9 : decode cX12_settle 9 = .ok (.ifCond .ne 5, 3) := by decide +kernel
theorem dX12_settle_12 : decode cX12_settle 12 = .ok (.iconst (-1), 1) := by decide +kernel
theorem dX12_settle_13 : decode cX12_settle 13 = .ok (.ireturn, 1) := by decide +kernel
theorem dX12_settle_14 : decode cX12_settle 14 = .ok (.aload_n 0, 1) := by decide +kernel
theorem dX12_settle_15 : decode cX12_settle 15 = .ok (.iconst 0, 1) := by decide +kernel
theorem dX12_settle_16 : decode cX12_settle 16 = .ok (.putfield 178, 3) := by decide +kernel
theorem dX12_settle_19 : decode cX12_settle 19 = .ok (.aload_n 0, 1) := by decide +kernel
theorem dX12_settle_20 : decode cX12_settle 20 = .ok (.iload_n 1, 1) := by decide +kernel
theorem dX12_settle_21 : decode cX12_settle 21 = .ok (.invokevirtual 215, 3) := by decide +kernel
theorem dX12_settle_24 : decode cX12_settle 24 = .ok (.aload_n 0, 1) := by decide +kernel
theorem dX12_settle_25 : decode cX12_settle 25 = .ok (.iload_n 1, 1) := by decide +kernel
theorem dX12_settle_26 : decode cX12_settle 26 = .ok (.invokevirtual 225, 3) := by decide +kernel
theorem dX12_settle_29 : decode cX12_settle 29 = .ok (.istore_n 2, 1) := by decide +kernel
theorem dX12_settle_30 : decode cX12_settle 30 = .ok (.iload_n 2, 1) := by decide +kernel
theorem dX12_settle_31 : decode cX12_settle 31 = .ok (.iconst (-1), 1) := by decide +kernel
theorem dX12_settle_32 : decode cX12_settle 32 = .ok (.if_icmp .eq 29, 3) := by decide +kernel
theorem dX12_settle_35 : decode cX12_settle 35 = .ok (.aload_n 0, 1) := by decide +kernel
theorem dX12_settle_36 : decode cX12_settle 36 = .ok (.iload_n 1, 1) := by decide +kernel
theorem dX12_settle_37 : decode cX12_settle 37 = .ok (.iload_n 2, 1) := by decide +kernel
theorem dX12_settle_38 : decode cX12_settle 38 = .ok (.aload_n 0, 1) := by decide +kernel
theorem dX12_settle_39 : decode cX12_settle 39 = .ok (.iload_n 1, 1) := by decide +kernel
theorem dX12_settle_40 : decode cX12_settle 40 = .ok (.iload_n 2, 1) := by decide +kernel
theorem dX12_settle_41 : decode cX12_settle 41 = .ok (.invokevirtual 222, 3) := by decide +kernel
theorem dX12_settle_44 : decode cX12_settle 44 = .ok (.invokevirtual 228, 3) := by decide +kernel
theorem dX12_settle_47 : decode cX12_settle 47 = .ok (.aload_n 0, 1) := by decide +kernel
theorem dX12_settle_48 : decode cX12_settle 48 = .ok (.iload_n 1, 1) := by decide +kernel
theorem dX12_settle_49 : decode cX12_settle 49 = .ok (.invokevirtual 215, 3) := by decide +kernel
theorem dX12_settle_52 : decode cX12_settle 52 = .ok (.aload_n 0, 1) := by decide +kernel
theorem dX12_settle_53 : decode cX12_settle 53 = .ok (.iload_n 1, 1) := by decide +kernel
theorem dX12_settle_54 : decode cX12_settle 54 = .ok (.invokevirtual 225, 3) := by decide +kernel
theorem dX12_settle_57 : decode cX12_settle 57 = .ok (.istore_n 2, 1) := by decide +kernel
theorem dX12_settle_58 : decode cX12_settle 58 = .ok (.goto (-28), 3) := by decide +kernel
theorem dX12_settle_61 : decode cX12_settle 61 = .ok (.aload_n 0, 1) := by decide +kernel
theorem dX12_settle_62 : decode cX12_settle 62 = .ok (.getfield 178, 3) := by decide +kernel
theorem dX12_settle_65 : decode cX12_settle 65 = .ok (.ireturn, 1) := by decide +kernel
theorem dX12_fallen_0 : decode cX12_fallen 0 = .ok (.aload_n 0, 1) := by decide +kernel
theorem dX12_fallen_1 : decode cX12_fallen 1 = .ok (.iload_n 1, 1) := by decide +kernel
theorem dX12_fallen_2 : decode cX12_fallen 2 = .ok (.iconst 0, 1) := by decide +kernel
theorem dX12_fallen_3 : decode cX12_fallen 3 = .ok (.bipush 59, 2) := by decide +kernel
theorem dX12_fallen_5 : decode cX12_fallen 5 = .ok (.invokestatic 93, 3) := by decide +kernel
theorem dX12_fallen_8 : decode cX12_fallen 8 = .ok (.ifCond .eq 24, 3) := by decide +kernel
theorem dX12_fallen_11 : decode cX12_fallen 11 = .ok (.iload_n 1, 1) := by decide +kernel
theorem dX12_fallen_12 : decode cX12_fallen 12 = .ok (.aload_n 0, 1) := by decide +kernel
theorem dX12_fallen_13 : decode cX12_fallen 13 = .ok (.getfield 178, 3) := by decide +kernel
theorem dX12_fallen_16 : decode cX12_fallen 16 = .ok (.if_icmp .ge 16, 3) := by decide +kernel
theorem dX12_fallen_19 : decode cX12_fallen 19 = .ok (.iload_n 2, 1) := by decide +kernel
theorem dX12_fallen_20 : decode cX12_fallen 20 = .ok (.iconst 0, 1) := by decide +kernel
theorem dX12_fallen_21 : decode cX12_fallen 21 = .ok (.iconst 1, 1) := by decide +kernel
theorem dX12_fallen_22 : decode cX12_fallen 22 = .ok (.invokestatic 93, 3) := by decide +kernel
theorem dX12_fallen_25 : decode cX12_fallen 25 = .ok (.ifCond .eq 7, 3) := by decide +kernel
theorem dX12_fallen_28 : decode cX12_fallen 28 = .ok (.iconst 0, 1) := by decide +kernel
theorem dX12_fallen_29 : decode cX12_fallen 29 = .ok (.goto 4, 3) := by decide +kernel
theorem dX12_fallen_32 : decode cX12_fallen 32 = .ok (.iconst 1, 1) := by decide +kernel
theorem dX12_fallen_33 : decode cX12_fallen 33 = .ok (.putfield 89, 3) := by decide +kernel
theorem dX12_fallen_36 : decode cX12_fallen 36 = .ok (.aload_n 0, 1) := by decide +kernel
theorem dX12_fallen_37 : decode cX12_fallen 37 = .ok (.getfield 89, 3) := by decide +kernel
theorem dX12_fallen_40 : decode cX12_fallen 40 = .ok (.ifCond .le 5, 3) := by decide +kernel
theorem dX12_fallen_43 : decode cX12_fallen 43 = .ok (.iconst 0, 1) := by decide +kernel
theorem dX12_fallen_44 : decode cX12_fallen 44 = .ok (.ireturn, 1) := by decide +kernel
theorem dX12_fallen_45 : decode cX12_fallen 45 = .ok (.iload_n 2, 1) := by decide +kernel
theorem dX12_fallen_46 : decode cX12_fallen 46 = .ok (.ifCond .ne 12, 3) := by decide +kernel
theorem dX12_fallen_49 : decode cX12_fallen 49 = .ok (.aload_n 0, 1) := by decide +kernel
theorem dX12_fallen_50 : decode cX12_fallen 50 = .ok (.getfield 74, 3) := by decide +kernel
theorem dX12_fallen_53 : decode cX12_fallen 53 = .ok (.iload_n 1, 1) := by decide +kernel
theorem dX12_fallen_54 : decode cX12_fallen 54 = .ok (.iaload, 1) := by decide +kernel
theorem dX12_fallen_55 : decode cX12_fallen 55 = .ok (.goto 9, 3) := by decide +kernel
theorem dX12_fallen_58 : decode cX12_fallen 58 = .ok (.aload_n 0, 1) := by decide +kernel
theorem dX12_fallen_59 : decode cX12_fallen 59 = .ok (.getfield 77, 3) := by decide +kernel
theorem dX12_fallen_62 : decode cX12_fallen 62 = .ok (.iload_n 1, 1) := by decide +kernel
theorem dX12_fallen_63 : decode cX12_fallen 63 = .ok (.iaload, 1) := by decide +kernel
theorem dX12_fallen_64 : decode cX12_fallen 64 = .ok (.ireturn, 1) := by decide +kernel
theorem dX12_loadOf_0 : decode cX12_loadOf 0 = .ok (.iconst 0, 1) := by decide +kernel
theorem dX12_loadOf_1 : decode cX12_loadOf 1 = .ok (.istore_n 3, 1) := by decide +kernel
theorem dX12_loadOf_2 : decode cX12_loadOf 2 = .ok (.iload_n 2, 1) := by decide +kernel
theorem dX12_loadOf_3 : decode cX12_loadOf 3 = .ok (.bipush 100, 2) := by decide +kernel
theorem dX12_loadOf_5 : decode cX12_loadOf 5 = .ok (.iadd, 1) := by decide +kernel
theorem dX12_loadOf_6 : decode cX12_loadOf 6 = .ok (.istore 4, 2) := by decide +kernel
theorem dX12_loadOf_8 : decode cX12_loadOf 8 = .ok (.iload 4, 2) := by decide +kernel
theorem dX12_loadOf_10 : decode cX12_loadOf 10 = .ok (.sipush 1000, 3) := by decide +kernel
theorem dX12_loadOf_13 : decode cX12_loadOf 13 = .ok (.if_icmp .ge 34, 3) := by decide +kernel
theorem dX12_loadOf_16 : decode cX12_loadOf 16 = .ok (.aload_n 0, 1) := by decide +kernel
theorem dX12_loadOf_17 : decode cX12_loadOf 17 = .ok (.iload_n 1, 1) := by decide +kernel
theorem dX12_loadOf_18 : decode cX12_loadOf 18 = .ok (.iload 4, 2) := by decide +kernel
theorem dX12_loadOf_20 : decode cX12_loadOf 20 = .ok (.invokevirtual 186, 3) := by decide +kernel
theorem dX12_loadOf_23 : decode cX12_loadOf 23 = .ok (.ifCond .le 24, 3) := by decide +kernel
theorem dX12_loadOf_26 : decode cX12_loadOf 26 = .ok (.iload_n 3, 1) := by decide +kernel
theorem dX12_loadOf_27 : decode cX12_loadOf 27 = .ok (.aload_n 0, 1) := by decide +kernel
theorem dX12_loadOf_28 : decode cX12_loadOf 28 = .ok (.getfield 7, 3) := by decide +kernel
theorem dX12_loadOf_31 : decode cX12_loadOf 31 = .ok (.aload_n 0, 1) := by decide +kernel
theorem dX12_loadOf_32 : decode cX12_loadOf 32 = .ok (.iload_n 1, 1) := by decide +kernel
theorem dX12_loadOf_33 : decode cX12_loadOf 33 = .ok (.iload 4, 2) := by decide +kernel
theorem dX12_loadOf_35 : decode cX12_loadOf 35 = .ok (.invokevirtual 186, 3) := by decide +kernel
theorem dX12_loadOf_38 : decode cX12_loadOf 38 = .ok (.iaload, 1) := by decide +kernel
theorem dX12_loadOf_39 : decode cX12_loadOf 39 = .ok (.iadd, 1) := by decide +kernel
theorem dX12_loadOf_40 : decode cX12_loadOf 40 = .ok (.istore_n 3, 1) := by decide +kernel
theorem dX12_loadOf_41 : decode cX12_loadOf 41 = .ok (.iinc 4 100, 3) := by decide +kernel
theorem dX12_loadOf_44 : decode cX12_loadOf 44 = .ok (.goto (-36), 3) := by decide +kernel
theorem dX12_loadOf_47 : decode cX12_loadOf 47 = .ok (.iload_n 3, 1) := by decide +kernel
theorem dX12_loadOf_48 : decode cX12_loadOf 48 = .ok (.ireturn, 1) := by decide +kernel
theorem dX12_load_0 : decode cX12_load 0 = .ok (.aload_n 0, 1) := by decide +kernel
theorem dX12_load_1 : decode cX12_load 1 = .ok (.iconst 0, 1) := by decide +kernel
theorem dX12_load_2 : decode cX12_load 2 = .ok (.putfield 89, 3) := by decide +kernel
theorem dX12_load_5 : decode cX12_load 5 = .ok (.iload_n 1, 1) := by decide +kernel
theorem dX12_load_6 : decode cX12_load 6 = .ok (.invokestatic 156, 3) := by decide +kernel
theorem dX12_load_9 : decode cX12_load 9 = .ok (.ifCond .eq 15, 3) := by decide +kernel
theorem dX12_load_12 : decode cX12_load 12 = .ok (.aload_n 0, 1) := by decide +kernel
theorem dX12_load_13 : decode cX12_load 13 = .ok (.iload_n 1, 1) := by decide +kernel
theorem dX12_load_14 : decode cX12_load 14 = .ok (.iload_n 2, 1) := by decide +kernel
theorem dX12_load_15 : decode cX12_load 15 = .ok (.iload_n 3, 1) := by decide +kernel
theorem dX12_load_16 : decode cX12_load 16 = .ok (.iload 4, 2) := by decide +kernel
theorem dX12_load_18 : decode cX12_load 18 = .ok (.invokevirtual 169, 3) := by decide +kernel
theorem dX12_load_21 : decode cX12_load 21 = .ok (.ifCond .gt 5, 3) := by decide +kernel
theorem dX12_load_24 : decode cX12_load 24 = .ok (.iconst (-1), 1) := by decide +kernel
theorem dX12_load_25 : decode cX12_load 25 = .ok (.ireturn, 1) := by decide +kernel
theorem dX12_load_26 : decode cX12_load 26 = .ok (.aload_n 0, 1) := by decide +kernel
theorem dX12_load_27 : decode cX12_load 27 = .ok (.iload_n 1, 1) := by decide +kernel
theorem dX12_load_28 : decode cX12_load 28 = .ok (.bipush 100, 2) := by decide +kernel
theorem dX12_load_30 : decode cX12_load 30 = .ok (.iload_n 2, 1) := by decide +kernel
theorem dX12_load_31 : decode cX12_load 31 = .ok (.imul, 1) := by decide +kernel
theorem dX12_load_32 : decode cX12_load 32 = .ok (.bipush 10, 2) := by decide +kernel
theorem dX12_load_34 : decode cX12_load 34 = .ok (.iload_n 3, 1) := by decide +kernel
theorem dX12_load_35 : decode cX12_load 35 = .ok (.imul, 1) := by decide +kernel
theorem dX12_load_36 : decode cX12_load 36 = .ok (.iadd, 1) := by decide +kernel
theorem dX12_load_37 : decode cX12_load 37 = .ok (.iload 4, 2) := by decide +kernel
theorem dX12_load_39 : decode cX12_load 39 = .ok (.iadd, 1) := by decide +kernel
theorem dX12_load_40 : decode cX12_load 40 = .ok (.invokevirtual 231, 3) := by decide +kernel
theorem dX12_load_43 : decode cX12_load 43 = .ok (.ireturn, 1) := by decide +kernel
theorem dX12_overloaded_0 : decode cX12_overloaded 0 = .ok (.aload_n 0, 1) := by decide +kernel
theorem dX12_overloaded_1 : decode cX12_overloaded 1 = .ok (.iconst 0, 1) := by decide +kernel
theorem dX12_overloaded_2 : decode cX12_overloaded 2 = .ok (.putfield 89, 3) := by decide +kernel
theorem dX12_overloaded_5 : decode cX12_overloaded 5 = .ok (.iload_n 1, 1) := by decide +kernel
theorem dX12_overloaded_6 : decode cX12_overloaded 6 = .ok (.invokestatic 156, 3) := by decide +kernel
theorem dX12_overloaded_9 : decode cX12_overloaded 9 = .ok (.ifCond .ne 5, 3) := by decide +kernel
theorem dX12_overloaded_12 : decode cX12_overloaded 12 = .ok (.iconst (-1), 1) := by decide +kernel
theorem dX12_overloaded_13 : decode cX12_overloaded 13 = .ok (.ireturn, 1) := by decide +kernel
theorem dX12_overloaded_14 : decode cX12_overloaded 14 = .ok (.iconst 0, 1) := by decide +kernel
theorem dX12_overloaded_15 : decode cX12_overloaded 15 = .ok (.istore_n 2, 1) := by decide +kernel
theorem dX12_overloaded_16 : decode cX12_overloaded 16 = .ok (.iconst 0, 1) := by decide +kernel
theorem dX12_overloaded_17 : decode cX12_overloaded 17 = .ok (.istore_n 3, 1) := by decide +kernel
theorem dX12_overloaded_18 : decode cX12_overloaded 18 = .ok (.iload_n 3, 1) := by decide +kernel
theorem dX12_overloaded_19 : decode cX12_overloaded 19 = .ok (.sipush 1000, 3) := by decide +kernel
theorem dX12_overloaded_22 : decode cX12_overloaded 22 = .ok (.if_icmp .ge 46, 3) := by decide +kernel
theorem dX12_overloaded_25 : decode cX12_overloaded 25 = .ok (.iload_n 2, 1) := by decide +kernel
theorem dX12_overloaded_26 : decode cX12_overloaded 26 = .ok (.aload_n 0, 1) := by decide +kernel
theorem dX12_overloaded_27 : decode cX12_overloaded 27 = .ok (.iload_n 1, 1) := by decide +kernel
theorem dX12_overloaded_28 : decode cX12_overloaded 28 = .ok (.iload_n 3, 1) := by decide +kernel
theorem dX12_overloaded_29 : decode cX12_overloaded 29 = .ok (.invokevirtual 186, 3) := by decide +kernel
theorem dX12_overloaded_32 : decode cX12_overloaded 32 = .ok (.ifCond .le 27, 3) := by decide +kernel
theorem dX12_overloaded_35 : decode cX12_overloaded 35 = .ok (.aload_n 0, 1) := by decide +kernel
theorem dX12_overloaded_36 : decode cX12_overloaded 36 = .ok (.iload_n 1, 1) := by decide +kernel
theorem dX12_overloaded_37 : decode cX12_overloaded 37 = .ok (.iload_n 3, 1) := by decide +kernel
theorem dX12_overloaded_38 : decode cX12_overloaded 38 = .ok (.invokevirtual 231, 3) := by decide +kernel
theorem dX12_overloaded_41 : decode cX12_overloaded 41 = .ok (.aload_n 0, 1) := by decide +kernel
theorem dX12_overloaded_42 : decode cX12_overloaded 42 = .ok (.getfield 13, 3) := by decide +kernel
theorem dX12_overloaded_45 : decode cX12_overloaded 45 = .ok (.aload_n 0, 1) := by decide +kernel
theorem dX12_overloaded_46 : decode cX12_overloaded 46 = .ok (.iload_n 1, 1) := by decide +kernel
theorem dX12_overloaded_47 : decode cX12_overloaded 47 = .ok (.iload_n 3, 1) := by decide +kernel
theorem dX12_overloaded_48 : decode cX12_overloaded 48 = .ok (.invokevirtual 186, 3) := by decide +kernel
theorem dX12_overloaded_51 : decode cX12_overloaded 51 = .ok (.iaload, 1) := by decide +kernel
theorem dX12_overloaded_52 : decode cX12_overloaded 52 = .ok (.if_icmp .le 7, 3) := by decide +kernel
theorem dX12_overloaded_55 : decode cX12_overloaded 55 = .ok (.iconst 1, 1) := by decide +kernel
theorem dX12_overloaded_56 : decode cX12_overloaded 56 = .ok (.goto 4, 3) := by decide +kernel
theorem dX12_overloaded_59 : decode cX12_overloaded 59 = .ok (.iconst 0, 1) := by decide +kernel
theorem dX12_overloaded_60 : decode cX12_overloaded 60 = .ok (.iadd, 1) := by decide +kernel
theorem dX12_overloaded_61 : decode cX12_overloaded 61 = .ok (.istore_n 2, 1) := by decide +kernel
theorem dX12_overloaded_62 : decode cX12_overloaded 62 = .ok (.iinc 3 1, 3) := by decide +kernel
theorem dX12_overloaded_65 : decode cX12_overloaded 65 = .ok (.goto (-47), 3) := by decide +kernel
theorem dX12_overloaded_68 : decode cX12_overloaded 68 = .ok (.iload_n 2, 1) := by decide +kernel
theorem dX12_overloaded_69 : decode cX12_overloaded 69 = .ok (.ireturn, 1) := by decide +kernel
theorem dX12_shines_0 : decode cX12_shines 0 = .ok (.aload_n 0, 1) := by decide +kernel
theorem dX12_shines_1 : decode cX12_shines 1 = .ok (.iload_n 1, 1) := by decide +kernel
theorem dX12_shines_2 : decode cX12_shines 2 = .ok (.invokevirtual 203, 3) := by decide +kernel
theorem dX12_shines_5 : decode cX12_shines 5 = .ok (.iconst 0, 1) := by decide +kernel
theorem dX12_shines_6 : decode cX12_shines 6 = .ok (.istore_n 2, 1) := by decide +kernel
theorem dX12_shines_7 : decode cX12_shines 7 = .ok (.iload_n 2, 1) := by decide +kernel
theorem dX12_shines_8 : decode cX12_shines 8 = .ok (.sipush 1000, 3) := by decide +kernel
theorem dX12_shines_11 : decode cX12_shines 11 = .ok (.if_icmp .ge 39, 3) := by decide +kernel
theorem dX12_shines_14 : decode cX12_shines 14 = .ok (.aload_n 0, 1) := by decide +kernel
theorem dX12_shines_15 : decode cX12_shines 15 = .ok (.getfield 80, 3) := by decide +kernel
theorem dX12_shines_18 : decode cX12_shines 18 = .ok (.iload_n 2, 1) := by decide +kernel
theorem dX12_shines_19 : decode cX12_shines 19 = .ok (.aload_n 0, 1) := by decide +kernel
theorem dX12_shines_20 : decode cX12_shines 20 = .ok (.getfield 56, 3) := by decide +kernel
theorem dX12_shines_23 : decode cX12_shines 23 = .ok (.iload_n 2, 1) := by decide +kernel
theorem dX12_shines_24 : decode cX12_shines 24 = .ok (.iaload, 1) := by decide +kernel
theorem dX12_shines_25 : decode cX12_shines 25 = .ok (.ifCond .le 17, 3) := by decide +kernel
theorem dX12_shines_28 : decode cX12_shines 28 = .ok (.aload_n 0, 1) := by decide +kernel
theorem dX12_shines_29 : decode cX12_shines 29 = .ok (.getfield 16, 3) := by decide +kernel
theorem dX12_shines_32 : decode cX12_shines 32 = .ok (.aload_n 0, 1) := by decide +kernel
theorem dX12_shines_33 : decode cX12_shines 33 = .ok (.getfield 56, 3) := by decide +kernel
theorem dX12_shines_36 : decode cX12_shines 36 = .ok (.iload_n 2, 1) := by decide +kernel
theorem dX12_shines_37 : decode cX12_shines 37 = .ok (.iaload, 1) := by decide +kernel
theorem dX12_shines_38 : decode cX12_shines 38 = .ok (.iaload, 1) := by decide +kernel
theorem dX12_shines_39 : decode cX12_shines 39 = .ok (.goto 4, 3) := by decide +kernel
theorem dX12_shines_42 : decode cX12_shines 42 = .ok (.iconst 0, 1) := by decide +kernel
theorem dX12_shines_43 : decode cX12_shines 43 = .ok (.iastore, 1) := by decide +kernel
theorem dX12_shines_44 : decode cX12_shines 44 = .ok (.iinc 2 1, 3) := by decide +kernel
theorem dX12_shines_47 : decode cX12_shines 47 = .ok (.goto (-40), 3) := by decide +kernel
theorem dX12_shines_50 : decode cX12_shines 50 = .ok (.iconst 1, 1) := by decide +kernel
theorem dX12_shines_51 : decode cX12_shines 51 = .ok (.istore_n 2, 1) := by decide +kernel
theorem dX12_shines_52 : decode cX12_shines 52 = .ok (.iload_n 2, 1) := by decide +kernel
theorem dX12_shines_53 : decode cX12_shines 53 = .ok (.ifCond .eq 135, 3) := by decide +kernel
theorem dX12_shines_56 : decode cX12_shines 56 = .ok (.iconst 0, 1) := by decide +kernel
theorem dX12_shines_57 : decode cX12_shines 57 = .ok (.istore_n 2, 1) := by decide +kernel
theorem dX12_shines_58 : decode cX12_shines 58 = .ok (.iconst 0, 1) := by decide +kernel
theorem dX12_shines_59 : decode cX12_shines 59 = .ok (.istore_n 3, 1) := by decide +kernel
theorem dX12_shines_60 : decode cX12_shines 60 = .ok (.iload_n 3, 1) := by decide +kernel
theorem dX12_shines_61 : decode cX12_shines 61 = .ok (.sipush 1000, 3) := by decide +kernel
theorem dX12_shines_64 : decode cX12_shines 64 = .ok (.if_icmp .ge 121, 3) := by decide +kernel
theorem dX12_shines_67 : decode cX12_shines 67 = .ok (.aload_n 0, 1) := by decide +kernel
theorem dX12_shines_68 : decode cX12_shines 68 = .ok (.getfield 56, 3) := by decide +kernel
theorem dX12_shines_71 : decode cX12_shines 71 = .ok (.iload_n 3, 1) := by decide +kernel
theorem dX12_shines_72 : decode cX12_shines 72 = .ok (.iaload, 1) := by decide +kernel
theorem dX12_shines_73 : decode cX12_shines 73 = .ok (.iconst (-1), 1) := by decide +kernel
theorem dX12_shines_74 : decode cX12_shines 74 = .ok (.if_icmp .ne 6, 3) := by decide +kernel
theorem dX12_shines_77 : decode cX12_shines 77 = .ok (.goto 102, 3) := by decide +kernel
theorem dX12_shines_80 : decode cX12_shines 80 = .ok (.iconst 0, 1) := by decide +kernel
theorem dX12_shines_81 : decode cX12_shines 81 = .ok (.istore 4, 2) := by decide +kernel
theorem dX12_shines_83 : decode cX12_shines 83 = .ok (.iload 4, 2) := by decide +kernel
theorem dX12_shines_85 : decode cX12_shines 85 = .ok (.bipush 6, 2) := by decide +kernel
theorem dX12_shines_87 : decode cX12_shines 87 = .ok (.if_icmp .ge 92, 3) := by decide +kernel
theorem dX12_shines_90 : decode cX12_shines 90 = .ok (.iload_n 3, 1) := by decide +kernel
theorem dX12_shines_91 : decode cX12_shines 91 = .ok (.iload 4, 2) := by decide +kernel
theorem dX12_shines_93 : decode cX12_shines 93 = .ok (.invokestatic 196, 3) := by decide +kernel
theorem dX12_shines_96 : decode cX12_shines 96 = .ok (.istore 5, 2) := by decide +kernel
theorem dX12_shines_98 : decode cX12_shines 98 = .ok (.iload 5, 2) := by decide +kernel
theorem dX12_shines_100 : decode cX12_shines 100 = .ok (.iconst (-1), 1) := by decide +kernel
theorem dX12_shines_101 : decode cX12_shines 101 = .ok (.if_icmp .eq 72, 3) := by decide +kernel
theorem dX12_shines_104 : decode cX12_shines 104 = .ok (.aload_n 0, 1) := by decide +kernel
theorem dX12_shines_105 : decode cX12_shines 105 = .ok (.getfield 56, 3) := by decide +kernel
theorem dX12_shines_108 : decode cX12_shines 108 = .ok (.iload 5, 2) := by decide +kernel
theorem dX12_shines_110 : decode cX12_shines 110 = .ok (.iaload, 1) := by decide +kernel
theorem dX12_shines_111 : decode cX12_shines 111 = .ok (.iconst (-1), 1) := by decide +kernel
theorem dX12_shines_112 : decode cX12_shines 112 = .ok (.if_icmp .ne 6, 3) := by decide +kernel
theorem dX12_shines_115 : decode cX12_shines 115 = .ok (.goto 58, 3) := by decide +kernel
theorem dX12_shines_118 : decode cX12_shines 118 = .ok (.aload_n 0, 1) := by decide +kernel
theorem dX12_shines_119 : decode cX12_shines 119 = .ok (.getfield 80, 3) := by decide +kernel
theorem dX12_shines_122 : decode cX12_shines 122 = .ok (.iload 5, 2) := by decide +kernel
theorem dX12_shines_124 : decode cX12_shines 124 = .ok (.iaload, 1) := by decide +kernel
theorem dX12_shines_125 : decode cX12_shines 125 = .ok (.aload_n 0, 1) := by decide +kernel
theorem dX12_shines_126 : decode cX12_shines 126 = .ok (.getfield 56, 3) := by decide +kernel
theorem dX12_shines_129 : decode cX12_shines 129 = .ok (.iload_n 3, 1) := by decide +kernel
theorem dX12_shines_130 : decode cX12_shines 130 = .ok (.iaload, 1) := by decide +kernel
theorem dX12_shines_131 : decode cX12_shines 131 = .ok (.ifCond .ne 7, 3) := by decide +kernel
theorem dX12_shines_134 : decode cX12_shines 134 = .ok (.iconst 1, 1) := by decide +kernel
theorem dX12_shines_135 : decode cX12_shines 135 = .ok (.goto 14, 3) := by decide +kernel
theorem dX12_shines_138 : decode cX12_shines 138 = .ok (.aload_n 0, 1) := by decide +kernel
theorem dX12_shines_139 : decode cX12_shines 139 = .ok (.getfield 19, 3) := by decide +kernel
theorem dX12_shines_142 : decode cX12_shines 142 = .ok (.aload_n 0, 1) := by decide +kernel
theorem dX12_shines_143 : decode cX12_shines 143 = .ok (.getfield 56, 3) := by decide +kernel
theorem dX12_shines_146 : decode cX12_shines 146 = .ok (.iload_n 3, 1) := by decide +kernel
theorem dX12_shines_147 : decode cX12_shines 147 = .ok (.iaload, 1) := by decide +kernel
theorem dX12_shines_148 : decode cX12_shines 148 = .ok (.iaload, 1) := by decide +kernel
theorem dX12_shines_149 : decode cX12_shines 149 = .ok (.isub, 1) := by decide +kernel
theorem dX12_shines_150 : decode cX12_shines 150 = .ok (.istore 6, 2) := by decide +kernel
theorem dX12_shines_152 : decode cX12_shines 152 = .ok (.iload 6, 2) := by decide +kernel
theorem dX12_shines_154 : decode cX12_shines 154 = .ok (.aload_n 0, 1) := by decide +kernel
theorem dX12_shines_155 : decode cX12_shines 155 = .ok (.getfield 80, 3) := by decide +kernel
theorem dX12_shines_158 : decode cX12_shines 158 = .ok (.iload_n 3, 1) := by decide +kernel
theorem dX12_shines_159 : decode cX12_shines 159 = .ok (.iaload, 1) := by decide +kernel
theorem dX12_shines_160 : decode cX12_shines 160 = .ok (.if_icmp .le 13, 3) := by decide +kernel
theorem dX12_shines_163 : decode cX12_shines 163 = .ok (.aload_n 0, 1) := by decide +kernel
theorem dX12_shines_164 : decode cX12_shines 164 = .ok (.getfield 80, 3) := by decide +kernel
theorem dX12_shines_167 : decode cX12_shines 167 = .ok (.iload_n 3, 1) := by decide +kernel
theorem dX12_shines_168 : decode cX12_shines 168 = .ok (.iload 6, 2) := by decide +kernel
theorem dX12_shines_170 : decode cX12_shines 170 = .ok (.iastore, 1) := by decide +kernel
theorem dX12_shines_171 : decode cX12_shines 171 = .ok (.iconst 1, 1) := by decide +kernel
theorem dX12_shines_172 : decode cX12_shines 172 = .ok (.istore_n 2, 1) := by decide +kernel
theorem dX12_shines_173 : decode cX12_shines 173 = .ok (.iinc 4 1, 3) := by decide +kernel
theorem dX12_shines_176 : decode cX12_shines 176 = .ok (.goto (-93), 3) := by decide +kernel
theorem dX12_shines_179 : decode cX12_shines 179 = .ok (.iinc 3 1, 3) := by decide +kernel
theorem dX12_shines_182 : decode cX12_shines 182 = .ok (.goto (-122), 3) := by decide +kernel
theorem dX12_shines_185 : decode cX12_shines 185 = .ok (.goto (-133), 3) := by decide +kernel
theorem dX12_shines_188 : decode cX12_shines 188 = .ok (.return_, 1) := by decide +kernel
theorem dX12_light_0 : decode cX12_light 0 = .ok (.aload_n 0, 1) := by decide +kernel
theorem dX12_light_1 : decode cX12_light 1 = .ok (.iconst 0, 1) := by decide +kernel
theorem dX12_light_2 : decode cX12_light 2 = .ok (.putfield 89, 3) := by decide +kernel
theorem dX12_light_5 : decode cX12_light 5 = .ok (.iload_n 1, 1) := by decide +kernel
theorem dX12_light_6 : decode cX12_light 6 = .ok (.invokestatic 156, 3) := by decide +kernel
theorem dX12_light_9 : decode cX12_light 9 = .ok (.ifCond .eq 15, 3) := by decide +kernel
theorem dX12_light_12 : decode cX12_light 12 = .ok (.aload_n 0, 1) := by decide +kernel
theorem dX12_light_13 : decode cX12_light 13 = .ok (.iload_n 1, 1) := by decide +kernel
theorem dX12_light_14 : decode cX12_light 14 = .ok (.iload_n 2, 1) := by decide +kernel
theorem dX12_light_15 : decode cX12_light 15 = .ok (.iload_n 3, 1) := by decide +kernel
theorem dX12_light_16 : decode cX12_light 16 = .ok (.iload 4, 2) := by decide +kernel
theorem dX12_light_18 : decode cX12_light 18 = .ok (.invokevirtual 159, 3) := by decide +kernel
theorem dX12_light_21 : decode cX12_light 21 = .ok (.ifCond .eq 5, 3) := by decide +kernel
theorem dX12_light_24 : decode cX12_light 24 = .ok (.iconst (-1), 1) := by decide +kernel
theorem dX12_light_25 : decode cX12_light 25 = .ok (.ireturn, 1) := by decide +kernel
theorem dX12_light_26 : decode cX12_light 26 = .ok (.aload_n 0, 1) := by decide +kernel
theorem dX12_light_27 : decode cX12_light 27 = .ok (.iload_n 1, 1) := by decide +kernel
theorem dX12_light_28 : decode cX12_light 28 = .ok (.invokevirtual 234, 3) := by decide +kernel
theorem dX12_light_31 : decode cX12_light 31 = .ok (.aload_n 0, 1) := by decide +kernel
theorem dX12_light_32 : decode cX12_light 32 = .ok (.getfield 80, 3) := by decide +kernel
theorem dX12_light_35 : decode cX12_light 35 = .ok (.bipush 100, 2) := by decide +kernel
theorem dX12_light_37 : decode cX12_light 37 = .ok (.iload_n 2, 1) := by decide +kernel
theorem dX12_light_38 : decode cX12_light 38 = .ok (.imul, 1) := by decide +kernel
theorem dX12_light_39 : decode cX12_light 39 = .ok (.bipush 10, 2) := by decide +kernel
theorem dX12_light_41 : decode cX12_light 41 = .ok (.iload_n 3, 1) := by decide +kernel
theorem dX12_light_42 : decode cX12_light 42 = .ok (.imul, 1) := by decide +kernel
theorem dX12_light_43 : decode cX12_light 43 = .ok (.iadd, 1) := by decide +kernel
theorem dX12_light_44 : decode cX12_light 44 = .ok (.iload 4, 2) := by decide +kernel
theorem dX12_light_46 : decode cX12_light 46 = .ok (.iadd, 1) := by decide +kernel
theorem dX12_light_47 : decode cX12_light 47 = .ok (.iaload, 1) := by decide +kernel
theorem dX12_light_48 : decode cX12_light 48 = .ok (.ireturn, 1) := by decide +kernel
theorem dX12_dark_0 : decode cX12_dark 0 = .ok (.aload_n 0, 1) := by decide +kernel
theorem dX12_dark_1 : decode cX12_dark 1 = .ok (.iconst 0, 1) := by decide +kernel
theorem dX12_dark_2 : decode cX12_dark 2 = .ok (.putfield 89, 3) := by decide +kernel
theorem dX12_dark_5 : decode cX12_dark 5 = .ok (.iload_n 1, 1) := by decide +kernel
theorem dX12_dark_6 : decode cX12_dark 6 = .ok (.invokestatic 156, 3) := by decide +kernel
theorem dX12_dark_9 : decode cX12_dark 9 = .ok (.ifCond .ne 5, 3) := by decide +kernel
theorem dX12_dark_12 : decode cX12_dark 12 = .ok (.iconst (-1), 1) := by decide +kernel
theorem dX12_dark_13 : decode cX12_dark 13 = .ok (.ireturn, 1) := by decide +kernel
theorem dX12_dark_14 : decode cX12_dark 14 = .ok (.aload_n 0, 1) := by decide +kernel
theorem dX12_dark_15 : decode cX12_dark 15 = .ok (.iload_n 1, 1) := by decide +kernel
theorem dX12_dark_16 : decode cX12_dark 16 = .ok (.invokevirtual 234, 3) := by decide +kernel
theorem dX12_dark_19 : decode cX12_dark 19 = .ok (.iconst 0, 1) := by decide +kernel
theorem dX12_dark_20 : decode cX12_dark 20 = .ok (.istore_n 3, 1) := by decide +kernel
theorem dX12_dark_21 : decode cX12_dark 21 = .ok (.iconst 0, 1) := by decide +kernel
theorem dX12_dark_22 : decode cX12_dark 22 = .ok (.istore 4, 2) := by decide +kernel
theorem dX12_dark_24 : decode cX12_dark 24 = .ok (.iload 4, 2) := by decide +kernel
theorem dX12_dark_26 : decode cX12_dark 26 = .ok (.sipush 1000, 3) := by decide +kernel
theorem dX12_dark_29 : decode cX12_dark 29 = .ok (.if_icmp .ge 38, 3) := by decide +kernel
theorem dX12_dark_32 : decode cX12_dark 32 = .ok (.iload_n 3, 1) := by decide +kernel
theorem dX12_dark_33 : decode cX12_dark 33 = .ok (.aload_n 0, 1) := by decide +kernel
theorem dX12_dark_34 : decode cX12_dark 34 = .ok (.getfield 56, 3) := by decide +kernel
theorem dX12_dark_37 : decode cX12_dark 37 = .ok (.iload 4, 2) := by decide +kernel
theorem dX12_dark_39 : decode cX12_dark 39 = .ok (.iaload, 1) := by decide +kernel
theorem dX12_dark_40 : decode cX12_dark 40 = .ok (.ifCond .ne 18, 3) := by decide +kernel
theorem dX12_dark_43 : decode cX12_dark 43 = .ok (.aload_n 0, 1) := by decide +kernel
theorem dX12_dark_44 : decode cX12_dark 44 = .ok (.getfield 80, 3) := by decide +kernel
theorem dX12_dark_47 : decode cX12_dark 47 = .ok (.iload 4, 2) := by decide +kernel
theorem dX12_dark_49 : decode cX12_dark 49 = .ok (.iaload, 1) := by decide +kernel
theorem dX12_dark_50 : decode cX12_dark 50 = .ok (.iload_n 2, 1) := by decide +kernel
theorem dX12_dark_51 : decode cX12_dark 51 = .ok (.if_icmp .ge 7, 3) := by decide +kernel
theorem dX12_dark_54 : decode cX12_dark 54 = .ok (.iconst 1, 1) := by decide +kernel
theorem dX12_dark_55 : decode cX12_dark 55 = .ok (.goto 4, 3) := by decide +kernel
theorem dX12_dark_58 : decode cX12_dark 58 = .ok (.iconst 0, 1) := by decide +kernel
theorem dX12_dark_59 : decode cX12_dark 59 = .ok (.iadd, 1) := by decide +kernel
theorem dX12_dark_60 : decode cX12_dark 60 = .ok (.istore_n 3, 1) := by decide +kernel
theorem dX12_dark_61 : decode cX12_dark 61 = .ok (.iinc 4 1, 3) := by decide +kernel
theorem dX12_dark_64 : decode cX12_dark 64 = .ok (.goto (-40), 3) := by decide +kernel
theorem dX12_dark_67 : decode cX12_dark 67 = .ok (.iload_n 3, 1) := by decide +kernel
theorem dX12_dark_68 : decode cX12_dark 68 = .ok (.ireturn, 1) := by decide +kernel
theorem dX12_faces_0 : decode cX12_faces 0 = .ok (.aload_n 0, 1) := by decide +kernel
theorem dX12_faces_1 : decode cX12_faces 1 = .ok (.iconst 0, 1) := by decide +kernel
theorem dX12_faces_2 : decode cX12_faces 2 = .ok (.putfield 89, 3) := by decide +kernel
theorem dX12_faces_5 : decode cX12_faces 5 = .ok (.iload_n 1, 1) := by decide +kernel
theorem dX12_faces_6 : decode cX12_faces 6 = .ok (.invokestatic 156, 3) := by decide +kernel
theorem dX12_faces_9 : decode cX12_faces 9 = .ok (.ifCond .ne 5, 3) := by decide +kernel
theorem dX12_faces_12 : decode cX12_faces 12 = .ok (.iconst (-1), 1) := by decide +kernel
theorem dX12_faces_13 : decode cX12_faces 13 = .ok (.ireturn, 1) := by decide +kernel
theorem dX12_faces_14 : decode cX12_faces 14 = .ok (.iconst 0, 1) := by decide +kernel
theorem dX12_faces_15 : decode cX12_faces 15 = .ok (.istore_n 2, 1) := by decide +kernel
theorem dX12_faces_16 : decode cX12_faces 16 = .ok (.iconst 0, 1) := by decide +kernel
theorem dX12_faces_17 : decode cX12_faces 17 = .ok (.istore_n 3, 1) := by decide +kernel
theorem dX12_faces_18 : decode cX12_faces 18 = .ok (.iload_n 3, 1) := by decide +kernel
theorem dX12_faces_19 : decode cX12_faces 19 = .ok (.sipush 1000, 3) := by decide +kernel
theorem dX12_faces_22 : decode cX12_faces 22 = .ok (.if_icmp .ge 56, 3) := by decide +kernel
theorem dX12_faces_25 : decode cX12_faces 25 = .ok (.aload_n 0, 1) := by decide +kernel
theorem dX12_faces_26 : decode cX12_faces 26 = .ok (.iload_n 1, 1) := by decide +kernel
theorem dX12_faces_27 : decode cX12_faces 27 = .ok (.iload_n 3, 1) := by decide +kernel
theorem dX12_faces_28 : decode cX12_faces 28 = .ok (.invokevirtual 186, 3) := by decide +kernel
theorem dX12_faces_31 : decode cX12_faces 31 = .ok (.ifCond .gt 6, 3) := by decide +kernel
theorem dX12_faces_34 : decode cX12_faces 34 = .ok (.goto 38, 3) := by decide +kernel
theorem dX12_faces_37 : decode cX12_faces 37 = .ok (.iconst 0, 1) := by decide +kernel
theorem dX12_faces_38 : decode cX12_faces 38 = .ok (.istore 4, 2) := by decide +kernel
theorem dX12_faces_40 : decode cX12_faces 40 = .ok (.iload 4, 2) := by decide +kernel
theorem dX12_faces_42 : decode cX12_faces 42 = .ok (.bipush 6, 2) := by decide +kernel
theorem dX12_faces_44 : decode cX12_faces 44 = .ok (.if_icmp .ge 28, 3) := by decide +kernel
theorem dX12_faces_47 : decode cX12_faces 47 = .ok (.iload_n 2, 1) := by decide +kernel
theorem dX12_faces_48 : decode cX12_faces 48 = .ok (.aload_n 0, 1) := by decide +kernel
theorem dX12_faces_49 : decode cX12_faces 49 = .ok (.iload_n 1, 1) := by decide +kernel
theorem dX12_faces_50 : decode cX12_faces 50 = .ok (.iload_n 3, 1) := by decide +kernel
theorem dX12_faces_51 : decode cX12_faces 51 = .ok (.iload 4, 2) := by decide +kernel
theorem dX12_faces_53 : decode cX12_faces 53 = .ok (.invokevirtual 199, 3) := by decide +kernel
theorem dX12_faces_56 : decode cX12_faces 56 = .ok (.ifCond .gt 7, 3) := by decide +kernel
theorem dX12_faces_59 : decode cX12_faces 59 = .ok (.iconst 1, 1) := by decide +kernel
theorem dX12_faces_60 : decode cX12_faces 60 = .ok (.goto 4, 3) := by decide +kernel
theorem dX12_faces_63 : decode cX12_faces 63 = .ok (.iconst 0, 1) := by decide +kernel
theorem dX12_faces_64 : decode cX12_faces 64 = .ok (.iadd, 1) := by decide +kernel
theorem dX12_faces_65 : decode cX12_faces 65 = .ok (.istore_n 2, 1) := by decide +kernel
theorem dX12_faces_66 : decode cX12_faces 66 = .ok (.iinc 4 1, 3) := by decide +kernel
theorem dX12_faces_69 : decode cX12_faces 69 = .ok (.goto (-29), 3) := by decide +kernel
theorem dX12_faces_72 : decode cX12_faces 72 = .ok (.iinc 3 1, 3) := by decide +kernel
theorem dX12_faces_75 : decode cX12_faces 75 = .ok (.goto (-57), 3) := by decide +kernel
theorem dX12_faces_78 : decode cX12_faces 78 = .ok (.iload_n 2, 1) := by decide +kernel
theorem dX12_faces_79 : decode cX12_faces 79 = .ok (.ireturn, 1) := by decide +kernel
theorem dX12_isStand_0 : decode cX12_isStand 0 = .ok (.aload_n 0, 1) := by decide +kernel
theorem dX12_isStand_1 : decode cX12_isStand 1 = .ok (.getfield 56, 3) := by decide +kernel
theorem dX12_isStand_4 : decode cX12_isStand 4 = .ok (.iload_n 1, 1) := by decide +kernel
theorem dX12_isStand_5 : decode cX12_isStand 5 = .ok (.iaload, 1) := by decide +kernel
theorem dX12_isStand_6 : decode cX12_isStand 6 = .ok (.ifCond .ne 25, 3) := by decide +kernel
theorem dX12_isStand_9 : decode cX12_isStand 9 = .ok (.iload_n 1, 1) := by decide +kernel
theorem dX12_isStand_10 : decode cX12_isStand 10 = .ok (.bipush 100, 2) := by decide +kernel
theorem dX12_isStand_12 : decode cX12_isStand 12 = .ok (.if_icmp .lt 15, 3) := by decide +kernel
theorem dX12_isStand_15 : decode cX12_isStand 15 = .ok (.aload_n 0, 1) := by decide +kernel
theorem dX12_isStand_16 : decode cX12_isStand 16 = .ok (.getfield 56, 3) := by decide +kernel
theorem dX12_isStand_19 : decode cX12_isStand 19 = .ok (.iload_n 1, 1) := by decide +kernel
theorem dX12_isStand_20 : decode cX12_isStand 20 = .ok (.bipush 100, 2) := by decide +kernel
theorem dX12_isStand_22 : decode cX12_isStand 22 = .ok (.isub, 1) := by decide +kernel
theorem dX12_isStand_23 : decode cX12_isStand 23 = .ok (.iaload, 1) := by decide +kernel
theorem dX12_isStand_24 : decode cX12_isStand 24 = .ok (.ifCond .le 7, 3) := by decide +kernel
theorem dX12_isStand_27 : decode cX12_isStand 27 = .ok (.iconst 1, 1) := by decide +kernel
theorem dX12_isStand_28 : decode cX12_isStand 28 = .ok (.goto 4, 3) := by decide +kernel
theorem dX12_isStand_31 : decode cX12_isStand 31 = .ok (.iconst 0, 1) := by decide +kernel
theorem dX12_isStand_32 : decode cX12_isStand 32 = .ok (.ireturn, 1) := by decide +kernel
theorem dX12_isFree_0 : decode cX12_isFree 0 = .ok (.iload_n 1, 1) := by decide +kernel
theorem dX12_isFree_1 : decode cX12_isFree 1 = .ok (.sipush 1000, 3) := by decide +kernel
theorem dX12_isFree_4 : decode cX12_isFree 4 = .ok (.if_icmp .ge 12, 3) := by decide +kernel
theorem dX12_isFree_7 : decode cX12_isFree 7 = .ok (.aload_n 0, 1) := by decide +kernel
theorem dX12_isFree_8 : decode cX12_isFree 8 = .ok (.getfield 56, 3) := by decide +kernel
theorem dX12_isFree_11 : decode cX12_isFree 11 = .ok (.iload_n 1, 1) := by decide +kernel
theorem dX12_isFree_12 : decode cX12_isFree 12 = .ok (.iaload, 1) := by decide +kernel
theorem dX12_isFree_13 : decode cX12_isFree 13 = .ok (.ifCond .gt 7, 3) := by decide +kernel
theorem dX12_isFree_16 : decode cX12_isFree 16 = .ok (.iconst 1, 1) := by decide +kernel
theorem dX12_isFree_17 : decode cX12_isFree 17 = .ok (.goto 4, 3) := by decide +kernel
theorem dX12_isFree_20 : decode cX12_isFree 20 = .ok (.iconst 0, 1) := by decide +kernel
theorem dX12_isFree_21 : decode cX12_isFree 21 = .ok (.ireturn, 1) := by decide +kernel
theorem dX12_path_0 : decode cX12_path 0 = .ok (.aload_n 0, 1) := by decide +kernel
theorem dX12_path_1 : decode cX12_path 1 = .ok (.iconst 0, 1) := by decide +kernel
theorem dX12_path_2 : decode cX12_path 2 = .ok (.putfield 89, 3) := by decide +kernel
theorem dX12_path_5 : decode cX12_path 5 = .ok (.iload_n 1, 1) := by decide +kernel
theorem dX12_path_6 : decode cX12_path 6 = .ok (.invokestatic 156, 3) := by decide +kernel
theorem dX12_path_9 : decode cX12_path 9 = .ok (.ifCond .eq 25, 3) := by decide +kernel
theorem dX12_path_12 : decode cX12_path 12 = .ok (.iload_n 2, 1) := by decide +kernel
theorem dX12_path_13 : decode cX12_path 13 = .ok (.iconst 0, 1) := by decide +kernel
theorem dX12_path_14 : decode cX12_path 14 = .ok (.sipush 999, 3) := by decide +kernel
theorem dX12_path_17 : decode cX12_path 17 = .ok (.invokestatic 93, 3) := by decide +kernel
theorem dX12_path_20 : decode cX12_path 20 = .ok (.ifCond .eq 14, 3) := by decide +kernel
theorem dX12_path_23 : decode cX12_path 23 = .ok (.iload_n 3, 1) := by decide +kernel
theorem dX12_path_24 : decode cX12_path 24 = .ok (.iconst 0, 1) := by decide +kernel
theorem dX12_path_25 : decode cX12_path 25 = .ok (.sipush 999, 3) := by decide +kernel
theorem dX12_path_28 : decode cX12_path 28 = .ok (.invokestatic 93, 3) := by decide +kernel
theorem dX12_path_31 : decode cX12_path 31 = .ok (.ifCond .ne 5, 3) := by decide +kernel
theorem dX12_path_34 : decode cX12_path 34 = .ok (.iconst (-1), 1) := by decide +kernel
theorem dX12_path_35 : decode cX12_path 35 = .ok (.ireturn, 1) := by decide +kernel
theorem dX12_path_36 : decode cX12_path 36 = .ok (.aload_n 0, 1) := by decide +kernel
theorem dX12_path_37 : decode cX12_path 37 = .ok (.iload_n 1, 1) := by decide +kernel
theorem dX12_path_38 : decode cX12_path 38 = .ok (.invokevirtual 203, 3) := by decide +kernel
theorem dX12_path_41 : decode cX12_path 41 = .ok (.aload_n 0, 1) := by decide +kernel
theorem dX12_path_42 : decode cX12_path 42 = .ok (.iload_n 2, 1) := by decide +kernel
theorem dX12_path_43 : decode cX12_path 43 = .ok (.invokevirtual 237, 3) := by decide +kernel
theorem dX12_path_46 : decode cX12_path 46 = .ok (.ifCond .eq 11, 3) := by decide +kernel
theorem dX12_path_49 : decode cX12_path 49 = .ok (.aload_n 0, 1) := by decide +kernel
theorem dX12_path_50 : decode cX12_path 50 = .ok (.iload_n 3, 1) := by decide +kernel
theorem dX12_path_51 : decode cX12_path 51 = .ok (.invokevirtual 237, 3) := by decide +kernel
theorem dX12_path_54 : decode cX12_path 54 = .ok (.ifCond .ne 5, 3) := by decide +kernel
theorem dX12_path_57 : decode cX12_path 57 = .ok (.iconst (-1), 1) := by decide +kernel
theorem dX12_path_58 : decode cX12_path 58 = .ok (.ireturn, 1) := by decide +kernel
theorem dX12_path_59 : decode cX12_path 59 = .ok (.iconst 0, 1) := by decide +kernel
theorem dX12_path_60 : decode cX12_path 60 = .ok (.istore 4, 2) := by decide +kernel
theorem dX12_path_62 : decode cX12_path 62 = .ok (.iload 4, 2) := by decide +kernel
theorem dX12_path_64 : decode cX12_path 64 = .ok (.sipush 1000, 3) := by decide +kernel
theorem dX12_path_67 : decode cX12_path 67 = .ok (.if_icmp .ge 17, 3) := by decide +kernel
theorem dX12_path_70 : decode cX12_path 70 = .ok (.aload_n 0, 1) := by decide +kernel
theorem dX12_path_71 : decode cX12_path 71 = .ok (.getfield 83, 3) := by decide +kernel
theorem dX12_path_74 : decode cX12_path 74 = .ok (.iload 4, 2) := by decide +kernel
theorem dX12_path_76 : decode cX12_path 76 = .ok (.iconst (-1), 1) := by decide +kernel
theorem dX12_path_77 : decode cX12_path 77 = .ok (.iastore, 1) := by decide +kernel
theorem dX12_path_78 : decode cX12_path 78 = .ok (.iinc 4 1, 3) := by decide +kernel
theorem dX12_path_81 : decode cX12_path 81 = .ok (.goto (-19), 3) := by decide +kernel
theorem dX12_path_84 : decode cX12_path 84 = .ok (.aload_n 0, 1) := by decide +kernel
theorem dX12_path_85 : decode cX12_path 85 = .ok (.getfield 83, 3) := by decide +kernel
theorem dX12_path_88 : decode cX12_path 88 = .ok (.iload_n 2, 1) := by decide +kernel
theorem dX12_path_89 : decode cX12_path 89 = .ok (.iconst 0, 1) := by decide +kernel
theorem dX12_path_90 : decode cX12_path 90 = .ok (.iastore, 1) := by decide +kernel
theorem dX12_path_91 : decode cX12_path 91 = .ok (.aload_n 0, 1) := by decide +kernel
theorem dX12_path_92 : decode cX12_path 92 = .ok (.getfield 71, 3) := by decide +kernel
theorem dX12_path_95 : decode cX12_path 95 = .ok (.iconst 0, 1) := by decide +kernel
theorem dX12_path_96 : decode cX12_path 96 = .ok (.iload_n 2, 1) := by decide +kernel
theorem dX12_path_97 : decode cX12_path 97 = .ok (.iastore, 1) := by decide +kernel
theorem dX12_path_98 : decode cX12_path 98 = .ok (.iconst 1, 1) := by decide +kernel
theorem dX12_path_99 : decode cX12_path 99 = .ok (.istore 4, 2) := by decide +kernel
theorem dX12_path_101 : decode cX12_path 101 = .ok (.iconst 0, 1) := by decide +kernel
theorem dX12_path_102 : decode cX12_path 102 = .ok (.istore 5, 2) := by decide +kernel
theorem dX12_path_104 : decode cX12_path 104 = .ok (.iload 5, 2) := by decide +kernel
theorem dX12_path_106 : decode cX12_path 106 = .ok (.iload 4, 2) := by decide +kernel
theorem dX12_path_108 : decode cX12_path 108 = .ok (.if_icmp .ge 173, 3) := by decide +kernel
theorem dX12_path_111 : decode cX12_path 111 = .ok (.aload_n 0, 1) := by decide +kernel
theorem dX12_path_112 : decode cX12_path 112 = .ok (.getfield 71, 3) := by decide +kernel
theorem dX12_path_115 : decode cX12_path 115 = .ok (.iload 5, 2) := by decide +kernel
theorem dX12_path_117 : decode cX12_path 117 = .ok (.iaload, 1) := by decide +kernel
theorem dX12_path_118 : decode cX12_path 118 = .ok (.istore 6, 2) := by decide +kernel
theorem dX12_path_120 : decode cX12_path 120 = .ok (.iconst 2, 1) := by decide +kernel
theorem dX12_path_121 : decode cX12_path 121 = .ok (.istore 7, 2) := by decide +kernel
theorem dX12_path_123 : decode cX12_path 123 = .ok (.iload 7, 2) := by decide +kernel
theorem dX12_path_125 : decode cX12_path 125 = .ok (.bipush 6, 2) := by decide +kernel
theorem dX12_path_127 : decode cX12_path 127 = .ok (.if_icmp .ge 148, 3) := by decide +kernel
theorem dX12_path_130 : decode cX12_path 130 = .ok (.iload 6, 2) := by decide +kernel
theorem dX12_path_132 : decode cX12_path 132 = .ok (.iload 7, 2) := by decide +kernel
theorem dX12_path_134 : decode cX12_path 134 = .ok (.invokestatic 196, 3) := by decide +kernel
theorem dX12_path_137 : decode cX12_path 137 = .ok (.istore 8, 2) := by decide +kernel
theorem dX12_path_139 : decode cX12_path 139 = .ok (.bipush (-100), 2) := by decide +kernel
theorem dX12_path_141 : decode cX12_path 141 = .ok (.istore 9, 2) := by decide +kernel
theorem dX12_path_143 : decode cX12_path 143 = .ok (.iload 9, 2) := by decide +kernel
theorem dX12_path_145 : decode cX12_path 145 = .ok (.bipush 100, 2) := by decide +kernel
theorem dX12_path_147 : decode cX12_path 147 = .ok (.if_icmp .gt 122, 3) := by decide +kernel
theorem dX12_path_150 : decode cX12_path 150 = .ok (.iload 8, 2) := by decide +kernel
theorem dX12_path_152 : decode cX12_path 152 = .ok (.iconst (-1), 1) := by decide +kernel
theorem dX12_path_153 : decode cX12_path 153 = .ok (.if_icmp .eq 116, 3) := by decide +kernel
theorem dX12_path_156 : decode cX12_path 156 = .ok (.iload 8, 2) := by decide +kernel
theorem dX12_path_158 : decode cX12_path 158 = .ok (.iload 9, 2) := by decide +kernel
theorem dX12_path_160 : decode cX12_path 160 = .ok (.iadd, 1) := by decide +kernel
theorem dX12_path_161 : decode cX12_path 161 = .ok (.istore 10, 2) := by decide +kernel
theorem dX12_path_163 : decode cX12_path 163 = .ok (.iload 10, 2) := by decide +kernel
theorem dX12_path_165 : decode cX12_path 165 = .ok (.iconst 0, 1) := by decide +kernel
theorem dX12_path_166 : decode cX12_path 166 = .ok (.sipush 999, 3) := by decide +kernel
theorem dX12_path_169 : decode cX12_path 169 = .ok (.invokestatic 93, 3) := by decide +kernel
theorem dX12_path_172 : decode cX12_path 172 = .ok (.ifCond .eq 91, 3) := by decide +kernel
theorem dX12_path_175 : decode cX12_path 175 = .ok (.aload_n 0, 1) := by decide +kernel
theorem dX12_path_176 : decode cX12_path 176 = .ok (.getfield 83, 3) := by decide +kernel
theorem dX12_path_179 : decode cX12_path 179 = .ok (.iload 10, 2) := by decide +kernel
theorem dX12_path_181 : decode cX12_path 181 = .ok (.iaload, 1) := by decide +kernel
theorem dX12_path_182 : decode cX12_path 182 = .ok (.iconst (-1), 1) := by decide +kernel
theorem dX12_path_183 : decode cX12_path 183 = .ok (.if_icmp .ne 80, 3) := by decide +kernel
theorem dX12_path_186 : decode cX12_path 186 = .ok (.aload_n 0, 1) := by decide +kernel
theorem dX12_path_187 : decode cX12_path 187 = .ok (.iload 10, 2) := by decide +kernel
theorem dX12_path_189 : decode cX12_path 189 = .ok (.invokevirtual 237, 3) := by decide +kernel
theorem dX12_path_192 : decode cX12_path 192 = .ok (.ifCond .ne 6, 3) := by decide +kernel
theorem dX12_path_195 : decode cX12_path 195 = .ok (.goto 68, 3) := by decide +kernel
theorem dX12_path_198 : decode cX12_path 198 = .ok (.iload 9, 2) := by decide +kernel
theorem dX12_path_200 : decode cX12_path 200 = .ok (.ifCond .le 15, 3) := by decide +kernel
theorem dX12_path_203 : decode cX12_path 203 = .ok (.aload_n 0, 1) := by decide +kernel
theorem dX12_path_204 : decode cX12_path 204 = .ok (.iload 6, 2) := by decide +kernel
theorem dX12_path_206 : decode cX12_path 206 = .ok (.bipush 100, 2) := by decide +kernel
theorem dX12_path_208 : decode cX12_path 208 = .ok (.iadd, 1) := by decide +kernel
theorem dX12_path_209 : decode cX12_path 209 = .ok (.invokevirtual 240, 3) := by decide +kernel
theorem dX12_path_212 : decode cX12_path 212 = .ok (.ifCond .eq 51, 3) := by decide +kernel
theorem dX12_path_215 : decode cX12_path 215 = .ok (.iload 9, 2) := by decide +kernel
theorem dX12_path_217 : decode cX12_path 217 = .ok (.ifCond .ge 18, 3) := by decide +kernel
theorem dX12_path_220 : decode cX12_path 220 = .ok (.aload_n 0, 1) := by decide +kernel
theorem dX12_path_221 : decode cX12_path 221 = .ok (.iload 10, 2) := by decide +kernel
theorem dX12_path_223 : decode cX12_path 223 = .ok (.bipush 100, 2) := by decide +kernel
theorem dX12_path_225 : decode cX12_path 225 = .ok (.iadd, 1) := by decide +kernel
theorem dX12_path_226 : decode cX12_path 226 = .ok (.invokevirtual 240, 3) := by decide +kernel
theorem dX12_path_229 : decode cX12_path 229 = .ok (.ifCond .ne 6, 3) := by decide +kernel
theorem dX12_path_232 : decode cX12_path 232 = .ok (.goto 31, 3) := by decide +kernel
theorem dX12_path_235 : decode cX12_path 235 = .ok (.aload_n 0, 1) := by decide +kernel
theorem dX12_path_236 : decode cX12_path 236 = .ok (.getfield 83, 3) := by decide +kernel
theorem dX12_path_239 : decode cX12_path 239 = .ok (.iload 10, 2) := by decide +kernel
theorem dX12_path_241 : decode cX12_path 241 = .ok (.aload_n 0, 1) := by decide +kernel
theorem dX12_path_242 : decode cX12_path 242 = .ok (.getfield 83, 3) := by decide +kernel
theorem dX12_path_245 : decode cX12_path 245 = .ok (.iload 6, 2) := by decide +kernel
theorem dX12_path_247 : decode cX12_path 247 = .ok (.iaload, 1) := by decide +kernel
theorem dX12_path_248 : decode cX12_path 248 = .ok (.iconst 1, 1) := by decide +kernel
theorem dX12_path_249 : decode cX12_path 249 = .ok (.iadd, 1) := by decide +kernel
theorem dX12_path_250 : decode cX12_path 250 = .ok (.iastore, 1) := by decide +kernel
theorem dX12_path_251 : decode cX12_path 251 = .ok (.aload_n 0, 1) := by decide +kernel
theorem dX12_path_252 : decode cX12_path 252 = .ok (.getfield 71, 3) := by decide +kernel
theorem dX12_path_255 : decode cX12_path 255 = .ok (.iload 4, 2) := by decide +kernel
theorem dX12_path_257 : decode cX12_path 257 = .ok (.iload 10, 2) := by decide +kernel
theorem dX12_path_259 : decode cX12_path 259 = .ok (.iastore, 1) := by decide +kernel
theorem dX12_path_260 : decode cX12_path 260 = .ok (.iinc 4 1, 3) := by decide +kernel
theorem dX12_path_263 : decode cX12_path 263 = .ok (.iinc 9 100, 3) := by decide +kernel
theorem dX12_path_266 : decode cX12_path 266 = .ok (.goto (-123), 3) := by decide +kernel
theorem dX12_path_269 : decode cX12_path 269 = .ok (.iinc 7 1, 3) := by decide +kernel
theorem dX12_path_272 : decode cX12_path 272 = .ok (.goto (-149), 3) := by decide +kernel
theorem dX12_path_275 : decode cX12_path 275 = .ok (.iinc 5 1, 3) := by decide +kernel
theorem dX12_path_278 : decode cX12_path 278 = .ok (.goto (-174), 3) := by decide +kernel
theorem dX12_path_281 : decode cX12_path 281 = .ok (.aload_n 0, 1) := by decide +kernel
theorem dX12_path_282 : decode cX12_path 282 = .ok (.getfield 83, 3) := by decide +kernel
theorem dX12_path_285 : decode cX12_path 285 = .ok (.iload_n 3, 1) := by decide +kernel
theorem dX12_path_286 : decode cX12_path 286 = .ok (.iaload, 1) := by decide +kernel
theorem dX12_path_287 : decode cX12_path 287 = .ok (.ireturn, 1) := by decide +kernel
theorem dX12_findBlocks_0 : decode cX12_findBlocks 0 = .ok (.aload_n 0, 1) := by decide +kernel
theorem dX12_findBlocks_1 : decode cX12_findBlocks 1 = .ok (.iconst 0, 1) := by decide +kernel
theorem dX12_findBlocks_2 : decode cX12_findBlocks 2 = .ok (.putfield 243, 3) := by decide +kernel
theorem dX12_findBlocks_5 : decode cX12_findBlocks 5 = .ok (.iconst 0, 1) := by decide +kernel
theorem dX12_findBlocks_6 : decode cX12_findBlocks 6 = .ok (.istore_n 2, 1) := by decide +kernel
theorem dX12_findBlocks_7 : decode cX12_findBlocks 7 = .ok (.iload_n 2, 1) := by decide +kernel
theorem dX12_findBlocks_8 : decode cX12_findBlocks 8 = .ok (.sipush 1000, 3) := by decide +kernel
theorem dX12_findBlocks_11 : decode cX12_findBlocks 11 = .ok (.if_icmp .ge 41, 3) := by decide +kernel
theorem dX12_findBlocks_14 : decode cX12_findBlocks 14 = .ok (.aload_n 0, 1) := by decide +kernel
theorem dX12_findBlocks_15 : decode cX12_findBlocks 15 = .ok (.iload_n 1, 1) := by decide +kernel
theorem dX12_findBlocks_16 : decode cX12_findBlocks 16 = .ok (.iload_n 2, 1) := by decide +kernel
theorem dX12_findBlocks_17 : decode cX12_findBlocks 17 = .ok (.invokevirtual 186, 3) := by decide +kernel
theorem dX12_findBlocks_20 : decode cX12_findBlocks 20 = .ok (.ifCond .gt 6, 3) := by decide +kernel
theorem dX12_findBlocks_23 : decode cX12_findBlocks 23 = .ok (.goto 23, 3) := by decide +kernel
theorem dX12_findBlocks_26 : decode cX12_findBlocks 26 = .ok (.aload_n 0, 1) := by decide +kernel
theorem dX12_findBlocks_27 : decode cX12_findBlocks 27 = .ok (.getfield 86, 3) := by decide +kernel
theorem dX12_findBlocks_30 : decode cX12_findBlocks 30 = .ok (.aload_n 0, 1) := by decide +kernel
theorem dX12_findBlocks_31 : decode cX12_findBlocks 31 = .ok (.getfield 243, 3) := by decide +kernel
theorem dX12_findBlocks_34 : decode cX12_findBlocks 34 = .ok (.iload_n 2, 1) := by decide +kernel
theorem dX12_findBlocks_35 : decode cX12_findBlocks 35 = .ok (.iastore, 1) := by decide +kernel
theorem dX12_findBlocks_36 : decode cX12_findBlocks 36 = .ok (.aload_n 0, 1) := by decide +kernel
theorem dX12_findBlocks_37 : decode cX12_findBlocks 37 = .ok (.dup, 1) := by decide +kernel
theorem dX12_findBlocks_38 : decode cX12_findBlocks 38 = .ok (.getfield 243, 3) := by decide +kernel
theorem dX12_findBlocks_41 : decode cX12_findBlocks 41 = .ok (.iconst 1, 1) := by decide +kernel
theorem dX12_findBlocks_42 : decode cX12_findBlocks 42 = .ok (.iadd, 1) := by decide +kernel
theorem dX12_findBlocks_43 : decode cX12_findBlocks 43 = .ok (.putfield 243, 3) := by decide +kernel
theorem dX12_findBlocks_46 : decode cX12_findBlocks 46 = .ok (.iinc 2 1, 3) := by decide +kernel
theorem dX12_findBlocks_49 : decode cX12_findBlocks 49 = .ok (.goto (-42), 3) := by decide +kernel
theorem dX12_findBlocks_52 : decode cX12_findBlocks 52 = .ok (.aload_n 0, 1) := by decide +kernel
theorem dX12_findBlocks_53 : decode cX12_findBlocks 53 = .ok (.iload_n 1, 1) := by decide +kernel
theorem dX12_findBlocks_54 : decode cX12_findBlocks 54 = .ok (.invokevirtual 203, 3) := by decide +kernel
theorem dX12_findBlocks_57 : decode cX12_findBlocks 57 = .ok (.return_, 1) := by decide +kernel
theorem dX12_goesIn_0 : decode cX12_goesIn 0 = .ok (.iconst 0, 1) := by decide +kernel
theorem dX12_goesIn_1 : decode cX12_goesIn 1 = .ok (.istore 5, 2) := by decide +kernel
theorem dX12_goesIn_3 : decode cX12_goesIn 3 = .ok (.iload 5, 2) := by decide +kernel
theorem dX12_goesIn_5 : decode cX12_goesIn 5 = .ok (.aload_n 0, 1) := by decide +kernel
theorem dX12_goesIn_6 : decode cX12_goesIn 6 = .ok (.getfield 243, 3) := by decide +kernel
theorem dX12_goesIn_9 : decode cX12_goesIn 9 = .ok (.if_icmp .ge 117, 3) := by decide +kernel
theorem dX12_goesIn_12 : decode cX12_goesIn 12 = .ok (.aload_n 0, 1) := by decide +kernel
theorem dX12_goesIn_13 : decode cX12_goesIn 13 = .ok (.getfield 86, 3) := by decide +kernel
theorem dX12_goesIn_16 : decode cX12_goesIn 16 = .ok (.iload 5, 2) := by decide +kernel
theorem dX12_goesIn_18 : decode cX12_goesIn 18 = .ok (.iaload, 1) := by decide +kernel
theorem dX12_goesIn_19 : decode cX12_goesIn 19 = .ok (.istore 6, 2) := by decide +kernel
theorem dX12_goesIn_21 : decode cX12_goesIn 21 = .ok (.iload 6, 2) := by decide +kernel
theorem dX12_goesIn_23 : decode cX12_goesIn 23 = .ok (.bipush 100, 2) := by decide +kernel
theorem dX12_goesIn_25 : decode cX12_goesIn 25 = .ok (.idiv, 1) := by decide +kernel
theorem dX12_goesIn_26 : decode cX12_goesIn 26 = .ok (.iload_n 2, 1) := by decide +kernel
theorem dX12_goesIn_27 : decode cX12_goesIn 27 = .ok (.iadd, 1) := by decide +kernel
theorem dX12_goesIn_28 : decode cX12_goesIn 28 = .ok (.istore 7, 2) := by decide +kernel
theorem dX12_goesIn_30 : decode cX12_goesIn 30 = .ok (.iload 6, 2) := by decide +kernel
theorem dX12_goesIn_32 : decode cX12_goesIn 32 = .ok (.bipush 10, 2) := by decide +kernel
theorem dX12_goesIn_34 : decode cX12_goesIn 34 = .ok (.idiv, 1) := by decide +kernel
theorem dX12_goesIn_35 : decode cX12_goesIn 35 = .ok (.bipush 10, 2) := by decide +kernel
theorem dX12_goesIn_37 : decode cX12_goesIn 37 = .ok (.irem, 1) := by decide +kernel
theorem dX12_goesIn_38 : decode cX12_goesIn 38 = .ok (.iload_n 3, 1) := by decide +kernel
theorem dX12_goesIn_39 : decode cX12_goesIn 39 = .ok (.iadd, 1) := by decide +kernel
theorem dX12_goesIn_40 : decode cX12_goesIn 40 = .ok (.istore 8, 2) := by decide +kernel
theorem dX12_goesIn_42 : decode cX12_goesIn 42 = .ok (.iload 6, 2) := by decide +kernel
theorem dX12_goesIn_44 : decode cX12_goesIn 44 = .ok (.bipush 10, 2) := by decide +kernel
theorem dX12_goesIn_46 : decode cX12_goesIn 46 = .ok (.irem, 1) := by decide +kernel
theorem dX12_goesIn_47 : decode cX12_goesIn 47 = .ok (.iload 4, 2) := by decide +kernel
theorem dX12_goesIn_49 : decode cX12_goesIn 49 = .ok (.iadd, 1) := by decide +kernel
theorem dX12_goesIn_50 : decode cX12_goesIn 50 = .ok (.istore 9, 2) := by decide +kernel
theorem dX12_goesIn_52 : decode cX12_goesIn 52 = .ok (.aload_n 0, 1) := by decide +kernel
theorem dX12_goesIn_53 : decode cX12_goesIn 53 = .ok (.iload_n 1, 1) := by decide +kernel
theorem dX12_goesIn_54 : decode cX12_goesIn 54 = .ok (.iload 7, 2) := by decide +kernel
theorem dX12_goesIn_56 : decode cX12_goesIn 56 = .ok (.iload 8, 2) := by decide +kernel
theorem dX12_goesIn_58 : decode cX12_goesIn 58 = .ok (.iload 9, 2) := by decide +kernel
theorem dX12_goesIn_60 : decode cX12_goesIn 60 = .ok (.invokevirtual 159, 3) := by decide +kernel
theorem dX12_goesIn_63 : decode cX12_goesIn 63 = .ok (.ifCond .ne 55, 3) := by decide +kernel
theorem dX12_goesIn_66 : decode cX12_goesIn 66 = .ok (.aload_n 0, 1) := by decide +kernel
theorem dX12_goesIn_67 : decode cX12_goesIn 67 = .ok (.getfield 38, 3) := by decide +kernel
theorem dX12_goesIn_70 : decode cX12_goesIn 70 = .ok (.aload_n 0, 1) := by decide +kernel
theorem dX12_goesIn_71 : decode cX12_goesIn 71 = .ok (.iload_n 1, 1) := by decide +kernel
theorem dX12_goesIn_72 : decode cX12_goesIn 72 = .ok (.iload 7, 2) := by decide +kernel
theorem dX12_goesIn_74 : decode cX12_goesIn 74 = .ok (.iload 8, 2) := by decide +kernel
theorem dX12_goesIn_76 : decode cX12_goesIn 76 = .ok (.iload 9, 2) := by decide +kernel
theorem dX12_goesIn_78 : decode cX12_goesIn 78 = .ok (.invokevirtual 144, 3) := by decide +kernel
theorem dX12_goesIn_81 : decode cX12_goesIn 81 = .ok (.iaload, 1) := by decide +kernel
theorem dX12_goesIn_82 : decode cX12_goesIn 82 = .ok (.aload_n 0, 1) := by decide +kernel
theorem dX12_goesIn_83 : decode cX12_goesIn 83 = .ok (.getfield 56, 3) := by decide +kernel
theorem dX12_goesIn_86 : decode cX12_goesIn 86 = .ok (.iload 6, 2) := by decide +kernel
theorem dX12_goesIn_88 : decode cX12_goesIn 88 = .ok (.iaload, 1) := by decide +kernel
theorem dX12_goesIn_89 : decode cX12_goesIn 89 = .ok (.if_icmp .ne 29, 3) := by decide +kernel
theorem dX12_goesIn_92 : decode cX12_goesIn 92 = .ok (.aload_n 0, 1) := by decide +kernel
theorem dX12_goesIn_93 : decode cX12_goesIn 93 = .ok (.getfield 41, 3) := by decide +kernel
theorem dX12_goesIn_96 : decode cX12_goesIn 96 = .ok (.aload_n 0, 1) := by decide +kernel
theorem dX12_goesIn_97 : decode cX12_goesIn 97 = .ok (.iload_n 1, 1) := by decide +kernel
theorem dX12_goesIn_98 : decode cX12_goesIn 98 = .ok (.iload 7, 2) := by decide +kernel
theorem dX12_goesIn_100 : decode cX12_goesIn 100 = .ok (.iload 8, 2) := by decide +kernel
theorem dX12_goesIn_102 : decode cX12_goesIn 102 = .ok (.iload 9, 2) := by decide +kernel
theorem dX12_goesIn_104 : decode cX12_goesIn 104 = .ok (.invokevirtual 144, 3) := by decide +kernel
theorem dX12_goesIn_107 : decode cX12_goesIn 107 = .ok (.iaload, 1) := by decide +kernel
theorem dX12_goesIn_108 : decode cX12_goesIn 108 = .ok (.aload_n 0, 1) := by decide +kernel
theorem dX12_goesIn_109 : decode cX12_goesIn 109 = .ok (.getfield 59, 3) := by decide +kernel
theorem dX12_goesIn_112 : decode cX12_goesIn 112 = .ok (.iload 6, 2) := by decide +kernel
theorem dX12_goesIn_114 : decode cX12_goesIn 114 = .ok (.iaload, 1) := by decide +kernel
theorem dX12_goesIn_115 : decode cX12_goesIn 115 = .ok (.if_icmp .eq 5, 3) := by decide +kernel
theorem dX12_goesIn_118 : decode cX12_goesIn 118 = .ok (.iconst 0, 1) := by decide +kernel
theorem dX12_goesIn_119 : decode cX12_goesIn 119 = .ok (.ireturn, 1) := by decide +kernel
theorem dX12_goesIn_120 : decode cX12_goesIn 120 = .ok (.iinc 5 1, 3) := by decide +kernel
theorem dX12_goesIn_123 : decode cX12_goesIn 123 = .ok (.goto (-120), 3) := by decide +kernel
theorem dX12_goesIn_126 : decode cX12_goesIn 126 = .ok (.aload_n 0, 1) := by decide +kernel
theorem dX12_goesIn_127 : decode cX12_goesIn 127 = .ok (.getfield 243, 3) := by decide +kernel
theorem dX12_goesIn_130 : decode cX12_goesIn 130 = .ok (.ifCond .le 7, 3) := by decide +kernel
theorem dX12_goesIn_133 : decode cX12_goesIn 133 = .ok (.iconst 1, 1) := by decide +kernel
theorem dX12_goesIn_134 : decode cX12_goesIn 134 = .ok (.goto 4, 3) := by decide +kernel
theorem dX12_goesIn_137 : decode cX12_goesIn 137 = .ok (.iconst 0, 1) := by decide +kernel
theorem dX12_goesIn_138 : decode cX12_goesIn 138 = .ok (.ireturn, 1) := by decide +kernel
theorem dX12_goes_0 : decode cX12_goes 0 = .ok (.aload_n 0, 1) := by decide +kernel
theorem dX12_goes_1 : decode cX12_goes 1 = .ok (.iload_n 2, 1) := by decide +kernel
theorem dX12_goes_2 : decode cX12_goes 2 = .ok (.invokevirtual 246, 3) := by decide +kernel
theorem dX12_goes_5 : decode cX12_goes 5 = .ok (.iconst 0, 1) := by decide +kernel
theorem dX12_goes_6 : decode cX12_goes 6 = .ok (.istore 4, 2) := by decide +kernel
theorem dX12_goes_8 : decode cX12_goes 8 = .ok (.iconst 0, 1) := by decide +kernel
theorem dX12_goes_9 : decode cX12_goes 9 = .ok (.istore 5, 2) := by decide +kernel
theorem dX12_goes_11 : decode cX12_goes 11 = .ok (.iload 5, 2) := by decide +kernel
theorem dX12_goes_13 : decode cX12_goes 13 = .ok (.sipush 6859, 3) := by decide +kernel
theorem dX12_goes_16 : decode cX12_goes 16 = .ok (.if_icmp .ge 94, 3) := by decide +kernel
theorem dX12_goes_19 : decode cX12_goes 19 = .ok (.iload 5, 2) := by decide +kernel
theorem dX12_goes_21 : decode cX12_goes 21 = .ok (.sipush 361, 3) := by decide +kernel
theorem dX12_goes_24 : decode cX12_goes 24 = .ok (.idiv, 1) := by decide +kernel
theorem dX12_goes_25 : decode cX12_goes 25 = .ok (.bipush 9, 2) := by decide +kernel
theorem dX12_goes_27 : decode cX12_goes 27 = .ok (.isub, 1) := by decide +kernel
theorem dX12_goes_28 : decode cX12_goes 28 = .ok (.istore 6, 2) := by decide +kernel
theorem dX12_goes_30 : decode cX12_goes 30 = .ok (.iload 5, 2) := by decide +kernel
theorem dX12_goes_32 : decode cX12_goes 32 = .ok (.bipush 19, 2) := by decide +kernel
theorem dX12_goes_34 : decode cX12_goes 34 = .ok (.idiv, 1) := by decide +kernel
theorem dX12_goes_35 : decode cX12_goes 35 = .ok (.bipush 19, 2) := by decide +kernel
theorem dX12_goes_37 : decode cX12_goes 37 = .ok (.irem, 1) := by decide +kernel
theorem dX12_goes_38 : decode cX12_goes 38 = .ok (.bipush 9, 2) := by decide +kernel
theorem dX12_goes_40 : decode cX12_goes 40 = .ok (.isub, 1) := by decide +kernel
theorem dX12_goes_41 : decode cX12_goes 41 = .ok (.istore 7, 2) := by decide +kernel
theorem dX12_goes_43 : decode cX12_goes 43 = .ok (.iload 5, 2) := by decide +kernel
theorem dX12_goes_45 : decode cX12_goes 45 = .ok (.bipush 19, 2) := by decide +kernel
theorem dX12_goes_47 : decode cX12_goes 47 = .ok (.irem, 1) := by decide +kernel
theorem dX12_goes_48 : decode cX12_goes 48 = .ok (.bipush 9, 2) := by decide +kernel
theorem dX12_goes_50 : decode cX12_goes 50 = .ok (.isub, 1) := by decide +kernel
theorem dX12_goes_51 : decode cX12_goes 51 = .ok (.istore 8, 2) := by decide +kernel
theorem dX12_goes_53 : decode cX12_goes 53 = .ok (.aload_n 0, 1) := by decide +kernel
theorem dX12_goes_54 : decode cX12_goes 54 = .ok (.iload_n 1, 1) := by decide +kernel
theorem dX12_goes_55 : decode cX12_goes 55 = .ok (.iload 6, 2) := by decide +kernel
theorem dX12_goes_57 : decode cX12_goes 57 = .ok (.iload 7, 2) := by decide +kernel
theorem dX12_goes_59 : decode cX12_goes 59 = .ok (.iload 8, 2) := by decide +kernel
theorem dX12_goes_61 : decode cX12_goes 61 = .ok (.invokevirtual 249, 3) := by decide +kernel
theorem dX12_goes_64 : decode cX12_goes 64 = .ok (.ifCond .ne 6, 3) := by decide +kernel
theorem dX12_goes_67 : decode cX12_goes 67 = .ok (.goto 37, 3) := by decide +kernel
theorem dX12_goes_70 : decode cX12_goes 70 = .ok (.iload 4, 2) := by decide +kernel
theorem dX12_goes_72 : decode cX12_goes 72 = .ok (.iload_n 3, 1) := by decide +kernel
theorem dX12_goes_73 : decode cX12_goes 73 = .ok (.if_icmp .ne 28, 3) := by decide +kernel
theorem dX12_goes_76 : decode cX12_goes 76 = .ok (.sipush 10000, 3) := by decide +kernel
theorem dX12_goes_79 : decode cX12_goes 79 = .ok (.iload 6, 2) := by decide +kernel
theorem dX12_goes_81 : decode cX12_goes 81 = .ok (.bipush 9, 2) := by decide +kernel
theorem dX12_goes_83 : decode cX12_goes 83 = .ok (.iadd, 1) := by decide +kernel
theorem dX12_goes_84 : decode cX12_goes 84 = .ok (.imul, 1) := by decide +kernel
theorem dX12_goes_85 : decode cX12_goes 85 = .ok (.bipush 100, 2) := by decide +kernel
theorem dX12_goes_87 : decode cX12_goes 87 = .ok (.iload 7, 2) := by decide +kernel
theorem dX12_goes_89 : decode cX12_goes 89 = .ok (.bipush 9, 2) := by decide +kernel
theorem dX12_goes_91 : decode cX12_goes 91 = .ok (.iadd, 1) := by decide +kernel
theorem dX12_goes_92 : decode cX12_goes 92 = .ok (.imul, 1) := by decide +kernel
theorem dX12_goes_93 : decode cX12_goes 93 = .ok (.iadd, 1) := by decide +kernel
theorem dX12_goes_94 : decode cX12_goes 94 = .ok (.iload 8, 2) := by decide +kernel
theorem dX12_goes_96 : decode cX12_goes 96 = .ok (.iadd, 1) := by decide +kernel
theorem dX12_goes_97 : decode cX12_goes 97 = .ok (.bipush 9, 2) := by decide +kernel
theorem dX12_goes_99 : decode cX12_goes 99 = .ok (.iadd, 1) := by decide +kernel
theorem dX12_goes_100 : decode cX12_goes 100 = .ok (.ireturn, 1) := by decide +kernel
theorem dX12_goes_101 : decode cX12_goes 101 = .ok (.iinc 4 1, 3) := by decide +kernel
theorem dX12_goes_104 : decode cX12_goes 104 = .ok (.iinc 5 1, 3) := by decide +kernel
theorem dX12_goes_107 : decode cX12_goes 107 = .ok (.goto (-96), 3) := by decide +kernel
theorem dX12_goes_110 : decode cX12_goes 110 = .ok (.iload_n 3, 1) := by decide +kernel
theorem dX12_goes_111 : decode cX12_goes 111 = .ok (.ifCond .ge 8, 3) := by decide +kernel
theorem dX12_goes_114 : decode cX12_goes 114 = .ok (.iload 4, 2) := by decide +kernel
theorem dX12_goes_116 : decode cX12_goes 116 = .ok (.goto 4, 3) := by decide +kernel
theorem dX12_goes_119 : decode cX12_goes 119 = .ok (.iconst (-1), 1) := by decide +kernel
theorem dX12_goes_120 : decode cX12_goes 120 = .ok (.ireturn, 1) := by decide +kernel
theorem dX12_places_0 : decode cX12_places 0 = .ok (.aload_n 0, 1) := by decide +kernel
theorem dX12_places_1 : decode cX12_places 1 = .ok (.iconst 0, 1) := by decide +kernel
theorem dX12_places_2 : decode cX12_places 2 = .ok (.putfield 89, 3) := by decide +kernel
theorem dX12_places_5 : decode cX12_places 5 = .ok (.iload_n 1, 1) := by decide +kernel
theorem dX12_places_6 : decode cX12_places 6 = .ok (.invokestatic 156, 3) := by decide +kernel
theorem dX12_places_9 : decode cX12_places 9 = .ok (.ifCond .eq 20, 3) := by decide +kernel
theorem dX12_places_12 : decode cX12_places 12 = .ok (.iload_n 2, 1) := by decide +kernel
theorem dX12_places_13 : decode cX12_places 13 = .ok (.invokestatic 156, 3) := by decide +kernel
theorem dX12_places_16 : decode cX12_places 16 = .ok (.ifCond .eq 13, 3) := by decide +kernel
theorem dX12_places_19 : decode cX12_places 19 = .ok (.aload_n 0, 1) := by decide +kernel
theorem dX12_places_20 : decode cX12_places 20 = .ok (.iload_n 1, 1) := by decide +kernel
theorem dX12_places_21 : decode cX12_places 21 = .ok (.iload_n 2, 1) := by decide +kernel
theorem dX12_places_22 : decode cX12_places 22 = .ok (.iconst (-1), 1) := by decide +kernel
theorem dX12_places_23 : decode cX12_places 23 = .ok (.invokevirtual 252, 3) := by decide +kernel
theorem dX12_places_26 : decode cX12_places 26 = .ok (.goto 4, 3) := by decide +kernel
theorem dX12_places_29 : decode cX12_places 29 = .ok (.iconst (-1), 1) := by decide +kernel
theorem dX12_places_30 : decode cX12_places 30 = .ok (.ireturn, 1) := by decide +kernel
theorem dX12_place_0 : decode cX12_place 0 = .ok (.aload_n 0, 1) := by decide +kernel
theorem dX12_place_1 : decode cX12_place 1 = .ok (.iconst 0, 1) := by decide +kernel
theorem dX12_place_2 : decode cX12_place 2 = .ok (.putfield 89, 3) := by decide +kernel
theorem dX12_place_5 : decode cX12_place 5 = .ok (.iload_n 1, 1) := by decide +kernel
theorem dX12_place_6 : decode cX12_place 6 = .ok (.invokestatic 156, 3) := by decide +kernel
theorem dX12_place_9 : decode cX12_place 9 = .ok (.ifCond .eq 24, 3) := by decide +kernel
theorem dX12_place_12 : decode cX12_place 12 = .ok (.iload_n 2, 1) := by decide +kernel
theorem dX12_place_13 : decode cX12_place 13 = .ok (.invokestatic 156, 3) := by decide +kernel
theorem dX12_place_16 : decode cX12_place 16 = .ok (.ifCond .eq 17, 3) := by decide +kernel
theorem dX12_place_19 : decode cX12_place 19 = .ok (.iload_n 3, 1) := by decide +kernel
theorem dX12_place_20 : decode cX12_place 20 = .ok (.ifCond .lt 13, 3) := by decide +kernel
theorem dX12_place_23 : decode cX12_place 23 = .ok (.aload_n 0, 1) := by decide +kernel
theorem dX12_place_24 : decode cX12_place 24 = .ok (.iload_n 1, 1) := by decide +kernel
theorem dX12_place_25 : decode cX12_place 25 = .ok (.iload_n 2, 1) := by decide +kernel
theorem dX12_place_26 : decode cX12_place 26 = .ok (.iload_n 3, 1) := by decide +kernel
theorem dX12_place_27 : decode cX12_place 27 = .ok (.invokevirtual 252, 3) := by decide +kernel
theorem dX12_place_30 : decode cX12_place 30 = .ok (.goto 4, 3) := by decide +kernel
theorem dX12_place_33 : decode cX12_place 33 = .ok (.iconst (-1), 1) := by decide +kernel
theorem dX12_place_34 : decode cX12_place 34 = .ok (.ireturn, 1) := by decide +kernel
theorem dX12_differs_0 : decode cX12_differs 0 = .ok (.aload_n 0, 1) := by decide +kernel
theorem dX12_differs_1 : decode cX12_differs 1 = .ok (.iconst 0, 1) := by decide +kernel
theorem dX12_differs_2 : decode cX12_differs 2 = .ok (.putfield 89, 3) := by decide +kernel
theorem dX12_differs_5 : decode cX12_differs 5 = .ok (.iload_n 1, 1) := by decide +kernel
theorem dX12_differs_6 : decode cX12_differs 6 = .ok (.invokestatic 156, 3) := by decide +kernel
theorem dX12_differs_9 : decode cX12_differs 9 = .ok (.ifCond .eq 10, 3) := by decide +kernel
theorem dX12_differs_12 : decode cX12_differs 12 = .ok (.iload_n 2, 1) := by decide +kernel
theorem dX12_differs_13 : decode cX12_differs 13 = .ok (.invokestatic 156, 3) := by decide +kernel
theorem dX12_differs_16 : decode cX12_differs 16 = .ok (.ifCond .ne 5, 3) := by decide +kernel
theorem dX12_differs_19 : decode cX12_differs 19 = .ok (.iconst (-1), 1) := by decide +kernel
theorem dX12_differs_20 : decode cX12_differs 20 = .ok (.ireturn, 1) := by decide +kernel
theorem dX12_differs_21 : decode cX12_differs 21 = .ok (.aload_n 0, 1) := by decide +kernel
theorem dX12_differs_22 : decode cX12_differs 22 = .ok (.iload_n 1, 1) := by decide +kernel
theorem dX12_differs_23 : decode cX12_differs 23 = .ok (.invokevirtual 203, 3) := by decide +kernel
theorem dX12_differs_26 : decode cX12_differs 26 = .ok (.iconst 0, 1) := by decide +kernel
theorem dX12_differs_27 : decode cX12_differs 27 = .ok (.istore_n 3, 1) := by decide +kernel
theorem dX12_differs_28 : decode cX12_differs 28 = .ok (.iconst 0, 1) := by decide +kernel
theorem dX12_differs_29 : decode cX12_differs 29 = .ok (.istore 4, 2) := by decide +kernel
theorem dX12_differs_31 : decode cX12_differs 31 = .ok (.iload 4, 2) := by decide +kernel
theorem dX12_differs_33 : decode cX12_differs 33 = .ok (.sipush 1000, 3) := by decide +kernel
theorem dX12_differs_36 : decode cX12_differs 36 = .ok (.if_icmp .ge 73, 3) := by decide +kernel
theorem dX12_differs_39 : decode cX12_differs 39 = .ok (.aload_n 0, 1) := by decide +kernel
theorem dX12_differs_40 : decode cX12_differs 40 = .ok (.iload_n 2, 1) := by decide +kernel
theorem dX12_differs_41 : decode cX12_differs 41 = .ok (.iload 4, 2) := by decide +kernel
theorem dX12_differs_43 : decode cX12_differs 43 = .ok (.invokevirtual 186, 3) := by decide +kernel
theorem dX12_differs_46 : decode cX12_differs 46 = .ok (.istore 5, 2) := by decide +kernel
theorem dX12_differs_48 : decode cX12_differs 48 = .ok (.iload 5, 2) := by decide +kernel
theorem dX12_differs_50 : decode cX12_differs 50 = .ok (.aload_n 0, 1) := by decide +kernel
theorem dX12_differs_51 : decode cX12_differs 51 = .ok (.getfield 56, 3) := by decide +kernel
theorem dX12_differs_54 : decode cX12_differs 54 = .ok (.iload 4, 2) := by decide +kernel
theorem dX12_differs_56 : decode cX12_differs 56 = .ok (.iaload, 1) := by decide +kernel
theorem dX12_differs_57 : decode cX12_differs 57 = .ok (.if_icmp .ne 30, 3) := by decide +kernel
theorem dX12_differs_60 : decode cX12_differs 60 = .ok (.iload 5, 2) := by decide +kernel
theorem dX12_differs_62 : decode cX12_differs 62 = .ok (.iconst (-1), 1) := by decide +kernel
theorem dX12_differs_63 : decode cX12_differs 63 = .ok (.if_icmp .eq 20, 3) := by decide +kernel
theorem dX12_differs_66 : decode cX12_differs 66 = .ok (.aload_n 0, 1) := by decide +kernel
theorem dX12_differs_67 : decode cX12_differs 67 = .ok (.iload_n 2, 1) := by decide +kernel
theorem dX12_differs_68 : decode cX12_differs 68 = .ok (.iload 4, 2) := by decide +kernel
theorem dX12_differs_70 : decode cX12_differs 70 = .ok (.invokevirtual 193, 3) := by decide +kernel
theorem dX12_differs_73 : decode cX12_differs 73 = .ok (.aload_n 0, 1) := by decide +kernel
theorem dX12_differs_74 : decode cX12_differs 74 = .ok (.getfield 59, 3) := by decide +kernel
theorem dX12_differs_77 : decode cX12_differs 77 = .ok (.iload 4, 2) := by decide +kernel
theorem dX12_differs_79 : decode cX12_differs 79 = .ok (.iaload, 1) := by decide +kernel
theorem dX12_differs_80 : decode cX12_differs 80 = .ok (.if_icmp .ne 7, 3) := by decide +kernel
theorem dX12_differs_83 : decode cX12_differs 83 = .ok (.iconst 1, 1) := by decide +kernel
theorem dX12_differs_84 : decode cX12_differs 84 = .ok (.goto 4, 3) := by decide +kernel
theorem dX12_differs_87 : decode cX12_differs 87 = .ok (.iconst 0, 1) := by decide +kernel
theorem dX12_differs_88 : decode cX12_differs 88 = .ok (.istore 6, 2) := by decide +kernel
theorem dX12_differs_90 : decode cX12_differs 90 = .ok (.iload_n 3, 1) := by decide +kernel
theorem dX12_differs_91 : decode cX12_differs 91 = .ok (.iload 6, 2) := by decide +kernel
theorem dX12_differs_93 : decode cX12_differs 93 = .ok (.ifCond .eq 7, 3) := by decide +kernel
theorem dX12_differs_96 : decode cX12_differs 96 = .ok (.iconst 0, 1) := by decide +kernel
theorem dX12_differs_97 : decode cX12_differs 97 = .ok (.goto 4, 3) := by decide +kernel
theorem dX12_differs_100 : decode cX12_differs 100 = .ok (.iconst 1, 1) := by decide +kernel
theorem dX12_differs_101 : decode cX12_differs 101 = .ok (.iadd, 1) := by decide +kernel
theorem dX12_differs_102 : decode cX12_differs 102 = .ok (.istore_n 3, 1) := by decide +kernel
theorem dX12_differs_103 : decode cX12_differs 103 = .ok (.iinc 4 1, 3) := by decide +kernel
theorem dX12_differs_106 : decode cX12_differs 106 = .ok (.goto (-75), 3) := by decide +kernel
theorem dX12_differs_109 : decode cX12_differs 109 = .ok (.iload_n 3, 1) := by decide +kernel
theorem dX12_differs_110 : decode cX12_differs 110 = .ok (.ireturn, 1) := by decide +kernel
