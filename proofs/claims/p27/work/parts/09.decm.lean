theorem dX12_init_0 : decode cX12_init 0 = .ok (.aload_n 0, 1) := by decide +kernel
theorem dX12_init_1 : decode cX12_init 1 = .ok (.invokespecial 1, 3) := by decide +kernel
theorem dX12_init_4 : decode cX12_init 4 = .ok (.aload_n 0, 1) := by decide +kernel
theorem dX12_init_5 : decode cX12_init 5 = .ok (.sipush 130, 3) := by decide +kernel
theorem dX12_init_8 : decode cX12_init 8 = .ok (.newarray .int, 2) := by decide +kernel
theorem dX12_init_10 : decode cX12_init 10 = .ok (.putfield 7, 3) := by decide +kernel
theorem dX12_init_13 : decode cX12_init 13 = .ok (.aload_n 0, 1) := by decide +kernel
theorem dX12_init_14 : decode cX12_init 14 = .ok (.sipush 130, 3) := by decide +kernel
theorem dX12_init_17 : decode cX12_init 17 = .ok (.newarray .int, 2) := by decide +kernel
theorem dX12_init_19 : decode cX12_init 19 = .ok (.putfield 13, 3) := by decide +kernel
theorem dX12_init_22 : decode cX12_init 22 = .ok (.aload_n 0, 1) := by decide +kernel
theorem dX12_init_23 : decode cX12_init 23 = .ok (.sipush 130, 3) := by decide +kernel
theorem dX12_init_26 : decode cX12_init 26 = .ok (.newarray .int, 2) := by decide +kernel
theorem dX12_init_28 : decode cX12_init 28 = .ok (.putfield 16, 3) := by decide +kernel
theorem dX12_init_31 : decode cX12_init 31 = .ok (.aload_n 0, 1) := by decide +kernel
theorem dX12_init_32 : decode cX12_init 32 = .ok (.bipush 8, 2) := by decide +kernel
theorem dX12_init_34 : decode cX12_init 34 = .ok (.newarray .int, 2) := by decide +kernel
theorem dX12_init_36 : decode cX12_init 36 = .ok (.putfield 19, 3) := by decide +kernel
theorem dX12_init_39 : decode cX12_init 39 = .ok (.aload_n 0, 1) := by decide +kernel
theorem dX12_init_40 : decode cX12_init 40 = .ok (.bipush 48, 2) := by decide +kernel
theorem dX12_init_42 : decode cX12_init 42 = .ok (.newarray .int, 2) := by decide +kernel
theorem dX12_init_44 : decode cX12_init 44 = .ok (.putfield 22, 3) := by decide +kernel
theorem dX12_init_47 : decode cX12_init 47 = .ok (.aload_n 0, 1) := by decide +kernel
theorem dX12_init_48 : decode cX12_init 48 = .ok (.bipush 48, 2) := by decide +kernel
theorem dX12_init_50 : decode cX12_init 50 = .ok (.newarray .int, 2) := by decide +kernel
theorem dX12_init_52 : decode cX12_init 52 = .ok (.putfield 25, 3) := by decide +kernel
theorem dX12_init_55 : decode cX12_init 55 = .ok (.aload_n 0, 1) := by decide +kernel
theorem dX12_init_56 : decode cX12_init 56 = .ok (.sipush 384, 3) := by decide +kernel
theorem dX12_init_59 : decode cX12_init 59 = .ok (.newarray .boolean, 2) := by decide +kernel
theorem dX12_init_61 : decode cX12_init 61 = .ok (.putfield 28, 3) := by decide +kernel
theorem dX12_init_64 : decode cX12_init 64 = .ok (.aload_n 0, 1) := by decide +kernel
theorem dX12_init_65 : decode cX12_init 65 = .ok (.sipush 384, 3) := by decide +kernel
theorem dX12_init_68 : decode cX12_init 68 = .ok (.newarray .boolean, 2) := by decide +kernel
theorem dX12_init_70 : decode cX12_init 70 = .ok (.putfield 32, 3) := by decide +kernel
theorem dX12_init_73 : decode cX12_init 73 = .ok (.aload_n 0, 1) := by decide +kernel
theorem dX12_init_74 : decode cX12_init 74 = .ok (.sipush 260, 3) := by decide +kernel
theorem dX12_init_77 : decode cX12_init 77 = .ok (.newarray .byte, 2) := by decide +kernel
theorem dX12_init_79 : decode cX12_init 79 = .ok (.putfield 35, 3) := by decide +kernel
theorem dX12_init_82 : decode cX12_init 82 = .ok (.aload_n 0, 1) := by decide +kernel
theorem dX12_init_83 : decode cX12_init 83 = .ok (.sipush 260, 3) := by decide +kernel
theorem dX12_init_86 : decode cX12_init 86 = .ok (.newarray .int, 2) := by decide +kernel
theorem dX12_init_88 : decode cX12_init 88 = .ok (.putfield 39, 3) := by decide +kernel
theorem dX12_init_91 : decode cX12_init 91 = .ok (.aload_n 0, 1) := by decide +kernel
theorem dX12_init_92 : decode cX12_init 92 = .ok (.sipush 260, 3) := by decide +kernel
theorem dX12_init_95 : decode cX12_init 95 = .ok (.newarray .int, 2) := by decide +kernel
theorem dX12_init_97 : decode cX12_init 97 = .ok (.putfield 42, 3) := by decide +kernel
theorem dX12_init_100 : decode cX12_init 100 = .ok (.aload_n 0, 1) := by decide +kernel
theorem dX12_init_101 : decode cX12_init 101 = .ok (.bipush 16, 2) := by decide +kernel
theorem dX12_init_103 : decode cX12_init 103 = .ok (.newarray .int, 2) := by decide +kernel
theorem dX12_init_105 : decode cX12_init 105 = .ok (.putfield 45, 3) := by decide +kernel
theorem dX12_init_108 : decode cX12_init 108 = .ok (.aload_n 0, 1) := by decide +kernel
theorem dX12_init_109 : decode cX12_init 109 = .ok (.bipush 16, 2) := by decide +kernel
theorem dX12_init_111 : decode cX12_init 111 = .ok (.newarray .int, 2) := by decide +kernel
theorem dX12_init_113 : decode cX12_init 113 = .ok (.putfield 48, 3) := by decide +kernel
theorem dX12_init_116 : decode cX12_init 116 = .ok (.aload_n 0, 1) := by decide +kernel
theorem dX12_init_117 : decode cX12_init 117 = .ok (.bipush 16, 2) := by decide +kernel
theorem dX12_init_119 : decode cX12_init 119 = .ok (.newarray .int, 2) := by decide +kernel
theorem dX12_init_121 : decode cX12_init 121 = .ok (.putfield 51, 3) := by decide +kernel
theorem dX12_init_124 : decode cX12_init 124 = .ok (.aload_n 0, 1) := by decide +kernel
theorem dX12_init_125 : decode cX12_init 125 = .ok (.bipush 16, 2) := by decide +kernel
theorem dX12_init_127 : decode cX12_init 127 = .ok (.newarray .int, 2) := by decide +kernel
theorem dX12_init_129 : decode cX12_init 129 = .ok (.putfield 54, 3) := by decide +kernel
theorem dX12_init_132 : decode cX12_init 132 = .ok (.aload_n 0, 1) := by decide +kernel
theorem dX12_init_133 : decode cX12_init 133 = .ok (.sipush 260, 3) := by decide +kernel
theorem dX12_init_136 : decode cX12_init 136 = .ok (.newarray .int, 2) := by decide +kernel
theorem dX12_init_138 : decode cX12_init 138 = .ok (.putfield 57, 3) := by decide +kernel
theorem dX12_init_141 : decode cX12_init 141 = .ok (.aload_n 0, 1) := by decide +kernel
theorem dX12_init_142 : decode cX12_init 142 = .ok (.bipush 16, 2) := by decide +kernel
theorem dX12_init_144 : decode cX12_init 144 = .ok (.newarray .int, 2) := by decide +kernel
theorem dX12_init_146 : decode cX12_init 146 = .ok (.putfield 60, 3) := by decide +kernel
theorem dX12_init_149 : decode cX12_init 149 = .ok (.aload_n 0, 1) := by decide +kernel
theorem dX12_init_150 : decode cX12_init 150 = .ok (.bipush 16, 2) := by decide +kernel
theorem dX12_init_152 : decode cX12_init 152 = .ok (.newarray .int, 2) := by decide +kernel
theorem dX12_init_154 : decode cX12_init 154 = .ok (.putfield 63, 3) := by decide +kernel
theorem dX12_init_157 : decode cX12_init 157 = .ok (.aload_n 0, 1) := by decide +kernel
theorem dX12_init_158 : decode cX12_init 158 = .ok (.bipush 16, 2) := by decide +kernel
theorem dX12_init_160 : decode cX12_init 160 = .ok (.newarray .int, 2) := by decide +kernel
theorem dX12_init_162 : decode cX12_init 162 = .ok (.putfield 66, 3) := by decide +kernel
theorem dX12_init_165 : decode cX12_init 165 = .ok (.aload_n 0, 1) := by decide +kernel
theorem dX12_init_166 : decode cX12_init 166 = .ok (.bipush 16, 2) := by decide +kernel
theorem dX12_init_168 : decode cX12_init 168 = .ok (.newarray .int, 2) := by decide +kernel
theorem dX12_init_170 : decode cX12_init 170 = .ok (.putfield 69, 3) := by decide +kernel
theorem dX12_init_173 : decode cX12_init 173 = .ok (.aload_n 0, 1) := by decide +kernel
theorem dX12_init_174 : decode cX12_init 174 = .ok (.sipush 260, 3) := by decide +kernel
theorem dX12_init_177 : decode cX12_init 177 = .ok (.newarray .int, 2) := by decide +kernel
theorem dX12_init_179 : decode cX12_init 179 = .ok (.putfield 72, 3) := by decide +kernel
theorem dX12_init_182 : decode cX12_init 182 = .ok (.aload_n 0, 1) := by decide +kernel
theorem dX12_init_183 : decode cX12_init 183 = .ok (.bipush 9, 2) := by decide +kernel
theorem dX12_init_185 : decode cX12_init 185 = .ok (.newarray .int, 2) := by decide +kernel
theorem dX12_init_187 : decode cX12_init 187 = .ok (.putfield 75, 3) := by decide +kernel
theorem dX12_init_190 : decode cX12_init 190 = .ok (.aload_n 0, 1) := by decide +kernel
theorem dX12_init_191 : decode cX12_init 191 = .ok (.bipush 48, 2) := by decide +kernel
theorem dX12_init_193 : decode cX12_init 193 = .ok (.newarray .int, 2) := by decide +kernel
theorem dX12_init_195 : decode cX12_init 195 = .ok (.putfield 78, 3) := by decide +kernel
theorem dX12_init_198 : decode cX12_init 198 = .ok (.aload_n 0, 1) := by decide +kernel
theorem dX12_init_199 : decode cX12_init 199 = .ok (.iconst 2, 1) := by decide +kernel
theorem dX12_init_200 : decode cX12_init 200 = .ok (.newarray .int, 2) := by decide +kernel
theorem dX12_init_202 : decode cX12_init 202 = .ok (.putfield 81, 3) := by decide +kernel
theorem dX12_init_205 : decode cX12_init 205 = .ok (.aload_n 0, 1) := by decide +kernel
theorem dX12_init_206 : decode cX12_init 206 = .ok (.iconst 2, 1) := by decide +kernel
theorem dX12_init_207 : decode cX12_init 207 = .ok (.newarray .int, 2) := by decide +kernel
theorem dX12_init_209 : decode cX12_init 209 = .ok (.putfield 84, 3) := by decide +kernel
theorem dX12_init_212 : decode cX12_init 212 = .ok (.aload_n 0, 1) := by decide +kernel
theorem dX12_init_213 : decode cX12_init 213 = .ok (.iconst 2, 1) := by decide +kernel
theorem dX12_init_214 : decode cX12_init 214 = .ok (.newarray .int, 2) := by decide +kernel
theorem dX12_init_216 : decode cX12_init 216 = .ok (.putfield 87, 3) := by decide +kernel
theorem dX12_init_219 : decode cX12_init 219 = .ok (.aload_n 0, 1) := by decide +kernel
theorem dX12_init_220 : decode cX12_init 220 = .ok (.bipush 48, 2) := by decide +kernel
theorem dX12_init_222 : decode cX12_init 222 = .ok (.newarray .int, 2) := by decide +kernel
theorem dX12_init_224 : decode cX12_init 224 = .ok (.putfield 90, 3) := by decide +kernel
theorem dX12_init_227 : decode cX12_init 227 = .ok (.aload_n 0, 1) := by decide +kernel
theorem dX12_init_228 : decode cX12_init 228 = .ok (.sipush 384, 3) := by decide +kernel
theorem dX12_init_231 : decode cX12_init 231 = .ok (.newarray .boolean, 2) := by decide +kernel
theorem dX12_init_233 : decode cX12_init 233 = .ok (.putfield 93, 3) := by decide +kernel
theorem dX12_init_236 : decode cX12_init 236 = .ok (.aload_n 0, 1) := by decide +kernel
theorem dX12_init_237 : decode cX12_init 237 = .ok (.bipush 9, 2) := by decide +kernel
theorem dX12_init_239 : decode cX12_init 239 = .ok (.newarray .int, 2) := by decide +kernel
theorem dX12_init_241 : decode cX12_init 241 = .ok (.putfield 96, 3) := by decide +kernel
theorem dX12_init_244 : decode cX12_init 244 = .ok (.aload_n 0, 1) := by decide +kernel
theorem dX12_init_245 : decode cX12_init 245 = .ok (.sipush 601, 3) := by decide +kernel
theorem dX12_init_248 : decode cX12_init 248 = .ok (.newarray .int, 2) := by decide +kernel
theorem dX12_init_250 : decode cX12_init 250 = .ok (.putfield 99, 3) := by decide +kernel
theorem dX12_init_253 : decode cX12_init 253 = .ok (.aload_n 0, 1) := by decide +kernel
theorem dX12_init_254 : decode cX12_init 254 = .ok (.bipush 6, 2) := by decide +kernel
theorem dX12_init_256 : decode cX12_init 256 = .ok (.newarray .int, 2) := by decide +kernel
theorem dX12_init_258 : decode cX12_init 258 = .ok (.putfield 102, 3) := by decide +kernel
theorem dX12_init_261 : decode cX12_init 261 = .ok (.aload_n 0, 1) := by decide +kernel
theorem dX12_init_262 : decode cX12_init 262 = .ok (.getfield 7, 3) := by decide +kernel
theorem dX12_init_265 : decode cX12_init 265 = .ok (.sipush 129, 3) := by decide +kernel
theorem dX12_init_268 : decode cX12_init 268 = .ok (.iconst 1, 1) := by decide +kernel
theorem dX12_init_269 : decode cX12_init 269 = .ok (.iastore, 1) := by decide +kernel
theorem dX12_init_270 : decode cX12_init 270 = .ok (.iconst 0, 1) := by decide +kernel
theorem dX12_init_271 : decode cX12_init 271 = .ok (.istore_n 1, 1) := by decide +kernel
theorem dX12_init_272 : decode cX12_init 272 = .ok (.iload_n 1, 1) := by decide +kernel
theorem dX12_init_273 : decode cX12_init 273 = .ok (.bipush 48, 2) := by decide +kernel
theorem dX12_init_275 : decode cX12_init 275 = .ok (.if_icmp .ge 19, 3) := by decide +kernel
theorem dX12_init_278 : decode cX12_init 278 = .ok (.aload_n 0, 1) := by decide +kernel
theorem dX12_init_279 : decode cX12_init 279 = .ok (.getfield 7, 3) := by decide +kernel
theorem dX12_init_282 : decode cX12_init 282 = .ok (.bipush 32, 2) := by decide +kernel
theorem dX12_init_284 : decode cX12_init 284 = .ok (.iload_n 1, 1) := by decide +kernel
theorem dX12_init_285 : decode cX12_init 285 = .ok (.iadd, 1) := by decide +kernel
theorem dX12_init_286 : decode cX12_init 286 = .ok (.iconst (-1), 1) := by decide +kernel
theorem dX12_init_287 : decode cX12_init 287 = .ok (.iastore, 1) := by decide +kernel
theorem dX12_init_288 : decode cX12_init 288 = .ok (.iinc 1 1, 3) := by decide +kernel
theorem dX12_init_291 : decode cX12_init 291 = .ok (.goto (-19), 3) := by decide +kernel
theorem dX12_init_294 : decode cX12_init 294 = .ok (.iconst 0, 1) := by decide +kernel
theorem dX12_init_295 : decode cX12_init 295 = .ok (.istore_n 1, 1) := by decide +kernel
theorem dX12_init_296 : decode cX12_init 296 = .ok (.iload_n 1, 1) := by decide +kernel
theorem dX12_init_297 : decode cX12_init 297 = .ok (.bipush 8, 2) := by decide +kernel
theorem dX12_init_299 : decode cX12_init 299 = .ok (.if_icmp .ge 16, 3) := by decide +kernel
theorem dX12_init_302 : decode cX12_init 302 = .ok (.aload_n 0, 1) := by decide +kernel
theorem dX12_init_303 : decode cX12_init 303 = .ok (.getfield 19, 3) := by decide +kernel
theorem dX12_init_306 : decode cX12_init 306 = .ok (.iload_n 1, 1) := by decide +kernel
theorem dX12_init_307 : decode cX12_init 307 = .ok (.iconst (-1), 1) := by decide +kernel
theorem dX12_init_308 : decode cX12_init 308 = .ok (.iastore, 1) := by decide +kernel
theorem dX12_init_309 : decode cX12_init 309 = .ok (.iinc 1 1, 3) := by decide +kernel
theorem dX12_init_312 : decode cX12_init 312 = .ok (.goto (-16), 3) := by decide +kernel
theorem dX12_init_315 : decode cX12_init 315 = .ok (.return_, 1) := by decide +kernel
theorem dX12_in_0 : decode cX12_in 0 = .ok (.iload_n 0, 1) := by decide +kernel
theorem dX12_in_1 : decode cX12_in 1 = .ok (.iload_n 1, 1) := by decide +kernel
theorem dX12_in_2 : decode cX12_in 2 = .ok (.if_icmp .lt 12, 3) := by decide +kernel
theorem dX12_in_5 : decode cX12_in 5 = .ok (.iload_n 0, 1) := by decide +kernel
theorem dX12_in_6 : decode cX12_in 6 = .ok (.iload_n 2, 1) := by decide +kernel
theorem dX12_in_7 : decode cX12_in 7 = .ok (.if_icmp .gt 7, 3) := by decide +kernel
theorem dX12_in_10 : decode cX12_in 10 = .ok (.iconst 1, 1) := by decide +kernel
theorem dX12_in_11 : decode cX12_in 11 = .ok (.goto 4, 3) := by decide +kernel
theorem dX12_in_14 : decode cX12_in 14 = .ok (.iconst 0, 1) := by decide +kernel
theorem dX12_in_15 : decode cX12_in 15 = .ok (.ireturn, 1) := by decide +kernel
theorem dX12_min_0 : decode cX12_min 0 = .ok (.iload_n 0, 1) := by decide +kernel
theorem dX12_min_1 : decode cX12_min 1 = .ok (.iload_n 1, 1) := by decide +kernel
theorem dX12_min_2 : decode cX12_min 2 = .ok (.if_icmp .ge 7, 3) := by decide +kernel
theorem dX12_min_5 : decode cX12_min 5 = .ok (.iload_n 0, 1) := by decide +kernel
theorem dX12_min_6 : decode cX12_min 6 = .ok (.goto 4, 3) := by decide +kernel
theorem dX12_min_9 : decode cX12_min 9 = .ok (.iload_n 1, 1) := by decide +kernel
theorem dX12_min_10 : decode cX12_min 10 = .ok (.ireturn, 1) := by decide +kernel
theorem dX12_max_0 : decode cX12_max 0 = .ok (.iload_n 0, 1) := by decide +kernel
theorem dX12_max_1 : decode cX12_max 1 = .ok (.iload_n 1, 1) := by decide +kernel
theorem dX12_max_2 : decode cX12_max 2 = .ok (.if_icmp .le 7, 3) := by decide +kernel
theorem dX12_max_5 : decode cX12_max 5 = .ok (.iload_n 0, 1) := by decide +kernel
theorem dX12_max_6 : decode cX12_max 6 = .ok (.goto 4, 3) := by decide +kernel
theorem dX12_max_9 : decode cX12_max 9 = .ok (.iload_n 1, 1) := by decide +kernel
theorem dX12_max_10 : decode cX12_max 10 = .ok (.ireturn, 1) := by decide +kernel
theorem dX12_size_0 : decode cX12_size 0 = .ok (.iload_n 0, 1) := by decide +kernel
theorem dX12_size_1 : decode cX12_size 1 = .ok (.ifCond .ge 8, 3) := by decide +kernel
theorem dX12_size_4 : decode cX12_size 4 = .ok (.iload_n 0, 1) := by decide +kernel
theorem dX12_size_5 : decode cX12_size 5 = .ok (.ineg, 1) := by decide +kernel
theorem dX12_size_6 : decode cX12_size 6 = .ok (.goto 4, 3) := by decide +kernel
theorem dX12_size_9 : decode cX12_size 9 = .ok (.iload_n 0, 1) := by decide +kernel
theorem dX12_size_10 : decode cX12_size 10 = .ok (.ireturn, 1) := by decide +kernel
theorem dX12_sign_0 : decode cX12_sign 0 = .ok (.iload_n 0, 1) := by decide +kernel
theorem dX12_sign_1 : decode cX12_sign 1 = .ok (.ifCond .ge 7, 3) := by decide +kernel
theorem dX12_sign_4 : decode cX12_sign 4 = .ok (.iconst (-1), 1) := by decide +kernel
theorem dX12_sign_5 : decode cX12_sign 5 = .ok (.goto 12, 3) := by decide +kernel
theorem dX12_sign_8 : decode cX12_sign 8 = .ok (.iload_n 0, 1) := by decide +kernel
theorem dX12_sign_9 : decode cX12_sign 9 = .ok (.ifCond .le 7, 3) := by decide +kernel
theorem dX12_sign_12 : decode cX12_sign 12 = .ok (.iconst 1, 1) := by decide +kernel
theorem dX12_sign_13 : decode cX12_sign 13 = .ok (.goto 4, 3) := by decide +kernel
theorem dX12_sign_16 : decode cX12_sign 16 = .ok (.iconst 0, 1) := by decide +kernel
theorem dX12_sign_17 : decode cX12_sign 17 = .ok (.ireturn, 1) := by decide +kernel
theorem dX12_has_0 : decode cX12_has 0 = .ok (.iload_n 0, 1) := by decide +kernel
theorem dX12_has_1 : decode cX12_has 1 = .ok (.iload_n 1, 1) := by decide +kernel
theorem dX12_has_2 : decode cX12_has 2 = .ok (.ishr, 1) := by decide +kernel
theorem dX12_has_3 : decode cX12_has 3 = .ok (.iconst 1, 1) := by decide +kernel
theorem dX12_has_4 : decode cX12_has 4 = .ok (.iand, 1) := by decide +kernel
theorem dX12_has_5 : decode cX12_has 5 = .ok (.iconst 1, 1) := by decide +kernel
theorem dX12_has_6 : decode cX12_has 6 = .ok (.if_icmp .ne 7, 3) := by decide +kernel
theorem dX12_has_9 : decode cX12_has 9 = .ok (.iconst 1, 1) := by decide +kernel
theorem dX12_has_10 : decode cX12_has 10 = .ok (.goto 4, 3) := by decide +kernel
theorem dX12_has_13 : decode cX12_has 13 = .ok (.iconst 0, 1) := by decide +kernel
theorem dX12_has_14 : decode cX12_has 14 = .ok (.ireturn, 1) := by decide +kernel
theorem dX12_bits_0 : decode cX12_bits 0 = .ok (.iconst 0, 1) := by decide +kernel
theorem dX12_bits_1 : decode cX12_bits 1 = .ok (.istore_n 1, 1) := by decide +kernel
theorem dX12_bits_2 : decode cX12_bits 2 = .ok (.iconst 0, 1) := by decide +kernel
theorem dX12_bits_3 : decode cX12_bits 3 = .ok (.istore_n 2, 1) := by decide +kernel
theorem dX12_bits_4 : decode cX12_bits 4 = .ok (.iload_n 2, 1) := by decide +kernel
theorem dX12_bits_5 : decode cX12_bits 5 = .ok (.bipush 12, 2) := by decide +kernel
theorem dX12_bits_7 : decode cX12_bits 7 = .ok (.if_icmp .ge 17, 3) := by decide +kernel
theorem dX12_bits_10 : decode cX12_bits 10 = .ok (.iload_n 1, 1) := by decide +kernel
theorem dX12_bits_11 : decode cX12_bits 11 = .ok (.iload_n 0, 1) := by decide +kernel
theorem dX12_bits_12 : decode cX12_bits 12 = .ok (.iload_n 2, 1) := by decide +kernel
theorem dX12_bits_13 : decode cX12_bits 13 = .ok (.ishr, 1) := by decide +kernel
theorem dX12_bits_14 : decode cX12_bits 14 = .ok (.iconst 1, 1) := by decide +kernel
theorem dX12_bits_15 : decode cX12_bits 15 = .ok (.iand, 1) := by decide +kernel
theorem dX12_bits_16 : decode cX12_bits 16 = .ok (.iadd, 1) := by decide +kernel
theorem dX12_bits_17 : decode cX12_bits 17 = .ok (.istore_n 1, 1) := by decide +kernel
theorem dX12_bits_18 : decode cX12_bits 18 = .ok (.iinc 2 1, 3) := by decide +kernel
theorem dX12_bits_21 : decode cX12_bits 21 = .ok (.goto (-17), 3) := by decide +kernel
theorem dX12_bits_24 : decode cX12_bits 24 = .ok (.iload_n 1, 1) := by decide +kernel
theorem dX12_bits_25 : decode cX12_bits 25 = .ok (.ireturn, 1) := by decide +kernel
theorem dX12_copies_0 : decode cX12_copies 0 = .ok (.iconst 0, 1) := by decide +kernel
theorem dX12_copies_1 : decode cX12_copies 1 = .ok (.istore_n 2, 1) := by decide +kernel
theorem dX12_copies_2 : decode cX12_copies 2 = .ok (.iload_n 2, 1) := by decide +kernel
theorem dX12_copies_3 : decode cX12_copies 3 = .ok (.sipush 130, 3) := by decide +kernel
theorem dX12_copies_6 : decode cX12_copies 6 = .ok (.if_icmp .ge 15, 3) := by decide +kernel
theorem dX12_copies_9 : decode cX12_copies 9 = .ok (.aload_n 1, 1) := by decide +kernel
theorem dX12_copies_10 : decode cX12_copies 10 = .ok (.iload_n 2, 1) := by decide +kernel
theorem dX12_copies_11 : decode cX12_copies 11 = .ok (.aload_n 0, 1) := by decide +kernel
theorem dX12_copies_12 : decode cX12_copies 12 = .ok (.iload_n 2, 1) := by decide +kernel
theorem dX12_copies_13 : decode cX12_copies 13 = .ok (.iaload, 1) := by decide +kernel
theorem dX12_copies_14 : decode cX12_copies 14 = .ok (.iastore, 1) := by decide +kernel
theorem dX12_copies_15 : decode cX12_copies 15 = .ok (.iinc 2 1, 3) := by decide +kernel
theorem dX12_copies_18 : decode cX12_copies 18 = .ok (.goto (-16), 3) := by decide +kernel
theorem dX12_copies_21 : decode cX12_copies 21 = .ok (.return_, 1) := by decide +kernel
theorem dX12_isPlace_0 : decode cX12_isPlace 0 = .ok (.iload_n 0, 1) := by decide +kernel
theorem dX12_isPlace_1 : decode cX12_isPlace 1 = .ok (.iconst 0, 1) := by decide +kernel
theorem dX12_isPlace_2 : decode cX12_isPlace 2 = .ok (.sipush 383, 3) := by decide +kernel
theorem dX12_isPlace_5 : decode cX12_isPlace 5 = .ok (.invokestatic 105, 3) := by decide +kernel
theorem dX12_isPlace_8 : decode cX12_isPlace 8 = .ok (.ireturn, 1) := by decide +kernel
theorem dX12_isTold_0 : decode cX12_isTold 0 = .ok (.iload_n 1, 1) := by decide +kernel
theorem dX12_isTold_1 : decode cX12_isTold 1 = .ok (.iconst 0, 1) := by decide +kernel
theorem dX12_isTold_2 : decode cX12_isTold 2 = .ok (.bipush 7, 2) := by decide +kernel
theorem dX12_isTold_4 : decode cX12_isTold 4 = .ok (.invokestatic 105, 3) := by decide +kernel
theorem dX12_isTold_7 : decode cX12_isTold 7 = .ok (.ifCond .eq 19, 3) := by decide +kernel
theorem dX12_isTold_10 : decode cX12_isTold 10 = .ok (.aload_n 0, 1) := by decide +kernel
theorem dX12_isTold_11 : decode cX12_isTold 11 = .ok (.getfield 7, 3) := by decide +kernel
theorem dX12_isTold_14 : decode cX12_isTold 14 = .ok (.iconst 0, 1) := by decide +kernel
theorem dX12_isTold_15 : decode cX12_isTold 15 = .ok (.iload_n 1, 1) := by decide +kernel
theorem dX12_isTold_16 : decode cX12_isTold 16 = .ok (.iadd, 1) := by decide +kernel
theorem dX12_isTold_17 : decode cX12_isTold 17 = .ok (.iaload, 1) := by decide +kernel
theorem dX12_isTold_18 : decode cX12_isTold 18 = .ok (.iconst 1, 1) := by decide +kernel
theorem dX12_isTold_19 : decode cX12_isTold 19 = .ok (.if_icmp .ne 7, 3) := by decide +kernel
theorem dX12_isTold_22 : decode cX12_isTold 22 = .ok (.iconst 1, 1) := by decide +kernel
theorem dX12_isTold_23 : decode cX12_isTold 23 = .ok (.goto 4, 3) := by decide +kernel
theorem dX12_isTold_26 : decode cX12_isTold 26 = .ok (.iconst 0, 1) := by decide +kernel
theorem dX12_isTold_27 : decode cX12_isTold 27 = .ok (.ireturn, 1) := by decide +kernel
theorem dX12_isStamp_0 : decode cX12_isStamp 0 = .ok (.iload_n 1, 1) := by decide +kernel
theorem dX12_isStamp_1 : decode cX12_isStamp 1 = .ok (.iconst 0, 1) := by decide +kernel
theorem dX12_isStamp_2 : decode cX12_isStamp 2 = .ok (.aload_n 0, 1) := by decide +kernel
theorem dX12_isStamp_3 : decode cX12_isStamp 3 = .ok (.getfield 109, 3) := by decide +kernel
theorem dX12_isStamp_6 : decode cX12_isStamp 6 = .ok (.iconst 1, 1) := by decide +kernel
theorem dX12_isStamp_7 : decode cX12_isStamp 7 = .ok (.isub, 1) := by decide +kernel
theorem dX12_isStamp_8 : decode cX12_isStamp 8 = .ok (.invokestatic 105, 3) := by decide +kernel
theorem dX12_isStamp_11 : decode cX12_isStamp 11 = .ok (.ireturn, 1) := by decide +kernel
theorem dX12_sticks_0 : decode cX12_sticks 0 = .ok (.aload_n 0, 1) := by decide +kernel
theorem dX12_sticks_1 : decode cX12_sticks 1 = .ok (.iload_n 1, 1) := by decide +kernel
theorem dX12_sticks_2 : decode cX12_sticks 2 = .ok (.invokevirtual 113, 3) := by decide +kernel
theorem dX12_sticks_5 : decode cX12_sticks 5 = .ok (.ifCond .eq 20, 3) := by decide +kernel
theorem dX12_sticks_8 : decode cX12_sticks 8 = .ok (.aload_n 0, 1) := by decide +kernel
theorem dX12_sticks_9 : decode cX12_sticks 9 = .ok (.getfield 7, 3) := by decide +kernel
theorem dX12_sticks_12 : decode cX12_sticks 12 = .ok (.bipush 32, 2) := by decide +kernel
theorem dX12_sticks_14 : decode cX12_sticks 14 = .ok (.iload_n 1, 1) := by decide +kernel
theorem dX12_sticks_15 : decode cX12_sticks 15 = .ok (.iadd, 1) := by decide +kernel
theorem dX12_sticks_16 : decode cX12_sticks 16 = .ok (.iaload, 1) := by decide +kernel
theorem dX12_sticks_17 : decode cX12_sticks 17 = .ok (.iload_n 2, 1) := by decide +kernel
theorem dX12_sticks_18 : decode cX12_sticks 18 = .ok (.if_icmp .ne 7, 3) := by decide +kernel
theorem dX12_sticks_21 : decode cX12_sticks 21 = .ok (.iconst 1, 1) := by decide +kernel
theorem dX12_sticks_22 : decode cX12_sticks 22 = .ok (.goto 4, 3) := by decide +kernel
theorem dX12_sticks_25 : decode cX12_sticks 25 = .ok (.iconst 0, 1) := by decide +kernel
theorem dX12_sticks_26 : decode cX12_sticks 26 = .ok (.ireturn, 1) := by decide +kernel
theorem dX12_mint_0 : decode cX12_mint 0 = .ok (.iload_n 1, 1) := by decide +kernel
theorem dX12_mint_1 : decode cX12_mint 1 = .ok (.iconst 0, 1) := by decide +kernel
theorem dX12_mint_2 : decode cX12_mint 2 = .ok (.bipush 7, 2) := by decide +kernel
theorem dX12_mint_4 : decode cX12_mint 4 = .ok (.invokestatic 105, 3) := by decide +kernel
theorem dX12_mint_7 : decode cX12_mint 7 = .ok (.ifCond .eq 23, 3) := by decide +kernel
theorem dX12_mint_10 : decode cX12_mint 10 = .ok (.iload_n 2, 1) := by decide +kernel
theorem dX12_mint_11 : decode cX12_mint 11 = .ok (.iconst 0, 1) := by decide +kernel
theorem dX12_mint_12 : decode cX12_mint 12 = .ok (.bipush 23, 2) := by decide +kernel
theorem dX12_mint_14 : decode cX12_mint 14 = .ok (.invokestatic 105, 3) := by decide +kernel
theorem dX12_mint_17 : decode cX12_mint 17 = .ok (.ifCond .eq 13, 3) := by decide +kernel
theorem dX12_mint_20 : decode cX12_mint 20 = .ok (.iload_n 3, 1) := by decide +kernel
theorem dX12_mint_21 : decode cX12_mint 21 = .ok (.iconst 0, 1) := by decide +kernel
theorem dX12_mint_22 : decode cX12_mint 22 = .ok (.bipush 15, 2) := by decide +kernel
theorem dX12_mint_24 : decode cX12_mint 24 = .ok (.invokestatic 105, 3) := by decide +kernel
theorem dX12_mint_27 : decode cX12_mint 27 = .ok (.ifCond .ne 5, 3) := by decide +kernel
theorem dX12_mint_30 : decode cX12_mint 30 = .ok (.iconst 0, 1) := by decide +kernel
theorem dX12_mint_31 : decode cX12_mint 31 = .ok (.ireturn, 1) := by decide +kernel
theorem dX12_mint_32 : decode cX12_mint 32 = .ok (.aload_n 0, 1) := by decide +kernel
theorem dX12_mint_33 : decode cX12_mint 33 = .ok (.getfield 19, 3) := by decide +kernel
theorem dX12_mint_36 : decode cX12_mint 36 = .ok (.iload_n 1, 1) := by decide +kernel
theorem dX12_mint_37 : decode cX12_mint 37 = .ok (.bipush 24, 2) := by decide +kernel
theorem dX12_mint_39 : decode cX12_mint 39 = .ok (.iload_n 3, 1) := by decide +kernel
theorem dX12_mint_40 : decode cX12_mint 40 = .ok (.imul, 1) := by decide +kernel
theorem dX12_mint_41 : decode cX12_mint 41 = .ok (.iload_n 2, 1) := by decide +kernel
theorem dX12_mint_42 : decode cX12_mint 42 = .ok (.iadd, 1) := by decide +kernel
theorem dX12_mint_43 : decode cX12_mint 43 = .ok (.iastore, 1) := by decide +kernel
theorem dX12_mint_44 : decode cX12_mint 44 = .ok (.iconst 1, 1) := by decide +kernel
theorem dX12_mint_45 : decode cX12_mint 45 = .ok (.ireturn, 1) := by decide +kernel
theorem dX12_types_0 : decode cX12_types 0 = .ok (.iconst 3, 1) := by decide +kernel
theorem dX12_types_1 : decode cX12_types 1 = .ok (.istore_n 2, 1) := by decide +kernel
theorem dX12_types_2 : decode cX12_types 2 = .ok (.iload_n 2, 1) := by decide +kernel
theorem dX12_types_3 : decode cX12_types 3 = .ok (.ifCond .lt 35, 3) := by decide +kernel
theorem dX12_types_6 : decode cX12_types 6 = .ok (.aload_n 0, 1) := by decide +kernel
theorem dX12_types_7 : decode cX12_types 7 = .ok (.getfield 35, 3) := by decide +kernel
theorem dX12_types_10 : decode cX12_types 10 = .ok (.aload_n 0, 1) := by decide +kernel
theorem dX12_types_11 : decode cX12_types 11 = .ok (.getfield 117, 3) := by decide +kernel
theorem dX12_types_14 : decode cX12_types 14 = .ok (.iload_n 1, 1) := by decide +kernel
theorem dX12_types_15 : decode cX12_types 15 = .ok (.bipush 8, 2) := by decide +kernel
theorem dX12_types_17 : decode cX12_types 17 = .ok (.iload_n 2, 1) := by decide +kernel
theorem dX12_types_18 : decode cX12_types 18 = .ok (.imul, 1) := by decide +kernel
theorem dX12_types_19 : decode cX12_types 19 = .ok (.ishr, 1) := by decide +kernel
theorem dX12_types_20 : decode cX12_types 20 = .ok (.i2b, 1) := by decide +kernel
theorem dX12_types_21 : decode cX12_types 21 = .ok (.bastore, 1) := by decide +kernel
theorem dX12_types_22 : decode cX12_types 22 = .ok (.aload_n 0, 1) := by decide +kernel
theorem dX12_types_23 : decode cX12_types 23 = .ok (.aload_n 0, 1) := by decide +kernel
theorem dX12_types_24 : decode cX12_types 24 = .ok (.getfield 117, 3) := by decide +kernel
theorem dX12_types_27 : decode cX12_types 27 = .ok (.iconst 1, 1) := by decide +kernel
theorem dX12_types_28 : decode cX12_types 28 = .ok (.iadd, 1) := by decide +kernel
theorem dX12_types_29 : decode cX12_types 29 = .ok (.putfield 117, 3) := by decide +kernel
theorem dX12_types_32 : decode cX12_types 32 = .ok (.iinc 2 (-1), 3) := by decide +kernel
theorem dX12_types_35 : decode cX12_types 35 = .ok (.goto (-33), 3) := by decide +kernel
theorem dX12_types_38 : decode cX12_types 38 = .ok (.return_, 1) := by decide +kernel
theorem dX12_feed_0 : decode cX12_feed 0 = .ok (.aload_n 0, 1) := by decide +kernel
theorem dX12_feed_1 : decode cX12_feed 1 = .ok (.getfield 117, 3) := by decide +kernel
theorem dX12_feed_4 : decode cX12_feed 4 = .ok (.bipush 20, 2) := by decide +kernel
theorem dX12_feed_6 : decode cX12_feed 6 = .ok (.iadd, 1) := by decide +kernel
theorem dX12_feed_7 : decode cX12_feed 7 = .ok (.sipush 260, 3) := by decide +kernel
theorem dX12_feed_10 : decode cX12_feed 10 = .ok (.if_icmp .le 5, 3) := by decide +kernel
theorem dX12_feed_13 : decode cX12_feed 13 = .ok (.iconst (-1), 1) := by decide +kernel
theorem dX12_feed_14 : decode cX12_feed 14 = .ok (.ireturn, 1) := by decide +kernel
theorem dX12_feed_15 : decode cX12_feed 15 = .ok (.aload_n 0, 1) := by decide +kernel
theorem dX12_feed_16 : decode cX12_feed 16 = .ok (.iload_n 1, 1) := by decide +kernel
theorem dX12_feed_17 : decode cX12_feed 17 = .ok (.invokevirtual 120, 3) := by decide +kernel
theorem dX12_feed_20 : decode cX12_feed 20 = .ok (.aload_n 0, 1) := by decide +kernel
theorem dX12_feed_21 : decode cX12_feed 21 = .ok (.iload_n 2, 1) := by decide +kernel
theorem dX12_feed_22 : decode cX12_feed 22 = .ok (.invokevirtual 120, 3) := by decide +kernel
theorem dX12_feed_25 : decode cX12_feed 25 = .ok (.aload_n 0, 1) := by decide +kernel
theorem dX12_feed_26 : decode cX12_feed 26 = .ok (.iload_n 3, 1) := by decide +kernel
theorem dX12_feed_27 : decode cX12_feed 27 = .ok (.invokevirtual 120, 3) := by decide +kernel
theorem dX12_feed_30 : decode cX12_feed 30 = .ok (.aload_n 0, 1) := by decide +kernel
theorem dX12_feed_31 : decode cX12_feed 31 = .ok (.iload 4, 2) := by decide +kernel
theorem dX12_feed_33 : decode cX12_feed 33 = .ok (.invokevirtual 120, 3) := by decide +kernel
theorem dX12_feed_36 : decode cX12_feed 36 = .ok (.aload_n 0, 1) := by decide +kernel
theorem dX12_feed_37 : decode cX12_feed 37 = .ok (.iload 5, 2) := by decide +kernel
theorem dX12_feed_39 : decode cX12_feed 39 = .ok (.invokevirtual 120, 3) := by decide +kernel
theorem dX12_feed_42 : decode cX12_feed 42 = .ok (.aload_n 0, 1) := by decide +kernel
theorem dX12_feed_43 : decode cX12_feed 43 = .ok (.getfield 117, 3) := by decide +kernel
theorem dX12_feed_46 : decode cX12_feed 46 = .ok (.ireturn, 1) := by decide +kernel
theorem dX12_octet_0 : decode cX12_octet 0 = .ok (.aload_n 0, 1) := by decide +kernel
theorem dX12_octet_1 : decode cX12_octet 1 = .ok (.getfield 35, 3) := by decide +kernel
theorem dX12_octet_4 : decode cX12_octet 4 = .ok (.iload_n 1, 1) := by decide +kernel
theorem dX12_octet_5 : decode cX12_octet 5 = .ok (.baload, 1) := by decide +kernel
theorem dX12_octet_6 : decode cX12_octet 6 = .ok (.sipush 255, 3) := by decide +kernel
theorem dX12_octet_9 : decode cX12_octet 9 = .ok (.iand, 1) := by decide +kernel
theorem dX12_octet_10 : decode cX12_octet 10 = .ok (.ireturn, 1) := by decide +kernel
theorem dX12_here_0 : decode cX12_here 0 = .ok (.aload_n 0, 1) := by decide +kernel
theorem dX12_here_1 : decode cX12_here 1 = .ok (.getfield 124, 3) := by decide +kernel
theorem dX12_here_4 : decode cX12_here 4 = .ok (.aload_n 0, 1) := by decide +kernel
theorem dX12_here_5 : decode cX12_here 5 = .ok (.getfield 127, 3) := by decide +kernel
theorem dX12_here_8 : decode cX12_here 8 = .ok (.if_icmp .ge 19, 3) := by decide +kernel
theorem dX12_here_11 : decode cX12_here 11 = .ok (.aload_n 0, 1) := by decide +kernel
theorem dX12_here_12 : decode cX12_here 12 = .ok (.getfield 35, 3) := by decide +kernel
theorem dX12_here_15 : decode cX12_here 15 = .ok (.aload_n 0, 1) := by decide +kernel
theorem dX12_here_16 : decode cX12_here 16 = .ok (.getfield 124, 3) := by decide +kernel
theorem dX12_here_19 : decode cX12_here 19 = .ok (.baload, 1) := by decide +kernel
theorem dX12_here_20 : decode cX12_here 20 = .ok (.sipush 255, 3) := by decide +kernel
theorem dX12_here_23 : decode cX12_here 23 = .ok (.iand, 1) := by decide +kernel
theorem dX12_here_24 : decode cX12_here 24 = .ok (.goto 4, 3) := by decide +kernel
theorem dX12_here_27 : decode cX12_here 27 = .ok (.iconst (-1), 1) := by decide +kernel
theorem dX12_here_28 : decode cX12_here 28 = .ok (.ireturn, 1) := by decide +kernel
theorem dX12_isDigit_0 : decode cX12_isDigit 0 = .ok (.aload_n 0, 1) := by decide +kernel
theorem dX12_isDigit_1 : decode cX12_isDigit 1 = .ok (.invokevirtual 130, 3) := by decide +kernel
theorem dX12_isDigit_4 : decode cX12_isDigit 4 = .ok (.bipush 48, 2) := by decide +kernel
theorem dX12_isDigit_6 : decode cX12_isDigit 6 = .ok (.if_icmp .lt 16, 3) := by decide +kernel
theorem dX12_isDigit_9 : decode cX12_isDigit 9 = .ok (.aload_n 0, 1) := by decide +kernel
theorem dX12_isDigit_10 : decode cX12_isDigit 10 = .ok (.invokevirtual 130, 3) := by decide +kernel
theorem dX12_isDigit_13 : decode cX12_isDigit 13 = .ok (.bipush 57, 2) := by decide +kernel
theorem dX12_isDigit_15 : decode cX12_isDigit 15 = .ok (.if_icmp .gt 7, 3) := by decide +kernel
theorem dX12_isDigit_18 : decode cX12_isDigit 18 = .ok (.iconst 1, 1) := by decide +kernel
theorem dX12_isDigit_19 : decode cX12_isDigit 19 = .ok (.goto 4, 3) := by decide +kernel
theorem dX12_isDigit_22 : decode cX12_isDigit 22 = .ok (.iconst 0, 1) := by decide +kernel
theorem dX12_isDigit_23 : decode cX12_isDigit 23 = .ok (.ireturn, 1) := by decide +kernel
theorem dX12_wrongAt_0 : decode cX12_wrongAt 0 = .ok (.aload_n 0, 1) := by decide +kernel
theorem dX12_wrongAt_1 : decode cX12_wrongAt 1 = .ok (.sipush (-1000), 3) := by decide +kernel
theorem dX12_wrongAt_4 : decode cX12_wrongAt 4 = .ok (.iload_n 1, 1) := by decide +kernel
theorem dX12_wrongAt_5 : decode cX12_wrongAt 5 = .ok (.imul, 1) := by decide +kernel
theorem dX12_wrongAt_6 : decode cX12_wrongAt 6 = .ok (.iload_n 2, 1) := by decide +kernel
theorem dX12_wrongAt_7 : decode cX12_wrongAt 7 = .ok (.isub, 1) := by decide +kernel
theorem dX12_wrongAt_8 : decode cX12_wrongAt 8 = .ok (.putfield 134, 3) := by decide +kernel
theorem dX12_wrongAt_11 : decode cX12_wrongAt 11 = .ok (.iconst 0, 1) := by decide +kernel
theorem dX12_wrongAt_12 : decode cX12_wrongAt 12 = .ok (.ireturn, 1) := by decide +kernel
theorem dX12_takes_0 : decode cX12_takes 0 = .ok (.aload_n 0, 1) := by decide +kernel
theorem dX12_takes_1 : decode cX12_takes 1 = .ok (.invokevirtual 130, 3) := by decide +kernel
theorem dX12_takes_4 : decode cX12_takes 4 = .ok (.iload_n 1, 1) := by decide +kernel
theorem dX12_takes_5 : decode cX12_takes 5 = .ok (.if_icmp .eq 13, 3) := by decide +kernel
theorem dX12_takes_8 : decode cX12_takes 8 = .ok (.aload_n 0, 1) := by decide +kernel
theorem dX12_takes_9 : decode cX12_takes 9 = .ok (.iconst 1, 1) := by decide +kernel
theorem dX12_takes_10 : decode cX12_takes 10 = .ok (.aload_n 0, 1) := by decide +kernel
theorem dX12_takes_11 : decode cX12_takes 11 = .ok (.getfield 124, 3) := by decide +kernel
theorem dX12_takes_14 : decode cX12_takes 14 = .ok (.invokevirtual 137, 3) := by decide +kernel
theorem dX12_takes_17 : decode cX12_takes 17 = .ok (.ireturn, 1) := by decide +kernel
theorem dX12_takes_18 : decode cX12_takes 18 = .ok (.aload_n 0, 1) := by decide +kernel
theorem dX12_takes_19 : decode cX12_takes 19 = .ok (.aload_n 0, 1) := by decide +kernel
theorem dX12_takes_20 : decode cX12_takes 20 = .ok (.getfield 124, 3) := by decide +kernel
theorem dX12_takes_23 : decode cX12_takes 23 = .ok (.iconst 1, 1) := by decide +kernel
theorem dX12_takes_24 : decode cX12_takes 24 = .ok (.iadd, 1) := by decide +kernel
theorem dX12_takes_25 : decode cX12_takes 25 = .ok (.putfield 124, 3) := by decide +kernel
theorem dX12_takes_28 : decode cX12_takes 28 = .ok (.iconst 1, 1) := by decide +kernel
theorem dX12_takes_29 : decode cX12_takes 29 = .ok (.ireturn, 1) := by decide +kernel
theorem dX12_readsNumber_0 : decode cX12_readsNumber 0 = .ok (.aload_n 0, 1) := by decide +kernel
theorem dX12_readsNumber_1 : decode cX12_readsNumber 1 = .ok (.getfield 124, 3) := by decide +kernel
theorem dX12_readsNumber_4 : decode cX12_readsNumber 4 = .ok (.istore_n 1, 1) := by decide +kernel
theorem dX12_readsNumber_5 : decode cX12_readsNumber 5 = .ok (.aload_n 0, 1) := by decide +kernel
theorem dX12_readsNumber_6 : decode cX12_readsNumber 6 = .ok (.iconst 0, 1) := by decide +kernel
theorem dX12_readsNumber_7 : decode cX12_readsNumber 7 = .ok (.putfield 141, 3) := by decide +kernel
theorem dX12_readsNumber_10 : decode cX12_readsNumber 10 = .ok (.aload_n 0, 1) := by decide +kernel
theorem dX12_readsNumber_11 : decode cX12_readsNumber 11 = .ok (.invokevirtual 144, 3) := by decide +kernel
theorem dX12_readsNumber_14 : decode cX12_readsNumber 14 = .ok (.ifCond .eq 55, 3) := by decide +kernel
theorem dX12_readsNumber_17 : decode cX12_readsNumber 17 = .ok (.aload_n 0, 1) := by decide +kernel
theorem dX12_readsNumber_18 : decode cX12_readsNumber 18 = .ok (.getfield 124, 3) := by decide +kernel
theorem dX12_readsNumber_21 : decode cX12_readsNumber 21 = .ok (.iload_n 1, 1) := by decide +kernel
theorem dX12_readsNumber_22 : decode cX12_readsNumber 22 = .ok (.iconst 5, 1) := by decide +kernel
theorem dX12_readsNumber_23 : decode cX12_readsNumber 23 = .ok (.iadd, 1) := by decide +kernel
theorem dX12_readsNumber_24 : decode cX12_readsNumber 24 = .ok (.if_icmp .ne 13, 3) := by decide +kernel
theorem dX12_readsNumber_27 : decode cX12_readsNumber 27 = .ok (.aload_n 0, 1) := by decide +kernel
theorem dX12_readsNumber_28 : decode cX12_readsNumber 28 = .ok (.iconst 2, 1) := by decide +kernel
theorem dX12_readsNumber_29 : decode cX12_readsNumber 29 = .ok (.aload_n 0, 1) := by decide +kernel
theorem dX12_readsNumber_30 : decode cX12_readsNumber 30 = .ok (.getfield 124, 3) := by decide +kernel
theorem dX12_readsNumber_33 : decode cX12_readsNumber 33 = .ok (.invokevirtual 137, 3) := by decide +kernel
theorem dX12_readsNumber_36 : decode cX12_readsNumber 36 = .ok (.ireturn, 1) := by decide +kernel
theorem dX12_readsNumber_37 : decode cX12_readsNumber 37 = .ok (.aload_n 0, 1) := by decide +kernel
theorem dX12_readsNumber_38 : decode cX12_readsNumber 38 = .ok (.bipush 10, 2) := by decide +kernel
theorem dX12_readsNumber_40 : decode cX12_readsNumber 40 = .ok (.aload_n 0, 1) := by decide +kernel
theorem dX12_readsNumber_41 : decode cX12_readsNumber 41 = .ok (.getfield 141, 3) := by decide +kernel
theorem dX12_readsNumber_44 : decode cX12_readsNumber 44 = .ok (.imul, 1) := by decide +kernel
theorem dX12_readsNumber_45 : decode cX12_readsNumber 45 = .ok (.aload_n 0, 1) := by decide +kernel
theorem dX12_readsNumber_46 : decode cX12_readsNumber 46 = .ok (.invokevirtual 130, 3) := by decide +kernel
theorem dX12_readsNumber_49 : decode cX12_readsNumber 49 = .ok (.iadd, 1) := by decide +kernel
theorem dX12_readsNumber_50 : decode cX12_readsNumber 50 = .ok (.bipush 48, 2) := by decide +kernel
theorem dX12_readsNumber_52 : decode cX12_readsNumber 52 = .ok (.isub, 1) := by decide +kernel
theorem dX12_readsNumber_53 : decode cX12_readsNumber 53 = .ok (.putfield 141, 3) := by decide +kernel
theorem dX12_readsNumber_56 : decode cX12_readsNumber 56 = .ok (.aload_n 0, 1) := by decide +kernel
theorem dX12_readsNumber_57 : decode cX12_readsNumber 57 = .ok (.aload_n 0, 1) := by decide +kernel
theorem dX12_readsNumber_58 : decode cX12_readsNumber 58 = .ok (.getfield 124, 3) := by decide +kernel
theorem dX12_readsNumber_61 : decode cX12_readsNumber 61 = .ok (.iconst 1, 1) := by decide +kernel
theorem dX12_readsNumber_62 : decode cX12_readsNumber 62 = .ok (.iadd, 1) := by decide +kernel
theorem dX12_readsNumber_63 : decode cX12_readsNumber 63 = .ok (.putfield 124, 3) := by decide +kernel
theorem dX12_readsNumber_66 : decode cX12_readsNumber 66 = .ok (.goto (-56), 3) := by decide +kernel
theorem dX12_readsNumber_69 : decode cX12_readsNumber 69 = .ok (.iconst 1, 1) := by decide +kernel
theorem dX12_readsNumber_70 : decode cX12_readsNumber 70 = .ok (.ireturn, 1) := by decide +kernel
theorem dX12_notes_0 : decode cX12_notes 0 = .ok (.aload_n 0, 1) := by decide +kernel
theorem dX12_notes_1 : decode cX12_notes 1 = .ok (.getfield 39, 3) := by decide +kernel
theorem dX12_notes_4 : decode cX12_notes 4 = .ok (.aload_n 0, 1) := by decide +kernel
theorem dX12_notes_5 : decode cX12_notes 5 = .ok (.getfield 148, 3) := by decide +kernel
theorem dX12_notes_8 : decode cX12_notes 8 = .ok (.ldc 151, 2) := by decide +kernel
theorem dX12_notes_10 : decode cX12_notes 10 = .ok (.iload_n 1, 1) := by decide +kernel
theorem dX12_notes_11 : decode cX12_notes 11 = .ok (.imul, 1) := by decide +kernel
theorem dX12_notes_12 : decode cX12_notes 12 = .ok (.iload_n 2, 1) := by decide +kernel
theorem dX12_notes_13 : decode cX12_notes 13 = .ok (.iadd, 1) := by decide +kernel
theorem dX12_notes_14 : decode cX12_notes 14 = .ok (.iastore, 1) := by decide +kernel
theorem dX12_notes_15 : decode cX12_notes 15 = .ok (.aload_n 0, 1) := by decide +kernel
theorem dX12_notes_16 : decode cX12_notes 16 = .ok (.aload_n 0, 1) := by decide +kernel
theorem dX12_notes_17 : decode cX12_notes 17 = .ok (.getfield 148, 3) := by decide +kernel
theorem dX12_notes_20 : decode cX12_notes 20 = .ok (.iconst 1, 1) := by decide +kernel
theorem dX12_notes_21 : decode cX12_notes 21 = .ok (.iadd, 1) := by decide +kernel
theorem dX12_notes_22 : decode cX12_notes 22 = .ok (.putfield 148, 3) := by decide +kernel
theorem dX12_notes_25 : decode cX12_notes 25 = .ok (.return_, 1) := by decide +kernel
theorem dX12_opens_0 : decode cX12_opens 0 = .ok (.aload_n 0, 1) := by decide +kernel
theorem dX12_opens_1 : decode cX12_opens 1 = .ok (.getfield 152, 3) := by decide +kernel
theorem dX12_opens_4 : decode cX12_opens 4 = .ok (.bipush 6, 2) := by decide +kernel
theorem dX12_opens_6 : decode cX12_opens 6 = .ok (.if_icmp .ne 13, 3) := by decide +kernel
theorem dX12_opens_9 : decode cX12_opens 9 = .ok (.aload_n 0, 1) := by decide +kernel
theorem dX12_opens_10 : decode cX12_opens 10 = .ok (.iconst 5, 1) := by decide +kernel
theorem dX12_opens_11 : decode cX12_opens 11 = .ok (.aload_n 0, 1) := by decide +kernel
theorem dX12_opens_12 : decode cX12_opens 12 = .ok (.getfield 124, 3) := by decide +kernel
theorem dX12_opens_15 : decode cX12_opens 15 = .ok (.invokevirtual 137, 3) := by decide +kernel
theorem dX12_opens_18 : decode cX12_opens 18 = .ok (.ireturn, 1) := by decide +kernel
theorem dX12_opens_19 : decode cX12_opens 19 = .ok (.aload_n 0, 1) := by decide +kernel
theorem dX12_opens_20 : decode cX12_opens 20 = .ok (.aload_n 0, 1) := by decide +kernel
theorem dX12_opens_21 : decode cX12_opens 21 = .ok (.getfield 152, 3) := by decide +kernel
theorem dX12_opens_24 : decode cX12_opens 24 = .ok (.iconst 1, 1) := by decide +kernel
theorem dX12_opens_25 : decode cX12_opens 25 = .ok (.iadd, 1) := by decide +kernel
theorem dX12_opens_26 : decode cX12_opens 26 = .ok (.putfield 152, 3) := by decide +kernel
theorem dX12_opens_29 : decode cX12_opens 29 = .ok (.aload_n 0, 1) := by decide +kernel
theorem dX12_opens_30 : decode cX12_opens 30 = .ok (.getfield 42, 3) := by decide +kernel
theorem dX12_opens_33 : decode cX12_opens 33 = .ok (.aload_n 0, 1) := by decide +kernel
theorem dX12_opens_34 : decode cX12_opens 34 = .ok (.getfield 155, 3) := by decide +kernel
theorem dX12_opens_37 : decode cX12_opens 37 = .ok (.ldc 151, 2) := by decide +kernel
theorem dX12_opens_39 : decode cX12_opens 39 = .ok (.iload_n 1, 1) := by decide +kernel
theorem dX12_opens_40 : decode cX12_opens 40 = .ok (.imul, 1) := by decide +kernel
theorem dX12_opens_41 : decode cX12_opens 41 = .ok (.iastore, 1) := by decide +kernel
theorem dX12_opens_42 : decode cX12_opens 42 = .ok (.aload_n 0, 1) := by decide +kernel
theorem dX12_opens_43 : decode cX12_opens 43 = .ok (.aload_n 0, 1) := by decide +kernel
theorem dX12_opens_44 : decode cX12_opens 44 = .ok (.getfield 155, 3) := by decide +kernel
theorem dX12_opens_47 : decode cX12_opens 47 = .ok (.iconst 1, 1) := by decide +kernel
theorem dX12_opens_48 : decode cX12_opens 48 = .ok (.iadd, 1) := by decide +kernel
theorem dX12_opens_49 : decode cX12_opens 49 = .ok (.putfield 155, 3) := by decide +kernel
theorem dX12_opens_52 : decode cX12_opens 52 = .ok (.aload_n 0, 1) := by decide +kernel
theorem dX12_opens_53 : decode cX12_opens 53 = .ok (.aload_n 0, 1) := by decide +kernel
theorem dX12_opens_54 : decode cX12_opens 54 = .ok (.getfield 124, 3) := by decide +kernel
theorem dX12_opens_57 : decode cX12_opens 57 = .ok (.iconst 1, 1) := by decide +kernel
theorem dX12_opens_58 : decode cX12_opens 58 = .ok (.iadd, 1) := by decide +kernel
theorem dX12_opens_59 : decode cX12_opens 59 = .ok (.putfield 124, 3) := by decide +kernel
theorem dX12_opens_62 : decode cX12_opens 62 = .ok (.iconst 1, 1) := by decide +kernel
theorem dX12_opens_63 : decode cX12_opens 63 = .ok (.ireturn, 1) := by decide +kernel
theorem dX12_waitTop_0 : decode cX12_waitTop 0 = .ok (.aload_n 0, 1) := by decide +kernel
theorem dX12_waitTop_1 : decode cX12_waitTop 1 = .ok (.getfield 155, 3) := by decide +kernel
theorem dX12_waitTop_4 : decode cX12_waitTop 4 = .ok (.ifCond .ne 7, 3) := by decide +kernel
theorem dX12_waitTop_7 : decode cX12_waitTop 7 = .ok (.iconst (-1), 1) := by decide +kernel
theorem dX12_waitTop_8 : decode cX12_waitTop 8 = .ok (.goto 17, 3) := by decide +kernel
theorem dX12_waitTop_11 : decode cX12_waitTop 11 = .ok (.aload_n 0, 1) := by decide +kernel
theorem dX12_waitTop_12 : decode cX12_waitTop 12 = .ok (.getfield 42, 3) := by decide +kernel
theorem dX12_waitTop_15 : decode cX12_waitTop 15 = .ok (.aload_n 0, 1) := by decide +kernel
theorem dX12_waitTop_16 : decode cX12_waitTop 16 = .ok (.getfield 155, 3) := by decide +kernel
theorem dX12_waitTop_19 : decode cX12_waitTop 19 = .ok (.iconst 1, 1) := by decide +kernel
theorem dX12_waitTop_20 : decode cX12_waitTop 20 = .ok (.isub, 1) := by decide +kernel
theorem dX12_waitTop_21 : decode cX12_waitTop 21 = .ok (.iaload, 1) := by decide +kernel
theorem dX12_waitTop_22 : decode cX12_waitTop 22 = .ok (.ldc 151, 2) := by decide +kernel
theorem dX12_waitTop_24 : decode cX12_waitTop 24 = .ok (.idiv, 1) := by decide +kernel
theorem dX12_waitTop_25 : decode cX12_waitTop 25 = .ok (.ireturn, 1) := by decide +kernel
theorem dX12_factOf_0 : decode cX12_factOf 0 = .ok (.iload_n 0, 1) := by decide +kernel
theorem dX12_factOf_1 : decode cX12_factOf 1 = .ok (.tableswitch 116 100 119 #[103, 116, 116, 99, 116, 116, 116, 116, 107, 97, 105, 116, 116, 116, 116, 95, 110, 101, 116, 113], 95) := by decide +kernel
theorem dX12_factOf_96 : decode cX12_factOf 96 = .ok (.iconst 0, 1) := by decide +kernel
theorem dX12_factOf_97 : decode cX12_factOf 97 = .ok (.ireturn, 1) := by decide +kernel
theorem dX12_factOf_98 : decode cX12_factOf 98 = .ok (.iconst 1, 1) := by decide +kernel
theorem dX12_factOf_99 : decode cX12_factOf 99 = .ok (.ireturn, 1) := by decide +kernel
theorem dX12_factOf_100 : decode cX12_factOf 100 = .ok (.iconst 2, 1) := by decide +kernel
theorem dX12_factOf_101 : decode cX12_factOf 101 = .ok (.ireturn, 1) := by decide +kernel
theorem dX12_factOf_102 : decode cX12_factOf 102 = .ok (.iconst 3, 1) := by decide +kernel
theorem dX12_factOf_103 : decode cX12_factOf 103 = .ok (.ireturn, 1) := by decide +kernel
theorem dX12_factOf_104 : decode cX12_factOf 104 = .ok (.iconst 4, 1) := by decide +kernel
theorem dX12_factOf_105 : decode cX12_factOf 105 = .ok (.ireturn, 1) := by decide +kernel
theorem dX12_factOf_106 : decode cX12_factOf 106 = .ok (.iconst 5, 1) := by decide +kernel
theorem dX12_factOf_107 : decode cX12_factOf 107 = .ok (.ireturn, 1) := by decide +kernel
theorem dX12_factOf_108 : decode cX12_factOf 108 = .ok (.bipush 6, 2) := by decide +kernel
theorem dX12_factOf_110 : decode cX12_factOf 110 = .ok (.ireturn, 1) := by decide +kernel
theorem dX12_factOf_111 : decode cX12_factOf 111 = .ok (.bipush 7, 2) := by decide +kernel
theorem dX12_factOf_113 : decode cX12_factOf 113 = .ok (.ireturn, 1) := by decide +kernel
theorem dX12_factOf_114 : decode cX12_factOf 114 = .ok (.bipush 8, 2) := by decide +kernel
theorem dX12_factOf_116 : decode cX12_factOf 116 = .ok (.ireturn, 1) := by decide +kernel
theorem dX12_factOf_117 : decode cX12_factOf 117 = .ok (.iconst (-1), 1) := by decide +kernel
theorem dX12_factOf_118 : decode cX12_factOf 118 = .ok (.ireturn, 1) := by decide +kernel
theorem dX12_sumSign_0 : decode cX12_sumSign 0 = .ok (.iload_n 0, 1) := by decide +kernel
theorem dX12_sumSign_1 : decode cX12_sumSign 1 = .ok (.bipush 43, 2) := by decide +kernel
theorem dX12_sumSign_3 : decode cX12_sumSign 3 = .ok (.if_icmp .ne 7, 3) := by decide +kernel
theorem dX12_sumSign_6 : decode cX12_sumSign 6 = .ok (.iconst 2, 1) := by decide +kernel
theorem dX12_sumSign_7 : decode cX12_sumSign 7 = .ok (.goto 45, 3) := by decide +kernel
theorem dX12_sumSign_10 : decode cX12_sumSign 10 = .ok (.iload_n 0, 1) := by decide +kernel
theorem dX12_sumSign_11 : decode cX12_sumSign 11 = .ok (.bipush 45, 2) := by decide +kernel
theorem dX12_sumSign_13 : decode cX12_sumSign 13 = .ok (.if_icmp .ne 7, 3) := by decide +kernel
theorem dX12_sumSign_16 : decode cX12_sumSign 16 = .ok (.iconst 3, 1) := by decide +kernel
theorem dX12_sumSign_17 : decode cX12_sumSign 17 = .ok (.goto 35, 3) := by decide +kernel
theorem dX12_sumSign_20 : decode cX12_sumSign 20 = .ok (.iload_n 0, 1) := by decide +kernel
theorem dX12_sumSign_21 : decode cX12_sumSign 21 = .ok (.bipush 42, 2) := by decide +kernel
theorem dX12_sumSign_23 : decode cX12_sumSign 23 = .ok (.if_icmp .ne 7, 3) := by decide +kernel
theorem dX12_sumSign_26 : decode cX12_sumSign 26 = .ok (.iconst 4, 1) := by decide +kernel
theorem dX12_sumSign_27 : decode cX12_sumSign 27 = .ok (.goto 25, 3) := by decide +kernel
theorem dX12_sumSign_30 : decode cX12_sumSign 30 = .ok (.iload_n 0, 1) := by decide +kernel
theorem dX12_sumSign_31 : decode cX12_sumSign 31 = .ok (.bipush 47, 2) := by decide +kernel
theorem dX12_sumSign_33 : decode cX12_sumSign 33 = .ok (.if_icmp .ne 7, 3) := by decide +kernel
theorem dX12_sumSign_36 : decode cX12_sumSign 36 = .ok (.iconst 5, 1) := by decide +kernel
theorem dX12_sumSign_37 : decode cX12_sumSign 37 = .ok (.goto 15, 3) := by decide +kernel
theorem dX12_sumSign_40 : decode cX12_sumSign 40 = .ok (.iload_n 0, 1) := by decide +kernel
theorem dX12_sumSign_41 : decode cX12_sumSign 41 = .ok (.bipush 37, 2) := by decide +kernel
theorem dX12_sumSign_43 : decode cX12_sumSign 43 = .ok (.if_icmp .ne 8, 3) := by decide +kernel
theorem dX12_sumSign_46 : decode cX12_sumSign 46 = .ok (.bipush 6, 2) := by decide +kernel
theorem dX12_sumSign_48 : decode cX12_sumSign 48 = .ok (.goto 4, 3) := by decide +kernel
theorem dX12_sumSign_51 : decode cX12_sumSign 51 = .ok (.iconst (-1), 1) := by decide +kernel
theorem dX12_sumSign_52 : decode cX12_sumSign 52 = .ok (.ireturn, 1) := by decide +kernel
theorem dX12_closesSums_0 : decode cX12_closesSums 0 = .ok (.aload_n 0, 1) := by decide +kernel
theorem dX12_closesSums_1 : decode cX12_closesSums 1 = .ok (.invokevirtual 158, 3) := by decide +kernel
theorem dX12_closesSums_4 : decode cX12_closesSums 4 = .ok (.iconst 4, 1) := by decide +kernel
theorem dX12_closesSums_5 : decode cX12_closesSums 5 = .ok (.if_icmp .lt 12, 3) := by decide +kernel
theorem dX12_closesSums_8 : decode cX12_closesSums 8 = .ok (.aload_n 0, 1) := by decide +kernel
theorem dX12_closesSums_9 : decode cX12_closesSums 9 = .ok (.invokevirtual 158, 3) := by decide +kernel
theorem dX12_closesSums_12 : decode cX12_closesSums 12 = .ok (.bipush 6, 2) := by decide +kernel
theorem dX12_closesSums_14 : decode cX12_closesSums 14 = .ok (.if_icmp .le 23, 3) := by decide +kernel
theorem dX12_closesSums_17 : decode cX12_closesSums 17 = .ok (.iload_n 1, 1) := by decide +kernel
theorem dX12_closesSums_18 : decode cX12_closesSums 18 = .ok (.ifCond .eq 41, 3) := by decide +kernel
theorem dX12_closesSums_21 : decode cX12_closesSums 21 = .ok (.aload_n 0, 1) := by decide +kernel
theorem dX12_closesSums_22 : decode cX12_closesSums 22 = .ok (.invokevirtual 158, 3) := by decide +kernel
theorem dX12_closesSums_25 : decode cX12_closesSums 25 = .ok (.iconst 2, 1) := by decide +kernel
theorem dX12_closesSums_26 : decode cX12_closesSums 26 = .ok (.if_icmp .eq 11, 3) := by decide +kernel
theorem dX12_closesSums_29 : decode cX12_closesSums 29 = .ok (.aload_n 0, 1) := by decide +kernel
theorem dX12_closesSums_30 : decode cX12_closesSums 30 = .ok (.invokevirtual 158, 3) := by decide +kernel
theorem dX12_closesSums_33 : decode cX12_closesSums 33 = .ok (.iconst 3, 1) := by decide +kernel
theorem dX12_closesSums_34 : decode cX12_closesSums 34 = .ok (.if_icmp .ne 25, 3) := by decide +kernel
theorem dX12_closesSums_37 : decode cX12_closesSums 37 = .ok (.aload_n 0, 1) := by decide +kernel
theorem dX12_closesSums_38 : decode cX12_closesSums 38 = .ok (.aload_n 0, 1) := by decide +kernel
theorem dX12_closesSums_39 : decode cX12_closesSums 39 = .ok (.invokevirtual 158, 3) := by decide +kernel
theorem dX12_closesSums_42 : decode cX12_closesSums 42 = .ok (.iconst 0, 1) := by decide +kernel
theorem dX12_closesSums_43 : decode cX12_closesSums 43 = .ok (.invokevirtual 161, 3) := by decide +kernel
theorem dX12_closesSums_46 : decode cX12_closesSums 46 = .ok (.aload_n 0, 1) := by decide +kernel
theorem dX12_closesSums_47 : decode cX12_closesSums 47 = .ok (.aload_n 0, 1) := by decide +kernel
theorem dX12_closesSums_48 : decode cX12_closesSums 48 = .ok (.getfield 155, 3) := by decide +kernel
theorem dX12_closesSums_51 : decode cX12_closesSums 51 = .ok (.iconst 1, 1) := by decide +kernel
theorem dX12_closesSums_52 : decode cX12_closesSums 52 = .ok (.isub, 1) := by decide +kernel
theorem dX12_closesSums_53 : decode cX12_closesSums 53 = .ok (.putfield 155, 3) := by decide +kernel
theorem dX12_closesSums_56 : decode cX12_closesSums 56 = .ok (.goto (-56), 3) := by decide +kernel
theorem dX12_closesSums_59 : decode cX12_closesSums 59 = .ok (.return_, 1) := by decide +kernel
theorem dX12_readsFactor_0 : decode cX12_readsFactor 0 = .ok (.aload_n 0, 1) := by decide +kernel
theorem dX12_readsFactor_1 : decode cX12_readsFactor 1 = .ok (.invokevirtual 130, 3) := by decide +kernel
theorem dX12_readsFactor_4 : decode cX12_readsFactor 4 = .ok (.bipush 91, 2) := by decide +kernel
theorem dX12_readsFactor_6 : decode cX12_readsFactor 6 = .ok (.if_icmp .ne 14, 3) := by decide +kernel
theorem dX12_readsFactor_9 : decode cX12_readsFactor 9 = .ok (.aload_n 0, 1) := by decide +kernel
theorem dX12_readsFactor_10 : decode cX12_readsFactor 10 = .ok (.bipush 14, 2) := by decide +kernel
theorem dX12_readsFactor_12 : decode cX12_readsFactor 12 = .ok (.invokevirtual 165, 3) := by decide +kernel
theorem dX12_readsFactor_15 : decode cX12_readsFactor 15 = .ok (.ifCond .ne (-15), 3) := by decide +kernel
theorem dX12_readsFactor_18 : decode cX12_readsFactor 18 = .ok (.iconst 0, 1) := by decide +kernel
theorem dX12_readsFactor_19 : decode cX12_readsFactor 19 = .ok (.ireturn, 1) := by decide +kernel
theorem dX12_readsFactor_20 : decode cX12_readsFactor 20 = .ok (.aload_n 0, 1) := by decide +kernel
theorem dX12_readsFactor_21 : decode cX12_readsFactor 21 = .ok (.invokevirtual 144, 3) := by decide +kernel
theorem dX12_readsFactor_24 : decode cX12_readsFactor 24 = .ok (.ifCond .eq 23, 3) := by decide +kernel
theorem dX12_readsFactor_27 : decode cX12_readsFactor 27 = .ok (.aload_n 0, 1) := by decide +kernel
theorem dX12_readsFactor_28 : decode cX12_readsFactor 28 = .ok (.invokevirtual 168, 3) := by decide +kernel
theorem dX12_readsFactor_31 : decode cX12_readsFactor 31 = .ok (.ifCond .ne 5, 3) := by decide +kernel
theorem dX12_readsFactor_34 : decode cX12_readsFactor 34 = .ok (.iconst 0, 1) := by decide +kernel
theorem dX12_readsFactor_35 : decode cX12_readsFactor 35 = .ok (.ireturn, 1) := by decide +kernel
theorem dX12_readsFactor_36 : decode cX12_readsFactor 36 = .ok (.aload_n 0, 1) := by decide +kernel
theorem dX12_readsFactor_37 : decode cX12_readsFactor 37 = .ok (.iconst 0, 1) := by decide +kernel
theorem dX12_readsFactor_38 : decode cX12_readsFactor 38 = .ok (.aload_n 0, 1) := by decide +kernel
theorem dX12_readsFactor_39 : decode cX12_readsFactor 39 = .ok (.getfield 141, 3) := by decide +kernel
theorem dX12_readsFactor_42 : decode cX12_readsFactor 42 = .ok (.invokevirtual 161, 3) := by decide +kernel
theorem dX12_readsFactor_45 : decode cX12_readsFactor 45 = .ok (.iconst 1, 1) := by decide +kernel
theorem dX12_readsFactor_46 : decode cX12_readsFactor 46 = .ok (.ireturn, 1) := by decide +kernel
theorem dX12_readsFactor_47 : decode cX12_readsFactor 47 = .ok (.aload_n 0, 1) := by decide +kernel
theorem dX12_readsFactor_48 : decode cX12_readsFactor 48 = .ok (.invokevirtual 130, 3) := by decide +kernel
theorem dX12_readsFactor_51 : decode cX12_readsFactor 51 = .ok (.invokestatic 171, 3) := by decide +kernel
theorem dX12_readsFactor_54 : decode cX12_readsFactor 54 = .ok (.istore_n 1, 1) := by decide +kernel
theorem dX12_readsFactor_55 : decode cX12_readsFactor 55 = .ok (.iload_n 1, 1) := by decide +kernel
theorem dX12_readsFactor_56 : decode cX12_readsFactor 56 = .ok (.iconst (-1), 1) := by decide +kernel
theorem dX12_readsFactor_57 : decode cX12_readsFactor 57 = .ok (.if_icmp .ne 13, 3) := by decide +kernel
theorem dX12_readsFactor_60 : decode cX12_readsFactor 60 = .ok (.aload_n 0, 1) := by decide +kernel
theorem dX12_readsFactor_61 : decode cX12_readsFactor 61 = .ok (.iconst 1, 1) := by decide +kernel
theorem dX12_readsFactor_62 : decode cX12_readsFactor 62 = .ok (.aload_n 0, 1) := by decide +kernel
theorem dX12_readsFactor_63 : decode cX12_readsFactor 63 = .ok (.getfield 124, 3) := by decide +kernel
theorem dX12_readsFactor_66 : decode cX12_readsFactor 66 = .ok (.invokevirtual 137, 3) := by decide +kernel
theorem dX12_readsFactor_69 : decode cX12_readsFactor 69 = .ok (.ireturn, 1) := by decide +kernel
theorem dX12_readsFactor_70 : decode cX12_readsFactor 70 = .ok (.aload_n 0, 1) := by decide +kernel
theorem dX12_readsFactor_71 : decode cX12_readsFactor 71 = .ok (.iconst 1, 1) := by decide +kernel
theorem dX12_readsFactor_72 : decode cX12_readsFactor 72 = .ok (.iload_n 1, 1) := by decide +kernel
theorem dX12_readsFactor_73 : decode cX12_readsFactor 73 = .ok (.invokevirtual 161, 3) := by decide +kernel
theorem dX12_readsFactor_76 : decode cX12_readsFactor 76 = .ok (.aload_n 0, 1) := by decide +kernel
theorem dX12_readsFactor_77 : decode cX12_readsFactor 77 = .ok (.aload_n 0, 1) := by decide +kernel
theorem dX12_readsFactor_78 : decode cX12_readsFactor 78 = .ok (.getfield 124, 3) := by decide +kernel
theorem dX12_readsFactor_81 : decode cX12_readsFactor 81 = .ok (.iconst 1, 1) := by decide +kernel
theorem dX12_readsFactor_82 : decode cX12_readsFactor 82 = .ok (.iadd, 1) := by decide +kernel
theorem dX12_readsFactor_83 : decode cX12_readsFactor 83 = .ok (.putfield 124, 3) := by decide +kernel
theorem dX12_readsFactor_86 : decode cX12_readsFactor 86 = .ok (.iconst 1, 1) := by decide +kernel
theorem dX12_readsFactor_87 : decode cX12_readsFactor 87 = .ok (.ireturn, 1) := by decide +kernel
theorem dX12_hasOpenSum_0 : decode cX12_hasOpenSum 0 = .ok (.iload_n 1, 1) := by decide +kernel
theorem dX12_hasOpenSum_1 : decode cX12_hasOpenSum 1 = .ok (.istore_n 2, 1) := by decide +kernel
theorem dX12_hasOpenSum_2 : decode cX12_hasOpenSum 2 = .ok (.iload_n 2, 1) := by decide +kernel
theorem dX12_hasOpenSum_3 : decode cX12_hasOpenSum 3 = .ok (.aload_n 0, 1) := by decide +kernel
theorem dX12_hasOpenSum_4 : decode cX12_hasOpenSum 4 = .ok (.getfield 155, 3) := by decide +kernel
theorem dX12_hasOpenSum_7 : decode cX12_hasOpenSum 7 = .ok (.if_icmp .ge 25, 3) := by decide +kernel
theorem dX12_hasOpenSum_10 : decode cX12_hasOpenSum 10 = .ok (.aload_n 0, 1) := by decide +kernel
theorem dX12_hasOpenSum_11 : decode cX12_hasOpenSum 11 = .ok (.getfield 42, 3) := by decide +kernel
theorem dX12_hasOpenSum_14 : decode cX12_hasOpenSum 14 = .ok (.iload_n 2, 1) := by decide +kernel
theorem dX12_hasOpenSum_15 : decode cX12_hasOpenSum 15 = .ok (.iaload, 1) := by decide +kernel
theorem dX12_hasOpenSum_16 : decode cX12_hasOpenSum 16 = .ok (.ldc 151, 2) := by decide +kernel
theorem dX12_hasOpenSum_18 : decode cX12_hasOpenSum 18 = .ok (.idiv, 1) := by decide +kernel
theorem dX12_hasOpenSum_19 : decode cX12_hasOpenSum 19 = .ok (.bipush 14, 2) := by decide +kernel
theorem dX12_hasOpenSum_21 : decode cX12_hasOpenSum 21 = .ok (.if_icmp .ne 5, 3) := by decide +kernel
theorem dX12_hasOpenSum_24 : decode cX12_hasOpenSum 24 = .ok (.iconst 1, 1) := by decide +kernel
theorem dX12_hasOpenSum_25 : decode cX12_hasOpenSum 25 = .ok (.ireturn, 1) := by decide +kernel
theorem dX12_hasOpenSum_26 : decode cX12_hasOpenSum 26 = .ok (.iinc 2 1, 3) := by decide +kernel
theorem dX12_hasOpenSum_29 : decode cX12_hasOpenSum 29 = .ok (.goto (-27), 3) := by decide +kernel
theorem dX12_hasOpenSum_32 : decode cX12_hasOpenSum 32 = .ok (.iconst 0, 1) := by decide +kernel
theorem dX12_hasOpenSum_33 : decode cX12_hasOpenSum 33 = .ok (.ireturn, 1) := by decide +kernel
theorem dX12_readsSum_0 : decode cX12_readsSum 0 = .ok (.aload_n 0, 1) := by decide +kernel
theorem dX12_readsSum_1 : decode cX12_readsSum 1 = .ok (.getfield 155, 3) := by decide +kernel
theorem dX12_readsSum_4 : decode cX12_readsSum 4 = .ok (.istore_n 1, 1) := by decide +kernel
theorem dX12_readsSum_5 : decode cX12_readsSum 5 = .ok (.aload_n 0, 1) := by decide +kernel
theorem dX12_readsSum_6 : decode cX12_readsSum 6 = .ok (.invokevirtual 175, 3) := by decide +kernel
theorem dX12_readsSum_9 : decode cX12_readsSum 9 = .ok (.ifCond .ne 5, 3) := by decide +kernel
theorem dX12_readsSum_12 : decode cX12_readsSum 12 = .ok (.iconst 0, 1) := by decide +kernel
theorem dX12_readsSum_13 : decode cX12_readsSum 13 = .ok (.ireturn, 1) := by decide +kernel
theorem dX12_readsSum_14 : decode cX12_readsSum 14 = .ok (.aload_n 0, 1) := by decide +kernel
theorem dX12_readsSum_15 : decode cX12_readsSum 15 = .ok (.invokevirtual 130, 3) := by decide +kernel
theorem dX12_readsSum_18 : decode cX12_readsSum 18 = .ok (.invokestatic 178, 3) := by decide +kernel
theorem dX12_readsSum_21 : decode cX12_readsSum 21 = .ok (.istore_n 2, 1) := by decide +kernel
theorem dX12_readsSum_22 : decode cX12_readsSum 22 = .ok (.iload_n 2, 1) := by decide +kernel
theorem dX12_readsSum_23 : decode cX12_readsSum 23 = .ok (.iconst (-1), 1) := by decide +kernel
theorem dX12_readsSum_24 : decode cX12_readsSum 24 = .ok (.if_icmp .eq 59, 3) := by decide +kernel
theorem dX12_readsSum_27 : decode cX12_readsSum 27 = .ok (.aload_n 0, 1) := by decide +kernel
theorem dX12_readsSum_28 : decode cX12_readsSum 28 = .ok (.iload_n 2, 1) := by decide +kernel
theorem dX12_readsSum_29 : decode cX12_readsSum 29 = .ok (.iconst 4, 1) := by decide +kernel
theorem dX12_readsSum_30 : decode cX12_readsSum 30 = .ok (.if_icmp .ge 7, 3) := by decide +kernel
theorem dX12_readsSum_33 : decode cX12_readsSum 33 = .ok (.iconst 1, 1) := by decide +kernel
theorem dX12_readsSum_34 : decode cX12_readsSum 34 = .ok (.goto 4, 3) := by decide +kernel
theorem dX12_readsSum_37 : decode cX12_readsSum 37 = .ok (.iconst 0, 1) := by decide +kernel
theorem dX12_readsSum_38 : decode cX12_readsSum 38 = .ok (.invokevirtual 181, 3) := by decide +kernel
theorem dX12_readsSum_41 : decode cX12_readsSum 41 = .ok (.aload_n 0, 1) := by decide +kernel
theorem dX12_readsSum_42 : decode cX12_readsSum 42 = .ok (.getfield 42, 3) := by decide +kernel
theorem dX12_readsSum_45 : decode cX12_readsSum 45 = .ok (.aload_n 0, 1) := by decide +kernel
theorem dX12_readsSum_46 : decode cX12_readsSum 46 = .ok (.getfield 155, 3) := by decide +kernel
theorem dX12_readsSum_49 : decode cX12_readsSum 49 = .ok (.ldc 151, 2) := by decide +kernel
theorem dX12_readsSum_51 : decode cX12_readsSum 51 = .ok (.iload_n 2, 1) := by decide +kernel
theorem dX12_readsSum_52 : decode cX12_readsSum 52 = .ok (.imul, 1) := by decide +kernel
theorem dX12_readsSum_53 : decode cX12_readsSum 53 = .ok (.iastore, 1) := by decide +kernel
theorem dX12_readsSum_54 : decode cX12_readsSum 54 = .ok (.aload_n 0, 1) := by decide +kernel
theorem dX12_readsSum_55 : decode cX12_readsSum 55 = .ok (.aload_n 0, 1) := by decide +kernel
theorem dX12_readsSum_56 : decode cX12_readsSum 56 = .ok (.getfield 155, 3) := by decide +kernel
theorem dX12_readsSum_59 : decode cX12_readsSum 59 = .ok (.iconst 1, 1) := by decide +kernel
theorem dX12_readsSum_60 : decode cX12_readsSum 60 = .ok (.iadd, 1) := by decide +kernel
theorem dX12_readsSum_61 : decode cX12_readsSum 61 = .ok (.putfield 155, 3) := by decide +kernel
theorem dX12_readsSum_64 : decode cX12_readsSum 64 = .ok (.aload_n 0, 1) := by decide +kernel
theorem dX12_readsSum_65 : decode cX12_readsSum 65 = .ok (.aload_n 0, 1) := by decide +kernel
theorem dX12_readsSum_66 : decode cX12_readsSum 66 = .ok (.getfield 124, 3) := by decide +kernel
theorem dX12_readsSum_69 : decode cX12_readsSum 69 = .ok (.iconst 1, 1) := by decide +kernel
theorem dX12_readsSum_70 : decode cX12_readsSum 70 = .ok (.iadd, 1) := by decide +kernel
theorem dX12_readsSum_71 : decode cX12_readsSum 71 = .ok (.putfield 124, 3) := by decide +kernel
theorem dX12_readsSum_74 : decode cX12_readsSum 74 = .ok (.aload_n 0, 1) := by decide +kernel
theorem dX12_readsSum_75 : decode cX12_readsSum 75 = .ok (.invokevirtual 175, 3) := by decide +kernel
theorem dX12_readsSum_78 : decode cX12_readsSum 78 = .ok (.ifCond .ne 85, 3) := by decide +kernel
theorem dX12_readsSum_81 : decode cX12_readsSum 81 = .ok (.iconst 0, 1) := by decide +kernel
theorem dX12_readsSum_82 : decode cX12_readsSum 82 = .ok (.ireturn, 1) := by decide +kernel
theorem dX12_readsSum_83 : decode cX12_readsSum 83 = .ok (.aload_n 0, 1) := by decide +kernel
theorem dX12_readsSum_84 : decode cX12_readsSum 84 = .ok (.invokevirtual 130, 3) := by decide +kernel
theorem dX12_readsSum_87 : decode cX12_readsSum 87 = .ok (.bipush 93, 2) := by decide +kernel
theorem dX12_readsSum_89 : decode cX12_readsSum 89 = .ok (.if_icmp .ne 49, 3) := by decide +kernel
theorem dX12_readsSum_92 : decode cX12_readsSum 92 = .ok (.aload_n 0, 1) := by decide +kernel
theorem dX12_readsSum_93 : decode cX12_readsSum 93 = .ok (.iload_n 1, 1) := by decide +kernel
theorem dX12_readsSum_94 : decode cX12_readsSum 94 = .ok (.invokevirtual 185, 3) := by decide +kernel
theorem dX12_readsSum_97 : decode cX12_readsSum 97 = .ok (.ifCond .eq 41, 3) := by decide +kernel
theorem dX12_readsSum_100 : decode cX12_readsSum 100 = .ok (.aload_n 0, 1) := by decide +kernel
theorem dX12_readsSum_101 : decode cX12_readsSum 101 = .ok (.iconst 1, 1) := by decide +kernel
theorem dX12_readsSum_102 : decode cX12_readsSum 102 = .ok (.invokevirtual 181, 3) := by decide +kernel
theorem dX12_readsSum_105 : decode cX12_readsSum 105 = .ok (.aload_n 0, 1) := by decide +kernel
theorem dX12_readsSum_106 : decode cX12_readsSum 106 = .ok (.aload_n 0, 1) := by decide +kernel
theorem dX12_readsSum_107 : decode cX12_readsSum 107 = .ok (.getfield 155, 3) := by decide +kernel
theorem dX12_readsSum_110 : decode cX12_readsSum 110 = .ok (.iconst 1, 1) := by decide +kernel
theorem dX12_readsSum_111 : decode cX12_readsSum 111 = .ok (.isub, 1) := by decide +kernel
theorem dX12_readsSum_112 : decode cX12_readsSum 112 = .ok (.putfield 155, 3) := by decide +kernel
theorem dX12_readsSum_115 : decode cX12_readsSum 115 = .ok (.aload_n 0, 1) := by decide +kernel
theorem dX12_readsSum_116 : decode cX12_readsSum 116 = .ok (.aload_n 0, 1) := by decide +kernel
theorem dX12_readsSum_117 : decode cX12_readsSum 117 = .ok (.getfield 152, 3) := by decide +kernel
theorem dX12_readsSum_120 : decode cX12_readsSum 120 = .ok (.iconst 1, 1) := by decide +kernel
theorem dX12_readsSum_121 : decode cX12_readsSum 121 = .ok (.isub, 1) := by decide +kernel
theorem dX12_readsSum_122 : decode cX12_readsSum 122 = .ok (.putfield 152, 3) := by decide +kernel
theorem dX12_readsSum_125 : decode cX12_readsSum 125 = .ok (.aload_n 0, 1) := by decide +kernel
theorem dX12_readsSum_126 : decode cX12_readsSum 126 = .ok (.aload_n 0, 1) := by decide +kernel
theorem dX12_readsSum_127 : decode cX12_readsSum 127 = .ok (.getfield 124, 3) := by decide +kernel
theorem dX12_readsSum_130 : decode cX12_readsSum 130 = .ok (.iconst 1, 1) := by decide +kernel
theorem dX12_readsSum_131 : decode cX12_readsSum 131 = .ok (.iadd, 1) := by decide +kernel
theorem dX12_readsSum_132 : decode cX12_readsSum 132 = .ok (.putfield 124, 3) := by decide +kernel
theorem dX12_readsSum_135 : decode cX12_readsSum 135 = .ok (.goto 28, 3) := by decide +kernel
theorem dX12_readsSum_138 : decode cX12_readsSum 138 = .ok (.aload_n 0, 1) := by decide +kernel
theorem dX12_readsSum_139 : decode cX12_readsSum 139 = .ok (.iload_n 1, 1) := by decide +kernel
theorem dX12_readsSum_140 : decode cX12_readsSum 140 = .ok (.invokevirtual 185, 3) := by decide +kernel
theorem dX12_readsSum_143 : decode cX12_readsSum 143 = .ok (.ifCond .eq 13, 3) := by decide +kernel
theorem dX12_readsSum_146 : decode cX12_readsSum 146 = .ok (.aload_n 0, 1) := by decide +kernel
theorem dX12_readsSum_147 : decode cX12_readsSum 147 = .ok (.iconst 1, 1) := by decide +kernel
theorem dX12_readsSum_148 : decode cX12_readsSum 148 = .ok (.aload_n 0, 1) := by decide +kernel
theorem dX12_readsSum_149 : decode cX12_readsSum 149 = .ok (.getfield 124, 3) := by decide +kernel
theorem dX12_readsSum_152 : decode cX12_readsSum 152 = .ok (.invokevirtual 137, 3) := by decide +kernel
theorem dX12_readsSum_155 : decode cX12_readsSum 155 = .ok (.ireturn, 1) := by decide +kernel
theorem dX12_readsSum_156 : decode cX12_readsSum 156 = .ok (.aload_n 0, 1) := by decide +kernel
theorem dX12_readsSum_157 : decode cX12_readsSum 157 = .ok (.iconst 1, 1) := by decide +kernel
theorem dX12_readsSum_158 : decode cX12_readsSum 158 = .ok (.invokevirtual 181, 3) := by decide +kernel
theorem dX12_readsSum_161 : decode cX12_readsSum 161 = .ok (.iconst 1, 1) := by decide +kernel
theorem dX12_readsSum_162 : decode cX12_readsSum 162 = .ok (.ireturn, 1) := by decide +kernel
theorem dX12_readsSum_163 : decode cX12_readsSum 163 = .ok (.goto (-149), 3) := by decide +kernel
theorem dX12_endsPiece_0 : decode cX12_endsPiece 0 = .ok (.aload_n 0, 1) := by decide +kernel
theorem dX12_endsPiece_1 : decode cX12_endsPiece 1 = .ok (.invokevirtual 158, 3) := by decide +kernel
theorem dX12_endsPiece_4 : decode cX12_endsPiece 4 = .ok (.bipush 10, 2) := by decide +kernel
theorem dX12_endsPiece_6 : decode cX12_endsPiece 6 = .ok (.if_icmp .ne 33, 3) := by decide +kernel
theorem dX12_endsPiece_9 : decode cX12_endsPiece 9 = .ok (.aload_n 0, 1) := by decide +kernel
theorem dX12_endsPiece_10 : decode cX12_endsPiece 10 = .ok (.bipush 10, 2) := by decide +kernel
theorem dX12_endsPiece_12 : decode cX12_endsPiece 12 = .ok (.iconst 0, 1) := by decide +kernel
theorem dX12_endsPiece_13 : decode cX12_endsPiece 13 = .ok (.invokevirtual 161, 3) := by decide +kernel
theorem dX12_endsPiece_16 : decode cX12_endsPiece 16 = .ok (.aload_n 0, 1) := by decide +kernel
theorem dX12_endsPiece_17 : decode cX12_endsPiece 17 = .ok (.aload_n 0, 1) := by decide +kernel
theorem dX12_endsPiece_18 : decode cX12_endsPiece 18 = .ok (.getfield 155, 3) := by decide +kernel
theorem dX12_endsPiece_21 : decode cX12_endsPiece 21 = .ok (.iconst 1, 1) := by decide +kernel
theorem dX12_endsPiece_22 : decode cX12_endsPiece 22 = .ok (.isub, 1) := by decide +kernel
theorem dX12_endsPiece_23 : decode cX12_endsPiece 23 = .ok (.putfield 155, 3) := by decide +kernel
theorem dX12_endsPiece_26 : decode cX12_endsPiece 26 = .ok (.aload_n 0, 1) := by decide +kernel
theorem dX12_endsPiece_27 : decode cX12_endsPiece 27 = .ok (.aload_n 0, 1) := by decide +kernel
theorem dX12_endsPiece_28 : decode cX12_endsPiece 28 = .ok (.getfield 152, 3) := by decide +kernel
theorem dX12_endsPiece_31 : decode cX12_endsPiece 31 = .ok (.iconst 1, 1) := by decide +kernel
theorem dX12_endsPiece_32 : decode cX12_endsPiece 32 = .ok (.isub, 1) := by decide +kernel
theorem dX12_endsPiece_33 : decode cX12_endsPiece 33 = .ok (.putfield 152, 3) := by decide +kernel
theorem dX12_endsPiece_36 : decode cX12_endsPiece 36 = .ok (.goto (-36), 3) := by decide +kernel
theorem dX12_endsPiece_39 : decode cX12_endsPiece 39 = .ok (.return_, 1) := by decide +kernel
theorem dX12_lands_0 : decode cX12_lands 0 = .ok (.aload_n 0, 1) := by decide +kernel
theorem dX12_lands_1 : decode cX12_lands 1 = .ok (.invokevirtual 158, 3) := by decide +kernel
theorem dX12_lands_4 : decode cX12_lands 4 = .ok (.bipush 11, 2) := by decide +kernel
theorem dX12_lands_6 : decode cX12_lands 6 = .ok (.if_icmp .eq 16, 3) := by decide +kernel
theorem dX12_lands_9 : decode cX12_lands 9 = .ok (.iload_n 1, 1) := by decide +kernel
theorem dX12_lands_10 : decode cX12_lands 10 = .ok (.ifCond .eq 63, 3) := by decide +kernel
theorem dX12_lands_13 : decode cX12_lands 13 = .ok (.aload_n 0, 1) := by decide +kernel
theorem dX12_lands_14 : decode cX12_lands 14 = .ok (.invokevirtual 158, 3) := by decide +kernel
theorem dX12_lands_17 : decode cX12_lands 17 = .ok (.bipush 12, 2) := by decide +kernel
theorem dX12_lands_19 : decode cX12_lands 19 = .ok (.if_icmp .ne 54, 3) := by decide +kernel
theorem dX12_lands_22 : decode cX12_lands 22 = .ok (.aload_n 0, 1) := by decide +kernel
theorem dX12_lands_23 : decode cX12_lands 23 = .ok (.getfield 42, 3) := by decide +kernel
theorem dX12_lands_26 : decode cX12_lands 26 = .ok (.aload_n 0, 1) := by decide +kernel
theorem dX12_lands_27 : decode cX12_lands 27 = .ok (.getfield 155, 3) := by decide +kernel
theorem dX12_lands_30 : decode cX12_lands 30 = .ok (.iconst 1, 1) := by decide +kernel
theorem dX12_lands_31 : decode cX12_lands 31 = .ok (.isub, 1) := by decide +kernel
theorem dX12_lands_32 : decode cX12_lands 32 = .ok (.iaload, 1) := by decide +kernel
theorem dX12_lands_33 : decode cX12_lands 33 = .ok (.ldc 151, 2) := by decide +kernel
theorem dX12_lands_35 : decode cX12_lands 35 = .ok (.irem, 1) := by decide +kernel
theorem dX12_lands_36 : decode cX12_lands 36 = .ok (.istore_n 2, 1) := by decide +kernel
theorem dX12_lands_37 : decode cX12_lands 37 = .ok (.aload_n 0, 1) := by decide +kernel
theorem dX12_lands_38 : decode cX12_lands 38 = .ok (.getfield 39, 3) := by decide +kernel
theorem dX12_lands_41 : decode cX12_lands 41 = .ok (.iload_n 2, 1) := by decide +kernel
theorem dX12_lands_42 : decode cX12_lands 42 = .ok (.ldc 151, 2) := by decide +kernel
theorem dX12_lands_44 : decode cX12_lands 44 = .ok (.aload_n 0, 1) := by decide +kernel
theorem dX12_lands_45 : decode cX12_lands 45 = .ok (.getfield 39, 3) := by decide +kernel
theorem dX12_lands_48 : decode cX12_lands 48 = .ok (.iload_n 2, 1) := by decide +kernel
theorem dX12_lands_49 : decode cX12_lands 49 = .ok (.iaload, 1) := by decide +kernel
theorem dX12_lands_50 : decode cX12_lands 50 = .ok (.ldc 151, 2) := by decide +kernel
theorem dX12_lands_52 : decode cX12_lands 52 = .ok (.idiv, 1) := by decide +kernel
theorem dX12_lands_53 : decode cX12_lands 53 = .ok (.imul, 1) := by decide +kernel
theorem dX12_lands_54 : decode cX12_lands 54 = .ok (.aload_n 0, 1) := by decide +kernel
theorem dX12_lands_55 : decode cX12_lands 55 = .ok (.getfield 148, 3) := by decide +kernel
theorem dX12_lands_58 : decode cX12_lands 58 = .ok (.iadd, 1) := by decide +kernel
theorem dX12_lands_59 : decode cX12_lands 59 = .ok (.iastore, 1) := by decide +kernel
theorem dX12_lands_60 : decode cX12_lands 60 = .ok (.aload_n 0, 1) := by decide +kernel
theorem dX12_lands_61 : decode cX12_lands 61 = .ok (.aload_n 0, 1) := by decide +kernel
theorem dX12_lands_62 : decode cX12_lands 62 = .ok (.getfield 155, 3) := by decide +kernel
theorem dX12_lands_65 : decode cX12_lands 65 = .ok (.iconst 1, 1) := by decide +kernel
theorem dX12_lands_66 : decode cX12_lands 66 = .ok (.isub, 1) := by decide +kernel
theorem dX12_lands_67 : decode cX12_lands 67 = .ok (.putfield 155, 3) := by decide +kernel
theorem dX12_lands_70 : decode cX12_lands 70 = .ok (.goto (-70), 3) := by decide +kernel
theorem dX12_lands_73 : decode cX12_lands 73 = .ok (.return_, 1) := by decide +kernel
theorem dX12_jumps_0 : decode cX12_jumps 0 = .ok (.aload_n 0, 1) := by decide +kernel
theorem dX12_jumps_1 : decode cX12_jumps 1 = .ok (.getfield 42, 3) := by decide +kernel
theorem dX12_jumps_4 : decode cX12_jumps 4 = .ok (.aload_n 0, 1) := by decide +kernel
theorem dX12_jumps_5 : decode cX12_jumps 5 = .ok (.getfield 155, 3) := by decide +kernel
theorem dX12_jumps_8 : decode cX12_jumps 8 = .ok (.ldc 151, 2) := by decide +kernel
theorem dX12_jumps_10 : decode cX12_jumps 10 = .ok (.iload_n 1, 1) := by decide +kernel
theorem dX12_jumps_11 : decode cX12_jumps 11 = .ok (.imul, 1) := by decide +kernel
theorem dX12_jumps_12 : decode cX12_jumps 12 = .ok (.aload_n 0, 1) := by decide +kernel
theorem dX12_jumps_13 : decode cX12_jumps 13 = .ok (.getfield 148, 3) := by decide +kernel
theorem dX12_jumps_16 : decode cX12_jumps 16 = .ok (.iadd, 1) := by decide +kernel
theorem dX12_jumps_17 : decode cX12_jumps 17 = .ok (.iastore, 1) := by decide +kernel
theorem dX12_jumps_18 : decode cX12_jumps 18 = .ok (.aload_n 0, 1) := by decide +kernel
theorem dX12_jumps_19 : decode cX12_jumps 19 = .ok (.aload_n 0, 1) := by decide +kernel
theorem dX12_jumps_20 : decode cX12_jumps 20 = .ok (.getfield 155, 3) := by decide +kernel
theorem dX12_jumps_23 : decode cX12_jumps 23 = .ok (.iconst 1, 1) := by decide +kernel
theorem dX12_jumps_24 : decode cX12_jumps 24 = .ok (.iadd, 1) := by decide +kernel
theorem dX12_jumps_25 : decode cX12_jumps 25 = .ok (.putfield 155, 3) := by decide +kernel
theorem dX12_jumps_28 : decode cX12_jumps 28 = .ok (.aload_n 0, 1) := by decide +kernel
theorem dX12_jumps_29 : decode cX12_jumps 29 = .ok (.iload_n 1, 1) := by decide +kernel
theorem dX12_jumps_30 : decode cX12_jumps 30 = .ok (.iconst 0, 1) := by decide +kernel
theorem dX12_jumps_31 : decode cX12_jumps 31 = .ok (.invokevirtual 161, 3) := by decide +kernel
theorem dX12_jumps_34 : decode cX12_jumps 34 = .ok (.aload_n 0, 1) := by decide +kernel
theorem dX12_jumps_35 : decode cX12_jumps 35 = .ok (.aload_n 0, 1) := by decide +kernel
theorem dX12_jumps_36 : decode cX12_jumps 36 = .ok (.getfield 124, 3) := by decide +kernel
theorem dX12_jumps_39 : decode cX12_jumps 39 = .ok (.iconst 1, 1) := by decide +kernel
theorem dX12_jumps_40 : decode cX12_jumps 40 = .ok (.iadd, 1) := by decide +kernel
theorem dX12_jumps_41 : decode cX12_jumps 41 = .ok (.putfield 124, 3) := by decide +kernel
theorem dX12_jumps_44 : decode cX12_jumps 44 = .ok (.return_, 1) := by decide +kernel
theorem dX12_readsCompared_0 : decode cX12_readsCompared 0 = .ok (.aload_n 0, 1) := by decide +kernel
theorem dX12_readsCompared_1 : decode cX12_readsCompared 1 = .ok (.invokevirtual 188, 3) := by decide +kernel
theorem dX12_readsCompared_4 : decode cX12_readsCompared 4 = .ok (.ifCond .ne 5, 3) := by decide +kernel
theorem dX12_readsCompared_7 : decode cX12_readsCompared 7 = .ok (.iconst 0, 1) := by decide +kernel
theorem dX12_readsCompared_8 : decode cX12_readsCompared 8 = .ok (.ireturn, 1) := by decide +kernel
theorem dX12_readsCompared_9 : decode cX12_readsCompared 9 = .ok (.aload_n 0, 1) := by decide +kernel
theorem dX12_readsCompared_10 : decode cX12_readsCompared 10 = .ok (.invokevirtual 130, 3) := by decide +kernel
theorem dX12_readsCompared_13 : decode cX12_readsCompared 13 = .ok (.bipush 60, 2) := by decide +kernel
theorem dX12_readsCompared_15 : decode cX12_readsCompared 15 = .ok (.if_icmp .ne 8, 3) := by decide +kernel
theorem dX12_readsCompared_18 : decode cX12_readsCompared 18 = .ok (.bipush 7, 2) := by decide +kernel
theorem dX12_readsCompared_20 : decode cX12_readsCompared 20 = .ok (.goto 32, 3) := by decide +kernel
theorem dX12_readsCompared_23 : decode cX12_readsCompared 23 = .ok (.aload_n 0, 1) := by decide +kernel
theorem dX12_readsCompared_24 : decode cX12_readsCompared 24 = .ok (.invokevirtual 130, 3) := by decide +kernel
theorem dX12_readsCompared_27 : decode cX12_readsCompared 27 = .ok (.bipush 62, 2) := by decide +kernel
theorem dX12_readsCompared_29 : decode cX12_readsCompared 29 = .ok (.if_icmp .ne 8, 3) := by decide +kernel
theorem dX12_readsCompared_32 : decode cX12_readsCompared 32 = .ok (.bipush 8, 2) := by decide +kernel
theorem dX12_readsCompared_34 : decode cX12_readsCompared 34 = .ok (.goto 18, 3) := by decide +kernel
theorem dX12_readsCompared_37 : decode cX12_readsCompared 37 = .ok (.aload_n 0, 1) := by decide +kernel
theorem dX12_readsCompared_38 : decode cX12_readsCompared 38 = .ok (.invokevirtual 130, 3) := by decide +kernel
theorem dX12_readsCompared_41 : decode cX12_readsCompared 41 = .ok (.bipush 61, 2) := by decide +kernel
theorem dX12_readsCompared_43 : decode cX12_readsCompared 43 = .ok (.if_icmp .ne 8, 3) := by decide +kernel
theorem dX12_readsCompared_46 : decode cX12_readsCompared 46 = .ok (.bipush 9, 2) := by decide +kernel
theorem dX12_readsCompared_48 : decode cX12_readsCompared 48 = .ok (.goto 4, 3) := by decide +kernel
theorem dX12_readsCompared_51 : decode cX12_readsCompared 51 = .ok (.iconst (-1), 1) := by decide +kernel
theorem dX12_readsCompared_52 : decode cX12_readsCompared 52 = .ok (.istore_n 1, 1) := by decide +kernel
theorem dX12_readsCompared_53 : decode cX12_readsCompared 53 = .ok (.iload_n 1, 1) := by decide +kernel
theorem dX12_readsCompared_54 : decode cX12_readsCompared 54 = .ok (.iconst (-1), 1) := by decide +kernel
theorem dX12_readsCompared_55 : decode cX12_readsCompared 55 = .ok (.if_icmp .ne 13, 3) := by decide +kernel
theorem dX12_readsCompared_58 : decode cX12_readsCompared 58 = .ok (.aload_n 0, 1) := by decide +kernel
theorem dX12_readsCompared_59 : decode cX12_readsCompared 59 = .ok (.iconst 1, 1) := by decide +kernel
theorem dX12_readsCompared_60 : decode cX12_readsCompared 60 = .ok (.aload_n 0, 1) := by decide +kernel
theorem dX12_readsCompared_61 : decode cX12_readsCompared 61 = .ok (.getfield 124, 3) := by decide +kernel
theorem dX12_readsCompared_64 : decode cX12_readsCompared 64 = .ok (.invokevirtual 137, 3) := by decide +kernel
theorem dX12_readsCompared_67 : decode cX12_readsCompared 67 = .ok (.ireturn, 1) := by decide +kernel
theorem dX12_readsCompared_68 : decode cX12_readsCompared 68 = .ok (.aload_n 0, 1) := by decide +kernel
theorem dX12_readsCompared_69 : decode cX12_readsCompared 69 = .ok (.aload_n 0, 1) := by decide +kernel
theorem dX12_readsCompared_70 : decode cX12_readsCompared 70 = .ok (.getfield 124, 3) := by decide +kernel
theorem dX12_readsCompared_73 : decode cX12_readsCompared 73 = .ok (.iconst 1, 1) := by decide +kernel
theorem dX12_readsCompared_74 : decode cX12_readsCompared 74 = .ok (.iadd, 1) := by decide +kernel
theorem dX12_readsCompared_75 : decode cX12_readsCompared 75 = .ok (.putfield 124, 3) := by decide +kernel
theorem dX12_readsCompared_78 : decode cX12_readsCompared 78 = .ok (.aload_n 0, 1) := by decide +kernel
theorem dX12_readsCompared_79 : decode cX12_readsCompared 79 = .ok (.invokevirtual 188, 3) := by decide +kernel
theorem dX12_readsCompared_82 : decode cX12_readsCompared 82 = .ok (.ifCond .ne 5, 3) := by decide +kernel
theorem dX12_readsCompared_85 : decode cX12_readsCompared 85 = .ok (.iconst 0, 1) := by decide +kernel
theorem dX12_readsCompared_86 : decode cX12_readsCompared 86 = .ok (.ireturn, 1) := by decide +kernel
theorem dX12_readsCompared_87 : decode cX12_readsCompared 87 = .ok (.aload_n 0, 1) := by decide +kernel
theorem dX12_readsCompared_88 : decode cX12_readsCompared 88 = .ok (.iload_n 1, 1) := by decide +kernel
theorem dX12_readsCompared_89 : decode cX12_readsCompared 89 = .ok (.iconst 0, 1) := by decide +kernel
theorem dX12_readsCompared_90 : decode cX12_readsCompared 90 = .ok (.invokevirtual 161, 3) := by decide +kernel
theorem dX12_readsCompared_93 : decode cX12_readsCompared 93 = .ok (.aload_n 0, 1) := by decide +kernel
theorem dX12_readsCompared_94 : decode cX12_readsCompared 94 = .ok (.invokevirtual 191, 3) := by decide +kernel
theorem dX12_readsCompared_97 : decode cX12_readsCompared 97 = .ok (.iconst 1, 1) := by decide +kernel
theorem dX12_readsCompared_98 : decode cX12_readsCompared 98 = .ok (.ireturn, 1) := by decide +kernel
theorem dX12_readsCondition_0 : decode cX12_readsCondition 0 = .ok (.aload_n 0, 1) := by decide +kernel
theorem dX12_readsCondition_1 : decode cX12_readsCondition 1 = .ok (.invokevirtual 130, 3) := by decide +kernel
theorem dX12_readsCondition_4 : decode cX12_readsCondition 4 = .ok (.bipush 40, 2) := by decide +kernel
theorem dX12_readsCondition_6 : decode cX12_readsCondition 6 = .ok (.if_icmp .eq 13, 3) := by decide +kernel
theorem dX12_readsCondition_9 : decode cX12_readsCondition 9 = .ok (.aload_n 0, 1) := by decide +kernel
theorem dX12_readsCondition_10 : decode cX12_readsCondition 10 = .ok (.iconst 1, 1) := by decide +kernel
theorem dX12_readsCondition_11 : decode cX12_readsCondition 11 = .ok (.aload_n 0, 1) := by decide +kernel
theorem dX12_readsCondition_12 : decode cX12_readsCondition 12 = .ok (.getfield 124, 3) := by decide +kernel
theorem dX12_readsCondition_15 : decode cX12_readsCondition 15 = .ok (.invokevirtual 137, 3) := by decide +kernel
theorem dX12_readsCondition_18 : decode cX12_readsCondition 18 = .ok (.ireturn, 1) := by decide +kernel
theorem dX12_readsCondition_19 : decode cX12_readsCondition 19 = .ok (.aload_n 0, 1) := by decide +kernel
theorem dX12_readsCondition_20 : decode cX12_readsCondition 20 = .ok (.iconst 0, 1) := by decide +kernel
theorem dX12_readsCondition_21 : decode cX12_readsCondition 21 = .ok (.putfield 152, 3) := by decide +kernel
theorem dX12_readsCondition_24 : decode cX12_readsCondition 24 = .ok (.aload_n 0, 1) := by decide +kernel
theorem dX12_readsCondition_25 : decode cX12_readsCondition 25 = .ok (.iconst 0, 1) := by decide +kernel
theorem dX12_readsCondition_26 : decode cX12_readsCondition 26 = .ok (.putfield 155, 3) := by decide +kernel
theorem dX12_readsCondition_29 : decode cX12_readsCondition 29 = .ok (.aload_n 0, 1) := by decide +kernel
theorem dX12_readsCondition_30 : decode cX12_readsCondition 30 = .ok (.bipush 13, 2) := by decide +kernel
theorem dX12_readsCondition_32 : decode cX12_readsCondition 32 = .ok (.invokevirtual 165, 3) := by decide +kernel
theorem dX12_readsCondition_35 : decode cX12_readsCondition 35 = .ok (.ifCond .ne 5, 3) := by decide +kernel
theorem dX12_readsCondition_38 : decode cX12_readsCondition 38 = .ok (.iconst 0, 1) := by decide +kernel
theorem dX12_readsCondition_39 : decode cX12_readsCondition 39 = .ok (.ireturn, 1) := by decide +kernel
theorem dX12_readsCondition_40 : decode cX12_readsCondition 40 = .ok (.aload_n 0, 1) := by decide +kernel
theorem dX12_readsCondition_41 : decode cX12_readsCondition 41 = .ok (.invokevirtual 130, 3) := by decide +kernel
theorem dX12_readsCondition_44 : decode cX12_readsCondition 44 = .ok (.bipush 33, 2) := by decide +kernel
theorem dX12_readsCondition_46 : decode cX12_readsCondition 46 = .ok (.if_icmp .eq 12, 3) := by decide +kernel
theorem dX12_readsCondition_49 : decode cX12_readsCondition 49 = .ok (.aload_n 0, 1) := by decide +kernel
theorem dX12_readsCondition_50 : decode cX12_readsCondition 50 = .ok (.invokevirtual 130, 3) := by decide +kernel
theorem dX12_readsCondition_53 : decode cX12_readsCondition 53 = .ok (.bipush 40, 2) := by decide +kernel
theorem dX12_readsCondition_55 : decode cX12_readsCondition 55 = .ok (.if_icmp .ne 28, 3) := by decide +kernel
theorem dX12_readsCondition_58 : decode cX12_readsCondition 58 = .ok (.aload_n 0, 1) := by decide +kernel
theorem dX12_readsCondition_59 : decode cX12_readsCondition 59 = .ok (.aload_n 0, 1) := by decide +kernel
theorem dX12_readsCondition_60 : decode cX12_readsCondition 60 = .ok (.invokevirtual 130, 3) := by decide +kernel
theorem dX12_readsCondition_63 : decode cX12_readsCondition 63 = .ok (.bipush 33, 2) := by decide +kernel
theorem dX12_readsCondition_65 : decode cX12_readsCondition 65 = .ok (.if_icmp .ne 8, 3) := by decide +kernel
theorem dX12_readsCondition_68 : decode cX12_readsCondition 68 = .ok (.bipush 10, 2) := by decide +kernel
theorem dX12_readsCondition_70 : decode cX12_readsCondition 70 = .ok (.goto 5, 3) := by decide +kernel
theorem dX12_readsCondition_73 : decode cX12_readsCondition 73 = .ok (.bipush 13, 2) := by decide +kernel
theorem dX12_readsCondition_75 : decode cX12_readsCondition 75 = .ok (.invokevirtual 165, 3) := by decide +kernel
theorem dX12_readsCondition_78 : decode cX12_readsCondition 78 = .ok (.ifCond .ne (-38), 3) := by decide +kernel
theorem dX12_readsCondition_81 : decode cX12_readsCondition 81 = .ok (.iconst 0, 1) := by decide +kernel
theorem dX12_readsCondition_82 : decode cX12_readsCondition 82 = .ok (.ireturn, 1) := by decide +kernel
theorem dX12_readsCondition_83 : decode cX12_readsCondition 83 = .ok (.aload_n 0, 1) := by decide +kernel
theorem dX12_readsCondition_84 : decode cX12_readsCondition 84 = .ok (.invokevirtual 194, 3) := by decide +kernel
theorem dX12_readsCondition_87 : decode cX12_readsCondition 87 = .ok (.ifCond .ne 5, 3) := by decide +kernel
theorem dX12_readsCondition_90 : decode cX12_readsCondition 90 = .ok (.iconst 0, 1) := by decide +kernel
theorem dX12_readsCondition_91 : decode cX12_readsCondition 91 = .ok (.ireturn, 1) := by decide +kernel
theorem dX12_readsCondition_92 : decode cX12_readsCondition 92 = .ok (.aload_n 0, 1) := by decide +kernel
theorem dX12_readsCondition_93 : decode cX12_readsCondition 93 = .ok (.invokevirtual 130, 3) := by decide +kernel
theorem dX12_readsCondition_96 : decode cX12_readsCondition 96 = .ok (.bipush 41, 2) := by decide +kernel
theorem dX12_readsCondition_98 : decode cX12_readsCondition 98 = .ok (.if_icmp .ne 54, 3) := by decide +kernel
theorem dX12_readsCondition_101 : decode cX12_readsCondition 101 = .ok (.aload_n 0, 1) := by decide +kernel
theorem dX12_readsCondition_102 : decode cX12_readsCondition 102 = .ok (.iconst 1, 1) := by decide +kernel
theorem dX12_readsCondition_103 : decode cX12_readsCondition 103 = .ok (.invokevirtual 197, 3) := by decide +kernel
theorem dX12_readsCondition_106 : decode cX12_readsCondition 106 = .ok (.aload_n 0, 1) := by decide +kernel
theorem dX12_readsCondition_107 : decode cX12_readsCondition 107 = .ok (.aload_n 0, 1) := by decide +kernel
theorem dX12_readsCondition_108 : decode cX12_readsCondition 108 = .ok (.getfield 155, 3) := by decide +kernel
theorem dX12_readsCondition_111 : decode cX12_readsCondition 111 = .ok (.iconst 1, 1) := by decide +kernel
theorem dX12_readsCondition_112 : decode cX12_readsCondition 112 = .ok (.isub, 1) := by decide +kernel
theorem dX12_readsCondition_113 : decode cX12_readsCondition 113 = .ok (.putfield 155, 3) := by decide +kernel
theorem dX12_readsCondition_116 : decode cX12_readsCondition 116 = .ok (.aload_n 0, 1) := by decide +kernel
theorem dX12_readsCondition_117 : decode cX12_readsCondition 117 = .ok (.aload_n 0, 1) := by decide +kernel
theorem dX12_readsCondition_118 : decode cX12_readsCondition 118 = .ok (.getfield 152, 3) := by decide +kernel
theorem dX12_readsCondition_121 : decode cX12_readsCondition 121 = .ok (.iconst 1, 1) := by decide +kernel
theorem dX12_readsCondition_122 : decode cX12_readsCondition 122 = .ok (.isub, 1) := by decide +kernel
theorem dX12_readsCondition_123 : decode cX12_readsCondition 123 = .ok (.putfield 152, 3) := by decide +kernel
theorem dX12_readsCondition_126 : decode cX12_readsCondition 126 = .ok (.aload_n 0, 1) := by decide +kernel
theorem dX12_readsCondition_127 : decode cX12_readsCondition 127 = .ok (.aload_n 0, 1) := by decide +kernel
theorem dX12_readsCondition_128 : decode cX12_readsCondition 128 = .ok (.getfield 124, 3) := by decide +kernel
theorem dX12_readsCondition_131 : decode cX12_readsCondition 131 = .ok (.iconst 1, 1) := by decide +kernel
theorem dX12_readsCondition_132 : decode cX12_readsCondition 132 = .ok (.iadd, 1) := by decide +kernel
theorem dX12_readsCondition_133 : decode cX12_readsCondition 133 = .ok (.putfield 124, 3) := by decide +kernel
theorem dX12_readsCondition_136 : decode cX12_readsCondition 136 = .ok (.aload_n 0, 1) := by decide +kernel
theorem dX12_readsCondition_137 : decode cX12_readsCondition 137 = .ok (.getfield 155, 3) := by decide +kernel
theorem dX12_readsCondition_140 : decode cX12_readsCondition 140 = .ok (.ifCond .ne 5, 3) := by decide +kernel
theorem dX12_readsCondition_143 : decode cX12_readsCondition 143 = .ok (.iconst 1, 1) := by decide +kernel
theorem dX12_readsCondition_144 : decode cX12_readsCondition 144 = .ok (.ireturn, 1) := by decide +kernel
theorem dX12_readsCondition_145 : decode cX12_readsCondition 145 = .ok (.aload_n 0, 1) := by decide +kernel
theorem dX12_readsCondition_146 : decode cX12_readsCondition 146 = .ok (.invokevirtual 191, 3) := by decide +kernel
theorem dX12_readsCondition_149 : decode cX12_readsCondition 149 = .ok (.goto (-57), 3) := by decide +kernel
theorem dX12_readsCondition_152 : decode cX12_readsCondition 152 = .ok (.aload_n 0, 1) := by decide +kernel
theorem dX12_readsCondition_153 : decode cX12_readsCondition 153 = .ok (.invokevirtual 130, 3) := by decide +kernel
theorem dX12_readsCondition_156 : decode cX12_readsCondition 156 = .ok (.bipush 38, 2) := by decide +kernel
theorem dX12_readsCondition_158 : decode cX12_readsCondition 158 = .ok (.if_icmp .eq 22, 3) := by decide +kernel
theorem dX12_readsCondition_161 : decode cX12_readsCondition 161 = .ok (.aload_n 0, 1) := by decide +kernel
theorem dX12_readsCondition_162 : decode cX12_readsCondition 162 = .ok (.invokevirtual 130, 3) := by decide +kernel
theorem dX12_readsCondition_165 : decode cX12_readsCondition 165 = .ok (.bipush 124, 2) := by decide +kernel
theorem dX12_readsCondition_167 : decode cX12_readsCondition 167 = .ok (.if_icmp .eq 13, 3) := by decide +kernel
theorem dX12_readsCondition_170 : decode cX12_readsCondition 170 = .ok (.aload_n 0, 1) := by decide +kernel
theorem dX12_readsCondition_171 : decode cX12_readsCondition 171 = .ok (.iconst 1, 1) := by decide +kernel
theorem dX12_readsCondition_172 : decode cX12_readsCondition 172 = .ok (.aload_n 0, 1) := by decide +kernel
theorem dX12_readsCondition_173 : decode cX12_readsCondition 173 = .ok (.getfield 124, 3) := by decide +kernel
theorem dX12_readsCondition_176 : decode cX12_readsCondition 176 = .ok (.invokevirtual 137, 3) := by decide +kernel
theorem dX12_readsCondition_179 : decode cX12_readsCondition 179 = .ok (.ireturn, 1) := by decide +kernel
theorem dX12_readsCondition_180 : decode cX12_readsCondition 180 = .ok (.aload_n 0, 1) := by decide +kernel
theorem dX12_readsCondition_181 : decode cX12_readsCondition 181 = .ok (.aload_n 0, 1) := by decide +kernel
theorem dX12_readsCondition_182 : decode cX12_readsCondition 182 = .ok (.invokevirtual 130, 3) := by decide +kernel
theorem dX12_readsCondition_185 : decode cX12_readsCondition 185 = .ok (.bipush 124, 2) := by decide +kernel
theorem dX12_readsCondition_187 : decode cX12_readsCondition 187 = .ok (.if_icmp .ne 7, 3) := by decide +kernel
theorem dX12_readsCondition_190 : decode cX12_readsCondition 190 = .ok (.iconst 1, 1) := by decide +kernel
theorem dX12_readsCondition_191 : decode cX12_readsCondition 191 = .ok (.goto 4, 3) := by decide +kernel
theorem dX12_readsCondition_194 : decode cX12_readsCondition 194 = .ok (.iconst 0, 1) := by decide +kernel
theorem dX12_readsCondition_195 : decode cX12_readsCondition 195 = .ok (.invokevirtual 197, 3) := by decide +kernel
theorem dX12_readsCondition_198 : decode cX12_readsCondition 198 = .ok (.aload_n 0, 1) := by decide +kernel
theorem dX12_readsCondition_199 : decode cX12_readsCondition 199 = .ok (.aload_n 0, 1) := by decide +kernel
theorem dX12_readsCondition_200 : decode cX12_readsCondition 200 = .ok (.invokevirtual 130, 3) := by decide +kernel
theorem dX12_readsCondition_203 : decode cX12_readsCondition 203 = .ok (.bipush 38, 2) := by decide +kernel
theorem dX12_readsCondition_205 : decode cX12_readsCondition 205 = .ok (.if_icmp .ne 8, 3) := by decide +kernel
theorem dX12_readsCondition_208 : decode cX12_readsCondition 208 = .ok (.bipush 11, 2) := by decide +kernel
theorem dX12_readsCondition_210 : decode cX12_readsCondition 210 = .ok (.goto 5, 3) := by decide +kernel
theorem dX12_readsCondition_213 : decode cX12_readsCondition 213 = .ok (.bipush 12, 2) := by decide +kernel
theorem dX12_readsCondition_215 : decode cX12_readsCondition 215 = .ok (.invokevirtual 200, 3) := by decide +kernel
theorem dX12_readsCondition_218 : decode cX12_readsCondition 218 = .ok (.goto (-178), 3) := by decide +kernel
theorem dX12_readsRule_0 : decode cX12_readsRule 0 = .ok (.aload_n 0, 1) := by decide +kernel
theorem dX12_readsRule_1 : decode cX12_readsRule 1 = .ok (.invokevirtual 130, 3) := by decide +kernel
theorem dX12_readsRule_4 : decode cX12_readsRule 4 = .ok (.istore_n 1, 1) := by decide +kernel
theorem dX12_readsRule_5 : decode cX12_readsRule 5 = .ok (.iload_n 1, 1) := by decide +kernel
theorem dX12_readsRule_6 : decode cX12_readsRule 6 = .ok (.bipush 112, 2) := by decide +kernel
theorem dX12_readsRule_8 : decode cX12_readsRule 8 = .ok (.if_icmp .eq 25, 3) := by decide +kernel
theorem dX12_readsRule_11 : decode cX12_readsRule 11 = .ok (.iload_n 1, 1) := by decide +kernel
theorem dX12_readsRule_12 : decode cX12_readsRule 12 = .ok (.bipush 104, 2) := by decide +kernel
theorem dX12_readsRule_14 : decode cX12_readsRule 14 = .ok (.if_icmp .eq 19, 3) := by decide +kernel
theorem dX12_readsRule_17 : decode cX12_readsRule 17 = .ok (.iload_n 1, 1) := by decide +kernel
theorem dX12_readsRule_18 : decode cX12_readsRule 18 = .ok (.bipush 120, 2) := by decide +kernel
theorem dX12_readsRule_20 : decode cX12_readsRule 20 = .ok (.if_icmp .eq 13, 3) := by decide +kernel
theorem dX12_readsRule_23 : decode cX12_readsRule 23 = .ok (.aload_n 0, 1) := by decide +kernel
theorem dX12_readsRule_24 : decode cX12_readsRule 24 = .ok (.iconst 1, 1) := by decide +kernel
theorem dX12_readsRule_25 : decode cX12_readsRule 25 = .ok (.aload_n 0, 1) := by decide +kernel
theorem dX12_readsRule_26 : decode cX12_readsRule 26 = .ok (.getfield 124, 3) := by decide +kernel
theorem dX12_readsRule_29 : decode cX12_readsRule 29 = .ok (.invokevirtual 137, 3) := by decide +kernel
theorem dX12_readsRule_32 : decode cX12_readsRule 32 = .ok (.ireturn, 1) := by decide +kernel
theorem dX12_readsRule_33 : decode cX12_readsRule 33 = .ok (.aload_n 0, 1) := by decide +kernel
theorem dX12_readsRule_34 : decode cX12_readsRule 34 = .ok (.getfield 203, 3) := by decide +kernel
theorem dX12_readsRule_37 : decode cX12_readsRule 37 = .ok (.bipush 16, 2) := by decide +kernel
theorem dX12_readsRule_39 : decode cX12_readsRule 39 = .ok (.if_icmp .ne 13, 3) := by decide +kernel
theorem dX12_readsRule_42 : decode cX12_readsRule 42 = .ok (.aload_n 0, 1) := by decide +kernel
theorem dX12_readsRule_43 : decode cX12_readsRule 43 = .ok (.iconst 4, 1) := by decide +kernel
theorem dX12_readsRule_44 : decode cX12_readsRule 44 = .ok (.aload_n 0, 1) := by decide +kernel
theorem dX12_readsRule_45 : decode cX12_readsRule 45 = .ok (.getfield 124, 3) := by decide +kernel
theorem dX12_readsRule_48 : decode cX12_readsRule 48 = .ok (.invokevirtual 137, 3) := by decide +kernel
theorem dX12_readsRule_51 : decode cX12_readsRule 51 = .ok (.ireturn, 1) := by decide +kernel
theorem dX12_readsRule_52 : decode cX12_readsRule 52 = .ok (.aload_n 0, 1) := by decide +kernel
theorem dX12_readsRule_53 : decode cX12_readsRule 53 = .ok (.getfield 45, 3) := by decide +kernel
theorem dX12_readsRule_56 : decode cX12_readsRule 56 = .ok (.aload_n 0, 1) := by decide +kernel
theorem dX12_readsRule_57 : decode cX12_readsRule 57 = .ok (.getfield 203, 3) := by decide +kernel
theorem dX12_readsRule_60 : decode cX12_readsRule 60 = .ok (.iload_n 1, 1) := by decide +kernel
theorem dX12_readsRule_61 : decode cX12_readsRule 61 = .ok (.iastore, 1) := by decide +kernel
theorem dX12_readsRule_62 : decode cX12_readsRule 62 = .ok (.aload_n 0, 1) := by decide +kernel
theorem dX12_readsRule_63 : decode cX12_readsRule 63 = .ok (.aload_n 0, 1) := by decide +kernel
theorem dX12_readsRule_64 : decode cX12_readsRule 64 = .ok (.getfield 124, 3) := by decide +kernel
theorem dX12_readsRule_67 : decode cX12_readsRule 67 = .ok (.iconst 1, 1) := by decide +kernel
theorem dX12_readsRule_68 : decode cX12_readsRule 68 = .ok (.iadd, 1) := by decide +kernel
theorem dX12_readsRule_69 : decode cX12_readsRule 69 = .ok (.putfield 124, 3) := by decide +kernel
theorem dX12_readsRule_72 : decode cX12_readsRule 72 = .ok (.aload_n 0, 1) := by decide +kernel
theorem dX12_readsRule_73 : decode cX12_readsRule 73 = .ok (.getfield 48, 3) := by decide +kernel
theorem dX12_readsRule_76 : decode cX12_readsRule 76 = .ok (.aload_n 0, 1) := by decide +kernel
theorem dX12_readsRule_77 : decode cX12_readsRule 77 = .ok (.getfield 203, 3) := by decide +kernel
theorem dX12_readsRule_80 : decode cX12_readsRule 80 = .ok (.aload_n 0, 1) := by decide +kernel
theorem dX12_readsRule_81 : decode cX12_readsRule 81 = .ok (.getfield 148, 3) := by decide +kernel
theorem dX12_readsRule_84 : decode cX12_readsRule 84 = .ok (.iastore, 1) := by decide +kernel
theorem dX12_readsRule_85 : decode cX12_readsRule 85 = .ok (.aload_n 0, 1) := by decide +kernel
theorem dX12_readsRule_86 : decode cX12_readsRule 86 = .ok (.iconst 0, 1) := by decide +kernel
theorem dX12_readsRule_87 : decode cX12_readsRule 87 = .ok (.putfield 152, 3) := by decide +kernel
theorem dX12_readsRule_90 : decode cX12_readsRule 90 = .ok (.aload_n 0, 1) := by decide +kernel
theorem dX12_readsRule_91 : decode cX12_readsRule 91 = .ok (.iconst 0, 1) := by decide +kernel
theorem dX12_readsRule_92 : decode cX12_readsRule 92 = .ok (.putfield 155, 3) := by decide +kernel
theorem dX12_readsRule_95 : decode cX12_readsRule 95 = .ok (.iload_n 1, 1) := by decide +kernel
theorem dX12_readsRule_96 : decode cX12_readsRule 96 = .ok (.bipush 120, 2) := by decide +kernel
theorem dX12_readsRule_98 : decode cX12_readsRule 98 = .ok (.if_icmp .eq 12, 3) := by decide +kernel
theorem dX12_readsRule_101 : decode cX12_readsRule 101 = .ok (.aload_n 0, 1) := by decide +kernel
theorem dX12_readsRule_102 : decode cX12_readsRule 102 = .ok (.invokevirtual 188, 3) := by decide +kernel
theorem dX12_readsRule_105 : decode cX12_readsRule 105 = .ok (.ifCond .ne 5, 3) := by decide +kernel
theorem dX12_readsRule_108 : decode cX12_readsRule 108 = .ok (.iconst 0, 1) := by decide +kernel
theorem dX12_readsRule_109 : decode cX12_readsRule 109 = .ok (.ireturn, 1) := by decide +kernel
theorem dX12_readsRule_110 : decode cX12_readsRule 110 = .ok (.aload_n 0, 1) := by decide +kernel
theorem dX12_readsRule_111 : decode cX12_readsRule 111 = .ok (.getfield 51, 3) := by decide +kernel
theorem dX12_readsRule_114 : decode cX12_readsRule 114 = .ok (.aload_n 0, 1) := by decide +kernel
theorem dX12_readsRule_115 : decode cX12_readsRule 115 = .ok (.getfield 203, 3) := by decide +kernel
theorem dX12_readsRule_118 : decode cX12_readsRule 118 = .ok (.aload_n 0, 1) := by decide +kernel
theorem dX12_readsRule_119 : decode cX12_readsRule 119 = .ok (.getfield 148, 3) := by decide +kernel
theorem dX12_readsRule_122 : decode cX12_readsRule 122 = .ok (.iastore, 1) := by decide +kernel
theorem dX12_readsRule_123 : decode cX12_readsRule 123 = .ok (.aload_n 0, 1) := by decide +kernel
theorem dX12_readsRule_124 : decode cX12_readsRule 124 = .ok (.invokevirtual 206, 3) := by decide +kernel
theorem dX12_readsRule_127 : decode cX12_readsRule 127 = .ok (.ifCond .ne 5, 3) := by decide +kernel
theorem dX12_readsRule_130 : decode cX12_readsRule 130 = .ok (.iconst 0, 1) := by decide +kernel
theorem dX12_readsRule_131 : decode cX12_readsRule 131 = .ok (.ireturn, 1) := by decide +kernel
theorem dX12_readsRule_132 : decode cX12_readsRule 132 = .ok (.aload_n 0, 1) := by decide +kernel
theorem dX12_readsRule_133 : decode cX12_readsRule 133 = .ok (.getfield 54, 3) := by decide +kernel
theorem dX12_readsRule_136 : decode cX12_readsRule 136 = .ok (.aload_n 0, 1) := by decide +kernel
theorem dX12_readsRule_137 : decode cX12_readsRule 137 = .ok (.getfield 203, 3) := by decide +kernel
theorem dX12_readsRule_140 : decode cX12_readsRule 140 = .ok (.aload_n 0, 1) := by decide +kernel
theorem dX12_readsRule_141 : decode cX12_readsRule 141 = .ok (.getfield 148, 3) := by decide +kernel
theorem dX12_readsRule_144 : decode cX12_readsRule 144 = .ok (.iastore, 1) := by decide +kernel
theorem dX12_readsRule_145 : decode cX12_readsRule 145 = .ok (.aload_n 0, 1) := by decide +kernel
theorem dX12_readsRule_146 : decode cX12_readsRule 146 = .ok (.aload_n 0, 1) := by decide +kernel
theorem dX12_readsRule_147 : decode cX12_readsRule 147 = .ok (.getfield 203, 3) := by decide +kernel
theorem dX12_readsRule_150 : decode cX12_readsRule 150 = .ok (.iconst 1, 1) := by decide +kernel
theorem dX12_readsRule_151 : decode cX12_readsRule 151 = .ok (.iadd, 1) := by decide +kernel
theorem dX12_readsRule_152 : decode cX12_readsRule 152 = .ok (.putfield 203, 3) := by decide +kernel
theorem dX12_readsRule_155 : decode cX12_readsRule 155 = .ok (.iconst 1, 1) := by decide +kernel
theorem dX12_readsRule_156 : decode cX12_readsRule 156 = .ok (.ireturn, 1) := by decide +kernel
theorem dX12_beginsText_0 : decode cX12_beginsText 0 = .ok (.aload_n 0, 1) := by decide +kernel
theorem dX12_beginsText_1 : decode cX12_beginsText 1 = .ok (.iconst 0, 1) := by decide +kernel
theorem dX12_beginsText_2 : decode cX12_beginsText 2 = .ok (.putfield 124, 3) := by decide +kernel
theorem dX12_beginsText_5 : decode cX12_beginsText 5 = .ok (.aload_n 0, 1) := by decide +kernel
theorem dX12_beginsText_6 : decode cX12_beginsText 6 = .ok (.iload_n 1, 1) := by decide +kernel
theorem dX12_beginsText_7 : decode cX12_beginsText 7 = .ok (.putfield 127, 3) := by decide +kernel
theorem dX12_beginsText_10 : decode cX12_beginsText 10 = .ok (.aload_n 0, 1) := by decide +kernel
theorem dX12_beginsText_11 : decode cX12_beginsText 11 = .ok (.iconst 0, 1) := by decide +kernel
theorem dX12_beginsText_12 : decode cX12_beginsText 12 = .ok (.putfield 148, 3) := by decide +kernel
theorem dX12_beginsText_15 : decode cX12_beginsText 15 = .ok (.aload_n 0, 1) := by decide +kernel
theorem dX12_beginsText_16 : decode cX12_beginsText 16 = .ok (.iconst 0, 1) := by decide +kernel
theorem dX12_beginsText_17 : decode cX12_beginsText 17 = .ok (.putfield 203, 3) := by decide +kernel
theorem dX12_beginsText_20 : decode cX12_beginsText 20 = .ok (.return_, 1) := by decide +kernel
theorem dX12_law_0 : decode cX12_law 0 = .ok (.iload_n 1, 1) := by decide +kernel
theorem dX12_law_1 : decode cX12_law 1 = .ok (.iconst 1, 1) := by decide +kernel
theorem dX12_law_2 : decode cX12_law 2 = .ok (.sipush 240, 3) := by decide +kernel
theorem dX12_law_5 : decode cX12_law 5 = .ok (.invokestatic 105, 3) := by decide +kernel
theorem dX12_law_8 : decode cX12_law 8 = .ok (.ifCond .eq 11, 3) := by decide +kernel
theorem dX12_law_11 : decode cX12_law 11 = .ok (.iload_n 1, 1) := by decide +kernel
theorem dX12_law_12 : decode cX12_law 12 = .ok (.aload_n 0, 1) := by decide +kernel
theorem dX12_law_13 : decode cX12_law 13 = .ok (.getfield 117, 3) := by decide +kernel
theorem dX12_law_16 : decode cX12_law 16 = .ok (.if_icmp .le 5, 3) := by decide +kernel
theorem dX12_law_19 : decode cX12_law 19 = .ok (.iconst (-1), 1) := by decide +kernel
theorem dX12_law_20 : decode cX12_law 20 = .ok (.ireturn, 1) := by decide +kernel
theorem dX12_law_21 : decode cX12_law 21 = .ok (.aload_n 0, 1) := by decide +kernel
theorem dX12_law_22 : decode cX12_law 22 = .ok (.iload_n 1, 1) := by decide +kernel
theorem dX12_law_23 : decode cX12_law 23 = .ok (.invokevirtual 209, 3) := by decide +kernel
theorem dX12_law_26 : decode cX12_law 26 = .ok (.aload_n 0, 1) := by decide +kernel
theorem dX12_law_27 : decode cX12_law 27 = .ok (.invokevirtual 212, 3) := by decide +kernel
theorem dX12_law_30 : decode cX12_law 30 = .ok (.istore_n 2, 1) := by decide +kernel
theorem dX12_law_31 : decode cX12_law 31 = .ok (.iload_n 2, 1) := by decide +kernel
theorem dX12_law_32 : decode cX12_law 32 = .ok (.ifCond .eq 39, 3) := by decide +kernel
theorem dX12_law_35 : decode cX12_law 35 = .ok (.aload_n 0, 1) := by decide +kernel
theorem dX12_law_36 : decode cX12_law 36 = .ok (.getfield 124, 3) := by decide +kernel
theorem dX12_law_39 : decode cX12_law 39 = .ok (.aload_n 0, 1) := by decide +kernel
theorem dX12_law_40 : decode cX12_law 40 = .ok (.getfield 127, 3) := by decide +kernel
theorem dX12_law_43 : decode cX12_law 43 = .ok (.if_icmp .ge 28, 3) := by decide +kernel
theorem dX12_law_46 : decode cX12_law 46 = .ok (.aload_n 0, 1) := by decide +kernel
theorem dX12_law_47 : decode cX12_law 47 = .ok (.bipush 59, 2) := by decide +kernel
theorem dX12_law_49 : decode cX12_law 49 = .ok (.invokevirtual 215, 3) := by decide +kernel
theorem dX12_law_52 : decode cX12_law 52 = .ok (.ifCond .eq 14, 3) := by decide +kernel
theorem dX12_law_55 : decode cX12_law 55 = .ok (.aload_n 0, 1) := by decide +kernel
theorem dX12_law_56 : decode cX12_law 56 = .ok (.invokevirtual 212, 3) := by decide +kernel
theorem dX12_law_59 : decode cX12_law 59 = .ok (.ifCond .eq 7, 3) := by decide +kernel
theorem dX12_law_62 : decode cX12_law 62 = .ok (.iconst 1, 1) := by decide +kernel
theorem dX12_law_63 : decode cX12_law 63 = .ok (.goto 4, 3) := by decide +kernel
theorem dX12_law_66 : decode cX12_law 66 = .ok (.iconst 0, 1) := by decide +kernel
theorem dX12_law_67 : decode cX12_law 67 = .ok (.istore_n 2, 1) := by decide +kernel
theorem dX12_law_68 : decode cX12_law 68 = .ok (.goto (-37), 3) := by decide +kernel
theorem dX12_law_71 : decode cX12_law 71 = .ok (.aload_n 0, 1) := by decide +kernel
theorem dX12_law_72 : decode cX12_law 72 = .ok (.iconst 0, 1) := by decide +kernel
theorem dX12_law_73 : decode cX12_law 73 = .ok (.putfield 117, 3) := by decide +kernel
theorem dX12_law_76 : decode cX12_law 76 = .ok (.iload_n 2, 1) := by decide +kernel
theorem dX12_law_77 : decode cX12_law 77 = .ok (.ifCond .ne 8, 3) := by decide +kernel
theorem dX12_law_80 : decode cX12_law 80 = .ok (.aload_n 0, 1) := by decide +kernel
theorem dX12_law_81 : decode cX12_law 81 = .ok (.getfield 134, 3) := by decide +kernel
theorem dX12_law_84 : decode cX12_law 84 = .ok (.ireturn, 1) := by decide +kernel
theorem dX12_law_85 : decode cX12_law 85 = .ok (.aload_n 0, 1) := by decide +kernel
theorem dX12_law_86 : decode cX12_law 86 = .ok (.aload_n 0, 1) := by decide +kernel
theorem dX12_law_87 : decode cX12_law 87 = .ok (.getfield 203, 3) := by decide +kernel
theorem dX12_law_90 : decode cX12_law 90 = .ok (.putfield 218, 3) := by decide +kernel
theorem dX12_law_93 : decode cX12_law 93 = .ok (.iconst 0, 1) := by decide +kernel
theorem dX12_law_94 : decode cX12_law 94 = .ok (.istore_n 3, 1) := by decide +kernel
theorem dX12_law_95 : decode cX12_law 95 = .ok (.iload_n 3, 1) := by decide +kernel
theorem dX12_law_96 : decode cX12_law 96 = .ok (.aload_n 0, 1) := by decide +kernel
theorem dX12_law_97 : decode cX12_law 97 = .ok (.getfield 148, 3) := by decide +kernel
theorem dX12_law_100 : decode cX12_law 100 = .ok (.if_icmp .ge 21, 3) := by decide +kernel
theorem dX12_law_103 : decode cX12_law 103 = .ok (.aload_n 0, 1) := by decide +kernel
theorem dX12_law_104 : decode cX12_law 104 = .ok (.getfield 57, 3) := by decide +kernel
theorem dX12_law_107 : decode cX12_law 107 = .ok (.iload_n 3, 1) := by decide +kernel
theorem dX12_law_108 : decode cX12_law 108 = .ok (.aload_n 0, 1) := by decide +kernel
theorem dX12_law_109 : decode cX12_law 109 = .ok (.getfield 39, 3) := by decide +kernel
theorem dX12_law_112 : decode cX12_law 112 = .ok (.iload_n 3, 1) := by decide +kernel
theorem dX12_law_113 : decode cX12_law 113 = .ok (.iaload, 1) := by decide +kernel
theorem dX12_law_114 : decode cX12_law 114 = .ok (.iastore, 1) := by decide +kernel
theorem dX12_law_115 : decode cX12_law 115 = .ok (.iinc 3 1, 3) := by decide +kernel
theorem dX12_law_118 : decode cX12_law 118 = .ok (.goto (-23), 3) := by decide +kernel
theorem dX12_law_121 : decode cX12_law 121 = .ok (.iconst 0, 1) := by decide +kernel
theorem dX12_law_122 : decode cX12_law 122 = .ok (.istore_n 3, 1) := by decide +kernel
theorem dX12_law_123 : decode cX12_law 123 = .ok (.iload_n 3, 1) := by decide +kernel
theorem dX12_law_124 : decode cX12_law 124 = .ok (.aload_n 0, 1) := by decide +kernel
theorem dX12_law_125 : decode cX12_law 125 = .ok (.getfield 203, 3) := by decide +kernel
theorem dX12_law_128 : decode cX12_law 128 = .ok (.if_icmp .ge 57, 3) := by decide +kernel
theorem dX12_law_131 : decode cX12_law 131 = .ok (.aload_n 0, 1) := by decide +kernel
theorem dX12_law_132 : decode cX12_law 132 = .ok (.getfield 60, 3) := by decide +kernel
theorem dX12_law_135 : decode cX12_law 135 = .ok (.iload_n 3, 1) := by decide +kernel
theorem dX12_law_136 : decode cX12_law 136 = .ok (.aload_n 0, 1) := by decide +kernel
theorem dX12_law_137 : decode cX12_law 137 = .ok (.getfield 45, 3) := by decide +kernel
theorem dX12_law_140 : decode cX12_law 140 = .ok (.iload_n 3, 1) := by decide +kernel
theorem dX12_law_141 : decode cX12_law 141 = .ok (.iaload, 1) := by decide +kernel
theorem dX12_law_142 : decode cX12_law 142 = .ok (.iastore, 1) := by decide +kernel
theorem dX12_law_143 : decode cX12_law 143 = .ok (.aload_n 0, 1) := by decide +kernel
theorem dX12_law_144 : decode cX12_law 144 = .ok (.getfield 63, 3) := by decide +kernel
theorem dX12_law_147 : decode cX12_law 147 = .ok (.iload_n 3, 1) := by decide +kernel
theorem dX12_law_148 : decode cX12_law 148 = .ok (.aload_n 0, 1) := by decide +kernel
theorem dX12_law_149 : decode cX12_law 149 = .ok (.getfield 48, 3) := by decide +kernel
theorem dX12_law_152 : decode cX12_law 152 = .ok (.iload_n 3, 1) := by decide +kernel
theorem dX12_law_153 : decode cX12_law 153 = .ok (.iaload, 1) := by decide +kernel
theorem dX12_law_154 : decode cX12_law 154 = .ok (.iastore, 1) := by decide +kernel
theorem dX12_law_155 : decode cX12_law 155 = .ok (.aload_n 0, 1) := by decide +kernel
theorem dX12_law_156 : decode cX12_law 156 = .ok (.getfield 66, 3) := by decide +kernel
theorem dX12_law_159 : decode cX12_law 159 = .ok (.iload_n 3, 1) := by decide +kernel
theorem dX12_law_160 : decode cX12_law 160 = .ok (.aload_n 0, 1) := by decide +kernel
theorem dX12_law_161 : decode cX12_law 161 = .ok (.getfield 51, 3) := by decide +kernel
theorem dX12_law_164 : decode cX12_law 164 = .ok (.iload_n 3, 1) := by decide +kernel
theorem dX12_law_165 : decode cX12_law 165 = .ok (.iaload, 1) := by decide +kernel
theorem dX12_law_166 : decode cX12_law 166 = .ok (.iastore, 1) := by decide +kernel
theorem dX12_law_167 : decode cX12_law 167 = .ok (.aload_n 0, 1) := by decide +kernel
theorem dX12_law_168 : decode cX12_law 168 = .ok (.getfield 69, 3) := by decide +kernel
theorem dX12_law_171 : decode cX12_law 171 = .ok (.iload_n 3, 1) := by decide +kernel
theorem dX12_law_172 : decode cX12_law 172 = .ok (.aload_n 0, 1) := by decide +kernel
theorem dX12_law_173 : decode cX12_law 173 = .ok (.getfield 54, 3) := by decide +kernel
theorem dX12_law_176 : decode cX12_law 176 = .ok (.iload_n 3, 1) := by decide +kernel
theorem dX12_law_177 : decode cX12_law 177 = .ok (.iaload, 1) := by decide +kernel
theorem dX12_law_178 : decode cX12_law 178 = .ok (.iastore, 1) := by decide +kernel
theorem dX12_law_179 : decode cX12_law 179 = .ok (.iinc 3 1, 3) := by decide +kernel
theorem dX12_law_182 : decode cX12_law 182 = .ok (.goto (-59), 3) := by decide +kernel
theorem dX12_law_185 : decode cX12_law 185 = .ok (.aload_n 0, 1) := by decide +kernel
theorem dX12_law_186 : decode cX12_law 186 = .ok (.getfield 203, 3) := by decide +kernel
theorem dX12_law_189 : decode cX12_law 189 = .ok (.ireturn, 1) := by decide +kernel
theorem dX12_reckon_0 : decode cX12_reckon 0 = .ok (.iload_n 0, 1) := by decide +kernel
theorem dX12_reckon_1 : decode cX12_reckon 1 = .ok (.tableswitch 85 2 8 #[43, 47, 51, 55, 59, 63, 74], 43) := by decide +kernel
theorem dX12_reckon_44 : decode cX12_reckon 44 = .ok (.iload_n 1, 1) := by decide +kernel
theorem dX12_reckon_45 : decode cX12_reckon 45 = .ok (.iload_n 2, 1) := by decide +kernel
theorem dX12_reckon_46 : decode cX12_reckon 46 = .ok (.iadd, 1) := by decide +kernel
theorem dX12_reckon_47 : decode cX12_reckon 47 = .ok (.ireturn, 1) := by decide +kernel
theorem dX12_reckon_48 : decode cX12_reckon 48 = .ok (.iload_n 1, 1) := by decide +kernel
theorem dX12_reckon_49 : decode cX12_reckon 49 = .ok (.iload_n 2, 1) := by decide +kernel
theorem dX12_reckon_50 : decode cX12_reckon 50 = .ok (.isub, 1) := by decide +kernel
theorem dX12_reckon_51 : decode cX12_reckon 51 = .ok (.ireturn, 1) := by decide +kernel
theorem dX12_reckon_52 : decode cX12_reckon 52 = .ok (.iload_n 1, 1) := by decide +kernel
theorem dX12_reckon_53 : decode cX12_reckon 53 = .ok (.iload_n 2, 1) := by decide +kernel
theorem dX12_reckon_54 : decode cX12_reckon 54 = .ok (.imul, 1) := by decide +kernel
theorem dX12_reckon_55 : decode cX12_reckon 55 = .ok (.ireturn, 1) := by decide +kernel
theorem dX12_reckon_56 : decode cX12_reckon 56 = .ok (.iload_n 1, 1) := by decide +kernel
theorem dX12_reckon_57 : decode cX12_reckon 57 = .ok (.iload_n 2, 1) := by decide +kernel
theorem dX12_reckon_58 : decode cX12_reckon 58 = .ok (.idiv, 1) := by decide +kernel
theorem dX12_reckon_59 : decode cX12_reckon 59 = .ok (.ireturn, 1) := by decide +kernel
theorem dX12_reckon_60 : decode cX12_reckon 60 = .ok (.iload_n 1, 1) := by decide +kernel
theorem dX12_reckon_61 : decode cX12_reckon 61 = .ok (.iload_n 2, 1) := by decide +kernel
theorem dX12_reckon_62 : decode cX12_reckon 62 = .ok (.irem, 1) := by decide +kernel
theorem dX12_reckon_63 : decode cX12_reckon 63 = .ok (.ireturn, 1) := by decide +kernel
theorem dX12_reckon_64 : decode cX12_reckon 64 = .ok (.iload_n 1, 1) := by decide +kernel
theorem dX12_reckon_65 : decode cX12_reckon 65 = .ok (.iload_n 2, 1) := by decide +kernel
theorem dX12_reckon_66 : decode cX12_reckon 66 = .ok (.if_icmp .ge 7, 3) := by decide +kernel
theorem dX12_reckon_69 : decode cX12_reckon 69 = .ok (.iconst 1, 1) := by decide +kernel
theorem dX12_reckon_70 : decode cX12_reckon 70 = .ok (.goto 4, 3) := by decide +kernel
theorem dX12_reckon_73 : decode cX12_reckon 73 = .ok (.iconst 0, 1) := by decide +kernel
theorem dX12_reckon_74 : decode cX12_reckon 74 = .ok (.ireturn, 1) := by decide +kernel
theorem dX12_reckon_75 : decode cX12_reckon 75 = .ok (.iload_n 1, 1) := by decide +kernel
theorem dX12_reckon_76 : decode cX12_reckon 76 = .ok (.iload_n 2, 1) := by decide +kernel
theorem dX12_reckon_77 : decode cX12_reckon 77 = .ok (.if_icmp .le 7, 3) := by decide +kernel
theorem dX12_reckon_80 : decode cX12_reckon 80 = .ok (.iconst 1, 1) := by decide +kernel
theorem dX12_reckon_81 : decode cX12_reckon 81 = .ok (.goto 4, 3) := by decide +kernel
theorem dX12_reckon_84 : decode cX12_reckon 84 = .ok (.iconst 0, 1) := by decide +kernel
theorem dX12_reckon_85 : decode cX12_reckon 85 = .ok (.ireturn, 1) := by decide +kernel
theorem dX12_reckon_86 : decode cX12_reckon 86 = .ok (.iload_n 1, 1) := by decide +kernel
theorem dX12_reckon_87 : decode cX12_reckon 87 = .ok (.iload_n 2, 1) := by decide +kernel
theorem dX12_reckon_88 : decode cX12_reckon 88 = .ok (.if_icmp .ne 7, 3) := by decide +kernel
theorem dX12_reckon_91 : decode cX12_reckon 91 = .ok (.iconst 1, 1) := by decide +kernel
theorem dX12_reckon_92 : decode cX12_reckon 92 = .ok (.goto 4, 3) := by decide +kernel
theorem dX12_reckon_95 : decode cX12_reckon 95 = .ok (.iconst 0, 1) := by decide +kernel
theorem dX12_reckon_96 : decode cX12_reckon 96 = .ok (.ireturn, 1) := by decide +kernel
theorem dX12_reckonsTo_0 : decode cX12_reckonsTo 0 = .ok (.iconst 0, 1) := by decide +kernel
theorem dX12_reckonsTo_1 : decode cX12_reckonsTo 1 = .ok (.istore_n 3, 1) := by decide +kernel
theorem dX12_reckonsTo_2 : decode cX12_reckonsTo 2 = .ok (.sipush 260, 3) := by decide +kernel
theorem dX12_reckonsTo_5 : decode cX12_reckonsTo 5 = .ok (.iload_n 1, 1) := by decide +kernel
theorem dX12_reckonsTo_6 : decode cX12_reckonsTo 6 = .ok (.sipush 260, 3) := by decide +kernel
theorem dX12_reckonsTo_9 : decode cX12_reckonsTo 9 = .ok (.idiv, 1) := by decide +kernel
theorem dX12_reckonsTo_10 : decode cX12_reckonsTo 10 = .ok (.imul, 1) := by decide +kernel
theorem dX12_reckonsTo_11 : decode cX12_reckonsTo 11 = .ok (.istore 4, 2) := by decide +kernel
theorem dX12_reckonsTo_13 : decode cX12_reckonsTo 13 = .ok (.iload_n 1, 1) := by decide +kernel
theorem dX12_reckonsTo_14 : decode cX12_reckonsTo 14 = .ok (.istore 5, 2) := by decide +kernel
theorem dX12_reckonsTo_16 : decode cX12_reckonsTo 16 = .ok (.iload 5, 2) := by decide +kernel
theorem dX12_reckonsTo_18 : decode cX12_reckonsTo 18 = .ok (.iload_n 2, 1) := by decide +kernel
theorem dX12_reckonsTo_19 : decode cX12_reckonsTo 19 = .ok (.if_icmp .ge 214, 3) := by decide +kernel
theorem dX12_reckonsTo_22 : decode cX12_reckonsTo 22 = .ok (.aload_n 0, 1) := by decide +kernel
theorem dX12_reckonsTo_23 : decode cX12_reckonsTo 23 = .ok (.getfield 57, 3) := by decide +kernel
theorem dX12_reckonsTo_26 : decode cX12_reckonsTo 26 = .ok (.iload 5, 2) := by decide +kernel
theorem dX12_reckonsTo_28 : decode cX12_reckonsTo 28 = .ok (.iaload, 1) := by decide +kernel
theorem dX12_reckonsTo_29 : decode cX12_reckonsTo 29 = .ok (.ldc 151, 2) := by decide +kernel
theorem dX12_reckonsTo_31 : decode cX12_reckonsTo 31 = .ok (.idiv, 1) := by decide +kernel
theorem dX12_reckonsTo_32 : decode cX12_reckonsTo 32 = .ok (.istore 6, 2) := by decide +kernel
theorem dX12_reckonsTo_34 : decode cX12_reckonsTo 34 = .ok (.aload_n 0, 1) := by decide +kernel
theorem dX12_reckonsTo_35 : decode cX12_reckonsTo 35 = .ok (.getfield 57, 3) := by decide +kernel
theorem dX12_reckonsTo_38 : decode cX12_reckonsTo 38 = .ok (.iload 5, 2) := by decide +kernel
theorem dX12_reckonsTo_40 : decode cX12_reckonsTo 40 = .ok (.iaload, 1) := by decide +kernel
theorem dX12_reckonsTo_41 : decode cX12_reckonsTo 41 = .ok (.ldc 151, 2) := by decide +kernel
theorem dX12_reckonsTo_43 : decode cX12_reckonsTo 43 = .ok (.irem, 1) := by decide +kernel
theorem dX12_reckonsTo_44 : decode cX12_reckonsTo 44 = .ok (.istore 7, 2) := by decide +kernel
theorem dX12_reckonsTo_46 : decode cX12_reckonsTo 46 = .ok (.iload 5, 2) := by decide +kernel
theorem dX12_reckonsTo_48 : decode cX12_reckonsTo 48 = .ok (.iconst 1, 1) := by decide +kernel
theorem dX12_reckonsTo_49 : decode cX12_reckonsTo 49 = .ok (.iadd, 1) := by decide +kernel
theorem dX12_reckonsTo_50 : decode cX12_reckonsTo 50 = .ok (.istore 5, 2) := by decide +kernel
theorem dX12_reckonsTo_52 : decode cX12_reckonsTo 52 = .ok (.iload 6, 2) := by decide +kernel
theorem dX12_reckonsTo_54 : decode cX12_reckonsTo 54 = .ok (.ifCond .eq 9, 3) := by decide +kernel
theorem dX12_reckonsTo_57 : decode cX12_reckonsTo 57 = .ok (.iload 6, 2) := by decide +kernel
theorem dX12_reckonsTo_59 : decode cX12_reckonsTo 59 = .ok (.iconst 1, 1) := by decide +kernel
theorem dX12_reckonsTo_60 : decode cX12_reckonsTo 60 = .ok (.if_icmp .ne 33, 3) := by decide +kernel
theorem dX12_reckonsTo_63 : decode cX12_reckonsTo 63 = .ok (.aload_n 0, 1) := by decide +kernel
theorem dX12_reckonsTo_64 : decode cX12_reckonsTo 64 = .ok (.getfield 72, 3) := by decide +kernel
theorem dX12_reckonsTo_67 : decode cX12_reckonsTo 67 = .ok (.iload_n 3, 1) := by decide +kernel
theorem dX12_reckonsTo_68 : decode cX12_reckonsTo 68 = .ok (.iload 6, 2) := by decide +kernel
theorem dX12_reckonsTo_70 : decode cX12_reckonsTo 70 = .ok (.ifCond .ne 8, 3) := by decide +kernel
theorem dX12_reckonsTo_73 : decode cX12_reckonsTo 73 = .ok (.iload 7, 2) := by decide +kernel
theorem dX12_reckonsTo_75 : decode cX12_reckonsTo 75 = .ok (.goto 10, 3) := by decide +kernel
theorem dX12_reckonsTo_78 : decode cX12_reckonsTo 78 = .ok (.aload_n 0, 1) := by decide +kernel
theorem dX12_reckonsTo_79 : decode cX12_reckonsTo 79 = .ok (.getfield 75, 3) := by decide +kernel
theorem dX12_reckonsTo_82 : decode cX12_reckonsTo 82 = .ok (.iload 7, 2) := by decide +kernel
theorem dX12_reckonsTo_84 : decode cX12_reckonsTo 84 = .ok (.iaload, 1) := by decide +kernel
theorem dX12_reckonsTo_85 : decode cX12_reckonsTo 85 = .ok (.iastore, 1) := by decide +kernel
theorem dX12_reckonsTo_86 : decode cX12_reckonsTo 86 = .ok (.iload_n 3, 1) := by decide +kernel
theorem dX12_reckonsTo_87 : decode cX12_reckonsTo 87 = .ok (.iconst 1, 1) := by decide +kernel
theorem dX12_reckonsTo_88 : decode cX12_reckonsTo 88 = .ok (.iadd, 1) := by decide +kernel
theorem dX12_reckonsTo_89 : decode cX12_reckonsTo 89 = .ok (.istore_n 3, 1) := by decide +kernel
theorem dX12_reckonsTo_90 : decode cX12_reckonsTo 90 = .ok (.goto 140, 3) := by decide +kernel
theorem dX12_reckonsTo_93 : decode cX12_reckonsTo 93 = .ok (.iload 6, 2) := by decide +kernel
theorem dX12_reckonsTo_95 : decode cX12_reckonsTo 95 = .ok (.bipush 10, 2) := by decide +kernel
theorem dX12_reckonsTo_97 : decode cX12_reckonsTo 97 = .ok (.if_icmp .ne 24, 3) := by decide +kernel
theorem dX12_reckonsTo_100 : decode cX12_reckonsTo 100 = .ok (.aload_n 0, 1) := by decide +kernel
theorem dX12_reckonsTo_101 : decode cX12_reckonsTo 101 = .ok (.getfield 72, 3) := by decide +kernel
theorem dX12_reckonsTo_104 : decode cX12_reckonsTo 104 = .ok (.iload_n 3, 1) := by decide +kernel
theorem dX12_reckonsTo_105 : decode cX12_reckonsTo 105 = .ok (.iconst 1, 1) := by decide +kernel
theorem dX12_reckonsTo_106 : decode cX12_reckonsTo 106 = .ok (.isub, 1) := by decide +kernel
theorem dX12_reckonsTo_107 : decode cX12_reckonsTo 107 = .ok (.iconst 1, 1) := by decide +kernel
theorem dX12_reckonsTo_108 : decode cX12_reckonsTo 108 = .ok (.aload_n 0, 1) := by decide +kernel
theorem dX12_reckonsTo_109 : decode cX12_reckonsTo 109 = .ok (.getfield 72, 3) := by decide +kernel
theorem dX12_reckonsTo_112 : decode cX12_reckonsTo 112 = .ok (.iload_n 3, 1) := by decide +kernel
theorem dX12_reckonsTo_113 : decode cX12_reckonsTo 113 = .ok (.iconst 1, 1) := by decide +kernel
theorem dX12_reckonsTo_114 : decode cX12_reckonsTo 114 = .ok (.isub, 1) := by decide +kernel
theorem dX12_reckonsTo_115 : decode cX12_reckonsTo 115 = .ok (.iaload, 1) := by decide +kernel
theorem dX12_reckonsTo_116 : decode cX12_reckonsTo 116 = .ok (.isub, 1) := by decide +kernel
theorem dX12_reckonsTo_117 : decode cX12_reckonsTo 117 = .ok (.iastore, 1) := by decide +kernel
theorem dX12_reckonsTo_118 : decode cX12_reckonsTo 118 = .ok (.goto 112, 3) := by decide +kernel
theorem dX12_reckonsTo_121 : decode cX12_reckonsTo 121 = .ok (.iload 6, 2) := by decide +kernel
theorem dX12_reckonsTo_123 : decode cX12_reckonsTo 123 = .ok (.bipush 11, 2) := by decide +kernel
theorem dX12_reckonsTo_125 : decode cX12_reckonsTo 125 = .ok (.if_icmp .eq 10, 3) := by decide +kernel
theorem dX12_reckonsTo_128 : decode cX12_reckonsTo 128 = .ok (.iload 6, 2) := by decide +kernel
theorem dX12_reckonsTo_130 : decode cX12_reckonsTo 130 = .ok (.bipush 12, 2) := by decide +kernel
theorem dX12_reckonsTo_132 : decode cX12_reckonsTo 132 = .ok (.if_icmp .ne 43, 3) := by decide +kernel
theorem dX12_reckonsTo_135 : decode cX12_reckonsTo 135 = .ok (.aload_n 0, 1) := by decide +kernel
theorem dX12_reckonsTo_136 : decode cX12_reckonsTo 136 = .ok (.getfield 72, 3) := by decide +kernel
theorem dX12_reckonsTo_139 : decode cX12_reckonsTo 139 = .ok (.iload_n 3, 1) := by decide +kernel
theorem dX12_reckonsTo_140 : decode cX12_reckonsTo 140 = .ok (.iconst 1, 1) := by decide +kernel
theorem dX12_reckonsTo_141 : decode cX12_reckonsTo 141 = .ok (.isub, 1) := by decide +kernel
theorem dX12_reckonsTo_142 : decode cX12_reckonsTo 142 = .ok (.iaload, 1) := by decide +kernel
theorem dX12_reckonsTo_143 : decode cX12_reckonsTo 143 = .ok (.iload 6, 2) := by decide +kernel
theorem dX12_reckonsTo_145 : decode cX12_reckonsTo 145 = .ok (.bipush 12, 2) := by decide +kernel
theorem dX12_reckonsTo_147 : decode cX12_reckonsTo 147 = .ok (.if_icmp .ne 7, 3) := by decide +kernel
theorem dX12_reckonsTo_150 : decode cX12_reckonsTo 150 = .ok (.iconst 1, 1) := by decide +kernel
theorem dX12_reckonsTo_151 : decode cX12_reckonsTo 151 = .ok (.goto 4, 3) := by decide +kernel
theorem dX12_reckonsTo_154 : decode cX12_reckonsTo 154 = .ok (.iconst 0, 1) := by decide +kernel
theorem dX12_reckonsTo_155 : decode cX12_reckonsTo 155 = .ok (.if_icmp .ne 13, 3) := by decide +kernel
theorem dX12_reckonsTo_158 : decode cX12_reckonsTo 158 = .ok (.iload 4, 2) := by decide +kernel
theorem dX12_reckonsTo_160 : decode cX12_reckonsTo 160 = .ok (.iload 7, 2) := by decide +kernel
theorem dX12_reckonsTo_162 : decode cX12_reckonsTo 162 = .ok (.iadd, 1) := by decide +kernel
theorem dX12_reckonsTo_163 : decode cX12_reckonsTo 163 = .ok (.istore 5, 2) := by decide +kernel
theorem dX12_reckonsTo_165 : decode cX12_reckonsTo 165 = .ok (.goto 65, 3) := by decide +kernel
theorem dX12_reckonsTo_168 : decode cX12_reckonsTo 168 = .ok (.iload_n 3, 1) := by decide +kernel
theorem dX12_reckonsTo_169 : decode cX12_reckonsTo 169 = .ok (.iconst 1, 1) := by decide +kernel
theorem dX12_reckonsTo_170 : decode cX12_reckonsTo 170 = .ok (.isub, 1) := by decide +kernel
theorem dX12_reckonsTo_171 : decode cX12_reckonsTo 171 = .ok (.istore_n 3, 1) := by decide +kernel
theorem dX12_reckonsTo_172 : decode cX12_reckonsTo 172 = .ok (.goto 58, 3) := by decide +kernel
theorem dX12_reckonsTo_175 : decode cX12_reckonsTo 175 = .ok (.iload_n 3, 1) := by decide +kernel
theorem dX12_reckonsTo_176 : decode cX12_reckonsTo 176 = .ok (.iconst 1, 1) := by decide +kernel
theorem dX12_reckonsTo_177 : decode cX12_reckonsTo 177 = .ok (.isub, 1) := by decide +kernel
theorem dX12_reckonsTo_178 : decode cX12_reckonsTo 178 = .ok (.istore_n 3, 1) := by decide +kernel
theorem dX12_reckonsTo_179 : decode cX12_reckonsTo 179 = .ok (.iload 6, 2) := by decide +kernel
theorem dX12_reckonsTo_181 : decode cX12_reckonsTo 181 = .ok (.iconst 5, 1) := by decide +kernel
theorem dX12_reckonsTo_182 : decode cX12_reckonsTo 182 = .ok (.if_icmp .eq 10, 3) := by decide +kernel
theorem dX12_reckonsTo_185 : decode cX12_reckonsTo 185 = .ok (.iload 6, 2) := by decide +kernel
theorem dX12_reckonsTo_187 : decode cX12_reckonsTo 187 = .ok (.bipush 6, 2) := by decide +kernel
theorem dX12_reckonsTo_189 : decode cX12_reckonsTo 189 = .ok (.if_icmp .ne 14, 3) := by decide +kernel
theorem dX12_reckonsTo_192 : decode cX12_reckonsTo 192 = .ok (.aload_n 0, 1) := by decide +kernel
theorem dX12_reckonsTo_193 : decode cX12_reckonsTo 193 = .ok (.getfield 72, 3) := by decide +kernel
theorem dX12_reckonsTo_196 : decode cX12_reckonsTo 196 = .ok (.iload_n 3, 1) := by decide +kernel
theorem dX12_reckonsTo_197 : decode cX12_reckonsTo 197 = .ok (.iaload, 1) := by decide +kernel
theorem dX12_reckonsTo_198 : decode cX12_reckonsTo 198 = .ok (.ifCond .ne 5, 3) := by decide +kernel
theorem dX12_reckonsTo_201 : decode cX12_reckonsTo 201 = .ok (.iconst 0, 1) := by decide +kernel
theorem dX12_reckonsTo_202 : decode cX12_reckonsTo 202 = .ok (.ireturn, 1) := by decide +kernel
theorem dX12_reckonsTo_203 : decode cX12_reckonsTo 203 = .ok (.aload_n 0, 1) := by decide +kernel
theorem dX12_reckonsTo_204 : decode cX12_reckonsTo 204 = .ok (.getfield 72, 3) := by decide +kernel
theorem dX12_reckonsTo_207 : decode cX12_reckonsTo 207 = .ok (.iload_n 3, 1) := by decide +kernel
theorem dX12_reckonsTo_208 : decode cX12_reckonsTo 208 = .ok (.iconst 1, 1) := by decide +kernel
theorem dX12_reckonsTo_209 : decode cX12_reckonsTo 209 = .ok (.isub, 1) := by decide +kernel
theorem dX12_reckonsTo_210 : decode cX12_reckonsTo 210 = .ok (.iload 6, 2) := by decide +kernel
theorem dX12_reckonsTo_212 : decode cX12_reckonsTo 212 = .ok (.aload_n 0, 1) := by decide +kernel
theorem dX12_reckonsTo_213 : decode cX12_reckonsTo 213 = .ok (.getfield 72, 3) := by decide +kernel
theorem dX12_reckonsTo_216 : decode cX12_reckonsTo 216 = .ok (.iload_n 3, 1) := by decide +kernel
theorem dX12_reckonsTo_217 : decode cX12_reckonsTo 217 = .ok (.iconst 1, 1) := by decide +kernel
theorem dX12_reckonsTo_218 : decode cX12_reckonsTo 218 = .ok (.isub, 1) := by decide +kernel
theorem dX12_reckonsTo_219 : decode cX12_reckonsTo 219 = .ok (.iaload, 1) := by decide +kernel
theorem dX12_reckonsTo_220 : decode cX12_reckonsTo 220 = .ok (.aload_n 0, 1) := by decide +kernel
theorem dX12_reckonsTo_221 : decode cX12_reckonsTo 221 = .ok (.getfield 72, 3) := by decide +kernel
theorem dX12_reckonsTo_224 : decode cX12_reckonsTo 224 = .ok (.iload_n 3, 1) := by decide +kernel
theorem dX12_reckonsTo_225 : decode cX12_reckonsTo 225 = .ok (.iaload, 1) := by decide +kernel
theorem dX12_reckonsTo_226 : decode cX12_reckonsTo 226 = .ok (.invokestatic 221, 3) := by decide +kernel
theorem dX12_reckonsTo_229 : decode cX12_reckonsTo 229 = .ok (.iastore, 1) := by decide +kernel
theorem dX12_reckonsTo_230 : decode cX12_reckonsTo 230 = .ok (.goto (-214), 3) := by decide +kernel
theorem dX12_reckonsTo_233 : decode cX12_reckonsTo 233 = .ok (.aload_n 0, 1) := by decide +kernel
theorem dX12_reckonsTo_234 : decode cX12_reckonsTo 234 = .ok (.getfield 72, 3) := by decide +kernel
theorem dX12_reckonsTo_237 : decode cX12_reckonsTo 237 = .ok (.iconst 0, 1) := by decide +kernel
theorem dX12_reckonsTo_238 : decode cX12_reckonsTo 238 = .ok (.iaload, 1) := by decide +kernel
theorem dX12_reckonsTo_239 : decode cX12_reckonsTo 239 = .ok (.ireturn, 1) := by decide +kernel
theorem dX12_byLaw_0 : decode cX12_byLaw 0 = .ok (.iconst 0, 1) := by decide +kernel
theorem dX12_byLaw_1 : decode cX12_byLaw 1 = .ok (.istore_n 3, 1) := by decide +kernel
theorem dX12_byLaw_2 : decode cX12_byLaw 2 = .ok (.iload_n 3, 1) := by decide +kernel
theorem dX12_byLaw_3 : decode cX12_byLaw 3 = .ok (.aload_n 0, 1) := by decide +kernel
theorem dX12_byLaw_4 : decode cX12_byLaw 4 = .ok (.getfield 218, 3) := by decide +kernel
theorem dX12_byLaw_7 : decode cX12_byLaw 7 = .ok (.if_icmp .ge 82, 3) := by decide +kernel
theorem dX12_byLaw_10 : decode cX12_byLaw 10 = .ok (.aload_n 0, 1) := by decide +kernel
theorem dX12_byLaw_11 : decode cX12_byLaw 11 = .ok (.getfield 60, 3) := by decide +kernel
theorem dX12_byLaw_14 : decode cX12_byLaw 14 = .ok (.iload_n 3, 1) := by decide +kernel
theorem dX12_byLaw_15 : decode cX12_byLaw 15 = .ok (.iaload, 1) := by decide +kernel
theorem dX12_byLaw_16 : decode cX12_byLaw 16 = .ok (.iload_n 1, 1) := by decide +kernel
theorem dX12_byLaw_17 : decode cX12_byLaw 17 = .ok (.if_icmp .ne 66, 3) := by decide +kernel
theorem dX12_byLaw_20 : decode cX12_byLaw 20 = .ok (.aload_n 0, 1) := by decide +kernel
theorem dX12_byLaw_21 : decode cX12_byLaw 21 = .ok (.aload_n 0, 1) := by decide +kernel
theorem dX12_byLaw_22 : decode cX12_byLaw 22 = .ok (.getfield 66, 3) := by decide +kernel
theorem dX12_byLaw_25 : decode cX12_byLaw 25 = .ok (.iload_n 3, 1) := by decide +kernel
theorem dX12_byLaw_26 : decode cX12_byLaw 26 = .ok (.iaload, 1) := by decide +kernel
theorem dX12_byLaw_27 : decode cX12_byLaw 27 = .ok (.aload_n 0, 1) := by decide +kernel
theorem dX12_byLaw_28 : decode cX12_byLaw 28 = .ok (.getfield 69, 3) := by decide +kernel
theorem dX12_byLaw_31 : decode cX12_byLaw 31 = .ok (.iload_n 3, 1) := by decide +kernel
theorem dX12_byLaw_32 : decode cX12_byLaw 32 = .ok (.iaload, 1) := by decide +kernel
theorem dX12_byLaw_33 : decode cX12_byLaw 33 = .ok (.invokevirtual 225, 3) := by decide +kernel
theorem dX12_byLaw_36 : decode cX12_byLaw 36 = .ok (.iconst 1, 1) := by decide +kernel
theorem dX12_byLaw_37 : decode cX12_byLaw 37 = .ok (.if_icmp .eq 6, 3) := by decide +kernel
theorem dX12_byLaw_40 : decode cX12_byLaw 40 = .ok (.goto 43, 3) := by decide +kernel
theorem dX12_byLaw_43 : decode cX12_byLaw 43 = .ok (.aload_n 0, 1) := by decide +kernel
theorem dX12_byLaw_44 : decode cX12_byLaw 44 = .ok (.aload_n 0, 1) := by decide +kernel
theorem dX12_byLaw_45 : decode cX12_byLaw 45 = .ok (.getfield 63, 3) := by decide +kernel
theorem dX12_byLaw_48 : decode cX12_byLaw 48 = .ok (.iload_n 3, 1) := by decide +kernel
theorem dX12_byLaw_49 : decode cX12_byLaw 49 = .ok (.iaload, 1) := by decide +kernel
theorem dX12_byLaw_50 : decode cX12_byLaw 50 = .ok (.aload_n 0, 1) := by decide +kernel
theorem dX12_byLaw_51 : decode cX12_byLaw 51 = .ok (.getfield 66, 3) := by decide +kernel
theorem dX12_byLaw_54 : decode cX12_byLaw 54 = .ok (.iload_n 3, 1) := by decide +kernel
theorem dX12_byLaw_55 : decode cX12_byLaw 55 = .ok (.iaload, 1) := by decide +kernel
theorem dX12_byLaw_56 : decode cX12_byLaw 56 = .ok (.invokevirtual 225, 3) := by decide +kernel
theorem dX12_byLaw_59 : decode cX12_byLaw 59 = .ok (.istore 4, 2) := by decide +kernel
theorem dX12_byLaw_61 : decode cX12_byLaw 61 = .ok (.iload 4, 2) := by decide +kernel
theorem dX12_byLaw_63 : decode cX12_byLaw 63 = .ok (.ifCond .ge 7, 3) := by decide +kernel
theorem dX12_byLaw_66 : decode cX12_byLaw 66 = .ok (.iconst 0, 1) := by decide +kernel
theorem dX12_byLaw_67 : decode cX12_byLaw 67 = .ok (.goto 15, 3) := by decide +kernel
theorem dX12_byLaw_70 : decode cX12_byLaw 70 = .ok (.iload 4, 2) := by decide +kernel
theorem dX12_byLaw_72 : decode cX12_byLaw 72 = .ok (.iload_n 2, 1) := by decide +kernel
theorem dX12_byLaw_73 : decode cX12_byLaw 73 = .ok (.if_icmp .le 7, 3) := by decide +kernel
theorem dX12_byLaw_76 : decode cX12_byLaw 76 = .ok (.iload_n 2, 1) := by decide +kernel
theorem dX12_byLaw_77 : decode cX12_byLaw 77 = .ok (.goto 5, 3) := by decide +kernel
theorem dX12_byLaw_80 : decode cX12_byLaw 80 = .ok (.iload 4, 2) := by decide +kernel
theorem dX12_byLaw_82 : decode cX12_byLaw 82 = .ok (.ireturn, 1) := by decide +kernel
theorem dX12_byLaw_83 : decode cX12_byLaw 83 = .ok (.iinc 3 1, 3) := by decide +kernel
theorem dX12_byLaw_86 : decode cX12_byLaw 86 = .ok (.goto (-84), 3) := by decide +kernel
theorem dX12_byLaw_89 : decode cX12_byLaw 89 = .ok (.iconst 0, 1) := by decide +kernel
theorem dX12_byLaw_90 : decode cX12_byLaw 90 = .ok (.ireturn, 1) := by decide +kernel
theorem dX12_holdsAny_0 : decode cX12_holdsAny 0 = .ok (.iconst 0, 1) := by decide +kernel
theorem dX12_holdsAny_1 : decode cX12_holdsAny 1 = .ok (.istore_n 2, 1) := by decide +kernel
theorem dX12_holdsAny_2 : decode cX12_holdsAny 2 = .ok (.iload_n 2, 1) := by decide +kernel
theorem dX12_holdsAny_3 : decode cX12_holdsAny 3 = .ok (.aload_n 0, 1) := by decide +kernel
theorem dX12_holdsAny_4 : decode cX12_holdsAny 4 = .ok (.getfield 218, 3) := by decide +kernel
theorem dX12_holdsAny_7 : decode cX12_holdsAny 7 = .ok (.if_icmp .ge 41, 3) := by decide +kernel
theorem dX12_holdsAny_10 : decode cX12_holdsAny 10 = .ok (.aload_n 0, 1) := by decide +kernel
theorem dX12_holdsAny_11 : decode cX12_holdsAny 11 = .ok (.getfield 60, 3) := by decide +kernel
theorem dX12_holdsAny_14 : decode cX12_holdsAny 14 = .ok (.iload_n 2, 1) := by decide +kernel
theorem dX12_holdsAny_15 : decode cX12_holdsAny 15 = .ok (.iaload, 1) := by decide +kernel
theorem dX12_holdsAny_16 : decode cX12_holdsAny 16 = .ok (.iload_n 1, 1) := by decide +kernel
theorem dX12_holdsAny_17 : decode cX12_holdsAny 17 = .ok (.if_icmp .ne 25, 3) := by decide +kernel
theorem dX12_holdsAny_20 : decode cX12_holdsAny 20 = .ok (.aload_n 0, 1) := by decide +kernel
theorem dX12_holdsAny_21 : decode cX12_holdsAny 21 = .ok (.aload_n 0, 1) := by decide +kernel
theorem dX12_holdsAny_22 : decode cX12_holdsAny 22 = .ok (.getfield 66, 3) := by decide +kernel
theorem dX12_holdsAny_25 : decode cX12_holdsAny 25 = .ok (.iload_n 2, 1) := by decide +kernel
theorem dX12_holdsAny_26 : decode cX12_holdsAny 26 = .ok (.iaload, 1) := by decide +kernel
theorem dX12_holdsAny_27 : decode cX12_holdsAny 27 = .ok (.aload_n 0, 1) := by decide +kernel
theorem dX12_holdsAny_28 : decode cX12_holdsAny 28 = .ok (.getfield 69, 3) := by decide +kernel
theorem dX12_holdsAny_31 : decode cX12_holdsAny 31 = .ok (.iload_n 2, 1) := by decide +kernel
theorem dX12_holdsAny_32 : decode cX12_holdsAny 32 = .ok (.iaload, 1) := by decide +kernel
theorem dX12_holdsAny_33 : decode cX12_holdsAny 33 = .ok (.invokevirtual 225, 3) := by decide +kernel
theorem dX12_holdsAny_36 : decode cX12_holdsAny 36 = .ok (.iconst 1, 1) := by decide +kernel
theorem dX12_holdsAny_37 : decode cX12_holdsAny 37 = .ok (.if_icmp .ne 5, 3) := by decide +kernel
theorem dX12_holdsAny_40 : decode cX12_holdsAny 40 = .ok (.iconst 1, 1) := by decide +kernel
theorem dX12_holdsAny_41 : decode cX12_holdsAny 41 = .ok (.ireturn, 1) := by decide +kernel
theorem dX12_holdsAny_42 : decode cX12_holdsAny 42 = .ok (.iinc 2 1, 3) := by decide +kernel
theorem dX12_holdsAny_45 : decode cX12_holdsAny 45 = .ok (.goto (-43), 3) := by decide +kernel
theorem dX12_holdsAny_48 : decode cX12_holdsAny 48 = .ok (.iconst 0, 1) := by decide +kernel
theorem dX12_holdsAny_49 : decode cX12_holdsAny 49 = .ok (.ireturn, 1) := by decide +kernel
theorem dX12_readsTimes_0 : decode cX12_readsTimes 0 = .ok (.aload_n 0, 1) := by decide +kernel
theorem dX12_readsTimes_1 : decode cX12_readsTimes 1 = .ok (.aload_n 0, 1) := by decide +kernel
theorem dX12_readsTimes_2 : decode cX12_readsTimes 2 = .ok (.getfield 124, 3) := by decide +kernel
theorem dX12_readsTimes_5 : decode cX12_readsTimes 5 = .ok (.putfield 229, 3) := by decide +kernel
theorem dX12_readsTimes_8 : decode cX12_readsTimes 8 = .ok (.aload_n 0, 1) := by decide +kernel
theorem dX12_readsTimes_9 : decode cX12_readsTimes 9 = .ok (.iconst 1, 1) := by decide +kernel
theorem dX12_readsTimes_10 : decode cX12_readsTimes 10 = .ok (.putfield 232, 3) := by decide +kernel
theorem dX12_readsTimes_13 : decode cX12_readsTimes 13 = .ok (.aload_n 0, 1) := by decide +kernel
theorem dX12_readsTimes_14 : decode cX12_readsTimes 14 = .ok (.invokevirtual 130, 3) := by decide +kernel
theorem dX12_readsTimes_17 : decode cX12_readsTimes 17 = .ok (.bipush 50, 2) := by decide +kernel
theorem dX12_readsTimes_19 : decode cX12_readsTimes 19 = .ok (.bipush 57, 2) := by decide +kernel
theorem dX12_readsTimes_21 : decode cX12_readsTimes 21 = .ok (.invokestatic 105, 3) := by decide +kernel
theorem dX12_readsTimes_24 : decode cX12_readsTimes 24 = .ok (.ifCond .ne 4, 3) := by decide +kernel
theorem dX12_readsTimes_27 : decode cX12_readsTimes 27 = .ok (.return_, 1) := by decide +kernel
theorem dX12_readsTimes_28 : decode cX12_readsTimes 28 = .ok (.aload_n 0, 1) := by decide +kernel
theorem dX12_readsTimes_29 : decode cX12_readsTimes 29 = .ok (.aload_n 0, 1) := by decide +kernel
theorem dX12_readsTimes_30 : decode cX12_readsTimes 30 = .ok (.invokevirtual 130, 3) := by decide +kernel
theorem dX12_readsTimes_33 : decode cX12_readsTimes 33 = .ok (.bipush 48, 2) := by decide +kernel
theorem dX12_readsTimes_35 : decode cX12_readsTimes 35 = .ok (.isub, 1) := by decide +kernel
theorem dX12_readsTimes_36 : decode cX12_readsTimes 36 = .ok (.putfield 232, 3) := by decide +kernel
theorem dX12_readsTimes_39 : decode cX12_readsTimes 39 = .ok (.aload_n 0, 1) := by decide +kernel
theorem dX12_readsTimes_40 : decode cX12_readsTimes 40 = .ok (.aload_n 0, 1) := by decide +kernel
theorem dX12_readsTimes_41 : decode cX12_readsTimes 41 = .ok (.getfield 124, 3) := by decide +kernel
theorem dX12_readsTimes_44 : decode cX12_readsTimes 44 = .ok (.iconst 1, 1) := by decide +kernel
theorem dX12_readsTimes_45 : decode cX12_readsTimes 45 = .ok (.iadd, 1) := by decide +kernel
theorem dX12_readsTimes_46 : decode cX12_readsTimes 46 = .ok (.putfield 124, 3) := by decide +kernel
theorem dX12_readsTimes_49 : decode cX12_readsTimes 49 = .ok (.return_, 1) := by decide +kernel
theorem dX12_repeats_0 : decode cX12_repeats 0 = .ok (.aload_n 0, 1) := by decide +kernel
theorem dX12_repeats_1 : decode cX12_repeats 1 = .ok (.getfield 235, 3) := by decide +kernel
theorem dX12_repeats_4 : decode cX12_repeats 4 = .ok (.iload_n 1, 1) := by decide +kernel
theorem dX12_repeats_5 : decode cX12_repeats 5 = .ok (.isub, 1) := by decide +kernel
theorem dX12_repeats_6 : decode cX12_repeats 6 = .ok (.istore 4, 2) := by decide +kernel
theorem dX12_repeats_8 : decode cX12_repeats 8 = .ok (.iload_n 1, 1) := by decide +kernel
theorem dX12_repeats_9 : decode cX12_repeats 9 = .ok (.iload 4, 2) := by decide +kernel
theorem dX12_repeats_11 : decode cX12_repeats 11 = .ok (.iload_n 2, 1) := by decide +kernel
theorem dX12_repeats_12 : decode cX12_repeats 12 = .ok (.imul, 1) := by decide +kernel
theorem dX12_repeats_13 : decode cX12_repeats 13 = .ok (.iadd, 1) := by decide +kernel
theorem dX12_repeats_14 : decode cX12_repeats 14 = .ok (.bipush 48, 2) := by decide +kernel
theorem dX12_repeats_16 : decode cX12_repeats 16 = .ok (.if_icmp .le 11, 3) := by decide +kernel
theorem dX12_repeats_19 : decode cX12_repeats 19 = .ok (.aload_n 0, 1) := by decide +kernel
theorem dX12_repeats_20 : decode cX12_repeats 20 = .ok (.bipush 6, 2) := by decide +kernel
theorem dX12_repeats_22 : decode cX12_repeats 22 = .ok (.iload_n 3, 1) := by decide +kernel
theorem dX12_repeats_23 : decode cX12_repeats 23 = .ok (.invokevirtual 137, 3) := by decide +kernel
theorem dX12_repeats_26 : decode cX12_repeats 26 = .ok (.ireturn, 1) := by decide +kernel
theorem dX12_repeats_27 : decode cX12_repeats 27 = .ok (.iload 4, 2) := by decide +kernel
theorem dX12_repeats_29 : decode cX12_repeats 29 = .ok (.istore 5, 2) := by decide +kernel
theorem dX12_repeats_31 : decode cX12_repeats 31 = .ok (.iload 5, 2) := by decide +kernel
theorem dX12_repeats_33 : decode cX12_repeats 33 = .ok (.iload 4, 2) := by decide +kernel
theorem dX12_repeats_35 : decode cX12_repeats 35 = .ok (.iload_n 2, 1) := by decide +kernel
theorem dX12_repeats_36 : decode cX12_repeats 36 = .ok (.imul, 1) := by decide +kernel
theorem dX12_repeats_37 : decode cX12_repeats 37 = .ok (.if_icmp .ge 30, 3) := by decide +kernel
theorem dX12_repeats_40 : decode cX12_repeats 40 = .ok (.aload_n 0, 1) := by decide +kernel
theorem dX12_repeats_41 : decode cX12_repeats 41 = .ok (.getfield 78, 3) := by decide +kernel
theorem dX12_repeats_44 : decode cX12_repeats 44 = .ok (.iload_n 1, 1) := by decide +kernel
theorem dX12_repeats_45 : decode cX12_repeats 45 = .ok (.iload 5, 2) := by decide +kernel
theorem dX12_repeats_47 : decode cX12_repeats 47 = .ok (.iadd, 1) := by decide +kernel
theorem dX12_repeats_48 : decode cX12_repeats 48 = .ok (.aload_n 0, 1) := by decide +kernel
theorem dX12_repeats_49 : decode cX12_repeats 49 = .ok (.getfield 78, 3) := by decide +kernel
theorem dX12_repeats_52 : decode cX12_repeats 52 = .ok (.iload_n 1, 1) := by decide +kernel
theorem dX12_repeats_53 : decode cX12_repeats 53 = .ok (.iload 5, 2) := by decide +kernel
theorem dX12_repeats_55 : decode cX12_repeats 55 = .ok (.iadd, 1) := by decide +kernel
theorem dX12_repeats_56 : decode cX12_repeats 56 = .ok (.iload 4, 2) := by decide +kernel
theorem dX12_repeats_58 : decode cX12_repeats 58 = .ok (.isub, 1) := by decide +kernel
theorem dX12_repeats_59 : decode cX12_repeats 59 = .ok (.iaload, 1) := by decide +kernel
theorem dX12_repeats_60 : decode cX12_repeats 60 = .ok (.iastore, 1) := by decide +kernel
theorem dX12_repeats_61 : decode cX12_repeats 61 = .ok (.iinc 5 1, 3) := by decide +kernel
theorem dX12_repeats_64 : decode cX12_repeats 64 = .ok (.goto (-33), 3) := by decide +kernel
theorem dX12_repeats_67 : decode cX12_repeats 67 = .ok (.aload_n 0, 1) := by decide +kernel
theorem dX12_repeats_68 : decode cX12_repeats 68 = .ok (.iload_n 1, 1) := by decide +kernel
theorem dX12_repeats_69 : decode cX12_repeats 69 = .ok (.iload 4, 2) := by decide +kernel
theorem dX12_repeats_71 : decode cX12_repeats 71 = .ok (.iload_n 2, 1) := by decide +kernel
theorem dX12_repeats_72 : decode cX12_repeats 72 = .ok (.imul, 1) := by decide +kernel
theorem dX12_repeats_73 : decode cX12_repeats 73 = .ok (.iadd, 1) := by decide +kernel
theorem dX12_repeats_74 : decode cX12_repeats 74 = .ok (.putfield 235, 3) := by decide +kernel
theorem dX12_repeats_77 : decode cX12_repeats 77 = .ok (.iconst 1, 1) := by decide +kernel
theorem dX12_repeats_78 : decode cX12_repeats 78 = .ok (.ireturn, 1) := by decide +kernel
theorem dX12_readsStamp_0 : decode cX12_readsStamp 0 = .ok (.aload_n 0, 1) := by decide +kernel
theorem dX12_readsStamp_1 : decode cX12_readsStamp 1 = .ok (.invokevirtual 238, 3) := by decide +kernel
theorem dX12_readsStamp_4 : decode cX12_readsStamp 4 = .ok (.aload_n 0, 1) := by decide +kernel
theorem dX12_readsStamp_5 : decode cX12_readsStamp 5 = .ok (.invokevirtual 130, 3) := by decide +kernel
theorem dX12_readsStamp_8 : decode cX12_readsStamp 8 = .ok (.bipush 40, 2) := by decide +kernel
theorem dX12_readsStamp_10 : decode cX12_readsStamp 10 = .ok (.if_icmp .ne 87, 3) := by decide +kernel
theorem dX12_readsStamp_13 : decode cX12_readsStamp 13 = .ok (.aload_n 0, 1) := by decide +kernel
theorem dX12_readsStamp_14 : decode cX12_readsStamp 14 = .ok (.getfield 241, 3) := by decide +kernel
theorem dX12_readsStamp_17 : decode cX12_readsStamp 17 = .ok (.iconst 2, 1) := by decide +kernel
theorem dX12_readsStamp_18 : decode cX12_readsStamp 18 = .ok (.if_icmp .ne 13, 3) := by decide +kernel
theorem dX12_readsStamp_21 : decode cX12_readsStamp 21 = .ok (.aload_n 0, 1) := by decide +kernel
theorem dX12_readsStamp_22 : decode cX12_readsStamp 22 = .ok (.iconst 5, 1) := by decide +kernel
theorem dX12_readsStamp_23 : decode cX12_readsStamp 23 = .ok (.aload_n 0, 1) := by decide +kernel
theorem dX12_readsStamp_24 : decode cX12_readsStamp 24 = .ok (.getfield 124, 3) := by decide +kernel
theorem dX12_readsStamp_27 : decode cX12_readsStamp 27 = .ok (.invokevirtual 137, 3) := by decide +kernel
theorem dX12_readsStamp_30 : decode cX12_readsStamp 30 = .ok (.ireturn, 1) := by decide +kernel
theorem dX12_readsStamp_31 : decode cX12_readsStamp 31 = .ok (.aload_n 0, 1) := by decide +kernel
theorem dX12_readsStamp_32 : decode cX12_readsStamp 32 = .ok (.getfield 81, 3) := by decide +kernel
theorem dX12_readsStamp_35 : decode cX12_readsStamp 35 = .ok (.aload_n 0, 1) := by decide +kernel
theorem dX12_readsStamp_36 : decode cX12_readsStamp 36 = .ok (.getfield 241, 3) := by decide +kernel
theorem dX12_readsStamp_39 : decode cX12_readsStamp 39 = .ok (.aload_n 0, 1) := by decide +kernel
theorem dX12_readsStamp_40 : decode cX12_readsStamp 40 = .ok (.getfield 229, 3) := by decide +kernel
theorem dX12_readsStamp_43 : decode cX12_readsStamp 43 = .ok (.iastore, 1) := by decide +kernel
theorem dX12_readsStamp_44 : decode cX12_readsStamp 44 = .ok (.aload_n 0, 1) := by decide +kernel
theorem dX12_readsStamp_45 : decode cX12_readsStamp 45 = .ok (.getfield 84, 3) := by decide +kernel
theorem dX12_readsStamp_48 : decode cX12_readsStamp 48 = .ok (.aload_n 0, 1) := by decide +kernel
theorem dX12_readsStamp_49 : decode cX12_readsStamp 49 = .ok (.getfield 241, 3) := by decide +kernel
theorem dX12_readsStamp_52 : decode cX12_readsStamp 52 = .ok (.aload_n 0, 1) := by decide +kernel
theorem dX12_readsStamp_53 : decode cX12_readsStamp 53 = .ok (.getfield 235, 3) := by decide +kernel
theorem dX12_readsStamp_56 : decode cX12_readsStamp 56 = .ok (.iastore, 1) := by decide +kernel
theorem dX12_readsStamp_57 : decode cX12_readsStamp 57 = .ok (.aload_n 0, 1) := by decide +kernel
theorem dX12_readsStamp_58 : decode cX12_readsStamp 58 = .ok (.getfield 87, 3) := by decide +kernel
theorem dX12_readsStamp_61 : decode cX12_readsStamp 61 = .ok (.aload_n 0, 1) := by decide +kernel
theorem dX12_readsStamp_62 : decode cX12_readsStamp 62 = .ok (.getfield 241, 3) := by decide +kernel
theorem dX12_readsStamp_65 : decode cX12_readsStamp 65 = .ok (.aload_n 0, 1) := by decide +kernel
theorem dX12_readsStamp_66 : decode cX12_readsStamp 66 = .ok (.getfield 232, 3) := by decide +kernel
theorem dX12_readsStamp_69 : decode cX12_readsStamp 69 = .ok (.iastore, 1) := by decide +kernel
theorem dX12_readsStamp_70 : decode cX12_readsStamp 70 = .ok (.aload_n 0, 1) := by decide +kernel
theorem dX12_readsStamp_71 : decode cX12_readsStamp 71 = .ok (.aload_n 0, 1) := by decide +kernel
theorem dX12_readsStamp_72 : decode cX12_readsStamp 72 = .ok (.getfield 241, 3) := by decide +kernel
theorem dX12_readsStamp_75 : decode cX12_readsStamp 75 = .ok (.iconst 1, 1) := by decide +kernel
theorem dX12_readsStamp_76 : decode cX12_readsStamp 76 = .ok (.iadd, 1) := by decide +kernel
theorem dX12_readsStamp_77 : decode cX12_readsStamp 77 = .ok (.putfield 241, 3) := by decide +kernel
theorem dX12_readsStamp_80 : decode cX12_readsStamp 80 = .ok (.aload_n 0, 1) := by decide +kernel
theorem dX12_readsStamp_81 : decode cX12_readsStamp 81 = .ok (.aload_n 0, 1) := by decide +kernel
theorem dX12_readsStamp_82 : decode cX12_readsStamp 82 = .ok (.getfield 124, 3) := by decide +kernel
theorem dX12_readsStamp_85 : decode cX12_readsStamp 85 = .ok (.iconst 1, 1) := by decide +kernel
theorem dX12_readsStamp_86 : decode cX12_readsStamp 86 = .ok (.iadd, 1) := by decide +kernel
theorem dX12_readsStamp_87 : decode cX12_readsStamp 87 = .ok (.putfield 124, 3) := by decide +kernel
theorem dX12_readsStamp_90 : decode cX12_readsStamp 90 = .ok (.aload_n 0, 1) := by decide +kernel
theorem dX12_readsStamp_91 : decode cX12_readsStamp 91 = .ok (.invokevirtual 238, 3) := by decide +kernel
theorem dX12_readsStamp_94 : decode cX12_readsStamp 94 = .ok (.goto (-90), 3) := by decide +kernel
theorem dX12_readsStamp_97 : decode cX12_readsStamp 97 = .ok (.aload_n 0, 1) := by decide +kernel
theorem dX12_readsStamp_98 : decode cX12_readsStamp 98 = .ok (.getfield 229, 3) := by decide +kernel
theorem dX12_readsStamp_101 : decode cX12_readsStamp 101 = .ok (.istore_n 1, 1) := by decide +kernel
theorem dX12_readsStamp_102 : decode cX12_readsStamp 102 = .ok (.aload_n 0, 1) := by decide +kernel
theorem dX12_readsStamp_103 : decode cX12_readsStamp 103 = .ok (.getfield 232, 3) := by decide +kernel
theorem dX12_readsStamp_106 : decode cX12_readsStamp 106 = .ok (.istore_n 2, 1) := by decide +kernel
theorem dX12_readsStamp_107 : decode cX12_readsStamp 107 = .ok (.aload_n 0, 1) := by decide +kernel
theorem dX12_readsStamp_108 : decode cX12_readsStamp 108 = .ok (.invokevirtual 130, 3) := by decide +kernel
theorem dX12_readsStamp_111 : decode cX12_readsStamp 111 = .ok (.bipush 97, 2) := by decide +kernel
theorem dX12_readsStamp_113 : decode cX12_readsStamp 113 = .ok (.isub, 1) := by decide +kernel
theorem dX12_readsStamp_114 : decode cX12_readsStamp 114 = .ok (.istore_n 3, 1) := by decide +kernel
theorem dX12_readsStamp_115 : decode cX12_readsStamp 115 = .ok (.iload_n 3, 1) := by decide +kernel
theorem dX12_readsStamp_116 : decode cX12_readsStamp 116 = .ok (.iconst 0, 1) := by decide +kernel
theorem dX12_readsStamp_117 : decode cX12_readsStamp 117 = .ok (.bipush 7, 2) := by decide +kernel
theorem dX12_readsStamp_119 : decode cX12_readsStamp 119 = .ok (.invokestatic 105, 3) := by decide +kernel
theorem dX12_readsStamp_122 : decode cX12_readsStamp 122 = .ok (.ifCond .ne 13, 3) := by decide +kernel
theorem dX12_readsStamp_125 : decode cX12_readsStamp 125 = .ok (.aload_n 0, 1) := by decide +kernel
theorem dX12_readsStamp_126 : decode cX12_readsStamp 126 = .ok (.iconst 1, 1) := by decide +kernel
theorem dX12_readsStamp_127 : decode cX12_readsStamp 127 = .ok (.aload_n 0, 1) := by decide +kernel
theorem dX12_readsStamp_128 : decode cX12_readsStamp 128 = .ok (.getfield 124, 3) := by decide +kernel
theorem dX12_readsStamp_131 : decode cX12_readsStamp 131 = .ok (.invokevirtual 137, 3) := by decide +kernel
theorem dX12_readsStamp_134 : decode cX12_readsStamp 134 = .ok (.ireturn, 1) := by decide +kernel
theorem dX12_readsStamp_135 : decode cX12_readsStamp 135 = .ok (.aload_n 0, 1) := by decide +kernel
theorem dX12_readsStamp_136 : decode cX12_readsStamp 136 = .ok (.aload_n 0, 1) := by decide +kernel
theorem dX12_readsStamp_137 : decode cX12_readsStamp 137 = .ok (.getfield 124, 3) := by decide +kernel
theorem dX12_readsStamp_140 : decode cX12_readsStamp 140 = .ok (.iconst 1, 1) := by decide +kernel
theorem dX12_readsStamp_141 : decode cX12_readsStamp 141 = .ok (.iadd, 1) := by decide +kernel
theorem dX12_readsStamp_142 : decode cX12_readsStamp 142 = .ok (.putfield 124, 3) := by decide +kernel
theorem dX12_readsStamp_145 : decode cX12_readsStamp 145 = .ok (.aload_n 0, 1) := by decide +kernel
theorem dX12_readsStamp_146 : decode cX12_readsStamp 146 = .ok (.invokevirtual 130, 3) := by decide +kernel
theorem dX12_readsStamp_149 : decode cX12_readsStamp 149 = .ok (.bipush 116, 2) := by decide +kernel
theorem dX12_readsStamp_151 : decode cX12_readsStamp 151 = .ok (.if_icmp .ne 7, 3) := by decide +kernel
theorem dX12_readsStamp_154 : decode cX12_readsStamp 154 = .ok (.iconst 1, 1) := by decide +kernel
theorem dX12_readsStamp_155 : decode cX12_readsStamp 155 = .ok (.goto 17, 3) := by decide +kernel
theorem dX12_readsStamp_158 : decode cX12_readsStamp 158 = .ok (.aload_n 0, 1) := by decide +kernel
theorem dX12_readsStamp_159 : decode cX12_readsStamp 159 = .ok (.invokevirtual 130, 3) := by decide +kernel
theorem dX12_readsStamp_162 : decode cX12_readsStamp 162 = .ok (.bipush 102, 2) := by decide +kernel
theorem dX12_readsStamp_164 : decode cX12_readsStamp 164 = .ok (.if_icmp .ne 7, 3) := by decide +kernel
theorem dX12_readsStamp_167 : decode cX12_readsStamp 167 = .ok (.iconst 0, 1) := by decide +kernel
theorem dX12_readsStamp_168 : decode cX12_readsStamp 168 = .ok (.goto 4, 3) := by decide +kernel
theorem dX12_readsStamp_171 : decode cX12_readsStamp 171 = .ok (.iconst 2, 1) := by decide +kernel
theorem dX12_readsStamp_172 : decode cX12_readsStamp 172 = .ok (.istore 4, 2) := by decide +kernel
theorem dX12_readsStamp_174 : decode cX12_readsStamp 174 = .ok (.iload 4, 2) := by decide +kernel
theorem dX12_readsStamp_176 : decode cX12_readsStamp 176 = .ok (.iconst 2, 1) := by decide +kernel
theorem dX12_readsStamp_177 : decode cX12_readsStamp 177 = .ok (.if_icmp .ge 13, 3) := by decide +kernel
theorem dX12_readsStamp_180 : decode cX12_readsStamp 180 = .ok (.aload_n 0, 1) := by decide +kernel
theorem dX12_readsStamp_181 : decode cX12_readsStamp 181 = .ok (.aload_n 0, 1) := by decide +kernel
theorem dX12_readsStamp_182 : decode cX12_readsStamp 182 = .ok (.getfield 124, 3) := by decide +kernel
theorem dX12_readsStamp_185 : decode cX12_readsStamp 185 = .ok (.iconst 1, 1) := by decide +kernel
theorem dX12_readsStamp_186 : decode cX12_readsStamp 186 = .ok (.iadd, 1) := by decide +kernel
theorem dX12_readsStamp_187 : decode cX12_readsStamp 187 = .ok (.putfield 124, 3) := by decide +kernel
theorem dX12_readsStamp_190 : decode cX12_readsStamp 190 = .ok (.aload_n 0, 1) := by decide +kernel
theorem dX12_readsStamp_191 : decode cX12_readsStamp 191 = .ok (.getfield 235, 3) := by decide +kernel
theorem dX12_readsStamp_194 : decode cX12_readsStamp 194 = .ok (.iload_n 2, 1) := by decide +kernel
theorem dX12_readsStamp_195 : decode cX12_readsStamp 195 = .ok (.iadd, 1) := by decide +kernel
theorem dX12_readsStamp_196 : decode cX12_readsStamp 196 = .ok (.bipush 48, 2) := by decide +kernel
theorem dX12_readsStamp_198 : decode cX12_readsStamp 198 = .ok (.if_icmp .le 11, 3) := by decide +kernel
theorem dX12_readsStamp_201 : decode cX12_readsStamp 201 = .ok (.aload_n 0, 1) := by decide +kernel
theorem dX12_readsStamp_202 : decode cX12_readsStamp 202 = .ok (.bipush 6, 2) := by decide +kernel
theorem dX12_readsStamp_204 : decode cX12_readsStamp 204 = .ok (.iload_n 1, 1) := by decide +kernel
theorem dX12_readsStamp_205 : decode cX12_readsStamp 205 = .ok (.invokevirtual 137, 3) := by decide +kernel
theorem dX12_readsStamp_208 : decode cX12_readsStamp 208 = .ok (.ireturn, 1) := by decide +kernel
theorem dX12_readsStamp_209 : decode cX12_readsStamp 209 = .ok (.aload_n 0, 1) := by decide +kernel
theorem dX12_readsStamp_210 : decode cX12_readsStamp 210 = .ok (.getfield 78, 3) := by decide +kernel
theorem dX12_readsStamp_213 : decode cX12_readsStamp 213 = .ok (.aload_n 0, 1) := by decide +kernel
theorem dX12_readsStamp_214 : decode cX12_readsStamp 214 = .ok (.getfield 235, 3) := by decide +kernel
theorem dX12_readsStamp_217 : decode cX12_readsStamp 217 = .ok (.iconst 3, 1) := by decide +kernel
theorem dX12_readsStamp_218 : decode cX12_readsStamp 218 = .ok (.iload_n 3, 1) := by decide +kernel
theorem dX12_readsStamp_219 : decode cX12_readsStamp 219 = .ok (.imul, 1) := by decide +kernel
theorem dX12_readsStamp_220 : decode cX12_readsStamp 220 = .ok (.iload 4, 2) := by decide +kernel
theorem dX12_readsStamp_222 : decode cX12_readsStamp 222 = .ok (.iadd, 1) := by decide +kernel
theorem dX12_readsStamp_223 : decode cX12_readsStamp 223 = .ok (.iastore, 1) := by decide +kernel
theorem dX12_readsStamp_224 : decode cX12_readsStamp 224 = .ok (.aload_n 0, 1) := by decide +kernel
theorem dX12_readsStamp_225 : decode cX12_readsStamp 225 = .ok (.aload_n 0, 1) := by decide +kernel
theorem dX12_readsStamp_226 : decode cX12_readsStamp 226 = .ok (.getfield 235, 3) := by decide +kernel
theorem dX12_readsStamp_229 : decode cX12_readsStamp 229 = .ok (.iconst 1, 1) := by decide +kernel
theorem dX12_readsStamp_230 : decode cX12_readsStamp 230 = .ok (.iadd, 1) := by decide +kernel
theorem dX12_readsStamp_231 : decode cX12_readsStamp 231 = .ok (.putfield 235, 3) := by decide +kernel
theorem dX12_readsStamp_234 : decode cX12_readsStamp 234 = .ok (.aload_n 0, 1) := by decide +kernel
theorem dX12_readsStamp_235 : decode cX12_readsStamp 235 = .ok (.aload_n 0, 1) := by decide +kernel
theorem dX12_readsStamp_236 : decode cX12_readsStamp 236 = .ok (.getfield 235, 3) := by decide +kernel
theorem dX12_readsStamp_239 : decode cX12_readsStamp 239 = .ok (.iconst 1, 1) := by decide +kernel
theorem dX12_readsStamp_240 : decode cX12_readsStamp 240 = .ok (.isub, 1) := by decide +kernel
theorem dX12_readsStamp_241 : decode cX12_readsStamp 241 = .ok (.iload_n 2, 1) := by decide +kernel
theorem dX12_readsStamp_242 : decode cX12_readsStamp 242 = .ok (.iload_n 1, 1) := by decide +kernel
theorem dX12_readsStamp_243 : decode cX12_readsStamp 243 = .ok (.invokevirtual 244, 3) := by decide +kernel
theorem dX12_readsStamp_246 : decode cX12_readsStamp 246 = .ok (.ifCond .ne 5, 3) := by decide +kernel
theorem dX12_readsStamp_249 : decode cX12_readsStamp 249 = .ok (.iconst 0, 1) := by decide +kernel
theorem dX12_readsStamp_250 : decode cX12_readsStamp 250 = .ok (.ireturn, 1) := by decide +kernel
theorem dX12_readsStamp_251 : decode cX12_readsStamp 251 = .ok (.aload_n 0, 1) := by decide +kernel
theorem dX12_readsStamp_252 : decode cX12_readsStamp 252 = .ok (.invokevirtual 130, 3) := by decide +kernel
theorem dX12_readsStamp_255 : decode cX12_readsStamp 255 = .ok (.bipush 41, 2) := by decide +kernel
theorem dX12_readsStamp_257 : decode cX12_readsStamp 257 = .ok (.if_icmp .ne 66, 3) := by decide +kernel
theorem dX12_readsStamp_260 : decode cX12_readsStamp 260 = .ok (.aload_n 0, 1) := by decide +kernel
theorem dX12_readsStamp_261 : decode cX12_readsStamp 261 = .ok (.getfield 241, 3) := by decide +kernel
theorem dX12_readsStamp_264 : decode cX12_readsStamp 264 = .ok (.ifCond .le 59, 3) := by decide +kernel
theorem dX12_readsStamp_267 : decode cX12_readsStamp 267 = .ok (.aload_n 0, 1) := by decide +kernel
theorem dX12_readsStamp_268 : decode cX12_readsStamp 268 = .ok (.aload_n 0, 1) := by decide +kernel
theorem dX12_readsStamp_269 : decode cX12_readsStamp 269 = .ok (.getfield 124, 3) := by decide +kernel
theorem dX12_readsStamp_272 : decode cX12_readsStamp 272 = .ok (.iconst 1, 1) := by decide +kernel
theorem dX12_readsStamp_273 : decode cX12_readsStamp 273 = .ok (.iadd, 1) := by decide +kernel
theorem dX12_readsStamp_274 : decode cX12_readsStamp 274 = .ok (.putfield 124, 3) := by decide +kernel
theorem dX12_readsStamp_277 : decode cX12_readsStamp 277 = .ok (.aload_n 0, 1) := by decide +kernel
theorem dX12_readsStamp_278 : decode cX12_readsStamp 278 = .ok (.aload_n 0, 1) := by decide +kernel
theorem dX12_readsStamp_279 : decode cX12_readsStamp 279 = .ok (.getfield 241, 3) := by decide +kernel
theorem dX12_readsStamp_282 : decode cX12_readsStamp 282 = .ok (.iconst 1, 1) := by decide +kernel
theorem dX12_readsStamp_283 : decode cX12_readsStamp 283 = .ok (.isub, 1) := by decide +kernel
theorem dX12_readsStamp_284 : decode cX12_readsStamp 284 = .ok (.putfield 241, 3) := by decide +kernel
theorem dX12_readsStamp_287 : decode cX12_readsStamp 287 = .ok (.aload_n 0, 1) := by decide +kernel
theorem dX12_readsStamp_288 : decode cX12_readsStamp 288 = .ok (.aload_n 0, 1) := by decide +kernel
theorem dX12_readsStamp_289 : decode cX12_readsStamp 289 = .ok (.getfield 84, 3) := by decide +kernel
theorem dX12_readsStamp_292 : decode cX12_readsStamp 292 = .ok (.aload_n 0, 1) := by decide +kernel
theorem dX12_readsStamp_293 : decode cX12_readsStamp 293 = .ok (.getfield 241, 3) := by decide +kernel
theorem dX12_readsStamp_296 : decode cX12_readsStamp 296 = .ok (.iaload, 1) := by decide +kernel
theorem dX12_readsStamp_297 : decode cX12_readsStamp 297 = .ok (.aload_n 0, 1) := by decide +kernel
theorem dX12_readsStamp_298 : decode cX12_readsStamp 298 = .ok (.getfield 87, 3) := by decide +kernel
theorem dX12_readsStamp_301 : decode cX12_readsStamp 301 = .ok (.aload_n 0, 1) := by decide +kernel
theorem dX12_readsStamp_302 : decode cX12_readsStamp 302 = .ok (.getfield 241, 3) := by decide +kernel
theorem dX12_readsStamp_305 : decode cX12_readsStamp 305 = .ok (.iaload, 1) := by decide +kernel
theorem dX12_readsStamp_306 : decode cX12_readsStamp 306 = .ok (.aload_n 0, 1) := by decide +kernel
theorem dX12_readsStamp_307 : decode cX12_readsStamp 307 = .ok (.getfield 81, 3) := by decide +kernel
theorem dX12_readsStamp_310 : decode cX12_readsStamp 310 = .ok (.aload_n 0, 1) := by decide +kernel
theorem dX12_readsStamp_311 : decode cX12_readsStamp 311 = .ok (.getfield 241, 3) := by decide +kernel
theorem dX12_readsStamp_314 : decode cX12_readsStamp 314 = .ok (.iaload, 1) := by decide +kernel
theorem dX12_readsStamp_315 : decode cX12_readsStamp 315 = .ok (.invokevirtual 244, 3) := by decide +kernel
theorem dX12_readsStamp_318 : decode cX12_readsStamp 318 = .ok (.ifCond .ne (-67), 3) := by decide +kernel
theorem dX12_readsStamp_321 : decode cX12_readsStamp 321 = .ok (.iconst 0, 1) := by decide +kernel
theorem dX12_readsStamp_322 : decode cX12_readsStamp 322 = .ok (.ireturn, 1) := by decide +kernel
theorem dX12_readsStamp_323 : decode cX12_readsStamp 323 = .ok (.iconst 1, 1) := by decide +kernel
theorem dX12_readsStamp_324 : decode cX12_readsStamp 324 = .ok (.ireturn, 1) := by decide +kernel
theorem dX12_sheet_0 : decode cX12_sheet 0 = .ok (.iload_n 1, 1) := by decide +kernel
theorem dX12_sheet_1 : decode cX12_sheet 1 = .ok (.iconst 1, 1) := by decide +kernel
theorem dX12_sheet_2 : decode cX12_sheet 2 = .ok (.bipush 60, 2) := by decide +kernel
theorem dX12_sheet_4 : decode cX12_sheet 4 = .ok (.invokestatic 105, 3) := by decide +kernel
theorem dX12_sheet_7 : decode cX12_sheet 7 = .ok (.ifCond .eq 11, 3) := by decide +kernel
theorem dX12_sheet_10 : decode cX12_sheet 10 = .ok (.iload_n 1, 1) := by decide +kernel
theorem dX12_sheet_11 : decode cX12_sheet 11 = .ok (.aload_n 0, 1) := by decide +kernel
theorem dX12_sheet_12 : decode cX12_sheet 12 = .ok (.getfield 117, 3) := by decide +kernel
theorem dX12_sheet_15 : decode cX12_sheet 15 = .ok (.if_icmp .le 5, 3) := by decide +kernel
theorem dX12_sheet_18 : decode cX12_sheet 18 = .ok (.iconst (-1), 1) := by decide +kernel
theorem dX12_sheet_19 : decode cX12_sheet 19 = .ok (.ireturn, 1) := by decide +kernel
theorem dX12_sheet_20 : decode cX12_sheet 20 = .ok (.aload_n 0, 1) := by decide +kernel
theorem dX12_sheet_21 : decode cX12_sheet 21 = .ok (.iload_n 1, 1) := by decide +kernel
theorem dX12_sheet_22 : decode cX12_sheet 22 = .ok (.invokevirtual 209, 3) := by decide +kernel
theorem dX12_sheet_25 : decode cX12_sheet 25 = .ok (.aload_n 0, 1) := by decide +kernel
theorem dX12_sheet_26 : decode cX12_sheet 26 = .ok (.iconst 0, 1) := by decide +kernel
theorem dX12_sheet_27 : decode cX12_sheet 27 = .ok (.putfield 235, 3) := by decide +kernel
theorem dX12_sheet_30 : decode cX12_sheet 30 = .ok (.aload_n 0, 1) := by decide +kernel
theorem dX12_sheet_31 : decode cX12_sheet 31 = .ok (.iconst 0, 1) := by decide +kernel
theorem dX12_sheet_32 : decode cX12_sheet 32 = .ok (.putfield 241, 3) := by decide +kernel
theorem dX12_sheet_35 : decode cX12_sheet 35 = .ok (.aload_n 0, 1) := by decide +kernel
theorem dX12_sheet_36 : decode cX12_sheet 36 = .ok (.invokevirtual 247, 3) := by decide +kernel
theorem dX12_sheet_39 : decode cX12_sheet 39 = .ok (.istore_n 2, 1) := by decide +kernel
theorem dX12_sheet_40 : decode cX12_sheet 40 = .ok (.iload_n 2, 1) := by decide +kernel
theorem dX12_sheet_41 : decode cX12_sheet 41 = .ok (.ifCond .eq 29, 3) := by decide +kernel
theorem dX12_sheet_44 : decode cX12_sheet 44 = .ok (.aload_n 0, 1) := by decide +kernel
theorem dX12_sheet_45 : decode cX12_sheet 45 = .ok (.getfield 124, 3) := by decide +kernel
theorem dX12_sheet_48 : decode cX12_sheet 48 = .ok (.aload_n 0, 1) := by decide +kernel
theorem dX12_sheet_49 : decode cX12_sheet 49 = .ok (.getfield 127, 3) := by decide +kernel
theorem dX12_sheet_52 : decode cX12_sheet 52 = .ok (.if_icmp .lt 10, 3) := by decide +kernel
theorem dX12_sheet_55 : decode cX12_sheet 55 = .ok (.aload_n 0, 1) := by decide +kernel
theorem dX12_sheet_56 : decode cX12_sheet 56 = .ok (.getfield 241, 3) := by decide +kernel
theorem dX12_sheet_59 : decode cX12_sheet 59 = .ok (.ifCond .le 11, 3) := by decide +kernel
theorem dX12_sheet_62 : decode cX12_sheet 62 = .ok (.aload_n 0, 1) := by decide +kernel
theorem dX12_sheet_63 : decode cX12_sheet 63 = .ok (.invokevirtual 247, 3) := by decide +kernel
theorem dX12_sheet_66 : decode cX12_sheet 66 = .ok (.istore_n 2, 1) := by decide +kernel
theorem dX12_sheet_67 : decode cX12_sheet 67 = .ok (.goto (-27), 3) := by decide +kernel
theorem dX12_sheet_70 : decode cX12_sheet 70 = .ok (.aload_n 0, 1) := by decide +kernel
theorem dX12_sheet_71 : decode cX12_sheet 71 = .ok (.iconst 0, 1) := by decide +kernel
theorem dX12_sheet_72 : decode cX12_sheet 72 = .ok (.putfield 117, 3) := by decide +kernel
theorem dX12_sheet_75 : decode cX12_sheet 75 = .ok (.iload_n 2, 1) := by decide +kernel
theorem dX12_sheet_76 : decode cX12_sheet 76 = .ok (.ifCond .ne 8, 3) := by decide +kernel
theorem dX12_sheet_79 : decode cX12_sheet 79 = .ok (.aload_n 0, 1) := by decide +kernel
theorem dX12_sheet_80 : decode cX12_sheet 80 = .ok (.getfield 134, 3) := by decide +kernel
theorem dX12_sheet_83 : decode cX12_sheet 83 = .ok (.ireturn, 1) := by decide +kernel
theorem dX12_sheet_84 : decode cX12_sheet 84 = .ok (.aload_n 0, 1) := by decide +kernel
theorem dX12_sheet_85 : decode cX12_sheet 85 = .ok (.aload_n 0, 1) := by decide +kernel
theorem dX12_sheet_86 : decode cX12_sheet 86 = .ok (.getfield 235, 3) := by decide +kernel
theorem dX12_sheet_89 : decode cX12_sheet 89 = .ok (.putfield 109, 3) := by decide +kernel
theorem dX12_sheet_92 : decode cX12_sheet 92 = .ok (.iconst 0, 1) := by decide +kernel
theorem dX12_sheet_93 : decode cX12_sheet 93 = .ok (.istore_n 3, 1) := by decide +kernel
theorem dX12_sheet_94 : decode cX12_sheet 94 = .ok (.iload_n 3, 1) := by decide +kernel
theorem dX12_sheet_95 : decode cX12_sheet 95 = .ok (.bipush 48, 2) := by decide +kernel
theorem dX12_sheet_97 : decode cX12_sheet 97 = .ok (.if_icmp .ge 57, 3) := by decide +kernel
theorem dX12_sheet_100 : decode cX12_sheet 100 = .ok (.aload_n 0, 1) := by decide +kernel
theorem dX12_sheet_101 : decode cX12_sheet 101 = .ok (.getfield 7, 3) := by decide +kernel
theorem dX12_sheet_104 : decode cX12_sheet 104 = .ok (.bipush 32, 2) := by decide +kernel
theorem dX12_sheet_106 : decode cX12_sheet 106 = .ok (.iload_n 3, 1) := by decide +kernel
theorem dX12_sheet_107 : decode cX12_sheet 107 = .ok (.iadd, 1) := by decide +kernel
theorem dX12_sheet_108 : decode cX12_sheet 108 = .ok (.iconst (-1), 1) := by decide +kernel
theorem dX12_sheet_109 : decode cX12_sheet 109 = .ok (.iastore, 1) := by decide +kernel
theorem dX12_sheet_110 : decode cX12_sheet 110 = .ok (.aload_n 0, 1) := by decide +kernel
theorem dX12_sheet_111 : decode cX12_sheet 111 = .ok (.getfield 7, 3) := by decide +kernel
theorem dX12_sheet_114 : decode cX12_sheet 114 = .ok (.bipush 80, 2) := by decide +kernel
theorem dX12_sheet_116 : decode cX12_sheet 116 = .ok (.iload_n 3, 1) := by decide +kernel
theorem dX12_sheet_117 : decode cX12_sheet 117 = .ok (.iadd, 1) := by decide +kernel
theorem dX12_sheet_118 : decode cX12_sheet 118 = .ok (.iconst 0, 1) := by decide +kernel
theorem dX12_sheet_119 : decode cX12_sheet 119 = .ok (.iastore, 1) := by decide +kernel
theorem dX12_sheet_120 : decode cX12_sheet 120 = .ok (.aload_n 0, 1) := by decide +kernel
theorem dX12_sheet_121 : decode cX12_sheet 121 = .ok (.getfield 22, 3) := by decide +kernel
theorem dX12_sheet_124 : decode cX12_sheet 124 = .ok (.iload_n 3, 1) := by decide +kernel
theorem dX12_sheet_125 : decode cX12_sheet 125 = .ok (.aload_n 0, 1) := by decide +kernel
theorem dX12_sheet_126 : decode cX12_sheet 126 = .ok (.getfield 78, 3) := by decide +kernel
theorem dX12_sheet_129 : decode cX12_sheet 129 = .ok (.iload_n 3, 1) := by decide +kernel
theorem dX12_sheet_130 : decode cX12_sheet 130 = .ok (.iaload, 1) := by decide +kernel
theorem dX12_sheet_131 : decode cX12_sheet 131 = .ok (.iconst 3, 1) := by decide +kernel
theorem dX12_sheet_132 : decode cX12_sheet 132 = .ok (.idiv, 1) := by decide +kernel
theorem dX12_sheet_133 : decode cX12_sheet 133 = .ok (.iastore, 1) := by decide +kernel
theorem dX12_sheet_134 : decode cX12_sheet 134 = .ok (.aload_n 0, 1) := by decide +kernel
theorem dX12_sheet_135 : decode cX12_sheet 135 = .ok (.getfield 25, 3) := by decide +kernel
theorem dX12_sheet_138 : decode cX12_sheet 138 = .ok (.iload_n 3, 1) := by decide +kernel
theorem dX12_sheet_139 : decode cX12_sheet 139 = .ok (.aload_n 0, 1) := by decide +kernel
theorem dX12_sheet_140 : decode cX12_sheet 140 = .ok (.getfield 78, 3) := by decide +kernel
theorem dX12_sheet_143 : decode cX12_sheet 143 = .ok (.iload_n 3, 1) := by decide +kernel
theorem dX12_sheet_144 : decode cX12_sheet 144 = .ok (.iaload, 1) := by decide +kernel
theorem dX12_sheet_145 : decode cX12_sheet 145 = .ok (.iconst 3, 1) := by decide +kernel
theorem dX12_sheet_146 : decode cX12_sheet 146 = .ok (.irem, 1) := by decide +kernel
theorem dX12_sheet_147 : decode cX12_sheet 147 = .ok (.iastore, 1) := by decide +kernel
theorem dX12_sheet_148 : decode cX12_sheet 148 = .ok (.iinc 3 1, 3) := by decide +kernel
theorem dX12_sheet_151 : decode cX12_sheet 151 = .ok (.goto (-57), 3) := by decide +kernel
theorem dX12_sheet_154 : decode cX12_sheet 154 = .ok (.aload_n 0, 1) := by decide +kernel
theorem dX12_sheet_155 : decode cX12_sheet 155 = .ok (.getfield 235, 3) := by decide +kernel
theorem dX12_sheet_158 : decode cX12_sheet 158 = .ok (.ireturn, 1) := by decide +kernel
theorem dX12_readsWithin_0 : decode cX12_readsWithin 0 = .ok (.aload_n 0, 1) := by decide +kernel
theorem dX12_readsWithin_1 : decode cX12_readsWithin 1 = .ok (.getfield 124, 3) := by decide +kernel
theorem dX12_readsWithin_4 : decode cX12_readsWithin 4 = .ok (.istore_n 3, 1) := by decide +kernel
theorem dX12_readsWithin_5 : decode cX12_readsWithin 5 = .ok (.aload_n 0, 1) := by decide +kernel
theorem dX12_readsWithin_6 : decode cX12_readsWithin 6 = .ok (.invokevirtual 144, 3) := by decide +kernel
theorem dX12_readsWithin_9 : decode cX12_readsWithin 9 = .ok (.ifCond .ne 13, 3) := by decide +kernel
theorem dX12_readsWithin_12 : decode cX12_readsWithin 12 = .ok (.aload_n 0, 1) := by decide +kernel
theorem dX12_readsWithin_13 : decode cX12_readsWithin 13 = .ok (.iconst 1, 1) := by decide +kernel
theorem dX12_readsWithin_14 : decode cX12_readsWithin 14 = .ok (.aload_n 0, 1) := by decide +kernel
theorem dX12_readsWithin_15 : decode cX12_readsWithin 15 = .ok (.getfield 124, 3) := by decide +kernel
theorem dX12_readsWithin_18 : decode cX12_readsWithin 18 = .ok (.invokevirtual 137, 3) := by decide +kernel
theorem dX12_readsWithin_21 : decode cX12_readsWithin 21 = .ok (.ireturn, 1) := by decide +kernel
theorem dX12_readsWithin_22 : decode cX12_readsWithin 22 = .ok (.aload_n 0, 1) := by decide +kernel
theorem dX12_readsWithin_23 : decode cX12_readsWithin 23 = .ok (.iconst 0, 1) := by decide +kernel
theorem dX12_readsWithin_24 : decode cX12_readsWithin 24 = .ok (.putfield 141, 3) := by decide +kernel
theorem dX12_readsWithin_27 : decode cX12_readsWithin 27 = .ok (.aload_n 0, 1) := by decide +kernel
theorem dX12_readsWithin_28 : decode cX12_readsWithin 28 = .ok (.invokevirtual 144, 3) := by decide +kernel
theorem dX12_readsWithin_31 : decode cX12_readsWithin 31 = .ok (.ifCond .eq 55, 3) := by decide +kernel
theorem dX12_readsWithin_34 : decode cX12_readsWithin 34 = .ok (.aload_n 0, 1) := by decide +kernel
theorem dX12_readsWithin_35 : decode cX12_readsWithin 35 = .ok (.getfield 124, 3) := by decide +kernel
theorem dX12_readsWithin_38 : decode cX12_readsWithin 38 = .ok (.iload_n 3, 1) := by decide +kernel
theorem dX12_readsWithin_39 : decode cX12_readsWithin 39 = .ok (.iconst 2, 1) := by decide +kernel
theorem dX12_readsWithin_40 : decode cX12_readsWithin 40 = .ok (.iadd, 1) := by decide +kernel
theorem dX12_readsWithin_41 : decode cX12_readsWithin 41 = .ok (.if_icmp .ne 13, 3) := by decide +kernel
theorem dX12_readsWithin_44 : decode cX12_readsWithin 44 = .ok (.aload_n 0, 1) := by decide +kernel
theorem dX12_readsWithin_45 : decode cX12_readsWithin 45 = .ok (.iconst 2, 1) := by decide +kernel
theorem dX12_readsWithin_46 : decode cX12_readsWithin 46 = .ok (.aload_n 0, 1) := by decide +kernel
theorem dX12_readsWithin_47 : decode cX12_readsWithin 47 = .ok (.getfield 124, 3) := by decide +kernel
theorem dX12_readsWithin_50 : decode cX12_readsWithin 50 = .ok (.invokevirtual 137, 3) := by decide +kernel
theorem dX12_readsWithin_53 : decode cX12_readsWithin 53 = .ok (.ireturn, 1) := by decide +kernel
theorem dX12_readsWithin_54 : decode cX12_readsWithin 54 = .ok (.aload_n 0, 1) := by decide +kernel
theorem dX12_readsWithin_55 : decode cX12_readsWithin 55 = .ok (.bipush 10, 2) := by decide +kernel
theorem dX12_readsWithin_57 : decode cX12_readsWithin 57 = .ok (.aload_n 0, 1) := by decide +kernel
theorem dX12_readsWithin_58 : decode cX12_readsWithin 58 = .ok (.getfield 141, 3) := by decide +kernel
theorem dX12_readsWithin_61 : decode cX12_readsWithin 61 = .ok (.imul, 1) := by decide +kernel
theorem dX12_readsWithin_62 : decode cX12_readsWithin 62 = .ok (.aload_n 0, 1) := by decide +kernel
theorem dX12_readsWithin_63 : decode cX12_readsWithin 63 = .ok (.invokevirtual 130, 3) := by decide +kernel
theorem dX12_readsWithin_66 : decode cX12_readsWithin 66 = .ok (.iadd, 1) := by decide +kernel
theorem dX12_readsWithin_67 : decode cX12_readsWithin 67 = .ok (.bipush 48, 2) := by decide +kernel
theorem dX12_readsWithin_69 : decode cX12_readsWithin 69 = .ok (.isub, 1) := by decide +kernel
theorem dX12_readsWithin_70 : decode cX12_readsWithin 70 = .ok (.putfield 141, 3) := by decide +kernel
theorem dX12_readsWithin_73 : decode cX12_readsWithin 73 = .ok (.aload_n 0, 1) := by decide +kernel
theorem dX12_readsWithin_74 : decode cX12_readsWithin 74 = .ok (.aload_n 0, 1) := by decide +kernel
theorem dX12_readsWithin_75 : decode cX12_readsWithin 75 = .ok (.getfield 124, 3) := by decide +kernel
theorem dX12_readsWithin_78 : decode cX12_readsWithin 78 = .ok (.iconst 1, 1) := by decide +kernel
theorem dX12_readsWithin_79 : decode cX12_readsWithin 79 = .ok (.iadd, 1) := by decide +kernel
theorem dX12_readsWithin_80 : decode cX12_readsWithin 80 = .ok (.putfield 124, 3) := by decide +kernel
theorem dX12_readsWithin_83 : decode cX12_readsWithin 83 = .ok (.goto (-56), 3) := by decide +kernel
theorem dX12_readsWithin_86 : decode cX12_readsWithin 86 = .ok (.aload_n 0, 1) := by decide +kernel
theorem dX12_readsWithin_87 : decode cX12_readsWithin 87 = .ok (.getfield 141, 3) := by decide +kernel
theorem dX12_readsWithin_90 : decode cX12_readsWithin 90 = .ok (.iload_n 1, 1) := by decide +kernel
theorem dX12_readsWithin_91 : decode cX12_readsWithin 91 = .ok (.if_icmp .le 12, 3) := by decide +kernel
theorem dX12_readsWithin_94 : decode cX12_readsWithin 94 = .ok (.aload_n 0, 1) := by decide +kernel
theorem dX12_readsWithin_95 : decode cX12_readsWithin 95 = .ok (.iload_n 2, 1) := by decide +kernel
theorem dX12_readsWithin_96 : decode cX12_readsWithin 96 = .ok (.iload_n 3, 1) := by decide +kernel
theorem dX12_readsWithin_97 : decode cX12_readsWithin 97 = .ok (.invokevirtual 137, 3) := by decide +kernel
theorem dX12_readsWithin_100 : decode cX12_readsWithin 100 = .ok (.ifCond .eq 7, 3) := by decide +kernel
theorem dX12_readsWithin_103 : decode cX12_readsWithin 103 = .ok (.iconst 1, 1) := by decide +kernel
theorem dX12_readsWithin_104 : decode cX12_readsWithin 104 = .ok (.goto 4, 3) := by decide +kernel
theorem dX12_readsWithin_107 : decode cX12_readsWithin 107 = .ok (.iconst 0, 1) := by decide +kernel
theorem dX12_readsWithin_108 : decode cX12_readsWithin 108 = .ok (.ireturn, 1) := by decide +kernel
theorem dX12_readsSpot_0 : decode cX12_readsSpot 0 = .ok (.aload_n 0, 1) := by decide +kernel
theorem dX12_readsSpot_1 : decode cX12_readsSpot 1 = .ok (.bipush 23, 2) := by decide +kernel
theorem dX12_readsSpot_3 : decode cX12_readsSpot 3 = .ok (.iconst 3, 1) := by decide +kernel
theorem dX12_readsSpot_4 : decode cX12_readsSpot 4 = .ok (.invokevirtual 250, 3) := by decide +kernel
theorem dX12_readsSpot_7 : decode cX12_readsSpot 7 = .ok (.ifCond .ne 5, 3) := by decide +kernel
theorem dX12_readsSpot_10 : decode cX12_readsSpot 10 = .ok (.iconst 0, 1) := by decide +kernel
theorem dX12_readsSpot_11 : decode cX12_readsSpot 11 = .ok (.ireturn, 1) := by decide +kernel
theorem dX12_readsSpot_12 : decode cX12_readsSpot 12 = .ok (.aload_n 0, 1) := by decide +kernel
theorem dX12_readsSpot_13 : decode cX12_readsSpot 13 = .ok (.getfield 141, 3) := by decide +kernel
theorem dX12_readsSpot_16 : decode cX12_readsSpot 16 = .ok (.istore_n 1, 1) := by decide +kernel
theorem dX12_readsSpot_17 : decode cX12_readsSpot 17 = .ok (.aload_n 0, 1) := by decide +kernel
theorem dX12_readsSpot_18 : decode cX12_readsSpot 18 = .ok (.bipush 44, 2) := by decide +kernel
theorem dX12_readsSpot_20 : decode cX12_readsSpot 20 = .ok (.invokevirtual 215, 3) := by decide +kernel
theorem dX12_readsSpot_23 : decode cX12_readsSpot 23 = .ok (.ifCond .eq 13, 3) := by decide +kernel
theorem dX12_readsSpot_26 : decode cX12_readsSpot 26 = .ok (.aload_n 0, 1) := by decide +kernel
theorem dX12_readsSpot_27 : decode cX12_readsSpot 27 = .ok (.bipush 15, 2) := by decide +kernel
theorem dX12_readsSpot_29 : decode cX12_readsSpot 29 = .ok (.iconst 3, 1) := by decide +kernel
theorem dX12_readsSpot_30 : decode cX12_readsSpot 30 = .ok (.invokevirtual 250, 3) := by decide +kernel
theorem dX12_readsSpot_33 : decode cX12_readsSpot 33 = .ok (.ifCond .ne 5, 3) := by decide +kernel
theorem dX12_readsSpot_36 : decode cX12_readsSpot 36 = .ok (.iconst 0, 1) := by decide +kernel
theorem dX12_readsSpot_37 : decode cX12_readsSpot 37 = .ok (.ireturn, 1) := by decide +kernel
theorem dX12_readsSpot_38 : decode cX12_readsSpot 38 = .ok (.aload_n 0, 1) := by decide +kernel
theorem dX12_readsSpot_39 : decode cX12_readsSpot 39 = .ok (.bipush 24, 2) := by decide +kernel
theorem dX12_readsSpot_41 : decode cX12_readsSpot 41 = .ok (.aload_n 0, 1) := by decide +kernel
theorem dX12_readsSpot_42 : decode cX12_readsSpot 42 = .ok (.getfield 141, 3) := by decide +kernel
theorem dX12_readsSpot_45 : decode cX12_readsSpot 45 = .ok (.imul, 1) := by decide +kernel
theorem dX12_readsSpot_46 : decode cX12_readsSpot 46 = .ok (.iload_n 1, 1) := by decide +kernel
theorem dX12_readsSpot_47 : decode cX12_readsSpot 47 = .ok (.iadd, 1) := by decide +kernel
theorem dX12_readsSpot_48 : decode cX12_readsSpot 48 = .ok (.putfield 253, 3) := by decide +kernel
theorem dX12_readsSpot_51 : decode cX12_readsSpot 51 = .ok (.iconst 1, 1) := by decide +kernel
theorem dX12_readsSpot_52 : decode cX12_readsSpot 52 = .ok (.ireturn, 1) := by decide +kernel
theorem dX12_readsWall_0 : decode cX12_readsWall 0 = .ok (.aload_n 0, 1) := by decide +kernel
theorem dX12_readsWall_1 : decode cX12_readsWall 1 = .ok (.aload_n 0, 1) := by decide +kernel
theorem dX12_readsWall_2 : decode cX12_readsWall 2 = .ok (.getfield 124, 3) := by decide +kernel
theorem dX12_readsWall_5 : decode cX12_readsWall 5 = .ok (.iconst 1, 1) := by decide +kernel
theorem dX12_readsWall_6 : decode cX12_readsWall 6 = .ok (.iadd, 1) := by decide +kernel
theorem dX12_readsWall_7 : decode cX12_readsWall 7 = .ok (.putfield 124, 3) := by decide +kernel
theorem dX12_readsWall_10 : decode cX12_readsWall 10 = .ok (.aload_n 0, 1) := by decide +kernel
theorem dX12_readsWall_11 : decode cX12_readsWall 11 = .ok (.invokevirtual 256, 3) := by decide +kernel
theorem dX12_readsWall_14 : decode cX12_readsWall 14 = .ok (.ifCond .ne 5, 3) := by decide +kernel
theorem dX12_readsWall_17 : decode cX12_readsWall 17 = .ok (.iconst 0, 1) := by decide +kernel
theorem dX12_readsWall_18 : decode cX12_readsWall 18 = .ok (.ireturn, 1) := by decide +kernel
theorem dX12_readsWall_19 : decode cX12_readsWall 19 = .ok (.aload_n 0, 1) := by decide +kernel
theorem dX12_readsWall_20 : decode cX12_readsWall 20 = .ok (.getfield 28, 3) := by decide +kernel
theorem dX12_readsWall_23 : decode cX12_readsWall 23 = .ok (.aload_n 0, 1) := by decide +kernel
theorem dX12_readsWall_24 : decode cX12_readsWall 24 = .ok (.getfield 253, 3) := by decide +kernel
theorem dX12_readsWall_27 : decode cX12_readsWall 27 = .ok (.aload_n 0, 1) := by decide +kernel
theorem dX12_readsWall_28 : decode cX12_readsWall 28 = .ok (.getfield 28, 3) := by decide +kernel
theorem dX12_readsWall_31 : decode cX12_readsWall 31 = .ok (.aload_n 0, 1) := by decide +kernel
theorem dX12_readsWall_32 : decode cX12_readsWall 32 = .ok (.getfield 253, 3) := by decide +kernel
theorem dX12_readsWall_35 : decode cX12_readsWall 35 = .ok (.baload, 1) := by decide +kernel
theorem dX12_readsWall_36 : decode cX12_readsWall 36 = .ok (.ifCond .ne 7, 3) := by decide +kernel
theorem dX12_readsWall_39 : decode cX12_readsWall 39 = .ok (.iconst 1, 1) := by decide +kernel
theorem dX12_readsWall_40 : decode cX12_readsWall 40 = .ok (.goto 4, 3) := by decide +kernel
theorem dX12_readsWall_43 : decode cX12_readsWall 43 = .ok (.iconst 0, 1) := by decide +kernel
theorem dX12_readsWall_44 : decode cX12_readsWall 44 = .ok (.bastore, 1) := by decide +kernel
theorem dX12_readsWall_45 : decode cX12_readsWall 45 = .ok (.iconst 1, 1) := by decide +kernel
theorem dX12_readsWall_46 : decode cX12_readsWall 46 = .ok (.ireturn, 1) := by decide +kernel
theorem dX12_readsLetter_0 : decode cX12_readsLetter 0 = .ok (.aload_n 0, 1) := by decide +kernel
theorem dX12_readsLetter_1 : decode cX12_readsLetter 1 = .ok (.getfield 124, 3) := by decide +kernel
theorem dX12_readsLetter_4 : decode cX12_readsLetter 4 = .ok (.istore_n 2, 1) := by decide +kernel
theorem dX12_readsLetter_5 : decode cX12_readsLetter 5 = .ok (.aload_n 0, 1) := by decide +kernel
theorem dX12_readsLetter_6 : decode cX12_readsLetter 6 = .ok (.aload_n 0, 1) := by decide +kernel
theorem dX12_readsLetter_7 : decode cX12_readsLetter 7 = .ok (.getfield 124, 3) := by decide +kernel
theorem dX12_readsLetter_10 : decode cX12_readsLetter 10 = .ok (.iconst 1, 1) := by decide +kernel
theorem dX12_readsLetter_11 : decode cX12_readsLetter 11 = .ok (.iadd, 1) := by decide +kernel
theorem dX12_readsLetter_12 : decode cX12_readsLetter 12 = .ok (.putfield 124, 3) := by decide +kernel
theorem dX12_readsLetter_15 : decode cX12_readsLetter 15 = .ok (.aload_n 0, 1) := by decide +kernel
theorem dX12_readsLetter_16 : decode cX12_readsLetter 16 = .ok (.invokevirtual 130, 3) := by decide +kernel
theorem dX12_readsLetter_19 : decode cX12_readsLetter 19 = .ok (.istore_n 3, 1) := by decide +kernel
theorem dX12_readsLetter_20 : decode cX12_readsLetter 20 = .ok (.iload_n 3, 1) := by decide +kernel
theorem dX12_readsLetter_21 : decode cX12_readsLetter 21 = .ok (.bipush 64, 2) := by decide +kernel
theorem dX12_readsLetter_23 : decode cX12_readsLetter 23 = .ok (.if_icmp .eq 31, 3) := by decide +kernel
theorem dX12_readsLetter_26 : decode cX12_readsLetter 26 = .ok (.iload_n 3, 1) := by decide +kernel
theorem dX12_readsLetter_27 : decode cX12_readsLetter 27 = .ok (.bipush 43, 2) := by decide +kernel
theorem dX12_readsLetter_29 : decode cX12_readsLetter 29 = .ok (.if_icmp .eq 25, 3) := by decide +kernel
theorem dX12_readsLetter_32 : decode cX12_readsLetter 32 = .ok (.iload_n 3, 1) := by decide +kernel
theorem dX12_readsLetter_33 : decode cX12_readsLetter 33 = .ok (.bipush 45, 2) := by decide +kernel
theorem dX12_readsLetter_35 : decode cX12_readsLetter 35 = .ok (.if_icmp .eq 19, 3) := by decide +kernel
theorem dX12_readsLetter_38 : decode cX12_readsLetter 38 = .ok (.iload_n 3, 1) := by decide +kernel
theorem dX12_readsLetter_39 : decode cX12_readsLetter 39 = .ok (.bipush 61, 2) := by decide +kernel
theorem dX12_readsLetter_41 : decode cX12_readsLetter 41 = .ok (.if_icmp .eq 13, 3) := by decide +kernel
theorem dX12_readsLetter_44 : decode cX12_readsLetter 44 = .ok (.aload_n 0, 1) := by decide +kernel
theorem dX12_readsLetter_45 : decode cX12_readsLetter 45 = .ok (.iconst 1, 1) := by decide +kernel
theorem dX12_readsLetter_46 : decode cX12_readsLetter 46 = .ok (.aload_n 0, 1) := by decide +kernel
theorem dX12_readsLetter_47 : decode cX12_readsLetter 47 = .ok (.getfield 124, 3) := by decide +kernel
theorem dX12_readsLetter_50 : decode cX12_readsLetter 50 = .ok (.invokevirtual 137, 3) := by decide +kernel
theorem dX12_readsLetter_53 : decode cX12_readsLetter 53 = .ok (.ireturn, 1) := by decide +kernel
theorem dX12_readsLetter_54 : decode cX12_readsLetter 54 = .ok (.iload_n 3, 1) := by decide +kernel
theorem dX12_readsLetter_55 : decode cX12_readsLetter 55 = .ok (.bipush 64, 2) := by decide +kernel
theorem dX12_readsLetter_57 : decode cX12_readsLetter 57 = .ok (.if_icmp .eq 19, 3) := by decide +kernel
theorem dX12_readsLetter_60 : decode cX12_readsLetter 60 = .ok (.aload_n 0, 1) := by decide +kernel
theorem dX12_readsLetter_61 : decode cX12_readsLetter 61 = .ok (.iload_n 1, 1) := by decide +kernel
theorem dX12_readsLetter_62 : decode cX12_readsLetter 62 = .ok (.invokevirtual 259, 3) := by decide +kernel
theorem dX12_readsLetter_65 : decode cX12_readsLetter 65 = .ok (.ifCond .ne 11, 3) := by decide +kernel
theorem dX12_readsLetter_68 : decode cX12_readsLetter 68 = .ok (.aload_n 0, 1) := by decide +kernel
theorem dX12_readsLetter_69 : decode cX12_readsLetter 69 = .ok (.bipush 7, 2) := by decide +kernel
theorem dX12_readsLetter_71 : decode cX12_readsLetter 71 = .ok (.iload_n 2, 1) := by decide +kernel
theorem dX12_readsLetter_72 : decode cX12_readsLetter 72 = .ok (.invokevirtual 137, 3) := by decide +kernel
theorem dX12_readsLetter_75 : decode cX12_readsLetter 75 = .ok (.ireturn, 1) := by decide +kernel
theorem dX12_readsLetter_76 : decode cX12_readsLetter 76 = .ok (.aload_n 0, 1) := by decide +kernel
theorem dX12_readsLetter_77 : decode cX12_readsLetter 77 = .ok (.aload_n 0, 1) := by decide +kernel
theorem dX12_readsLetter_78 : decode cX12_readsLetter 78 = .ok (.getfield 124, 3) := by decide +kernel
theorem dX12_readsLetter_81 : decode cX12_readsLetter 81 = .ok (.iconst 1, 1) := by decide +kernel
theorem dX12_readsLetter_82 : decode cX12_readsLetter 82 = .ok (.iadd, 1) := by decide +kernel
theorem dX12_readsLetter_83 : decode cX12_readsLetter 83 = .ok (.putfield 124, 3) := by decide +kernel
theorem dX12_readsLetter_86 : decode cX12_readsLetter 86 = .ok (.iload_n 3, 1) := by decide +kernel
theorem dX12_readsLetter_87 : decode cX12_readsLetter 87 = .ok (.bipush 64, 2) := by decide +kernel
theorem dX12_readsLetter_89 : decode cX12_readsLetter 89 = .ok (.if_icmp .ne 46, 3) := by decide +kernel
theorem dX12_readsLetter_92 : decode cX12_readsLetter 92 = .ok (.aload_n 0, 1) := by decide +kernel
theorem dX12_readsLetter_93 : decode cX12_readsLetter 93 = .ok (.invokevirtual 256, 3) := by decide +kernel
theorem dX12_readsLetter_96 : decode cX12_readsLetter 96 = .ok (.ifCond .ne 5, 3) := by decide +kernel
theorem dX12_readsLetter_99 : decode cX12_readsLetter 99 = .ok (.iconst 0, 1) := by decide +kernel
theorem dX12_readsLetter_100 : decode cX12_readsLetter 100 = .ok (.ireturn, 1) := by decide +kernel
theorem dX12_readsLetter_101 : decode cX12_readsLetter 101 = .ok (.aload_n 0, 1) := by decide +kernel
theorem dX12_readsLetter_102 : decode cX12_readsLetter 102 = .ok (.getfield 7, 3) := by decide +kernel
theorem dX12_readsLetter_105 : decode cX12_readsLetter 105 = .ok (.iconst 0, 1) := by decide +kernel
theorem dX12_readsLetter_106 : decode cX12_readsLetter 106 = .ok (.iload_n 1, 1) := by decide +kernel
theorem dX12_readsLetter_107 : decode cX12_readsLetter 107 = .ok (.iadd, 1) := by decide +kernel
theorem dX12_readsLetter_108 : decode cX12_readsLetter 108 = .ok (.iconst 1, 1) := by decide +kernel
theorem dX12_readsLetter_109 : decode cX12_readsLetter 109 = .ok (.iastore, 1) := by decide +kernel
theorem dX12_readsLetter_110 : decode cX12_readsLetter 110 = .ok (.aload_n 0, 1) := by decide +kernel
theorem dX12_readsLetter_111 : decode cX12_readsLetter 111 = .ok (.getfield 7, 3) := by decide +kernel
theorem dX12_readsLetter_114 : decode cX12_readsLetter 114 = .ok (.bipush 8, 2) := by decide +kernel
theorem dX12_readsLetter_116 : decode cX12_readsLetter 116 = .ok (.iload_n 1, 1) := by decide +kernel
theorem dX12_readsLetter_117 : decode cX12_readsLetter 117 = .ok (.iadd, 1) := by decide +kernel
theorem dX12_readsLetter_118 : decode cX12_readsLetter 118 = .ok (.aload_n 0, 1) := by decide +kernel
theorem dX12_readsLetter_119 : decode cX12_readsLetter 119 = .ok (.getfield 253, 3) := by decide +kernel
theorem dX12_readsLetter_122 : decode cX12_readsLetter 122 = .ok (.iastore, 1) := by decide +kernel
theorem dX12_readsLetter_123 : decode cX12_readsLetter 123 = .ok (.aload_n 0, 1) := by decide +kernel
theorem dX12_readsLetter_124 : decode cX12_readsLetter 124 = .ok (.getfield 7, 3) := by decide +kernel
theorem dX12_readsLetter_127 : decode cX12_readsLetter 127 = .ok (.bipush 24, 2) := by decide +kernel
theorem dX12_readsLetter_129 : decode cX12_readsLetter 129 = .ok (.iload_n 1, 1) := by decide +kernel
theorem dX12_readsLetter_130 : decode cX12_readsLetter 130 = .ok (.iadd, 1) := by decide +kernel
theorem dX12_readsLetter_131 : decode cX12_readsLetter 131 = .ok (.iconst 0, 1) := by decide +kernel
theorem dX12_readsLetter_132 : decode cX12_readsLetter 132 = .ok (.iastore, 1) := by decide +kernel
theorem dX12_readsLetter_133 : decode cX12_readsLetter 133 = .ok (.iconst 1, 1) := by decide +kernel
theorem dX12_readsLetter_134 : decode cX12_readsLetter 134 = .ok (.ireturn, 1) := by decide +kernel
theorem dX12_readsLetter_135 : decode cX12_readsLetter 135 = .ok (.aload_n 0, 1) := by decide +kernel
theorem dX12_readsLetter_136 : decode cX12_readsLetter 136 = .ok (.iload_n 3, 1) := by decide +kernel
theorem dX12_readsLetter_137 : decode cX12_readsLetter 137 = .ok (.bipush 61, 2) := by decide +kernel
theorem dX12_readsLetter_139 : decode cX12_readsLetter 139 = .ok (.if_icmp .ne 8, 3) := by decide +kernel
theorem dX12_readsLetter_142 : decode cX12_readsLetter 142 = .ok (.bipush 99, 2) := by decide +kernel
theorem dX12_readsLetter_144 : decode cX12_readsLetter 144 = .ok (.goto 9, 3) := by decide +kernel
theorem dX12_readsLetter_147 : decode cX12_readsLetter 147 = .ok (.aload_n 0, 1) := by decide +kernel
theorem dX12_readsLetter_148 : decode cX12_readsLetter 148 = .ok (.getfield 109, 3) := by decide +kernel
theorem dX12_readsLetter_151 : decode cX12_readsLetter 151 = .ok (.iconst 1, 1) := by decide +kernel
theorem dX12_readsLetter_152 : decode cX12_readsLetter 152 = .ok (.isub, 1) := by decide +kernel
theorem dX12_readsLetter_153 : decode cX12_readsLetter 153 = .ok (.bipush 7, 2) := by decide +kernel
theorem dX12_readsLetter_155 : decode cX12_readsLetter 155 = .ok (.invokevirtual 250, 3) := by decide +kernel
theorem dX12_readsLetter_158 : decode cX12_readsLetter 158 = .ok (.ifCond .ne 5, 3) := by decide +kernel
theorem dX12_readsLetter_161 : decode cX12_readsLetter 161 = .ok (.iconst 0, 1) := by decide +kernel
theorem dX12_readsLetter_162 : decode cX12_readsLetter 162 = .ok (.ireturn, 1) := by decide +kernel
theorem dX12_readsLetter_163 : decode cX12_readsLetter 163 = .ok (.iload_n 3, 1) := by decide +kernel
theorem dX12_readsLetter_164 : decode cX12_readsLetter 164 = .ok (.bipush 61, 2) := by decide +kernel
theorem dX12_readsLetter_166 : decode cX12_readsLetter 166 = .ok (.if_icmp .ne 19, 3) := by decide +kernel
theorem dX12_readsLetter_169 : decode cX12_readsLetter 169 = .ok (.aload_n 0, 1) := by decide +kernel
theorem dX12_readsLetter_170 : decode cX12_readsLetter 170 = .ok (.getfield 7, 3) := by decide +kernel
theorem dX12_readsLetter_173 : decode cX12_readsLetter 173 = .ok (.bipush 16, 2) := by decide +kernel
theorem dX12_readsLetter_175 : decode cX12_readsLetter 175 = .ok (.iload_n 1, 1) := by decide +kernel
theorem dX12_readsLetter_176 : decode cX12_readsLetter 176 = .ok (.iadd, 1) := by decide +kernel
theorem dX12_readsLetter_177 : decode cX12_readsLetter 177 = .ok (.aload_n 0, 1) := by decide +kernel
theorem dX12_readsLetter_178 : decode cX12_readsLetter 178 = .ok (.getfield 141, 3) := by decide +kernel
theorem dX12_readsLetter_181 : decode cX12_readsLetter 181 = .ok (.iastore, 1) := by decide +kernel
theorem dX12_readsLetter_182 : decode cX12_readsLetter 182 = .ok (.goto 54, 3) := by decide +kernel
theorem dX12_readsLetter_185 : decode cX12_readsLetter 185 = .ok (.iload_n 3, 1) := by decide +kernel
theorem dX12_readsLetter_186 : decode cX12_readsLetter 186 = .ok (.bipush 43, 2) := by decide +kernel
theorem dX12_readsLetter_188 : decode cX12_readsLetter 188 = .ok (.if_icmp .ne 19, 3) := by decide +kernel
theorem dX12_readsLetter_191 : decode cX12_readsLetter 191 = .ok (.aload_n 0, 1) := by decide +kernel
theorem dX12_readsLetter_192 : decode cX12_readsLetter 192 = .ok (.getfield 7, 3) := by decide +kernel
theorem dX12_readsLetter_195 : decode cX12_readsLetter 195 = .ok (.bipush 32, 2) := by decide +kernel
theorem dX12_readsLetter_197 : decode cX12_readsLetter 197 = .ok (.aload_n 0, 1) := by decide +kernel
theorem dX12_readsLetter_198 : decode cX12_readsLetter 198 = .ok (.getfield 141, 3) := by decide +kernel
theorem dX12_readsLetter_201 : decode cX12_readsLetter 201 = .ok (.iadd, 1) := by decide +kernel
theorem dX12_readsLetter_202 : decode cX12_readsLetter 202 = .ok (.iload_n 1, 1) := by decide +kernel
theorem dX12_readsLetter_203 : decode cX12_readsLetter 203 = .ok (.iastore, 1) := by decide +kernel
theorem dX12_readsLetter_204 : decode cX12_readsLetter 204 = .ok (.goto 32, 3) := by decide +kernel
theorem dX12_readsLetter_207 : decode cX12_readsLetter 207 = .ok (.aload_n 0, 1) := by decide +kernel
theorem dX12_readsLetter_208 : decode cX12_readsLetter 208 = .ok (.getfield 7, 3) := by decide +kernel
theorem dX12_readsLetter_211 : decode cX12_readsLetter 211 = .ok (.bipush 32, 2) := by decide +kernel
theorem dX12_readsLetter_213 : decode cX12_readsLetter 213 = .ok (.aload_n 0, 1) := by decide +kernel
theorem dX12_readsLetter_214 : decode cX12_readsLetter 214 = .ok (.getfield 141, 3) := by decide +kernel
theorem dX12_readsLetter_217 : decode cX12_readsLetter 217 = .ok (.iadd, 1) := by decide +kernel
theorem dX12_readsLetter_218 : decode cX12_readsLetter 218 = .ok (.iaload, 1) := by decide +kernel
theorem dX12_readsLetter_219 : decode cX12_readsLetter 219 = .ok (.iload_n 1, 1) := by decide +kernel
theorem dX12_readsLetter_220 : decode cX12_readsLetter 220 = .ok (.if_icmp .ne 16, 3) := by decide +kernel
theorem dX12_readsLetter_223 : decode cX12_readsLetter 223 = .ok (.aload_n 0, 1) := by decide +kernel
theorem dX12_readsLetter_224 : decode cX12_readsLetter 224 = .ok (.getfield 7, 3) := by decide +kernel
theorem dX12_readsLetter_227 : decode cX12_readsLetter 227 = .ok (.bipush 32, 2) := by decide +kernel
theorem dX12_readsLetter_229 : decode cX12_readsLetter 229 = .ok (.aload_n 0, 1) := by decide +kernel
theorem dX12_readsLetter_230 : decode cX12_readsLetter 230 = .ok (.getfield 141, 3) := by decide +kernel
theorem dX12_readsLetter_233 : decode cX12_readsLetter 233 = .ok (.iadd, 1) := by decide +kernel
theorem dX12_readsLetter_234 : decode cX12_readsLetter 234 = .ok (.iconst (-1), 1) := by decide +kernel
theorem dX12_readsLetter_235 : decode cX12_readsLetter 235 = .ok (.iastore, 1) := by decide +kernel
theorem dX12_readsLetter_236 : decode cX12_readsLetter 236 = .ok (.iconst 1, 1) := by decide +kernel
theorem dX12_readsLetter_237 : decode cX12_readsLetter 237 = .ok (.ireturn, 1) := by decide +kernel
theorem dX12_readsLine_0 : decode cX12_readsLine 0 = .ok (.aload_n 0, 1) := by decide +kernel
theorem dX12_readsLine_1 : decode cX12_readsLine 1 = .ok (.invokevirtual 130, 3) := by decide +kernel
theorem dX12_readsLine_4 : decode cX12_readsLine 4 = .ok (.istore_n 1, 1) := by decide +kernel
theorem dX12_readsLine_5 : decode cX12_readsLine 5 = .ok (.iload_n 1, 1) := by decide +kernel
theorem dX12_readsLine_6 : decode cX12_readsLine 6 = .ok (.bipush 35, 2) := by decide +kernel
theorem dX12_readsLine_8 : decode cX12_readsLine 8 = .ok (.if_icmp .eq 24, 3) := by decide +kernel
theorem dX12_readsLine_11 : decode cX12_readsLine 11 = .ok (.iload_n 1, 1) := by decide +kernel
theorem dX12_readsLine_12 : decode cX12_readsLine 12 = .ok (.bipush 48, 2) := by decide +kernel
theorem dX12_readsLine_14 : decode cX12_readsLine 14 = .ok (.bipush 55, 2) := by decide +kernel
theorem dX12_readsLine_16 : decode cX12_readsLine 16 = .ok (.invokestatic 105, 3) := by decide +kernel
theorem dX12_readsLine_19 : decode cX12_readsLine 19 = .ok (.ifCond .ne 13, 3) := by decide +kernel
theorem dX12_readsLine_22 : decode cX12_readsLine 22 = .ok (.aload_n 0, 1) := by decide +kernel
theorem dX12_readsLine_23 : decode cX12_readsLine 23 = .ok (.iconst 1, 1) := by decide +kernel
theorem dX12_readsLine_24 : decode cX12_readsLine 24 = .ok (.aload_n 0, 1) := by decide +kernel
theorem dX12_readsLine_25 : decode cX12_readsLine 25 = .ok (.getfield 124, 3) := by decide +kernel
theorem dX12_readsLine_28 : decode cX12_readsLine 28 = .ok (.invokevirtual 137, 3) := by decide +kernel
theorem dX12_readsLine_31 : decode cX12_readsLine 31 = .ok (.ireturn, 1) := by decide +kernel
theorem dX12_readsLine_32 : decode cX12_readsLine 32 = .ok (.aload_n 0, 1) := by decide +kernel
theorem dX12_readsLine_33 : decode cX12_readsLine 33 = .ok (.getfield 262, 3) := by decide +kernel
theorem dX12_readsLine_36 : decode cX12_readsLine 36 = .ok (.bipush 20, 2) := by decide +kernel
theorem dX12_readsLine_38 : decode cX12_readsLine 38 = .ok (.if_icmp .ne 13, 3) := by decide +kernel
theorem dX12_readsLine_41 : decode cX12_readsLine 41 = .ok (.aload_n 0, 1) := by decide +kernel
theorem dX12_readsLine_42 : decode cX12_readsLine 42 = .ok (.iconst 4, 1) := by decide +kernel
theorem dX12_readsLine_43 : decode cX12_readsLine 43 = .ok (.aload_n 0, 1) := by decide +kernel
theorem dX12_readsLine_44 : decode cX12_readsLine 44 = .ok (.getfield 124, 3) := by decide +kernel
theorem dX12_readsLine_47 : decode cX12_readsLine 47 = .ok (.invokevirtual 137, 3) := by decide +kernel
theorem dX12_readsLine_50 : decode cX12_readsLine 50 = .ok (.ireturn, 1) := by decide +kernel
theorem dX12_readsLine_51 : decode cX12_readsLine 51 = .ok (.aload_n 0, 1) := by decide +kernel
theorem dX12_readsLine_52 : decode cX12_readsLine 52 = .ok (.aload_n 0, 1) := by decide +kernel
theorem dX12_readsLine_53 : decode cX12_readsLine 53 = .ok (.getfield 262, 3) := by decide +kernel
theorem dX12_readsLine_56 : decode cX12_readsLine 56 = .ok (.iconst 1, 1) := by decide +kernel
theorem dX12_readsLine_57 : decode cX12_readsLine 57 = .ok (.iadd, 1) := by decide +kernel
theorem dX12_readsLine_58 : decode cX12_readsLine 58 = .ok (.putfield 262, 3) := by decide +kernel
theorem dX12_readsLine_61 : decode cX12_readsLine 61 = .ok (.iload_n 1, 1) := by decide +kernel
theorem dX12_readsLine_62 : decode cX12_readsLine 62 = .ok (.bipush 35, 2) := by decide +kernel
theorem dX12_readsLine_64 : decode cX12_readsLine 64 = .ok (.if_icmp .ne 10, 3) := by decide +kernel
theorem dX12_readsLine_67 : decode cX12_readsLine 67 = .ok (.aload_n 0, 1) := by decide +kernel
theorem dX12_readsLine_68 : decode cX12_readsLine 68 = .ok (.invokevirtual 265, 3) := by decide +kernel
theorem dX12_readsLine_71 : decode cX12_readsLine 71 = .ok (.goto 11, 3) := by decide +kernel
theorem dX12_readsLine_74 : decode cX12_readsLine 74 = .ok (.aload_n 0, 1) := by decide +kernel
theorem dX12_readsLine_75 : decode cX12_readsLine 75 = .ok (.iload_n 1, 1) := by decide +kernel
theorem dX12_readsLine_76 : decode cX12_readsLine 76 = .ok (.bipush 48, 2) := by decide +kernel
theorem dX12_readsLine_78 : decode cX12_readsLine 78 = .ok (.isub, 1) := by decide +kernel
theorem dX12_readsLine_79 : decode cX12_readsLine 79 = .ok (.invokevirtual 268, 3) := by decide +kernel
theorem dX12_readsLine_82 : decode cX12_readsLine 82 = .ok (.ireturn, 1) := by decide +kernel
theorem dX12_post_0 : decode cX12_post 0 = .ok (.iload_n 1, 1) := by decide +kernel
theorem dX12_post_1 : decode cX12_post 1 = .ok (.iconst 1, 1) := by decide +kernel
theorem dX12_post_2 : decode cX12_post 2 = .ok (.bipush 120, 2) := by decide +kernel
theorem dX12_post_4 : decode cX12_post 4 = .ok (.invokestatic 105, 3) := by decide +kernel
theorem dX12_post_7 : decode cX12_post 7 = .ok (.ifCond .eq 11, 3) := by decide +kernel
theorem dX12_post_10 : decode cX12_post 10 = .ok (.iload_n 1, 1) := by decide +kernel
theorem dX12_post_11 : decode cX12_post 11 = .ok (.aload_n 0, 1) := by decide +kernel
theorem dX12_post_12 : decode cX12_post 12 = .ok (.getfield 117, 3) := by decide +kernel
theorem dX12_post_15 : decode cX12_post 15 = .ok (.if_icmp .le 5, 3) := by decide +kernel
theorem dX12_post_18 : decode cX12_post 18 = .ok (.iconst (-1), 1) := by decide +kernel
theorem dX12_post_19 : decode cX12_post 19 = .ok (.ireturn, 1) := by decide +kernel
theorem dX12_post_20 : decode cX12_post 20 = .ok (.aload_n 0, 1) := by decide +kernel
theorem dX12_post_21 : decode cX12_post 21 = .ok (.iload_n 1, 1) := by decide +kernel
theorem dX12_post_22 : decode cX12_post 22 = .ok (.invokevirtual 209, 3) := by decide +kernel
theorem dX12_post_25 : decode cX12_post 25 = .ok (.aload_n 0, 1) := by decide +kernel
theorem dX12_post_26 : decode cX12_post 26 = .ok (.iconst 0, 1) := by decide +kernel
theorem dX12_post_27 : decode cX12_post 27 = .ok (.putfield 262, 3) := by decide +kernel
theorem dX12_post_30 : decode cX12_post 30 = .ok (.aload_n 0, 1) := by decide +kernel
theorem dX12_post_31 : decode cX12_post 31 = .ok (.getfield 7, 3) := by decide +kernel
theorem dX12_post_34 : decode cX12_post 34 = .ok (.aload_n 0, 1) := by decide +kernel
theorem dX12_post_35 : decode cX12_post 35 = .ok (.getfield 13, 3) := by decide +kernel
theorem dX12_post_38 : decode cX12_post 38 = .ok (.invokestatic 271, 3) := by decide +kernel
theorem dX12_post_41 : decode cX12_post 41 = .ok (.iconst 0, 1) := by decide +kernel
theorem dX12_post_42 : decode cX12_post 42 = .ok (.istore_n 2, 1) := by decide +kernel
theorem dX12_post_43 : decode cX12_post 43 = .ok (.iload_n 2, 1) := by decide +kernel
theorem dX12_post_44 : decode cX12_post 44 = .ok (.sipush 384, 3) := by decide +kernel
theorem dX12_post_47 : decode cX12_post 47 = .ok (.if_icmp .ge 21, 3) := by decide +kernel
theorem dX12_post_50 : decode cX12_post 50 = .ok (.aload_n 0, 1) := by decide +kernel
theorem dX12_post_51 : decode cX12_post 51 = .ok (.getfield 32, 3) := by decide +kernel
theorem dX12_post_54 : decode cX12_post 54 = .ok (.iload_n 2, 1) := by decide +kernel
theorem dX12_post_55 : decode cX12_post 55 = .ok (.aload_n 0, 1) := by decide +kernel
theorem dX12_post_56 : decode cX12_post 56 = .ok (.getfield 28, 3) := by decide +kernel
theorem dX12_post_59 : decode cX12_post 59 = .ok (.iload_n 2, 1) := by decide +kernel
theorem dX12_post_60 : decode cX12_post 60 = .ok (.baload, 1) := by decide +kernel
theorem dX12_post_61 : decode cX12_post 61 = .ok (.bastore, 1) := by decide +kernel
theorem dX12_post_62 : decode cX12_post 62 = .ok (.iinc 2 1, 3) := by decide +kernel
theorem dX12_post_65 : decode cX12_post 65 = .ok (.goto (-22), 3) := by decide +kernel
theorem dX12_post_68 : decode cX12_post 68 = .ok (.aload_n 0, 1) := by decide +kernel
theorem dX12_post_69 : decode cX12_post 69 = .ok (.invokevirtual 275, 3) := by decide +kernel
theorem dX12_post_72 : decode cX12_post 72 = .ok (.istore_n 2, 1) := by decide +kernel
theorem dX12_post_73 : decode cX12_post 73 = .ok (.iload_n 2, 1) := by decide +kernel
theorem dX12_post_74 : decode cX12_post 74 = .ok (.ifCond .eq 39, 3) := by decide +kernel
theorem dX12_post_77 : decode cX12_post 77 = .ok (.aload_n 0, 1) := by decide +kernel
theorem dX12_post_78 : decode cX12_post 78 = .ok (.getfield 124, 3) := by decide +kernel
theorem dX12_post_81 : decode cX12_post 81 = .ok (.aload_n 0, 1) := by decide +kernel
theorem dX12_post_82 : decode cX12_post 82 = .ok (.getfield 127, 3) := by decide +kernel
theorem dX12_post_85 : decode cX12_post 85 = .ok (.if_icmp .ge 28, 3) := by decide +kernel
theorem dX12_post_88 : decode cX12_post 88 = .ok (.aload_n 0, 1) := by decide +kernel
theorem dX12_post_89 : decode cX12_post 89 = .ok (.bipush 59, 2) := by decide +kernel
theorem dX12_post_91 : decode cX12_post 91 = .ok (.invokevirtual 215, 3) := by decide +kernel
theorem dX12_post_94 : decode cX12_post 94 = .ok (.ifCond .eq 14, 3) := by decide +kernel
theorem dX12_post_97 : decode cX12_post 97 = .ok (.aload_n 0, 1) := by decide +kernel
theorem dX12_post_98 : decode cX12_post 98 = .ok (.invokevirtual 275, 3) := by decide +kernel
theorem dX12_post_101 : decode cX12_post 101 = .ok (.ifCond .eq 7, 3) := by decide +kernel
theorem dX12_post_104 : decode cX12_post 104 = .ok (.iconst 1, 1) := by decide +kernel
theorem dX12_post_105 : decode cX12_post 105 = .ok (.goto 4, 3) := by decide +kernel
theorem dX12_post_108 : decode cX12_post 108 = .ok (.iconst 0, 1) := by decide +kernel
theorem dX12_post_109 : decode cX12_post 109 = .ok (.istore_n 2, 1) := by decide +kernel
theorem dX12_post_110 : decode cX12_post 110 = .ok (.goto (-37), 3) := by decide +kernel
theorem dX12_post_113 : decode cX12_post 113 = .ok (.aload_n 0, 1) := by decide +kernel
theorem dX12_post_114 : decode cX12_post 114 = .ok (.iconst 0, 1) := by decide +kernel
theorem dX12_post_115 : decode cX12_post 115 = .ok (.putfield 117, 3) := by decide +kernel
theorem dX12_post_118 : decode cX12_post 118 = .ok (.iload_n 2, 1) := by decide +kernel
theorem dX12_post_119 : decode cX12_post 119 = .ok (.ifCond .eq 8, 3) := by decide +kernel
theorem dX12_post_122 : decode cX12_post 122 = .ok (.aload_n 0, 1) := by decide +kernel
theorem dX12_post_123 : decode cX12_post 123 = .ok (.getfield 262, 3) := by decide +kernel
theorem dX12_post_126 : decode cX12_post 126 = .ok (.ireturn, 1) := by decide +kernel
theorem dX12_post_127 : decode cX12_post 127 = .ok (.aload_n 0, 1) := by decide +kernel
theorem dX12_post_128 : decode cX12_post 128 = .ok (.getfield 13, 3) := by decide +kernel
theorem dX12_post_131 : decode cX12_post 131 = .ok (.aload_n 0, 1) := by decide +kernel
theorem dX12_post_132 : decode cX12_post 132 = .ok (.getfield 7, 3) := by decide +kernel
theorem dX12_post_135 : decode cX12_post 135 = .ok (.invokestatic 271, 3) := by decide +kernel
theorem dX12_post_138 : decode cX12_post 138 = .ok (.iconst 0, 1) := by decide +kernel
theorem dX12_post_139 : decode cX12_post 139 = .ok (.istore_n 3, 1) := by decide +kernel
theorem dX12_post_140 : decode cX12_post 140 = .ok (.iload_n 3, 1) := by decide +kernel
theorem dX12_post_141 : decode cX12_post 141 = .ok (.sipush 384, 3) := by decide +kernel
theorem dX12_post_144 : decode cX12_post 144 = .ok (.if_icmp .ge 21, 3) := by decide +kernel
theorem dX12_post_147 : decode cX12_post 147 = .ok (.aload_n 0, 1) := by decide +kernel
theorem dX12_post_148 : decode cX12_post 148 = .ok (.getfield 28, 3) := by decide +kernel
theorem dX12_post_151 : decode cX12_post 151 = .ok (.iload_n 3, 1) := by decide +kernel
theorem dX12_post_152 : decode cX12_post 152 = .ok (.aload_n 0, 1) := by decide +kernel
theorem dX12_post_153 : decode cX12_post 153 = .ok (.getfield 32, 3) := by decide +kernel
theorem dX12_post_156 : decode cX12_post 156 = .ok (.iload_n 3, 1) := by decide +kernel
theorem dX12_post_157 : decode cX12_post 157 = .ok (.baload, 1) := by decide +kernel
theorem dX12_post_158 : decode cX12_post 158 = .ok (.bastore, 1) := by decide +kernel
theorem dX12_post_159 : decode cX12_post 159 = .ok (.iinc 3 1, 3) := by decide +kernel
theorem dX12_post_162 : decode cX12_post 162 = .ok (.goto (-22), 3) := by decide +kernel
theorem dX12_post_165 : decode cX12_post 165 = .ok (.aload_n 0, 1) := by decide +kernel
theorem dX12_post_166 : decode cX12_post 166 = .ok (.getfield 134, 3) := by decide +kernel
theorem dX12_post_169 : decode cX12_post 169 = .ok (.ireturn, 1) := by decide +kernel
theorem dX12_acrossTo_0 : decode cX12_acrossTo 0 = .ok (.iload_n 1, 1) := by decide +kernel
theorem dX12_acrossTo_1 : decode cX12_acrossTo 1 = .ok (.bipush 24, 2) := by decide +kernel
theorem dX12_acrossTo_3 : decode cX12_acrossTo 3 = .ok (.irem, 1) := by decide +kernel
theorem dX12_acrossTo_4 : decode cX12_acrossTo 4 = .ok (.iload_n 0, 1) := by decide +kernel
theorem dX12_acrossTo_5 : decode cX12_acrossTo 5 = .ok (.bipush 24, 2) := by decide +kernel
theorem dX12_acrossTo_7 : decode cX12_acrossTo 7 = .ok (.irem, 1) := by decide +kernel
theorem dX12_acrossTo_8 : decode cX12_acrossTo 8 = .ok (.isub, 1) := by decide +kernel
theorem dX12_acrossTo_9 : decode cX12_acrossTo 9 = .ok (.invokestatic 278, 3) := by decide +kernel
theorem dX12_acrossTo_12 : decode cX12_acrossTo 12 = .ok (.ireturn, 1) := by decide +kernel
theorem dX12_alongTo_0 : decode cX12_alongTo 0 = .ok (.iload_n 1, 1) := by decide +kernel
theorem dX12_alongTo_1 : decode cX12_alongTo 1 = .ok (.bipush 24, 2) := by decide +kernel
theorem dX12_alongTo_3 : decode cX12_alongTo 3 = .ok (.idiv, 1) := by decide +kernel
theorem dX12_alongTo_4 : decode cX12_alongTo 4 = .ok (.iload_n 0, 1) := by decide +kernel
theorem dX12_alongTo_5 : decode cX12_alongTo 5 = .ok (.bipush 24, 2) := by decide +kernel
theorem dX12_alongTo_7 : decode cX12_alongTo 7 = .ok (.idiv, 1) := by decide +kernel
theorem dX12_alongTo_8 : decode cX12_alongTo 8 = .ok (.isub, 1) := by decide +kernel
theorem dX12_alongTo_9 : decode cX12_alongTo 9 = .ok (.invokestatic 278, 3) := by decide +kernel
theorem dX12_alongTo_12 : decode cX12_alongTo 12 = .ok (.ireturn, 1) := by decide +kernel
theorem dX12_stepFrom_0 : decode cX12_stepFrom 0 = .ok (.iload_n 1, 1) := by decide +kernel
theorem dX12_stepFrom_1 : decode cX12_stepFrom 1 = .ok (.invokestatic 281, 3) := by decide +kernel
theorem dX12_stepFrom_4 : decode cX12_stepFrom 4 = .ok (.iload_n 2, 1) := by decide +kernel
theorem dX12_stepFrom_5 : decode cX12_stepFrom 5 = .ok (.invokestatic 281, 3) := by decide +kernel
theorem dX12_stepFrom_8 : decode cX12_stepFrom 8 = .ok (.invokestatic 284, 3) := by decide +kernel
theorem dX12_stepFrom_11 : decode cX12_stepFrom 11 = .ok (.iload_n 3, 1) := by decide +kernel
theorem dX12_stepFrom_12 : decode cX12_stepFrom 12 = .ok (.if_icmp .gt 5, 3) := by decide +kernel
theorem dX12_stepFrom_15 : decode cX12_stepFrom 15 = .ok (.iload_n 0, 1) := by decide +kernel
theorem dX12_stepFrom_16 : decode cX12_stepFrom 16 = .ok (.ireturn, 1) := by decide +kernel
theorem dX12_stepFrom_17 : decode cX12_stepFrom 17 = .ok (.iload_n 1, 1) := by decide +kernel
theorem dX12_stepFrom_18 : decode cX12_stepFrom 18 = .ok (.invokestatic 281, 3) := by decide +kernel
theorem dX12_stepFrom_21 : decode cX12_stepFrom 21 = .ok (.iload_n 2, 1) := by decide +kernel
theorem dX12_stepFrom_22 : decode cX12_stepFrom 22 = .ok (.invokestatic 281, 3) := by decide +kernel
theorem dX12_stepFrom_25 : decode cX12_stepFrom 25 = .ok (.if_icmp .lt 12, 3) := by decide +kernel
theorem dX12_stepFrom_28 : decode cX12_stepFrom 28 = .ok (.iload_n 0, 1) := by decide +kernel
theorem dX12_stepFrom_29 : decode cX12_stepFrom 29 = .ok (.iload_n 1, 1) := by decide +kernel
theorem dX12_stepFrom_30 : decode cX12_stepFrom 30 = .ok (.invokestatic 278, 3) := by decide +kernel
theorem dX12_stepFrom_33 : decode cX12_stepFrom 33 = .ok (.iadd, 1) := by decide +kernel
theorem dX12_stepFrom_34 : decode cX12_stepFrom 34 = .ok (.goto 12, 3) := by decide +kernel
theorem dX12_stepFrom_37 : decode cX12_stepFrom 37 = .ok (.iload_n 0, 1) := by decide +kernel
theorem dX12_stepFrom_38 : decode cX12_stepFrom 38 = .ok (.bipush 24, 2) := by decide +kernel
theorem dX12_stepFrom_40 : decode cX12_stepFrom 40 = .ok (.iload_n 2, 1) := by decide +kernel
theorem dX12_stepFrom_41 : decode cX12_stepFrom 41 = .ok (.invokestatic 278, 3) := by decide +kernel
theorem dX12_stepFrom_44 : decode cX12_stepFrom 44 = .ok (.imul, 1) := by decide +kernel
theorem dX12_stepFrom_45 : decode cX12_stepFrom 45 = .ok (.iadd, 1) := by decide +kernel
theorem dX12_stepFrom_46 : decode cX12_stepFrom 46 = .ok (.ireturn, 1) := by decide +kernel
theorem dX12_stampsOn_0 : decode cX12_stampsOn 0 = .ok (.iconst 0, 1) := by decide +kernel
theorem dX12_stampsOn_1 : decode cX12_stampsOn 1 = .ok (.istore_n 2, 1) := by decide +kernel
theorem dX12_stampsOn_2 : decode cX12_stampsOn 2 = .ok (.iconst 0, 1) := by decide +kernel
theorem dX12_stampsOn_3 : decode cX12_stampsOn 3 = .ok (.istore_n 3, 1) := by decide +kernel
theorem dX12_stampsOn_4 : decode cX12_stampsOn 4 = .ok (.iload_n 3, 1) := by decide +kernel
theorem dX12_stampsOn_5 : decode cX12_stampsOn 5 = .ok (.bipush 48, 2) := by decide +kernel
theorem dX12_stampsOn_7 : decode cX12_stampsOn 7 = .ok (.if_icmp .ge 22, 3) := by decide +kernel
theorem dX12_stampsOn_10 : decode cX12_stampsOn 10 = .ok (.aload_n 0, 1) := by decide +kernel
theorem dX12_stampsOn_11 : decode cX12_stampsOn 11 = .ok (.iload_n 3, 1) := by decide +kernel
theorem dX12_stampsOn_12 : decode cX12_stampsOn 12 = .ok (.iload_n 1, 1) := by decide +kernel
theorem dX12_stampsOn_13 : decode cX12_stampsOn 13 = .ok (.invokevirtual 287, 3) := by decide +kernel
theorem dX12_stampsOn_16 : decode cX12_stampsOn 16 = .ok (.ifCond .eq 7, 3) := by decide +kernel
theorem dX12_stampsOn_19 : decode cX12_stampsOn 19 = .ok (.iload_n 2, 1) := by decide +kernel
theorem dX12_stampsOn_20 : decode cX12_stampsOn 20 = .ok (.iconst 1, 1) := by decide +kernel
theorem dX12_stampsOn_21 : decode cX12_stampsOn 21 = .ok (.iadd, 1) := by decide +kernel
theorem dX12_stampsOn_22 : decode cX12_stampsOn 22 = .ok (.istore_n 2, 1) := by decide +kernel
theorem dX12_stampsOn_23 : decode cX12_stampsOn 23 = .ok (.iinc 3 1, 3) := by decide +kernel
theorem dX12_stampsOn_26 : decode cX12_stampsOn 26 = .ok (.goto (-22), 3) := by decide +kernel
theorem dX12_stampsOn_29 : decode cX12_stampsOn 29 = .ok (.iload_n 2, 1) := by decide +kernel
theorem dX12_stampsOn_30 : decode cX12_stampsOn 30 = .ok (.ireturn, 1) := by decide +kernel
theorem dX12_feels_0 : decode cX12_feels 0 = .ok (.aload_n 0, 1) := by decide +kernel
theorem dX12_feels_1 : decode cX12_feels 1 = .ok (.getfield 19, 3) := by decide +kernel
theorem dX12_feels_4 : decode cX12_feels 4 = .ok (.aload_n 0, 1) := by decide +kernel
theorem dX12_feels_5 : decode cX12_feels 5 = .ok (.getfield 22, 3) := by decide +kernel
theorem dX12_feels_8 : decode cX12_feels 8 = .ok (.iload_n 1, 1) := by decide +kernel
theorem dX12_feels_9 : decode cX12_feels 9 = .ok (.iaload, 1) := by decide +kernel
theorem dX12_feels_10 : decode cX12_feels 10 = .ok (.iaload, 1) := by decide +kernel
theorem dX12_feels_11 : decode cX12_feels 11 = .ok (.istore 4, 2) := by decide +kernel
theorem dX12_feels_13 : decode cX12_feels 13 = .ok (.aload_n 0, 1) := by decide +kernel
theorem dX12_feels_14 : decode cX12_feels 14 = .ok (.getfield 7, 3) := by decide +kernel
theorem dX12_feels_17 : decode cX12_feels 17 = .ok (.bipush 8, 2) := by decide +kernel
theorem dX12_feels_19 : decode cX12_feels 19 = .ok (.iload_n 2, 1) := by decide +kernel
theorem dX12_feels_20 : decode cX12_feels 20 = .ok (.iadd, 1) := by decide +kernel
theorem dX12_feels_21 : decode cX12_feels 21 = .ok (.iaload, 1) := by decide +kernel
theorem dX12_feels_22 : decode cX12_feels 22 = .ok (.istore 5, 2) := by decide +kernel
theorem dX12_feels_24 : decode cX12_feels 24 = .ok (.aload_n 0, 1) := by decide +kernel
theorem dX12_feels_25 : decode cX12_feels 25 = .ok (.getfield 75, 3) := by decide +kernel
theorem dX12_feels_28 : decode cX12_feels 28 = .ok (.iconst 0, 1) := by decide +kernel
theorem dX12_feels_29 : decode cX12_feels 29 = .ok (.iload_n 1, 1) := by decide +kernel
theorem dX12_feels_30 : decode cX12_feels 30 = .ok (.iastore, 1) := by decide +kernel
theorem dX12_feels_31 : decode cX12_feels 31 = .ok (.aload_n 0, 1) := by decide +kernel
theorem dX12_feels_32 : decode cX12_feels 32 = .ok (.getfield 75, 3) := by decide +kernel
theorem dX12_feels_35 : decode cX12_feels 35 = .ok (.iconst 1, 1) := by decide +kernel
theorem dX12_feels_36 : decode cX12_feels 36 = .ok (.aload_n 0, 1) := by decide +kernel
theorem dX12_feels_37 : decode cX12_feels 37 = .ok (.getfield 22, 3) := by decide +kernel
theorem dX12_feels_40 : decode cX12_feels 40 = .ok (.iload_n 1, 1) := by decide +kernel
theorem dX12_feels_41 : decode cX12_feels 41 = .ok (.iaload, 1) := by decide +kernel
theorem dX12_feels_42 : decode cX12_feels 42 = .ok (.iastore, 1) := by decide +kernel
theorem dX12_feels_43 : decode cX12_feels 43 = .ok (.aload_n 0, 1) := by decide +kernel
theorem dX12_feels_44 : decode cX12_feels 44 = .ok (.getfield 75, 3) := by decide +kernel
theorem dX12_feels_47 : decode cX12_feels 47 = .ok (.iconst 2, 1) := by decide +kernel
theorem dX12_feels_48 : decode cX12_feels 48 = .ok (.aload_n 0, 1) := by decide +kernel
theorem dX12_feels_49 : decode cX12_feels 49 = .ok (.getfield 25, 3) := by decide +kernel
theorem dX12_feels_52 : decode cX12_feels 52 = .ok (.iload_n 1, 1) := by decide +kernel
theorem dX12_feels_53 : decode cX12_feels 53 = .ok (.iaload, 1) := by decide +kernel
theorem dX12_feels_54 : decode cX12_feels 54 = .ok (.iastore, 1) := by decide +kernel
theorem dX12_feels_55 : decode cX12_feels 55 = .ok (.aload_n 0, 1) := by decide +kernel
theorem dX12_feels_56 : decode cX12_feels 56 = .ok (.getfield 75, 3) := by decide +kernel
theorem dX12_feels_59 : decode cX12_feels 59 = .ok (.iconst 3, 1) := by decide +kernel
theorem dX12_feels_60 : decode cX12_feels 60 = .ok (.aload_n 0, 1) := by decide +kernel
theorem dX12_feels_61 : decode cX12_feels 61 = .ok (.getfield 7, 3) := by decide +kernel
theorem dX12_feels_64 : decode cX12_feels 64 = .ok (.bipush 80, 2) := by decide +kernel
theorem dX12_feels_66 : decode cX12_feels 66 = .ok (.iload_n 1, 1) := by decide +kernel
theorem dX12_feels_67 : decode cX12_feels 67 = .ok (.iadd, 1) := by decide +kernel
theorem dX12_feels_68 : decode cX12_feels 68 = .ok (.iaload, 1) := by decide +kernel
theorem dX12_feels_69 : decode cX12_feels 69 = .ok (.iastore, 1) := by decide +kernel
theorem dX12_feels_70 : decode cX12_feels 70 = .ok (.aload_n 0, 1) := by decide +kernel
theorem dX12_feels_71 : decode cX12_feels 71 = .ok (.getfield 75, 3) := by decide +kernel
theorem dX12_feels_74 : decode cX12_feels 74 = .ok (.iconst 4, 1) := by decide +kernel
theorem dX12_feels_75 : decode cX12_feels 75 = .ok (.iload 4, 2) := by decide +kernel
theorem dX12_feels_77 : decode cX12_feels 77 = .ok (.bipush 24, 2) := by decide +kernel
theorem dX12_feels_79 : decode cX12_feels 79 = .ok (.irem, 1) := by decide +kernel
theorem dX12_feels_80 : decode cX12_feels 80 = .ok (.iload 5, 2) := by decide +kernel
theorem dX12_feels_82 : decode cX12_feels 82 = .ok (.bipush 24, 2) := by decide +kernel
theorem dX12_feels_84 : decode cX12_feels 84 = .ok (.irem, 1) := by decide +kernel
theorem dX12_feels_85 : decode cX12_feels 85 = .ok (.isub, 1) := by decide +kernel
theorem dX12_feels_86 : decode cX12_feels 86 = .ok (.invokestatic 281, 3) := by decide +kernel
theorem dX12_feels_89 : decode cX12_feels 89 = .ok (.iload 4, 2) := by decide +kernel
theorem dX12_feels_91 : decode cX12_feels 91 = .ok (.bipush 24, 2) := by decide +kernel
theorem dX12_feels_93 : decode cX12_feels 93 = .ok (.idiv, 1) := by decide +kernel
theorem dX12_feels_94 : decode cX12_feels 94 = .ok (.iload 5, 2) := by decide +kernel
theorem dX12_feels_96 : decode cX12_feels 96 = .ok (.bipush 24, 2) := by decide +kernel
theorem dX12_feels_98 : decode cX12_feels 98 = .ok (.idiv, 1) := by decide +kernel
theorem dX12_feels_99 : decode cX12_feels 99 = .ok (.isub, 1) := by decide +kernel
theorem dX12_feels_100 : decode cX12_feels 100 = .ok (.invokestatic 281, 3) := by decide +kernel
theorem dX12_feels_103 : decode cX12_feels 103 = .ok (.iadd, 1) := by decide +kernel
theorem dX12_feels_104 : decode cX12_feels 104 = .ok (.iastore, 1) := by decide +kernel
theorem dX12_feels_105 : decode cX12_feels 105 = .ok (.aload_n 0, 1) := by decide +kernel
theorem dX12_feels_106 : decode cX12_feels 106 = .ok (.getfield 75, 3) := by decide +kernel
theorem dX12_feels_109 : decode cX12_feels 109 = .ok (.iconst 5, 1) := by decide +kernel
theorem dX12_feels_110 : decode cX12_feels 110 = .ok (.aload_n 0, 1) := by decide +kernel
theorem dX12_feels_111 : decode cX12_feels 111 = .ok (.iload_n 2, 1) := by decide +kernel
theorem dX12_feels_112 : decode cX12_feels 112 = .ok (.invokevirtual 290, 3) := by decide +kernel
theorem dX12_feels_115 : decode cX12_feels 115 = .ok (.iastore, 1) := by decide +kernel
theorem dX12_feels_116 : decode cX12_feels 116 = .ok (.aload_n 0, 1) := by decide +kernel
theorem dX12_feels_117 : decode cX12_feels 117 = .ok (.getfield 75, 3) := by decide +kernel
theorem dX12_feels_120 : decode cX12_feels 120 = .ok (.bipush 6, 2) := by decide +kernel
theorem dX12_feels_122 : decode cX12_feels 122 = .ok (.iload_n 2, 1) := by decide +kernel
theorem dX12_feels_123 : decode cX12_feels 123 = .ok (.iastore, 1) := by decide +kernel
theorem dX12_feels_124 : decode cX12_feels 124 = .ok (.aload_n 0, 1) := by decide +kernel
theorem dX12_feels_125 : decode cX12_feels 125 = .ok (.getfield 75, 3) := by decide +kernel
theorem dX12_feels_128 : decode cX12_feels 128 = .ok (.bipush 7, 2) := by decide +kernel
theorem dX12_feels_130 : decode cX12_feels 130 = .ok (.aload_n 0, 1) := by decide +kernel
theorem dX12_feels_131 : decode cX12_feels 131 = .ok (.getfield 7, 3) := by decide +kernel
theorem dX12_feels_134 : decode cX12_feels 134 = .ok (.sipush 128, 3) := by decide +kernel
theorem dX12_feels_137 : decode cX12_feels 137 = .ok (.iaload, 1) := by decide +kernel
theorem dX12_feels_138 : decode cX12_feels 138 = .ok (.bipush 100, 2) := by decide +kernel
theorem dX12_feels_140 : decode cX12_feels 140 = .ok (.irem, 1) := by decide +kernel
theorem dX12_feels_141 : decode cX12_feels 141 = .ok (.iastore, 1) := by decide +kernel
theorem dX12_feels_142 : decode cX12_feels 142 = .ok (.aload_n 0, 1) := by decide +kernel
theorem dX12_feels_143 : decode cX12_feels 143 = .ok (.getfield 75, 3) := by decide +kernel
theorem dX12_feels_146 : decode cX12_feels 146 = .ok (.bipush 8, 2) := by decide +kernel
theorem dX12_feels_148 : decode cX12_feels 148 = .ok (.iload_n 3, 1) := by decide +kernel
theorem dX12_feels_149 : decode cX12_feels 149 = .ok (.iastore, 1) := by decide +kernel
theorem dX12_feels_150 : decode cX12_feels 150 = .ok (.return_, 1) := by decide +kernel
theorem dX12_asksStamp_0 : decode cX12_asksStamp 0 = .ok (.aload_n 0, 1) := by decide +kernel
theorem dX12_asksStamp_1 : decode cX12_asksStamp 1 = .ok (.iload_n 1, 1) := by decide +kernel
theorem dX12_asksStamp_2 : decode cX12_asksStamp 2 = .ok (.iload_n 2, 1) := by decide +kernel
theorem dX12_asksStamp_3 : decode cX12_asksStamp 3 = .ok (.iload_n 3, 1) := by decide +kernel
theorem dX12_asksStamp_4 : decode cX12_asksStamp 4 = .ok (.invokevirtual 293, 3) := by decide +kernel
theorem dX12_asksStamp_7 : decode cX12_asksStamp 7 = .ok (.aload_n 0, 1) := by decide +kernel
theorem dX12_asksStamp_8 : decode cX12_asksStamp 8 = .ok (.bipush 120, 2) := by decide +kernel
theorem dX12_asksStamp_10 : decode cX12_asksStamp 10 = .ok (.invokevirtual 297, 3) := by decide +kernel
theorem dX12_asksStamp_13 : decode cX12_asksStamp 13 = .ok (.ifCond .eq 24, 3) := by decide +kernel
theorem dX12_asksStamp_16 : decode cX12_asksStamp 16 = .ok (.aload_n 0, 1) := by decide +kernel
theorem dX12_asksStamp_17 : decode cX12_asksStamp 17 = .ok (.getfield 7, 3) := by decide +kernel
theorem dX12_asksStamp_20 : decode cX12_asksStamp 20 = .ok (.bipush 32, 2) := by decide +kernel
theorem dX12_asksStamp_22 : decode cX12_asksStamp 22 = .ok (.iload_n 1, 1) := by decide +kernel
theorem dX12_asksStamp_23 : decode cX12_asksStamp 23 = .ok (.iadd, 1) := by decide +kernel
theorem dX12_asksStamp_24 : decode cX12_asksStamp 24 = .ok (.iconst (-1), 1) := by decide +kernel
theorem dX12_asksStamp_25 : decode cX12_asksStamp 25 = .ok (.iastore, 1) := by decide +kernel
theorem dX12_asksStamp_26 : decode cX12_asksStamp 26 = .ok (.aload_n 0, 1) := by decide +kernel
theorem dX12_asksStamp_27 : decode cX12_asksStamp 27 = .ok (.aload_n 0, 1) := by decide +kernel
theorem dX12_asksStamp_28 : decode cX12_asksStamp 28 = .ok (.getfield 300, 3) := by decide +kernel
theorem dX12_asksStamp_31 : decode cX12_asksStamp 31 = .ok (.iconst 1, 1) := by decide +kernel
theorem dX12_asksStamp_32 : decode cX12_asksStamp 32 = .ok (.iadd, 1) := by decide +kernel
theorem dX12_asksStamp_33 : decode cX12_asksStamp 33 = .ok (.putfield 300, 3) := by decide +kernel
theorem dX12_asksStamp_36 : decode cX12_asksStamp 36 = .ok (.return_, 1) := by decide +kernel
theorem dX12_asksStamp_37 : decode cX12_asksStamp 37 = .ok (.aload_n 0, 1) := by decide +kernel
theorem dX12_asksStamp_38 : decode cX12_asksStamp 38 = .ok (.bipush 112, 2) := by decide +kernel
theorem dX12_asksStamp_40 : decode cX12_asksStamp 40 = .ok (.bipush 99, 2) := by decide +kernel
theorem dX12_asksStamp_42 : decode cX12_asksStamp 42 = .ok (.invokevirtual 303, 3) := by decide +kernel
theorem dX12_asksStamp_45 : decode cX12_asksStamp 45 = .ok (.istore 4, 2) := by decide +kernel
theorem dX12_asksStamp_47 : decode cX12_asksStamp 47 = .ok (.aload_n 0, 1) := by decide +kernel
theorem dX12_asksStamp_48 : decode cX12_asksStamp 48 = .ok (.getfield 90, 3) := by decide +kernel
theorem dX12_asksStamp_51 : decode cX12_asksStamp 51 = .ok (.iload_n 1, 1) := by decide +kernel
theorem dX12_asksStamp_52 : decode cX12_asksStamp 52 = .ok (.aload_n 0, 1) := by decide +kernel
theorem dX12_asksStamp_53 : decode cX12_asksStamp 53 = .ok (.bipush 104, 2) := by decide +kernel
theorem dX12_asksStamp_55 : decode cX12_asksStamp 55 = .ok (.bipush 99, 2) := by decide +kernel
theorem dX12_asksStamp_57 : decode cX12_asksStamp 57 = .ok (.invokevirtual 303, 3) := by decide +kernel
theorem dX12_asksStamp_60 : decode cX12_asksStamp 60 = .ok (.iastore, 1) := by decide +kernel
theorem dX12_asksStamp_61 : decode cX12_asksStamp 61 = .ok (.aload_n 0, 1) := by decide +kernel
theorem dX12_asksStamp_62 : decode cX12_asksStamp 62 = .ok (.aload_n 0, 1) := by decide +kernel
theorem dX12_asksStamp_63 : decode cX12_asksStamp 63 = .ok (.getfield 306, 3) := by decide +kernel
theorem dX12_asksStamp_66 : decode cX12_asksStamp 66 = .ok (.iload 4, 2) := by decide +kernel
theorem dX12_asksStamp_68 : decode cX12_asksStamp 68 = .ok (.aload_n 0, 1) := by decide +kernel
theorem dX12_asksStamp_69 : decode cX12_asksStamp 69 = .ok (.getfield 7, 3) := by decide +kernel
theorem dX12_asksStamp_72 : decode cX12_asksStamp 72 = .ok (.bipush 8, 2) := by decide +kernel
theorem dX12_asksStamp_74 : decode cX12_asksStamp 74 = .ok (.iload_n 2, 1) := by decide +kernel
theorem dX12_asksStamp_75 : decode cX12_asksStamp 75 = .ok (.iadd, 1) := by decide +kernel
theorem dX12_asksStamp_76 : decode cX12_asksStamp 76 = .ok (.iaload, 1) := by decide +kernel
theorem dX12_asksStamp_77 : decode cX12_asksStamp 77 = .ok (.aload_n 0, 1) := by decide +kernel
theorem dX12_asksStamp_78 : decode cX12_asksStamp 78 = .ok (.getfield 19, 3) := by decide +kernel
theorem dX12_asksStamp_81 : decode cX12_asksStamp 81 = .ok (.aload_n 0, 1) := by decide +kernel
theorem dX12_asksStamp_82 : decode cX12_asksStamp 82 = .ok (.getfield 22, 3) := by decide +kernel
theorem dX12_asksStamp_85 : decode cX12_asksStamp 85 = .ok (.iload_n 1, 1) := by decide +kernel
theorem dX12_asksStamp_86 : decode cX12_asksStamp 86 = .ok (.iaload, 1) := by decide +kernel
theorem dX12_asksStamp_87 : decode cX12_asksStamp 87 = .ok (.iaload, 1) := by decide +kernel
theorem dX12_asksStamp_88 : decode cX12_asksStamp 88 = .ok (.invokestatic 309, 3) := by decide +kernel
theorem dX12_asksStamp_91 : decode cX12_asksStamp 91 = .ok (.imul, 1) := by decide +kernel
theorem dX12_asksStamp_92 : decode cX12_asksStamp 92 = .ok (.iadd, 1) := by decide +kernel
theorem dX12_asksStamp_93 : decode cX12_asksStamp 93 = .ok (.putfield 306, 3) := by decide +kernel
theorem dX12_asksStamp_96 : decode cX12_asksStamp 96 = .ok (.aload_n 0, 1) := by decide +kernel
theorem dX12_asksStamp_97 : decode cX12_asksStamp 97 = .ok (.aload_n 0, 1) := by decide +kernel
theorem dX12_asksStamp_98 : decode cX12_asksStamp 98 = .ok (.getfield 312, 3) := by decide +kernel
theorem dX12_asksStamp_101 : decode cX12_asksStamp 101 = .ok (.iload 4, 2) := by decide +kernel
theorem dX12_asksStamp_103 : decode cX12_asksStamp 103 = .ok (.aload_n 0, 1) := by decide +kernel
theorem dX12_asksStamp_104 : decode cX12_asksStamp 104 = .ok (.getfield 7, 3) := by decide +kernel
theorem dX12_asksStamp_107 : decode cX12_asksStamp 107 = .ok (.bipush 8, 2) := by decide +kernel
theorem dX12_asksStamp_109 : decode cX12_asksStamp 109 = .ok (.iload_n 2, 1) := by decide +kernel
theorem dX12_asksStamp_110 : decode cX12_asksStamp 110 = .ok (.iadd, 1) := by decide +kernel
theorem dX12_asksStamp_111 : decode cX12_asksStamp 111 = .ok (.iaload, 1) := by decide +kernel
theorem dX12_asksStamp_112 : decode cX12_asksStamp 112 = .ok (.aload_n 0, 1) := by decide +kernel
theorem dX12_asksStamp_113 : decode cX12_asksStamp 113 = .ok (.getfield 19, 3) := by decide +kernel
theorem dX12_asksStamp_116 : decode cX12_asksStamp 116 = .ok (.aload_n 0, 1) := by decide +kernel
theorem dX12_asksStamp_117 : decode cX12_asksStamp 117 = .ok (.getfield 22, 3) := by decide +kernel
theorem dX12_asksStamp_120 : decode cX12_asksStamp 120 = .ok (.iload_n 1, 1) := by decide +kernel
theorem dX12_asksStamp_121 : decode cX12_asksStamp 121 = .ok (.iaload, 1) := by decide +kernel
theorem dX12_asksStamp_122 : decode cX12_asksStamp 122 = .ok (.iaload, 1) := by decide +kernel
theorem dX12_asksStamp_123 : decode cX12_asksStamp 123 = .ok (.invokestatic 315, 3) := by decide +kernel
theorem dX12_asksStamp_126 : decode cX12_asksStamp 126 = .ok (.imul, 1) := by decide +kernel
theorem dX12_asksStamp_127 : decode cX12_asksStamp 127 = .ok (.iadd, 1) := by decide +kernel
theorem dX12_asksStamp_128 : decode cX12_asksStamp 128 = .ok (.putfield 312, 3) := by decide +kernel
theorem dX12_asksStamp_131 : decode cX12_asksStamp 131 = .ok (.return_, 1) := by decide +kernel
theorem dX12_letterGoes_0 : decode cX12_letterGoes 0 = .ok (.aload_n 0, 1) := by decide +kernel
theorem dX12_letterGoes_1 : decode cX12_letterGoes 1 = .ok (.getfield 7, 3) := by decide +kernel
theorem dX12_letterGoes_4 : decode cX12_letterGoes 4 = .ok (.sipush 129, 3) := by decide +kernel
theorem dX12_letterGoes_7 : decode cX12_letterGoes 7 = .ok (.sipush 25173, 3) := by decide +kernel
theorem dX12_letterGoes_10 : decode cX12_letterGoes 10 = .ok (.aload_n 0, 1) := by decide +kernel
theorem dX12_letterGoes_11 : decode cX12_letterGoes 11 = .ok (.getfield 7, 3) := by decide +kernel
theorem dX12_letterGoes_14 : decode cX12_letterGoes 14 = .ok (.sipush 129, 3) := by decide +kernel
theorem dX12_letterGoes_17 : decode cX12_letterGoes 17 = .ok (.iaload, 1) := by decide +kernel
theorem dX12_letterGoes_18 : decode cX12_letterGoes 18 = .ok (.imul, 1) := by decide +kernel
theorem dX12_letterGoes_19 : decode cX12_letterGoes 19 = .ok (.sipush 13849, 3) := by decide +kernel
theorem dX12_letterGoes_22 : decode cX12_letterGoes 22 = .ok (.iadd, 1) := by decide +kernel
theorem dX12_letterGoes_23 : decode cX12_letterGoes 23 = .ok (.ldc_w 318, 3) := by decide +kernel
theorem dX12_letterGoes_26 : decode cX12_letterGoes 26 = .ok (.irem, 1) := by decide +kernel
theorem dX12_letterGoes_27 : decode cX12_letterGoes 27 = .ok (.iastore, 1) := by decide +kernel
theorem dX12_letterGoes_28 : decode cX12_letterGoes 28 = .ok (.aload_n 0, 1) := by decide +kernel
theorem dX12_letterGoes_29 : decode cX12_letterGoes 29 = .ok (.getfield 7, 3) := by decide +kernel
theorem dX12_letterGoes_32 : decode cX12_letterGoes 32 = .ok (.sipush 129, 3) := by decide +kernel
theorem dX12_letterGoes_35 : decode cX12_letterGoes 35 = .ok (.iaload, 1) := by decide +kernel
theorem dX12_letterGoes_36 : decode cX12_letterGoes 36 = .ok (.bipush 10, 2) := by decide +kernel
theorem dX12_letterGoes_38 : decode cX12_letterGoes 38 = .ok (.irem, 1) := by decide +kernel
theorem dX12_letterGoes_39 : decode cX12_letterGoes 39 = .ok (.istore_n 2, 1) := by decide +kernel
theorem dX12_letterGoes_40 : decode cX12_letterGoes 40 = .ok (.aload_n 0, 1) := by decide +kernel
theorem dX12_letterGoes_41 : decode cX12_letterGoes 41 = .ok (.iconst 0, 1) := by decide +kernel
theorem dX12_letterGoes_42 : decode cX12_letterGoes 42 = .ok (.putfield 306, 3) := by decide +kernel
theorem dX12_letterGoes_45 : decode cX12_letterGoes 45 = .ok (.aload_n 0, 1) := by decide +kernel
theorem dX12_letterGoes_46 : decode cX12_letterGoes 46 = .ok (.iconst 0, 1) := by decide +kernel
theorem dX12_letterGoes_47 : decode cX12_letterGoes 47 = .ok (.putfield 312, 3) := by decide +kernel
theorem dX12_letterGoes_50 : decode cX12_letterGoes 50 = .ok (.iconst 0, 1) := by decide +kernel
theorem dX12_letterGoes_51 : decode cX12_letterGoes 51 = .ok (.istore_n 3, 1) := by decide +kernel
theorem dX12_letterGoes_52 : decode cX12_letterGoes 52 = .ok (.iload_n 3, 1) := by decide +kernel
theorem dX12_letterGoes_53 : decode cX12_letterGoes 53 = .ok (.bipush 48, 2) := by decide +kernel
theorem dX12_letterGoes_55 : decode cX12_letterGoes 55 = .ok (.if_icmp .ge 47, 3) := by decide +kernel
theorem dX12_letterGoes_58 : decode cX12_letterGoes 58 = .ok (.aload_n 0, 1) := by decide +kernel
theorem dX12_letterGoes_59 : decode cX12_letterGoes 59 = .ok (.getfield 90, 3) := by decide +kernel
theorem dX12_letterGoes_62 : decode cX12_letterGoes 62 = .ok (.iload_n 3, 1) := by decide +kernel
theorem dX12_letterGoes_63 : decode cX12_letterGoes 63 = .ok (.iconst 0, 1) := by decide +kernel
theorem dX12_letterGoes_64 : decode cX12_letterGoes 64 = .ok (.iastore, 1) := by decide +kernel
theorem dX12_letterGoes_65 : decode cX12_letterGoes 65 = .ok (.aload_n 0, 1) := by decide +kernel
theorem dX12_letterGoes_66 : decode cX12_letterGoes 66 = .ok (.iload_n 3, 1) := by decide +kernel
theorem dX12_letterGoes_67 : decode cX12_letterGoes 67 = .ok (.iload_n 1, 1) := by decide +kernel
theorem dX12_letterGoes_68 : decode cX12_letterGoes 68 = .ok (.invokevirtual 287, 3) := by decide +kernel
theorem dX12_letterGoes_71 : decode cX12_letterGoes 71 = .ok (.ifCond .eq 25, 3) := by decide +kernel
theorem dX12_letterGoes_74 : decode cX12_letterGoes 74 = .ok (.aload_n 0, 1) := by decide +kernel
theorem dX12_letterGoes_75 : decode cX12_letterGoes 75 = .ok (.getfield 19, 3) := by decide +kernel
theorem dX12_letterGoes_78 : decode cX12_letterGoes 78 = .ok (.aload_n 0, 1) := by decide +kernel
theorem dX12_letterGoes_79 : decode cX12_letterGoes 79 = .ok (.getfield 22, 3) := by decide +kernel
theorem dX12_letterGoes_82 : decode cX12_letterGoes 82 = .ok (.iload_n 3, 1) := by decide +kernel
theorem dX12_letterGoes_83 : decode cX12_letterGoes 83 = .ok (.iaload, 1) := by decide +kernel
theorem dX12_letterGoes_84 : decode cX12_letterGoes 84 = .ok (.iaload, 1) := by decide +kernel
theorem dX12_letterGoes_85 : decode cX12_letterGoes 85 = .ok (.iconst (-1), 1) := by decide +kernel
theorem dX12_letterGoes_86 : decode cX12_letterGoes 86 = .ok (.if_icmp .eq 10, 3) := by decide +kernel
theorem dX12_letterGoes_89 : decode cX12_letterGoes 89 = .ok (.aload_n 0, 1) := by decide +kernel
theorem dX12_letterGoes_90 : decode cX12_letterGoes 90 = .ok (.iload_n 3, 1) := by decide +kernel
theorem dX12_letterGoes_91 : decode cX12_letterGoes 91 = .ok (.iload_n 1, 1) := by decide +kernel
theorem dX12_letterGoes_92 : decode cX12_letterGoes 92 = .ok (.iload_n 2, 1) := by decide +kernel
theorem dX12_letterGoes_93 : decode cX12_letterGoes 93 = .ok (.invokevirtual 319, 3) := by decide +kernel
theorem dX12_letterGoes_96 : decode cX12_letterGoes 96 = .ok (.iinc 3 1, 3) := by decide +kernel
theorem dX12_letterGoes_99 : decode cX12_letterGoes 99 = .ok (.goto (-47), 3) := by decide +kernel
theorem dX12_letterGoes_102 : decode cX12_letterGoes 102 = .ok (.aload_n 0, 1) := by decide +kernel
theorem dX12_letterGoes_103 : decode cX12_letterGoes 103 = .ok (.getfield 7, 3) := by decide +kernel
theorem dX12_letterGoes_106 : decode cX12_letterGoes 106 = .ok (.bipush 8, 2) := by decide +kernel
theorem dX12_letterGoes_108 : decode cX12_letterGoes 108 = .ok (.iload_n 1, 1) := by decide +kernel
theorem dX12_letterGoes_109 : decode cX12_letterGoes 109 = .ok (.iadd, 1) := by decide +kernel
theorem dX12_letterGoes_110 : decode cX12_letterGoes 110 = .ok (.iaload, 1) := by decide +kernel
theorem dX12_letterGoes_111 : decode cX12_letterGoes 111 = .ok (.aload_n 0, 1) := by decide +kernel
theorem dX12_letterGoes_112 : decode cX12_letterGoes 112 = .ok (.getfield 306, 3) := by decide +kernel
theorem dX12_letterGoes_115 : decode cX12_letterGoes 115 = .ok (.aload_n 0, 1) := by decide +kernel
theorem dX12_letterGoes_116 : decode cX12_letterGoes 116 = .ok (.getfield 312, 3) := by decide +kernel
theorem dX12_letterGoes_119 : decode cX12_letterGoes 119 = .ok (.aload_n 0, 1) := by decide +kernel
theorem dX12_letterGoes_120 : decode cX12_letterGoes 120 = .ok (.getfield 7, 3) := by decide +kernel
theorem dX12_letterGoes_123 : decode cX12_letterGoes 123 = .ok (.bipush 16, 2) := by decide +kernel
theorem dX12_letterGoes_125 : decode cX12_letterGoes 125 = .ok (.iload_n 1, 1) := by decide +kernel
theorem dX12_letterGoes_126 : decode cX12_letterGoes 126 = .ok (.iadd, 1) := by decide +kernel
theorem dX12_letterGoes_127 : decode cX12_letterGoes 127 = .ok (.iaload, 1) := by decide +kernel
theorem dX12_letterGoes_128 : decode cX12_letterGoes 128 = .ok (.invokestatic 322, 3) := by decide +kernel
theorem dX12_letterGoes_131 : decode cX12_letterGoes 131 = .ok (.istore_n 3, 1) := by decide +kernel
theorem dX12_letterGoes_132 : decode cX12_letterGoes 132 = .ok (.aload_n 0, 1) := by decide +kernel
theorem dX12_letterGoes_133 : decode cX12_letterGoes 133 = .ok (.getfield 7, 3) := by decide +kernel
theorem dX12_letterGoes_136 : decode cX12_letterGoes 136 = .ok (.bipush 24, 2) := by decide +kernel
theorem dX12_letterGoes_138 : decode cX12_letterGoes 138 = .ok (.iload_n 1, 1) := by decide +kernel
theorem dX12_letterGoes_139 : decode cX12_letterGoes 139 = .ok (.iadd, 1) := by decide +kernel
theorem dX12_letterGoes_140 : decode cX12_letterGoes 140 = .ok (.iaload, 1) := by decide +kernel
theorem dX12_letterGoes_141 : decode cX12_letterGoes 141 = .ok (.ifCond .ne 58, 3) := by decide +kernel
theorem dX12_letterGoes_144 : decode cX12_letterGoes 144 = .ok (.iload_n 3, 1) := by decide +kernel
theorem dX12_letterGoes_145 : decode cX12_letterGoes 145 = .ok (.aload_n 0, 1) := by decide +kernel
theorem dX12_letterGoes_146 : decode cX12_letterGoes 146 = .ok (.getfield 7, 3) := by decide +kernel
theorem dX12_letterGoes_149 : decode cX12_letterGoes 149 = .ok (.bipush 8, 2) := by decide +kernel
theorem dX12_letterGoes_151 : decode cX12_letterGoes 151 = .ok (.iload_n 1, 1) := by decide +kernel
theorem dX12_letterGoes_152 : decode cX12_letterGoes 152 = .ok (.iadd, 1) := by decide +kernel
theorem dX12_letterGoes_153 : decode cX12_letterGoes 153 = .ok (.iaload, 1) := by decide +kernel
theorem dX12_letterGoes_154 : decode cX12_letterGoes 154 = .ok (.if_icmp .eq 45, 3) := by decide +kernel
theorem dX12_letterGoes_157 : decode cX12_letterGoes 157 = .ok (.aload_n 0, 1) := by decide +kernel
theorem dX12_letterGoes_158 : decode cX12_letterGoes 158 = .ok (.getfield 28, 3) := by decide +kernel
theorem dX12_letterGoes_161 : decode cX12_letterGoes 161 = .ok (.iload_n 3, 1) := by decide +kernel
theorem dX12_letterGoes_162 : decode cX12_letterGoes 162 = .ok (.baload, 1) := by decide +kernel
theorem dX12_letterGoes_163 : decode cX12_letterGoes 163 = .ok (.ifCond .eq 16, 3) := by decide +kernel
theorem dX12_letterGoes_166 : decode cX12_letterGoes 166 = .ok (.aload_n 0, 1) := by decide +kernel
theorem dX12_letterGoes_167 : decode cX12_letterGoes 167 = .ok (.getfield 7, 3) := by decide +kernel
theorem dX12_letterGoes_170 : decode cX12_letterGoes 170 = .ok (.bipush 24, 2) := by decide +kernel
theorem dX12_letterGoes_172 : decode cX12_letterGoes 172 = .ok (.iload_n 1, 1) := by decide +kernel
theorem dX12_letterGoes_173 : decode cX12_letterGoes 173 = .ok (.iadd, 1) := by decide +kernel
theorem dX12_letterGoes_174 : decode cX12_letterGoes 174 = .ok (.iconst 1, 1) := by decide +kernel
theorem dX12_letterGoes_175 : decode cX12_letterGoes 175 = .ok (.iastore, 1) := by decide +kernel
theorem dX12_letterGoes_176 : decode cX12_letterGoes 176 = .ok (.goto 23, 3) := by decide +kernel
theorem dX12_letterGoes_179 : decode cX12_letterGoes 179 = .ok (.aload_n 0, 1) := by decide +kernel
theorem dX12_letterGoes_180 : decode cX12_letterGoes 180 = .ok (.getfield 7, 3) := by decide +kernel
theorem dX12_letterGoes_183 : decode cX12_letterGoes 183 = .ok (.bipush 8, 2) := by decide +kernel
theorem dX12_letterGoes_185 : decode cX12_letterGoes 185 = .ok (.iload_n 1, 1) := by decide +kernel
theorem dX12_letterGoes_186 : decode cX12_letterGoes 186 = .ok (.iadd, 1) := by decide +kernel
theorem dX12_letterGoes_187 : decode cX12_letterGoes 187 = .ok (.iload_n 3, 1) := by decide +kernel
theorem dX12_letterGoes_188 : decode cX12_letterGoes 188 = .ok (.iastore, 1) := by decide +kernel
theorem dX12_letterGoes_189 : decode cX12_letterGoes 189 = .ok (.aload_n 0, 1) := by decide +kernel
theorem dX12_letterGoes_190 : decode cX12_letterGoes 190 = .ok (.aload_n 0, 1) := by decide +kernel
theorem dX12_letterGoes_191 : decode cX12_letterGoes 191 = .ok (.getfield 326, 3) := by decide +kernel
theorem dX12_letterGoes_194 : decode cX12_letterGoes 194 = .ok (.iconst 1, 1) := by decide +kernel
theorem dX12_letterGoes_195 : decode cX12_letterGoes 195 = .ok (.iadd, 1) := by decide +kernel
theorem dX12_letterGoes_196 : decode cX12_letterGoes 196 = .ok (.putfield 326, 3) := by decide +kernel
theorem dX12_letterGoes_199 : decode cX12_letterGoes 199 = .ok (.iconst 0, 1) := by decide +kernel
theorem dX12_letterGoes_200 : decode cX12_letterGoes 200 = .ok (.istore 4, 2) := by decide +kernel
theorem dX12_letterGoes_202 : decode cX12_letterGoes 202 = .ok (.iload 4, 2) := by decide +kernel
theorem dX12_letterGoes_204 : decode cX12_letterGoes 204 = .ok (.bipush 48, 2) := by decide +kernel
theorem dX12_letterGoes_206 : decode cX12_letterGoes 206 = .ok (.if_icmp .ge 43, 3) := by decide +kernel
theorem dX12_letterGoes_209 : decode cX12_letterGoes 209 = .ok (.aload_n 0, 1) := by decide +kernel
theorem dX12_letterGoes_210 : decode cX12_letterGoes 210 = .ok (.getfield 7, 3) := by decide +kernel
theorem dX12_letterGoes_213 : decode cX12_letterGoes 213 = .ok (.bipush 80, 2) := by decide +kernel
theorem dX12_letterGoes_215 : decode cX12_letterGoes 215 = .ok (.iload 4, 2) := by decide +kernel
theorem dX12_letterGoes_217 : decode cX12_letterGoes 217 = .ok (.iadd, 1) := by decide +kernel
theorem dX12_letterGoes_218 : decode cX12_letterGoes 218 = .ok (.sipush 999, 3) := by decide +kernel
theorem dX12_letterGoes_221 : decode cX12_letterGoes 221 = .ok (.aload_n 0, 1) := by decide +kernel
theorem dX12_letterGoes_222 : decode cX12_letterGoes 222 = .ok (.getfield 7, 3) := by decide +kernel
theorem dX12_letterGoes_225 : decode cX12_letterGoes 225 = .ok (.bipush 80, 2) := by decide +kernel
theorem dX12_letterGoes_227 : decode cX12_letterGoes 227 = .ok (.iload 4, 2) := by decide +kernel
theorem dX12_letterGoes_229 : decode cX12_letterGoes 229 = .ok (.iadd, 1) := by decide +kernel
theorem dX12_letterGoes_230 : decode cX12_letterGoes 230 = .ok (.iaload, 1) := by decide +kernel
theorem dX12_letterGoes_231 : decode cX12_letterGoes 231 = .ok (.aload_n 0, 1) := by decide +kernel
theorem dX12_letterGoes_232 : decode cX12_letterGoes 232 = .ok (.getfield 90, 3) := by decide +kernel
theorem dX12_letterGoes_235 : decode cX12_letterGoes 235 = .ok (.iload 4, 2) := by decide +kernel
theorem dX12_letterGoes_237 : decode cX12_letterGoes 237 = .ok (.iaload, 1) := by decide +kernel
theorem dX12_letterGoes_238 : decode cX12_letterGoes 238 = .ok (.iadd, 1) := by decide +kernel
theorem dX12_letterGoes_239 : decode cX12_letterGoes 239 = .ok (.invokestatic 329, 3) := by decide +kernel
theorem dX12_letterGoes_242 : decode cX12_letterGoes 242 = .ok (.iastore, 1) := by decide +kernel
theorem dX12_letterGoes_243 : decode cX12_letterGoes 243 = .ok (.iinc 4 1, 3) := by decide +kernel
theorem dX12_letterGoes_246 : decode cX12_letterGoes 246 = .ok (.goto (-44), 3) := by decide +kernel
theorem dX12_letterGoes_249 : decode cX12_letterGoes 249 = .ok (.return_, 1) := by decide +kernel
theorem dX12_dayGoes_0 : decode cX12_dayGoes 0 = .ok (.iconst 0, 1) := by decide +kernel
theorem dX12_dayGoes_1 : decode cX12_dayGoes 1 = .ok (.istore_n 1, 1) := by decide +kernel
theorem dX12_dayGoes_2 : decode cX12_dayGoes 2 = .ok (.iload_n 1, 1) := by decide +kernel
theorem dX12_dayGoes_3 : decode cX12_dayGoes 3 = .ok (.bipush 8, 2) := by decide +kernel
theorem dX12_dayGoes_5 : decode cX12_dayGoes 5 = .ok (.if_icmp .ge 22, 3) := by decide +kernel
theorem dX12_dayGoes_8 : decode cX12_dayGoes 8 = .ok (.aload_n 0, 1) := by decide +kernel
theorem dX12_dayGoes_9 : decode cX12_dayGoes 9 = .ok (.iload_n 1, 1) := by decide +kernel
theorem dX12_dayGoes_10 : decode cX12_dayGoes 10 = .ok (.invokevirtual 259, 3) := by decide +kernel
theorem dX12_dayGoes_13 : decode cX12_dayGoes 13 = .ok (.ifCond .eq 8, 3) := by decide +kernel
theorem dX12_dayGoes_16 : decode cX12_dayGoes 16 = .ok (.aload_n 0, 1) := by decide +kernel
theorem dX12_dayGoes_17 : decode cX12_dayGoes 17 = .ok (.iload_n 1, 1) := by decide +kernel
theorem dX12_dayGoes_18 : decode cX12_dayGoes 18 = .ok (.invokevirtual 332, 3) := by decide +kernel
theorem dX12_dayGoes_21 : decode cX12_dayGoes 21 = .ok (.iinc 1 1, 3) := by decide +kernel
theorem dX12_dayGoes_24 : decode cX12_dayGoes 24 = .ok (.goto (-22), 3) := by decide +kernel
theorem dX12_dayGoes_27 : decode cX12_dayGoes 27 = .ok (.aload_n 0, 1) := by decide +kernel
theorem dX12_dayGoes_28 : decode cX12_dayGoes 28 = .ok (.getfield 7, 3) := by decide +kernel
theorem dX12_dayGoes_31 : decode cX12_dayGoes 31 = .ok (.sipush 128, 3) := by decide +kernel
theorem dX12_dayGoes_34 : decode cX12_dayGoes 34 = .ok (.aload_n 0, 1) := by decide +kernel
theorem dX12_dayGoes_35 : decode cX12_dayGoes 35 = .ok (.getfield 7, 3) := by decide +kernel
theorem dX12_dayGoes_38 : decode cX12_dayGoes 38 = .ok (.sipush 128, 3) := by decide +kernel
theorem dX12_dayGoes_41 : decode cX12_dayGoes 41 = .ok (.iaload, 1) := by decide +kernel
theorem dX12_dayGoes_42 : decode cX12_dayGoes 42 = .ok (.iconst 1, 1) := by decide +kernel
theorem dX12_dayGoes_43 : decode cX12_dayGoes 43 = .ok (.iadd, 1) := by decide +kernel
theorem dX12_dayGoes_44 : decode cX12_dayGoes 44 = .ok (.iastore, 1) := by decide +kernel
theorem dX12_dayGoes_45 : decode cX12_dayGoes 45 = .ok (.return_, 1) := by decide +kernel
theorem dX12_daysGo_0 : decode cX12_daysGo 0 = .ok (.aload_n 0, 1) := by decide +kernel
theorem dX12_daysGo_1 : decode cX12_daysGo 1 = .ok (.iconst 0, 1) := by decide +kernel
theorem dX12_daysGo_2 : decode cX12_daysGo 2 = .ok (.putfield 326, 3) := by decide +kernel
theorem dX12_daysGo_5 : decode cX12_daysGo 5 = .ok (.aload_n 0, 1) := by decide +kernel
theorem dX12_daysGo_6 : decode cX12_daysGo 6 = .ok (.iconst 0, 1) := by decide +kernel
theorem dX12_daysGo_7 : decode cX12_daysGo 7 = .ok (.putfield 300, 3) := by decide +kernel
theorem dX12_daysGo_10 : decode cX12_daysGo 10 = .ok (.iconst 0, 1) := by decide +kernel
theorem dX12_daysGo_11 : decode cX12_daysGo 11 = .ok (.istore_n 2, 1) := by decide +kernel
theorem dX12_daysGo_12 : decode cX12_daysGo 12 = .ok (.iload_n 2, 1) := by decide +kernel
theorem dX12_daysGo_13 : decode cX12_daysGo 13 = .ok (.iload_n 1, 1) := by decide +kernel
theorem dX12_daysGo_14 : decode cX12_daysGo 14 = .ok (.if_icmp .ge 27, 3) := by decide +kernel
theorem dX12_daysGo_17 : decode cX12_daysGo 17 = .ok (.aload_n 0, 1) := by decide +kernel
theorem dX12_daysGo_18 : decode cX12_daysGo 18 = .ok (.getfield 7, 3) := by decide +kernel
theorem dX12_daysGo_21 : decode cX12_daysGo 21 = .ok (.sipush 128, 3) := by decide +kernel
theorem dX12_daysGo_24 : decode cX12_daysGo 24 = .ok (.iaload, 1) := by decide +kernel
theorem dX12_daysGo_25 : decode cX12_daysGo 25 = .ok (.sipush 9999, 3) := by decide +kernel
theorem dX12_daysGo_28 : decode cX12_daysGo 28 = .ok (.if_icmp .ge 13, 3) := by decide +kernel
theorem dX12_daysGo_31 : decode cX12_daysGo 31 = .ok (.aload_n 0, 1) := by decide +kernel
theorem dX12_daysGo_32 : decode cX12_daysGo 32 = .ok (.invokevirtual 335, 3) := by decide +kernel
theorem dX12_daysGo_35 : decode cX12_daysGo 35 = .ok (.iinc 2 1, 3) := by decide +kernel
theorem dX12_daysGo_38 : decode cX12_daysGo 38 = .ok (.goto (-26), 3) := by decide +kernel
theorem dX12_daysGo_41 : decode cX12_daysGo 41 = .ok (.return_, 1) := by decide +kernel
theorem dX12_days_0 : decode cX12_days 0 = .ok (.iload_n 1, 1) := by decide +kernel
theorem dX12_days_1 : decode cX12_days 1 = .ok (.iconst 1, 1) := by decide +kernel
theorem dX12_days_2 : decode cX12_days 2 = .ok (.bipush 100, 2) := by decide +kernel
theorem dX12_days_4 : decode cX12_days 4 = .ok (.invokestatic 105, 3) := by decide +kernel
theorem dX12_days_7 : decode cX12_days 7 = .ok (.ifCond .ne 5, 3) := by decide +kernel
theorem dX12_days_10 : decode cX12_days 10 = .ok (.iconst (-1), 1) := by decide +kernel
theorem dX12_days_11 : decode cX12_days 11 = .ok (.ireturn, 1) := by decide +kernel
theorem dX12_days_12 : decode cX12_days 12 = .ok (.aload_n 0, 1) := by decide +kernel
theorem dX12_days_13 : decode cX12_days 13 = .ok (.iload_n 1, 1) := by decide +kernel
theorem dX12_days_14 : decode cX12_days 14 = .ok (.invokevirtual 338, 3) := by decide +kernel
theorem dX12_days_17 : decode cX12_days 17 = .ok (.aload_n 0, 1) := by decide +kernel
theorem dX12_days_18 : decode cX12_days 18 = .ok (.getfield 326, 3) := by decide +kernel
theorem dX12_days_21 : decode cX12_days 21 = .ok (.ireturn, 1) := by decide +kernel
theorem dX12_walledSet_0 : decode cX12_walledSet 0 = .ok (.iconst 0, 1) := by decide +kernel
theorem dX12_walledSet_1 : decode cX12_walledSet 1 = .ok (.istore_n 1, 1) := by decide +kernel
theorem dX12_walledSet_2 : decode cX12_walledSet 2 = .ok (.iconst 0, 1) := by decide +kernel
theorem dX12_walledSet_3 : decode cX12_walledSet 3 = .ok (.istore_n 2, 1) := by decide +kernel
theorem dX12_walledSet_4 : decode cX12_walledSet 4 = .ok (.iload_n 2, 1) := by decide +kernel
theorem dX12_walledSet_5 : decode cX12_walledSet 5 = .ok (.bipush 8, 2) := by decide +kernel
theorem dX12_walledSet_7 : decode cX12_walledSet 7 = .ok (.if_icmp .ge 36, 3) := by decide +kernel
theorem dX12_walledSet_10 : decode cX12_walledSet 10 = .ok (.aload_n 0, 1) := by decide +kernel
theorem dX12_walledSet_11 : decode cX12_walledSet 11 = .ok (.iload_n 2, 1) := by decide +kernel
theorem dX12_walledSet_12 : decode cX12_walledSet 12 = .ok (.invokevirtual 259, 3) := by decide +kernel
theorem dX12_walledSet_15 : decode cX12_walledSet 15 = .ok (.ifCond .eq 22, 3) := by decide +kernel
theorem dX12_walledSet_18 : decode cX12_walledSet 18 = .ok (.aload_n 0, 1) := by decide +kernel
theorem dX12_walledSet_19 : decode cX12_walledSet 19 = .ok (.getfield 7, 3) := by decide +kernel
theorem dX12_walledSet_22 : decode cX12_walledSet 22 = .ok (.bipush 24, 2) := by decide +kernel
theorem dX12_walledSet_24 : decode cX12_walledSet 24 = .ok (.iload_n 2, 1) := by decide +kernel
theorem dX12_walledSet_25 : decode cX12_walledSet 25 = .ok (.iadd, 1) := by decide +kernel
theorem dX12_walledSet_26 : decode cX12_walledSet 26 = .ok (.iaload, 1) := by decide +kernel
theorem dX12_walledSet_27 : decode cX12_walledSet 27 = .ok (.iconst 1, 1) := by decide +kernel
theorem dX12_walledSet_28 : decode cX12_walledSet 28 = .ok (.if_icmp .ne 9, 3) := by decide +kernel
theorem dX12_walledSet_31 : decode cX12_walledSet 31 = .ok (.iload_n 1, 1) := by decide +kernel
theorem dX12_walledSet_32 : decode cX12_walledSet 32 = .ok (.iconst 1, 1) := by decide +kernel
theorem dX12_walledSet_33 : decode cX12_walledSet 33 = .ok (.iload_n 2, 1) := by decide +kernel
theorem dX12_walledSet_34 : decode cX12_walledSet 34 = .ok (.ishl, 1) := by decide +kernel
theorem dX12_walledSet_35 : decode cX12_walledSet 35 = .ok (.ior, 1) := by decide +kernel
theorem dX12_walledSet_36 : decode cX12_walledSet 36 = .ok (.istore_n 1, 1) := by decide +kernel
theorem dX12_walledSet_37 : decode cX12_walledSet 37 = .ok (.iinc 2 1, 3) := by decide +kernel
theorem dX12_walledSet_40 : decode cX12_walledSet 40 = .ok (.goto (-36), 3) := by decide +kernel
theorem dX12_walledSet_43 : decode cX12_walledSet 43 = .ok (.iload_n 1, 1) := by decide +kernel
theorem dX12_walledSet_44 : decode cX12_walledSet 44 = .ok (.ireturn, 1) := by decide +kernel
theorem dX12_canTry_0 : decode cX12_canTry 0 = .ok (.iload_n 1, 1) := by decide +kernel
theorem dX12_canTry_1 : decode cX12_canTry 1 = .ok (.iconst 0, 1) := by decide +kernel
theorem dX12_canTry_2 : decode cX12_canTry 2 = .ok (.iconst 2, 1) := by decide +kernel
theorem dX12_canTry_3 : decode cX12_canTry 3 = .ok (.invokestatic 105, 3) := by decide +kernel
theorem dX12_canTry_6 : decode cX12_canTry 6 = .ok (.ifCond .ne 36, 3) := by decide +kernel
theorem dX12_canTry_9 : decode cX12_canTry 9 = .ok (.aload_n 0, 1) := by decide +kernel
theorem dX12_canTry_10 : decode cX12_canTry 10 = .ok (.iload_n 1, 1) := by decide +kernel
theorem dX12_canTry_11 : decode cX12_canTry 11 = .ok (.bipush 10, 2) := by decide +kernel
theorem dX12_canTry_13 : decode cX12_canTry 13 = .ok (.isub, 1) := by decide +kernel
theorem dX12_canTry_14 : decode cX12_canTry 14 = .ok (.invokevirtual 259, 3) := by decide +kernel
theorem dX12_canTry_17 : decode cX12_canTry 17 = .ok (.ifCond .ne 25, 3) := by decide +kernel
theorem dX12_canTry_20 : decode cX12_canTry 20 = .ok (.aload_n 0, 1) := by decide +kernel
theorem dX12_canTry_21 : decode cX12_canTry 21 = .ok (.iload_n 1, 1) := by decide +kernel
theorem dX12_canTry_22 : decode cX12_canTry 22 = .ok (.bipush 20, 2) := by decide +kernel
theorem dX12_canTry_24 : decode cX12_canTry 24 = .ok (.isub, 1) := by decide +kernel
theorem dX12_canTry_25 : decode cX12_canTry 25 = .ok (.invokevirtual 259, 3) := by decide +kernel
theorem dX12_canTry_28 : decode cX12_canTry 28 = .ok (.ifCond .ne 14, 3) := by decide +kernel
theorem dX12_canTry_31 : decode cX12_canTry 31 = .ok (.aload_n 0, 1) := by decide +kernel
theorem dX12_canTry_32 : decode cX12_canTry 32 = .ok (.iload_n 1, 1) := by decide +kernel
theorem dX12_canTry_33 : decode cX12_canTry 33 = .ok (.bipush 100, 2) := by decide +kernel
theorem dX12_canTry_35 : decode cX12_canTry 35 = .ok (.isub, 1) := by decide +kernel
theorem dX12_canTry_36 : decode cX12_canTry 36 = .ok (.invokevirtual 113, 3) := by decide +kernel
theorem dX12_canTry_39 : decode cX12_canTry 39 = .ok (.ifCond .eq 7, 3) := by decide +kernel
theorem dX12_canTry_42 : decode cX12_canTry 42 = .ok (.iconst 1, 1) := by decide +kernel
theorem dX12_canTry_43 : decode cX12_canTry 43 = .ok (.goto 4, 3) := by decide +kernel
theorem dX12_canTry_46 : decode cX12_canTry 46 = .ok (.iconst 0, 1) := by decide +kernel
theorem dX12_canTry_47 : decode cX12_canTry 47 = .ok (.ireturn, 1) := by decide +kernel
theorem dX12_tried_0 : decode cX12_tried 0 = .ok (.iload_n 1, 1) := by decide +kernel
theorem dX12_tried_1 : decode cX12_tried 1 = .ok (.iconst 1, 1) := by decide +kernel
theorem dX12_tried_2 : decode cX12_tried 2 = .ok (.bipush 100, 2) := by decide +kernel
theorem dX12_tried_4 : decode cX12_tried 4 = .ok (.invokestatic 105, 3) := by decide +kernel
theorem dX12_tried_7 : decode cX12_tried 7 = .ok (.ifCond .eq 11, 3) := by decide +kernel
theorem dX12_tried_10 : decode cX12_tried 10 = .ok (.aload_n 0, 1) := by decide +kernel
theorem dX12_tried_11 : decode cX12_tried 11 = .ok (.iload_n 2, 1) := by decide +kernel
theorem dX12_tried_12 : decode cX12_tried 12 = .ok (.invokevirtual 341, 3) := by decide +kernel
theorem dX12_tried_15 : decode cX12_tried 15 = .ok (.ifCond .ne 5, 3) := by decide +kernel
theorem dX12_tried_18 : decode cX12_tried 18 = .ok (.iconst (-1), 1) := by decide +kernel
theorem dX12_tried_19 : decode cX12_tried 19 = .ok (.ireturn, 1) := by decide +kernel
theorem dX12_tried_20 : decode cX12_tried 20 = .ok (.aload_n 0, 1) := by decide +kernel
theorem dX12_tried_21 : decode cX12_tried 21 = .ok (.getfield 7, 3) := by decide +kernel
theorem dX12_tried_24 : decode cX12_tried 24 = .ok (.aload_n 0, 1) := by decide +kernel
theorem dX12_tried_25 : decode cX12_tried 25 = .ok (.getfield 13, 3) := by decide +kernel
theorem dX12_tried_28 : decode cX12_tried 28 = .ok (.invokestatic 271, 3) := by decide +kernel
theorem dX12_tried_31 : decode cX12_tried 31 = .ok (.aload_n 0, 1) := by decide +kernel
theorem dX12_tried_32 : decode cX12_tried 32 = .ok (.iload_n 1, 1) := by decide +kernel
theorem dX12_tried_33 : decode cX12_tried 33 = .ok (.invokevirtual 338, 3) := by decide +kernel
theorem dX12_tried_36 : decode cX12_tried 36 = .ok (.iload_n 2, 1) := by decide +kernel
theorem dX12_tried_37 : decode cX12_tried 37 = .ok (.tableswitch 51 0 2 #[27, 35, 43], 27) := by decide +kernel
theorem dX12_tried_64 : decode cX12_tried 64 = .ok (.aload_n 0, 1) := by decide +kernel
theorem dX12_tried_65 : decode cX12_tried 65 = .ok (.getfield 326, 3) := by decide +kernel
theorem dX12_tried_68 : decode cX12_tried 68 = .ok (.istore_n 3, 1) := by decide +kernel
theorem dX12_tried_69 : decode cX12_tried 69 = .ok (.goto 70, 3) := by decide +kernel
theorem dX12_tried_72 : decode cX12_tried 72 = .ok (.aload_n 0, 1) := by decide +kernel
theorem dX12_tried_73 : decode cX12_tried 73 = .ok (.getfield 300, 3) := by decide +kernel
theorem dX12_tried_76 : decode cX12_tried 76 = .ok (.istore_n 3, 1) := by decide +kernel
theorem dX12_tried_77 : decode cX12_tried 77 = .ok (.goto 62, 3) := by decide +kernel
theorem dX12_tried_80 : decode cX12_tried 80 = .ok (.aload_n 0, 1) := by decide +kernel
theorem dX12_tried_81 : decode cX12_tried 81 = .ok (.invokevirtual 344, 3) := by decide +kernel
theorem dX12_tried_84 : decode cX12_tried 84 = .ok (.istore_n 3, 1) := by decide +kernel
theorem dX12_tried_85 : decode cX12_tried 85 = .ok (.goto 54, 3) := by decide +kernel
theorem dX12_tried_88 : decode cX12_tried 88 = .ok (.iload_n 2, 1) := by decide +kernel
theorem dX12_tried_89 : decode cX12_tried 89 = .ok (.bipush 20, 2) := by decide +kernel
theorem dX12_tried_91 : decode cX12_tried 91 = .ok (.if_icmp .ge 18, 3) := by decide +kernel
theorem dX12_tried_94 : decode cX12_tried 94 = .ok (.aload_n 0, 1) := by decide +kernel
theorem dX12_tried_95 : decode cX12_tried 95 = .ok (.getfield 7, 3) := by decide +kernel
theorem dX12_tried_98 : decode cX12_tried 98 = .ok (.bipush 8, 2) := by decide +kernel
theorem dX12_tried_100 : decode cX12_tried 100 = .ok (.iload_n 2, 1) := by decide +kernel
theorem dX12_tried_101 : decode cX12_tried 101 = .ok (.iadd, 1) := by decide +kernel
theorem dX12_tried_102 : decode cX12_tried 102 = .ok (.bipush 10, 2) := by decide +kernel
theorem dX12_tried_104 : decode cX12_tried 104 = .ok (.isub, 1) := by decide +kernel
theorem dX12_tried_105 : decode cX12_tried 105 = .ok (.iaload, 1) := by decide +kernel
theorem dX12_tried_106 : decode cX12_tried 106 = .ok (.goto 32, 3) := by decide +kernel
theorem dX12_tried_109 : decode cX12_tried 109 = .ok (.iload_n 2, 1) := by decide +kernel
theorem dX12_tried_110 : decode cX12_tried 110 = .ok (.bipush 100, 2) := by decide +kernel
theorem dX12_tried_112 : decode cX12_tried 112 = .ok (.if_icmp .ge 14, 3) := by decide +kernel
theorem dX12_tried_115 : decode cX12_tried 115 = .ok (.aload_n 0, 1) := by decide +kernel
theorem dX12_tried_116 : decode cX12_tried 116 = .ok (.iload_n 2, 1) := by decide +kernel
theorem dX12_tried_117 : decode cX12_tried 117 = .ok (.bipush 20, 2) := by decide +kernel
theorem dX12_tried_119 : decode cX12_tried 119 = .ok (.isub, 1) := by decide +kernel
theorem dX12_tried_120 : decode cX12_tried 120 = .ok (.invokevirtual 290, 3) := by decide +kernel
theorem dX12_tried_123 : decode cX12_tried 123 = .ok (.goto 15, 3) := by decide +kernel
theorem dX12_tried_126 : decode cX12_tried 126 = .ok (.aload_n 0, 1) := by decide +kernel
theorem dX12_tried_127 : decode cX12_tried 127 = .ok (.getfield 7, 3) := by decide +kernel
theorem dX12_tried_130 : decode cX12_tried 130 = .ok (.bipush 80, 2) := by decide +kernel
theorem dX12_tried_132 : decode cX12_tried 132 = .ok (.iload_n 2, 1) := by decide +kernel
theorem dX12_tried_133 : decode cX12_tried 133 = .ok (.iadd, 1) := by decide +kernel
theorem dX12_tried_134 : decode cX12_tried 134 = .ok (.bipush 100, 2) := by decide +kernel
theorem dX12_tried_136 : decode cX12_tried 136 = .ok (.isub, 1) := by decide +kernel
theorem dX12_tried_137 : decode cX12_tried 137 = .ok (.iaload, 1) := by decide +kernel
theorem dX12_tried_138 : decode cX12_tried 138 = .ok (.istore_n 3, 1) := by decide +kernel
theorem dX12_tried_139 : decode cX12_tried 139 = .ok (.aload_n 0, 1) := by decide +kernel
theorem dX12_tried_140 : decode cX12_tried 140 = .ok (.getfield 13, 3) := by decide +kernel
theorem dX12_tried_143 : decode cX12_tried 143 = .ok (.aload_n 0, 1) := by decide +kernel
theorem dX12_tried_144 : decode cX12_tried 144 = .ok (.getfield 7, 3) := by decide +kernel
theorem dX12_tried_147 : decode cX12_tried 147 = .ok (.invokestatic 271, 3) := by decide +kernel
theorem dX12_tried_150 : decode cX12_tried 150 = .ok (.iload_n 3, 1) := by decide +kernel
theorem dX12_tried_151 : decode cX12_tried 151 = .ok (.ireturn, 1) := by decide +kernel
theorem dX12_lowestOn_0 : decode cX12_lowestOn 0 = .ok (.iconst 0, 1) := by decide +kernel
theorem dX12_lowestOn_1 : decode cX12_lowestOn 1 = .ok (.istore_n 2, 1) := by decide +kernel
theorem dX12_lowestOn_2 : decode cX12_lowestOn 2 = .ok (.iload_n 2, 1) := by decide +kernel
theorem dX12_lowestOn_3 : decode cX12_lowestOn 3 = .ok (.bipush 48, 2) := by decide +kernel
theorem dX12_lowestOn_5 : decode cX12_lowestOn 5 = .ok (.if_icmp .ge 20, 3) := by decide +kernel
theorem dX12_lowestOn_8 : decode cX12_lowestOn 8 = .ok (.aload_n 0, 1) := by decide +kernel
theorem dX12_lowestOn_9 : decode cX12_lowestOn 9 = .ok (.iload_n 2, 1) := by decide +kernel
theorem dX12_lowestOn_10 : decode cX12_lowestOn 10 = .ok (.iload_n 1, 1) := by decide +kernel
theorem dX12_lowestOn_11 : decode cX12_lowestOn 11 = .ok (.invokevirtual 287, 3) := by decide +kernel
theorem dX12_lowestOn_14 : decode cX12_lowestOn 14 = .ok (.ifCond .eq 5, 3) := by decide +kernel
theorem dX12_lowestOn_17 : decode cX12_lowestOn 17 = .ok (.iload_n 2, 1) := by decide +kernel
theorem dX12_lowestOn_18 : decode cX12_lowestOn 18 = .ok (.ireturn, 1) := by decide +kernel
theorem dX12_lowestOn_19 : decode cX12_lowestOn 19 = .ok (.iinc 2 1, 3) := by decide +kernel
theorem dX12_lowestOn_22 : decode cX12_lowestOn 22 = .ok (.goto (-20), 3) := by decide +kernel
theorem dX12_lowestOn_25 : decode cX12_lowestOn 25 = .ok (.bipush (-2), 2) := by decide +kernel
theorem dX12_lowestOn_27 : decode cX12_lowestOn 27 = .ok (.ireturn, 1) := by decide +kernel
theorem dX12_plainPull_0 : decode cX12_plainPull 0 = .ok (.iconst 0, 1) := by decide +kernel
theorem dX12_plainPull_1 : decode cX12_plainPull 1 = .ok (.istore_n 3, 1) := by decide +kernel
theorem dX12_plainPull_2 : decode cX12_plainPull 2 = .ok (.iconst 0, 1) := by decide +kernel
theorem dX12_plainPull_3 : decode cX12_plainPull 3 = .ok (.istore 4, 2) := by decide +kernel
theorem dX12_plainPull_5 : decode cX12_plainPull 5 = .ok (.iload 4, 2) := by decide +kernel
theorem dX12_plainPull_7 : decode cX12_plainPull 7 = .ok (.bipush 48, 2) := by decide +kernel
theorem dX12_plainPull_9 : decode cX12_plainPull 9 = .ok (.if_icmp .ge 108, 3) := by decide +kernel
theorem dX12_plainPull_12 : decode cX12_plainPull 12 = .ok (.aload_n 0, 1) := by decide +kernel
theorem dX12_plainPull_13 : decode cX12_plainPull 13 = .ok (.iload 4, 2) := by decide +kernel
theorem dX12_plainPull_15 : decode cX12_plainPull 15 = .ok (.iload_n 1, 1) := by decide +kernel
theorem dX12_plainPull_16 : decode cX12_plainPull 16 = .ok (.invokevirtual 287, 3) := by decide +kernel
theorem dX12_plainPull_19 : decode cX12_plainPull 19 = .ok (.ifCond .eq 92, 3) := by decide +kernel
theorem dX12_plainPull_22 : decode cX12_plainPull 22 = .ok (.aload_n 0, 1) := by decide +kernel
theorem dX12_plainPull_23 : decode cX12_plainPull 23 = .ok (.getfield 19, 3) := by decide +kernel
theorem dX12_plainPull_26 : decode cX12_plainPull 26 = .ok (.aload_n 0, 1) := by decide +kernel
theorem dX12_plainPull_27 : decode cX12_plainPull 27 = .ok (.getfield 22, 3) := by decide +kernel
theorem dX12_plainPull_30 : decode cX12_plainPull 30 = .ok (.iload 4, 2) := by decide +kernel
theorem dX12_plainPull_32 : decode cX12_plainPull 32 = .ok (.iaload, 1) := by decide +kernel
theorem dX12_plainPull_33 : decode cX12_plainPull 33 = .ok (.iaload, 1) := by decide +kernel
theorem dX12_plainPull_34 : decode cX12_plainPull 34 = .ok (.iconst (-1), 1) := by decide +kernel
theorem dX12_plainPull_35 : decode cX12_plainPull 35 = .ok (.if_icmp .ne 6, 3) := by decide +kernel
theorem dX12_plainPull_38 : decode cX12_plainPull 38 = .ok (.goto 73, 3) := by decide +kernel
theorem dX12_plainPull_41 : decode cX12_plainPull 41 = .ok (.iload_n 2, 1) := by decide +kernel
theorem dX12_plainPull_42 : decode cX12_plainPull 42 = .ok (.ifCond .eq 30, 3) := by decide +kernel
theorem dX12_plainPull_45 : decode cX12_plainPull 45 = .ok (.aload_n 0, 1) := by decide +kernel
theorem dX12_plainPull_46 : decode cX12_plainPull 46 = .ok (.getfield 7, 3) := by decide +kernel
theorem dX12_plainPull_49 : decode cX12_plainPull 49 = .ok (.bipush 8, 2) := by decide +kernel
theorem dX12_plainPull_51 : decode cX12_plainPull 51 = .ok (.iload_n 1, 1) := by decide +kernel
theorem dX12_plainPull_52 : decode cX12_plainPull 52 = .ok (.iadd, 1) := by decide +kernel
theorem dX12_plainPull_53 : decode cX12_plainPull 53 = .ok (.iaload, 1) := by decide +kernel
theorem dX12_plainPull_54 : decode cX12_plainPull 54 = .ok (.aload_n 0, 1) := by decide +kernel
theorem dX12_plainPull_55 : decode cX12_plainPull 55 = .ok (.getfield 19, 3) := by decide +kernel
theorem dX12_plainPull_58 : decode cX12_plainPull 58 = .ok (.aload_n 0, 1) := by decide +kernel
theorem dX12_plainPull_59 : decode cX12_plainPull 59 = .ok (.getfield 22, 3) := by decide +kernel
theorem dX12_plainPull_62 : decode cX12_plainPull 62 = .ok (.iload 4, 2) := by decide +kernel
theorem dX12_plainPull_64 : decode cX12_plainPull 64 = .ok (.iaload, 1) := by decide +kernel
theorem dX12_plainPull_65 : decode cX12_plainPull 65 = .ok (.iaload, 1) := by decide +kernel
theorem dX12_plainPull_66 : decode cX12_plainPull 66 = .ok (.invokestatic 309, 3) := by decide +kernel
theorem dX12_plainPull_69 : decode cX12_plainPull 69 = .ok (.goto 27, 3) := by decide +kernel
theorem dX12_plainPull_72 : decode cX12_plainPull 72 = .ok (.aload_n 0, 1) := by decide +kernel
theorem dX12_plainPull_73 : decode cX12_plainPull 73 = .ok (.getfield 7, 3) := by decide +kernel
theorem dX12_plainPull_76 : decode cX12_plainPull 76 = .ok (.bipush 8, 2) := by decide +kernel
theorem dX12_plainPull_78 : decode cX12_plainPull 78 = .ok (.iload_n 1, 1) := by decide +kernel
theorem dX12_plainPull_79 : decode cX12_plainPull 79 = .ok (.iadd, 1) := by decide +kernel
theorem dX12_plainPull_80 : decode cX12_plainPull 80 = .ok (.iaload, 1) := by decide +kernel
theorem dX12_plainPull_81 : decode cX12_plainPull 81 = .ok (.aload_n 0, 1) := by decide +kernel
theorem dX12_plainPull_82 : decode cX12_plainPull 82 = .ok (.getfield 19, 3) := by decide +kernel
theorem dX12_plainPull_85 : decode cX12_plainPull 85 = .ok (.aload_n 0, 1) := by decide +kernel
theorem dX12_plainPull_86 : decode cX12_plainPull 86 = .ok (.getfield 22, 3) := by decide +kernel
theorem dX12_plainPull_89 : decode cX12_plainPull 89 = .ok (.iload 4, 2) := by decide +kernel
theorem dX12_plainPull_91 : decode cX12_plainPull 91 = .ok (.iaload, 1) := by decide +kernel
theorem dX12_plainPull_92 : decode cX12_plainPull 92 = .ok (.iaload, 1) := by decide +kernel
theorem dX12_plainPull_93 : decode cX12_plainPull 93 = .ok (.invokestatic 315, 3) := by decide +kernel
theorem dX12_plainPull_96 : decode cX12_plainPull 96 = .ok (.istore 5, 2) := by decide +kernel
theorem dX12_plainPull_98 : decode cX12_plainPull 98 = .ok (.iload_n 3, 1) := by decide +kernel
theorem dX12_plainPull_99 : decode cX12_plainPull 99 = .ok (.aload_n 0, 1) := by decide +kernel
theorem dX12_plainPull_100 : decode cX12_plainPull 100 = .ok (.getfield 25, 3) := by decide +kernel
theorem dX12_plainPull_103 : decode cX12_plainPull 103 = .ok (.iload 4, 2) := by decide +kernel
theorem dX12_plainPull_105 : decode cX12_plainPull 105 = .ok (.iaload, 1) := by decide +kernel
theorem dX12_plainPull_106 : decode cX12_plainPull 106 = .ok (.iload 5, 2) := by decide +kernel
theorem dX12_plainPull_108 : decode cX12_plainPull 108 = .ok (.imul, 1) := by decide +kernel
theorem dX12_plainPull_109 : decode cX12_plainPull 109 = .ok (.iadd, 1) := by decide +kernel
theorem dX12_plainPull_110 : decode cX12_plainPull 110 = .ok (.istore_n 3, 1) := by decide +kernel
theorem dX12_plainPull_111 : decode cX12_plainPull 111 = .ok (.iinc 4 1, 3) := by decide +kernel
theorem dX12_plainPull_114 : decode cX12_plainPull 114 = .ok (.goto (-109), 3) := by decide +kernel
theorem dX12_plainPull_117 : decode cX12_plainPull 117 = .ok (.iload_n 3, 1) := by decide +kernel
theorem dX12_plainPull_118 : decode cX12_plainPull 118 = .ok (.ireturn, 1) := by decide +kernel
theorem dX12_letterIs_0 : decode cX12_letterIs 0 = .ok (.aload_n 0, 1) := by decide +kernel
theorem dX12_letterIs_1 : decode cX12_letterIs 1 = .ok (.iload_n 1, 1) := by decide +kernel
theorem dX12_letterIs_2 : decode cX12_letterIs 2 = .ok (.invokevirtual 259, 3) := by decide +kernel
theorem dX12_letterIs_5 : decode cX12_letterIs 5 = .ok (.ifCond .ne 7, 3) := by decide +kernel
theorem dX12_letterIs_8 : decode cX12_letterIs 8 = .ok (.sipush (-1000), 3) := by decide +kernel
theorem dX12_letterIs_11 : decode cX12_letterIs 11 = .ok (.ireturn, 1) := by decide +kernel
theorem dX12_letterIs_12 : decode cX12_letterIs 12 = .ok (.iload_n 2, 1) := by decide +kernel
theorem dX12_letterIs_13 : decode cX12_letterIs 13 = .ok (.tableswitch 99 0 6 #[43, 53, 63, 73, 79, 85, 92], 43) := by decide +kernel
theorem dX12_letterIs_56 : decode cX12_letterIs 56 = .ok (.aload_n 0, 1) := by decide +kernel
theorem dX12_letterIs_57 : decode cX12_letterIs 57 = .ok (.getfield 7, 3) := by decide +kernel
theorem dX12_letterIs_60 : decode cX12_letterIs 60 = .ok (.bipush 8, 2) := by decide +kernel
theorem dX12_letterIs_62 : decode cX12_letterIs 62 = .ok (.iload_n 1, 1) := by decide +kernel
theorem dX12_letterIs_63 : decode cX12_letterIs 63 = .ok (.iadd, 1) := by decide +kernel
theorem dX12_letterIs_64 : decode cX12_letterIs 64 = .ok (.iaload, 1) := by decide +kernel
theorem dX12_letterIs_65 : decode cX12_letterIs 65 = .ok (.ireturn, 1) := by decide +kernel
theorem dX12_letterIs_66 : decode cX12_letterIs 66 = .ok (.aload_n 0, 1) := by decide +kernel
theorem dX12_letterIs_67 : decode cX12_letterIs 67 = .ok (.getfield 7, 3) := by decide +kernel
theorem dX12_letterIs_70 : decode cX12_letterIs 70 = .ok (.bipush 16, 2) := by decide +kernel
theorem dX12_letterIs_72 : decode cX12_letterIs 72 = .ok (.iload_n 1, 1) := by decide +kernel
theorem dX12_letterIs_73 : decode cX12_letterIs 73 = .ok (.iadd, 1) := by decide +kernel
theorem dX12_letterIs_74 : decode cX12_letterIs 74 = .ok (.iaload, 1) := by decide +kernel
theorem dX12_letterIs_75 : decode cX12_letterIs 75 = .ok (.ireturn, 1) := by decide +kernel
theorem dX12_letterIs_76 : decode cX12_letterIs 76 = .ok (.aload_n 0, 1) := by decide +kernel
theorem dX12_letterIs_77 : decode cX12_letterIs 77 = .ok (.getfield 7, 3) := by decide +kernel
theorem dX12_letterIs_80 : decode cX12_letterIs 80 = .ok (.bipush 24, 2) := by decide +kernel
theorem dX12_letterIs_82 : decode cX12_letterIs 82 = .ok (.iload_n 1, 1) := by decide +kernel
theorem dX12_letterIs_83 : decode cX12_letterIs 83 = .ok (.iadd, 1) := by decide +kernel
theorem dX12_letterIs_84 : decode cX12_letterIs 84 = .ok (.iaload, 1) := by decide +kernel
theorem dX12_letterIs_85 : decode cX12_letterIs 85 = .ok (.ireturn, 1) := by decide +kernel
theorem dX12_letterIs_86 : decode cX12_letterIs 86 = .ok (.aload_n 0, 1) := by decide +kernel
theorem dX12_letterIs_87 : decode cX12_letterIs 87 = .ok (.iload_n 1, 1) := by decide +kernel
theorem dX12_letterIs_88 : decode cX12_letterIs 88 = .ok (.invokevirtual 290, 3) := by decide +kernel
theorem dX12_letterIs_91 : decode cX12_letterIs 91 = .ok (.ireturn, 1) := by decide +kernel
theorem dX12_letterIs_92 : decode cX12_letterIs 92 = .ok (.aload_n 0, 1) := by decide +kernel
theorem dX12_letterIs_93 : decode cX12_letterIs 93 = .ok (.iload_n 1, 1) := by decide +kernel
theorem dX12_letterIs_94 : decode cX12_letterIs 94 = .ok (.invokevirtual 347, 3) := by decide +kernel
theorem dX12_letterIs_97 : decode cX12_letterIs 97 = .ok (.ireturn, 1) := by decide +kernel
theorem dX12_letterIs_98 : decode cX12_letterIs 98 = .ok (.aload_n 0, 1) := by decide +kernel
theorem dX12_letterIs_99 : decode cX12_letterIs 99 = .ok (.iload_n 1, 1) := by decide +kernel
theorem dX12_letterIs_100 : decode cX12_letterIs 100 = .ok (.iconst 1, 1) := by decide +kernel
theorem dX12_letterIs_101 : decode cX12_letterIs 101 = .ok (.invokevirtual 350, 3) := by decide +kernel
theorem dX12_letterIs_104 : decode cX12_letterIs 104 = .ok (.ireturn, 1) := by decide +kernel
theorem dX12_letterIs_105 : decode cX12_letterIs 105 = .ok (.aload_n 0, 1) := by decide +kernel
theorem dX12_letterIs_106 : decode cX12_letterIs 106 = .ok (.iload_n 1, 1) := by decide +kernel
theorem dX12_letterIs_107 : decode cX12_letterIs 107 = .ok (.iconst 0, 1) := by decide +kernel
theorem dX12_letterIs_108 : decode cX12_letterIs 108 = .ok (.invokevirtual 350, 3) := by decide +kernel
theorem dX12_letterIs_111 : decode cX12_letterIs 111 = .ok (.ireturn, 1) := by decide +kernel
theorem dX12_letterIs_112 : decode cX12_letterIs 112 = .ok (.sipush (-1000), 3) := by decide +kernel
theorem dX12_letterIs_115 : decode cX12_letterIs 115 = .ok (.ireturn, 1) := by decide +kernel
theorem dX12_letterOf_0 : decode cX12_letterOf 0 = .ok (.aload_n 0, 1) := by decide +kernel
theorem dX12_letterOf_1 : decode cX12_letterOf 1 = .ok (.getfield 7, 3) := by decide +kernel
theorem dX12_letterOf_4 : decode cX12_letterOf 4 = .ok (.bipush 32, 2) := by decide +kernel
theorem dX12_letterOf_6 : decode cX12_letterOf 6 = .ok (.iload_n 1, 1) := by decide +kernel
theorem dX12_letterOf_7 : decode cX12_letterOf 7 = .ok (.iadd, 1) := by decide +kernel
theorem dX12_letterOf_8 : decode cX12_letterOf 8 = .ok (.iaload, 1) := by decide +kernel
theorem dX12_letterOf_9 : decode cX12_letterOf 9 = .ok (.iconst (-1), 1) := by decide +kernel
theorem dX12_letterOf_10 : decode cX12_letterOf 10 = .ok (.if_icmp .ne 8, 3) := by decide +kernel
theorem dX12_letterOf_13 : decode cX12_letterOf 13 = .ok (.bipush (-2), 2) := by decide +kernel
theorem dX12_letterOf_15 : decode cX12_letterOf 15 = .ok (.goto 12, 3) := by decide +kernel
theorem dX12_letterOf_18 : decode cX12_letterOf 18 = .ok (.aload_n 0, 1) := by decide +kernel
theorem dX12_letterOf_19 : decode cX12_letterOf 19 = .ok (.getfield 7, 3) := by decide +kernel
theorem dX12_letterOf_22 : decode cX12_letterOf 22 = .ok (.bipush 32, 2) := by decide +kernel
theorem dX12_letterOf_24 : decode cX12_letterOf 24 = .ok (.iload_n 1, 1) := by decide +kernel
theorem dX12_letterOf_25 : decode cX12_letterOf 25 = .ok (.iadd, 1) := by decide +kernel
theorem dX12_letterOf_26 : decode cX12_letterOf 26 = .ok (.iaload, 1) := by decide +kernel
theorem dX12_letterOf_27 : decode cX12_letterOf 27 = .ok (.ireturn, 1) := by decide +kernel
theorem dX12_stampIs_0 : decode cX12_stampIs 0 = .ok (.aload_n 0, 1) := by decide +kernel
theorem dX12_stampIs_1 : decode cX12_stampIs 1 = .ok (.iload_n 1, 1) := by decide +kernel
theorem dX12_stampIs_2 : decode cX12_stampIs 2 = .ok (.invokevirtual 113, 3) := by decide +kernel
theorem dX12_stampIs_5 : decode cX12_stampIs 5 = .ok (.ifCond .ne 5, 3) := by decide +kernel
theorem dX12_stampIs_8 : decode cX12_stampIs 8 = .ok (.iconst (-1), 1) := by decide +kernel
theorem dX12_stampIs_9 : decode cX12_stampIs 9 = .ok (.ireturn, 1) := by decide +kernel
theorem dX12_stampIs_10 : decode cX12_stampIs 10 = .ok (.iload_n 2, 1) := by decide +kernel
theorem dX12_stampIs_11 : decode cX12_stampIs 11 = .ok (.tableswitch 59 0 3 #[29, 36, 43, 53], 29) := by decide +kernel
theorem dX12_stampIs_40 : decode cX12_stampIs 40 = .ok (.aload_n 0, 1) := by decide +kernel
theorem dX12_stampIs_41 : decode cX12_stampIs 41 = .ok (.getfield 22, 3) := by decide +kernel
theorem dX12_stampIs_44 : decode cX12_stampIs 44 = .ok (.iload_n 1, 1) := by decide +kernel
theorem dX12_stampIs_45 : decode cX12_stampIs 45 = .ok (.iaload, 1) := by decide +kernel
theorem dX12_stampIs_46 : decode cX12_stampIs 46 = .ok (.ireturn, 1) := by decide +kernel
theorem dX12_stampIs_47 : decode cX12_stampIs 47 = .ok (.aload_n 0, 1) := by decide +kernel
theorem dX12_stampIs_48 : decode cX12_stampIs 48 = .ok (.getfield 25, 3) := by decide +kernel
theorem dX12_stampIs_51 : decode cX12_stampIs 51 = .ok (.iload_n 1, 1) := by decide +kernel
theorem dX12_stampIs_52 : decode cX12_stampIs 52 = .ok (.iaload, 1) := by decide +kernel
theorem dX12_stampIs_53 : decode cX12_stampIs 53 = .ok (.ireturn, 1) := by decide +kernel
theorem dX12_stampIs_54 : decode cX12_stampIs 54 = .ok (.aload_n 0, 1) := by decide +kernel
theorem dX12_stampIs_55 : decode cX12_stampIs 55 = .ok (.getfield 7, 3) := by decide +kernel
theorem dX12_stampIs_58 : decode cX12_stampIs 58 = .ok (.bipush 80, 2) := by decide +kernel
theorem dX12_stampIs_60 : decode cX12_stampIs 60 = .ok (.iload_n 1, 1) := by decide +kernel
theorem dX12_stampIs_61 : decode cX12_stampIs 61 = .ok (.iadd, 1) := by decide +kernel
theorem dX12_stampIs_62 : decode cX12_stampIs 62 = .ok (.iaload, 1) := by decide +kernel
theorem dX12_stampIs_63 : decode cX12_stampIs 63 = .ok (.ireturn, 1) := by decide +kernel
theorem dX12_stampIs_64 : decode cX12_stampIs 64 = .ok (.aload_n 0, 1) := by decide +kernel
theorem dX12_stampIs_65 : decode cX12_stampIs 65 = .ok (.iload_n 1, 1) := by decide +kernel
theorem dX12_stampIs_66 : decode cX12_stampIs 66 = .ok (.invokevirtual 354, 3) := by decide +kernel
theorem dX12_stampIs_69 : decode cX12_stampIs 69 = .ok (.ireturn, 1) := by decide +kernel
theorem dX12_stampIs_70 : decode cX12_stampIs 70 = .ok (.iconst (-1), 1) := by decide +kernel
theorem dX12_stampIs_71 : decode cX12_stampIs 71 = .ok (.ireturn, 1) := by decide +kernel
theorem dX12_comes_0 : decode cX12_comes 0 = .ok (.aload_n 0, 1) := by decide +kernel
theorem dX12_comes_1 : decode cX12_comes 1 = .ok (.iload_n 1, 1) := by decide +kernel
theorem dX12_comes_2 : decode cX12_comes 2 = .ok (.invokevirtual 259, 3) := by decide +kernel
theorem dX12_comes_5 : decode cX12_comes 5 = .ok (.ifCond .eq 20, 3) := by decide +kernel
theorem dX12_comes_8 : decode cX12_comes 8 = .ok (.iload_n 2, 1) := by decide +kernel
theorem dX12_comes_9 : decode cX12_comes 9 = .ok (.invokestatic 357, 3) := by decide +kernel
theorem dX12_comes_12 : decode cX12_comes 12 = .ok (.ifCond .eq 13, 3) := by decide +kernel
theorem dX12_comes_15 : decode cX12_comes 15 = .ok (.iload_n 3, 1) := by decide +kernel
theorem dX12_comes_16 : decode cX12_comes 16 = .ok (.iconst 1, 1) := by decide +kernel
theorem dX12_comes_17 : decode cX12_comes 17 = .ok (.bipush 100, 2) := by decide +kernel
theorem dX12_comes_19 : decode cX12_comes 19 = .ok (.invokestatic 105, 3) := by decide +kernel
theorem dX12_comes_22 : decode cX12_comes 22 = .ok (.ifCond .ne 5, 3) := by decide +kernel
theorem dX12_comes_25 : decode cX12_comes 25 = .ok (.iconst (-1), 1) := by decide +kernel
theorem dX12_comes_26 : decode cX12_comes 26 = .ok (.ireturn, 1) := by decide +kernel
theorem dX12_comes_27 : decode cX12_comes 27 = .ok (.aload_n 0, 1) := by decide +kernel
theorem dX12_comes_28 : decode cX12_comes 28 = .ok (.getfield 7, 3) := by decide +kernel
theorem dX12_comes_31 : decode cX12_comes 31 = .ok (.aload_n 0, 1) := by decide +kernel
theorem dX12_comes_32 : decode cX12_comes 32 = .ok (.getfield 13, 3) := by decide +kernel
theorem dX12_comes_35 : decode cX12_comes 35 = .ok (.invokestatic 271, 3) := by decide +kernel
theorem dX12_comes_38 : decode cX12_comes 38 = .ok (.iconst 0, 1) := by decide +kernel
theorem dX12_comes_39 : decode cX12_comes 39 = .ok (.istore 4, 2) := by decide +kernel
theorem dX12_comes_41 : decode cX12_comes 41 = .ok (.aload_n 0, 1) := by decide +kernel
theorem dX12_comes_42 : decode cX12_comes 42 = .ok (.getfield 7, 3) := by decide +kernel
theorem dX12_comes_45 : decode cX12_comes 45 = .ok (.bipush 8, 2) := by decide +kernel
theorem dX12_comes_47 : decode cX12_comes 47 = .ok (.iload_n 1, 1) := by decide +kernel
theorem dX12_comes_48 : decode cX12_comes 48 = .ok (.iadd, 1) := by decide +kernel
theorem dX12_comes_49 : decode cX12_comes 49 = .ok (.iaload, 1) := by decide +kernel
theorem dX12_comes_50 : decode cX12_comes 50 = .ok (.iload_n 2, 1) := by decide +kernel
theorem dX12_comes_51 : decode cX12_comes 51 = .ok (.if_icmp .eq 36, 3) := by decide +kernel
theorem dX12_comes_54 : decode cX12_comes 54 = .ok (.iload 4, 2) := by decide +kernel
theorem dX12_comes_56 : decode cX12_comes 56 = .ok (.iload_n 3, 1) := by decide +kernel
theorem dX12_comes_57 : decode cX12_comes 57 = .ok (.if_icmp .ge 30, 3) := by decide +kernel
theorem dX12_comes_60 : decode cX12_comes 60 = .ok (.aload_n 0, 1) := by decide +kernel
theorem dX12_comes_61 : decode cX12_comes 61 = .ok (.getfield 7, 3) := by decide +kernel
theorem dX12_comes_64 : decode cX12_comes 64 = .ok (.sipush 128, 3) := by decide +kernel
theorem dX12_comes_67 : decode cX12_comes 67 = .ok (.iaload, 1) := by decide +kernel
theorem dX12_comes_68 : decode cX12_comes 68 = .ok (.sipush 9999, 3) := by decide +kernel
theorem dX12_comes_71 : decode cX12_comes 71 = .ok (.if_icmp .ge 16, 3) := by decide +kernel
theorem dX12_comes_74 : decode cX12_comes 74 = .ok (.aload_n 0, 1) := by decide +kernel
theorem dX12_comes_75 : decode cX12_comes 75 = .ok (.invokevirtual 335, 3) := by decide +kernel
theorem dX12_comes_78 : decode cX12_comes 78 = .ok (.iload 4, 2) := by decide +kernel
theorem dX12_comes_80 : decode cX12_comes 80 = .ok (.iconst 1, 1) := by decide +kernel
theorem dX12_comes_81 : decode cX12_comes 81 = .ok (.iadd, 1) := by decide +kernel
theorem dX12_comes_82 : decode cX12_comes 82 = .ok (.istore 4, 2) := by decide +kernel
theorem dX12_comes_84 : decode cX12_comes 84 = .ok (.goto (-43), 3) := by decide +kernel
theorem dX12_comes_87 : decode cX12_comes 87 = .ok (.aload_n 0, 1) := by decide +kernel
theorem dX12_comes_88 : decode cX12_comes 88 = .ok (.getfield 7, 3) := by decide +kernel
theorem dX12_comes_91 : decode cX12_comes 91 = .ok (.bipush 8, 2) := by decide +kernel
theorem dX12_comes_93 : decode cX12_comes 93 = .ok (.iload_n 1, 1) := by decide +kernel
theorem dX12_comes_94 : decode cX12_comes 94 = .ok (.iadd, 1) := by decide +kernel
theorem dX12_comes_95 : decode cX12_comes 95 = .ok (.iaload, 1) := by decide +kernel
theorem dX12_comes_96 : decode cX12_comes 96 = .ok (.iload_n 2, 1) := by decide +kernel
theorem dX12_comes_97 : decode cX12_comes 97 = .ok (.if_icmp .ne 7, 3) := by decide +kernel
theorem dX12_comes_100 : decode cX12_comes 100 = .ok (.iconst 1, 1) := by decide +kernel
theorem dX12_comes_101 : decode cX12_comes 101 = .ok (.goto 4, 3) := by decide +kernel
theorem dX12_comes_104 : decode cX12_comes 104 = .ok (.iconst 0, 1) := by decide +kernel
theorem dX12_comes_105 : decode cX12_comes 105 = .ok (.istore 5, 2) := by decide +kernel
theorem dX12_comes_107 : decode cX12_comes 107 = .ok (.aload_n 0, 1) := by decide +kernel
theorem dX12_comes_108 : decode cX12_comes 108 = .ok (.getfield 13, 3) := by decide +kernel
theorem dX12_comes_111 : decode cX12_comes 111 = .ok (.aload_n 0, 1) := by decide +kernel
theorem dX12_comes_112 : decode cX12_comes 112 = .ok (.getfield 7, 3) := by decide +kernel
theorem dX12_comes_115 : decode cX12_comes 115 = .ok (.invokestatic 271, 3) := by decide +kernel
theorem dX12_comes_118 : decode cX12_comes 118 = .ok (.iload 5, 2) := by decide +kernel
theorem dX12_comes_120 : decode cX12_comes 120 = .ok (.ifCond .eq 8, 3) := by decide +kernel
theorem dX12_comes_123 : decode cX12_comes 123 = .ok (.iload 4, 2) := by decide +kernel
theorem dX12_comes_125 : decode cX12_comes 125 = .ok (.goto 5, 3) := by decide +kernel
theorem dX12_comes_128 : decode cX12_comes 128 = .ok (.bipush (-2), 2) := by decide +kernel
theorem dX12_comes_130 : decode cX12_comes 130 = .ok (.ireturn, 1) := by decide +kernel
theorem dX12_atRest_0 : decode cX12_atRest 0 = .ok (.aload_n 0, 1) := by decide +kernel
theorem dX12_atRest_1 : decode cX12_atRest 1 = .ok (.iload_n 1, 1) := by decide +kernel
theorem dX12_atRest_2 : decode cX12_atRest 2 = .ok (.invokevirtual 259, 3) := by decide +kernel
theorem dX12_atRest_5 : decode cX12_atRest 5 = .ok (.ifCond .eq 13, 3) := by decide +kernel
theorem dX12_atRest_8 : decode cX12_atRest 8 = .ok (.iload_n 2, 1) := by decide +kernel
theorem dX12_atRest_9 : decode cX12_atRest 9 = .ok (.iconst 1, 1) := by decide +kernel
theorem dX12_atRest_10 : decode cX12_atRest 10 = .ok (.bipush 100, 2) := by decide +kernel
theorem dX12_atRest_12 : decode cX12_atRest 12 = .ok (.invokestatic 105, 3) := by decide +kernel
theorem dX12_atRest_15 : decode cX12_atRest 15 = .ok (.ifCond .ne 5, 3) := by decide +kernel
theorem dX12_atRest_18 : decode cX12_atRest 18 = .ok (.iconst (-1), 1) := by decide +kernel
theorem dX12_atRest_19 : decode cX12_atRest 19 = .ok (.ireturn, 1) := by decide +kernel
theorem dX12_atRest_20 : decode cX12_atRest 20 = .ok (.aload_n 0, 1) := by decide +kernel
theorem dX12_atRest_21 : decode cX12_atRest 21 = .ok (.getfield 7, 3) := by decide +kernel
theorem dX12_atRest_24 : decode cX12_atRest 24 = .ok (.aload_n 0, 1) := by decide +kernel
theorem dX12_atRest_25 : decode cX12_atRest 25 = .ok (.getfield 13, 3) := by decide +kernel
theorem dX12_atRest_28 : decode cX12_atRest 28 = .ok (.invokestatic 271, 3) := by decide +kernel
theorem dX12_atRest_31 : decode cX12_atRest 31 = .ok (.iconst 0, 1) := by decide +kernel
theorem dX12_atRest_32 : decode cX12_atRest 32 = .ok (.istore_n 3, 1) := by decide +kernel
theorem dX12_atRest_33 : decode cX12_atRest 33 = .ok (.iconst 1, 1) := by decide +kernel
theorem dX12_atRest_34 : decode cX12_atRest 34 = .ok (.istore 4, 2) := by decide +kernel
theorem dX12_atRest_36 : decode cX12_atRest 36 = .ok (.iload 4, 2) := by decide +kernel
theorem dX12_atRest_38 : decode cX12_atRest 38 = .ok (.iload_n 2, 1) := by decide +kernel
theorem dX12_atRest_39 : decode cX12_atRest 39 = .ok (.if_icmp .gt 55, 3) := by decide +kernel
theorem dX12_atRest_42 : decode cX12_atRest 42 = .ok (.aload_n 0, 1) := by decide +kernel
theorem dX12_atRest_43 : decode cX12_atRest 43 = .ok (.getfield 7, 3) := by decide +kernel
theorem dX12_atRest_46 : decode cX12_atRest 46 = .ok (.sipush 128, 3) := by decide +kernel
theorem dX12_atRest_49 : decode cX12_atRest 49 = .ok (.iaload, 1) := by decide +kernel
theorem dX12_atRest_50 : decode cX12_atRest 50 = .ok (.sipush 9999, 3) := by decide +kernel
theorem dX12_atRest_53 : decode cX12_atRest 53 = .ok (.if_icmp .ge 41, 3) := by decide +kernel
theorem dX12_atRest_56 : decode cX12_atRest 56 = .ok (.aload_n 0, 1) := by decide +kernel
theorem dX12_atRest_57 : decode cX12_atRest 57 = .ok (.getfield 7, 3) := by decide +kernel
theorem dX12_atRest_60 : decode cX12_atRest 60 = .ok (.bipush 8, 2) := by decide +kernel
theorem dX12_atRest_62 : decode cX12_atRest 62 = .ok (.iload_n 1, 1) := by decide +kernel
theorem dX12_atRest_63 : decode cX12_atRest 63 = .ok (.iadd, 1) := by decide +kernel
theorem dX12_atRest_64 : decode cX12_atRest 64 = .ok (.iaload, 1) := by decide +kernel
theorem dX12_atRest_65 : decode cX12_atRest 65 = .ok (.istore 5, 2) := by decide +kernel
theorem dX12_atRest_67 : decode cX12_atRest 67 = .ok (.aload_n 0, 1) := by decide +kernel
theorem dX12_atRest_68 : decode cX12_atRest 68 = .ok (.invokevirtual 335, 3) := by decide +kernel
theorem dX12_atRest_71 : decode cX12_atRest 71 = .ok (.aload_n 0, 1) := by decide +kernel
theorem dX12_atRest_72 : decode cX12_atRest 72 = .ok (.getfield 7, 3) := by decide +kernel
theorem dX12_atRest_75 : decode cX12_atRest 75 = .ok (.bipush 8, 2) := by decide +kernel
theorem dX12_atRest_77 : decode cX12_atRest 77 = .ok (.iload_n 1, 1) := by decide +kernel
theorem dX12_atRest_78 : decode cX12_atRest 78 = .ok (.iadd, 1) := by decide +kernel
theorem dX12_atRest_79 : decode cX12_atRest 79 = .ok (.iaload, 1) := by decide +kernel
theorem dX12_atRest_80 : decode cX12_atRest 80 = .ok (.iload 5, 2) := by decide +kernel
theorem dX12_atRest_82 : decode cX12_atRest 82 = .ok (.if_icmp .eq 6, 3) := by decide +kernel
theorem dX12_atRest_85 : decode cX12_atRest 85 = .ok (.iload 4, 2) := by decide +kernel
theorem dX12_atRest_87 : decode cX12_atRest 87 = .ok (.istore_n 3, 1) := by decide +kernel
theorem dX12_atRest_88 : decode cX12_atRest 88 = .ok (.iinc 4 1, 3) := by decide +kernel
theorem dX12_atRest_91 : decode cX12_atRest 91 = .ok (.goto (-55), 3) := by decide +kernel
theorem dX12_atRest_94 : decode cX12_atRest 94 = .ok (.aload_n 0, 1) := by decide +kernel
theorem dX12_atRest_95 : decode cX12_atRest 95 = .ok (.getfield 13, 3) := by decide +kernel
theorem dX12_atRest_98 : decode cX12_atRest 98 = .ok (.aload_n 0, 1) := by decide +kernel
theorem dX12_atRest_99 : decode cX12_atRest 99 = .ok (.getfield 7, 3) := by decide +kernel
theorem dX12_atRest_102 : decode cX12_atRest 102 = .ok (.invokestatic 271, 3) := by decide +kernel
theorem dX12_atRest_105 : decode cX12_atRest 105 = .ok (.iload_n 3, 1) := by decide +kernel
theorem dX12_atRest_106 : decode cX12_atRest 106 = .ok (.ireturn, 1) := by decide +kernel
theorem dX12_meet_0 : decode cX12_meet 0 = .ok (.aload_n 0, 1) := by decide +kernel
theorem dX12_meet_1 : decode cX12_meet 1 = .ok (.iload_n 1, 1) := by decide +kernel
theorem dX12_meet_2 : decode cX12_meet 2 = .ok (.invokevirtual 259, 3) := by decide +kernel
theorem dX12_meet_5 : decode cX12_meet 5 = .ok (.ifCond .eq 26, 3) := by decide +kernel
theorem dX12_meet_8 : decode cX12_meet 8 = .ok (.aload_n 0, 1) := by decide +kernel
theorem dX12_meet_9 : decode cX12_meet 9 = .ok (.iload_n 2, 1) := by decide +kernel
theorem dX12_meet_10 : decode cX12_meet 10 = .ok (.invokevirtual 259, 3) := by decide +kernel
theorem dX12_meet_13 : decode cX12_meet 13 = .ok (.ifCond .eq 18, 3) := by decide +kernel
theorem dX12_meet_16 : decode cX12_meet 16 = .ok (.iload_n 1, 1) := by decide +kernel
theorem dX12_meet_17 : decode cX12_meet 17 = .ok (.iload_n 2, 1) := by decide +kernel
theorem dX12_meet_18 : decode cX12_meet 18 = .ok (.if_icmp .eq 13, 3) := by decide +kernel
theorem dX12_meet_21 : decode cX12_meet 21 = .ok (.iload_n 3, 1) := by decide +kernel
theorem dX12_meet_22 : decode cX12_meet 22 = .ok (.iconst 1, 1) := by decide +kernel
theorem dX12_meet_23 : decode cX12_meet 23 = .ok (.bipush 100, 2) := by decide +kernel
theorem dX12_meet_25 : decode cX12_meet 25 = .ok (.invokestatic 105, 3) := by decide +kernel
theorem dX12_meet_28 : decode cX12_meet 28 = .ok (.ifCond .ne 5, 3) := by decide +kernel
theorem dX12_meet_31 : decode cX12_meet 31 = .ok (.iconst (-1), 1) := by decide +kernel
theorem dX12_meet_32 : decode cX12_meet 32 = .ok (.ireturn, 1) := by decide +kernel
theorem dX12_meet_33 : decode cX12_meet 33 = .ok (.aload_n 0, 1) := by decide +kernel
theorem dX12_meet_34 : decode cX12_meet 34 = .ok (.getfield 7, 3) := by decide +kernel
theorem dX12_meet_37 : decode cX12_meet 37 = .ok (.aload_n 0, 1) := by decide +kernel
theorem dX12_meet_38 : decode cX12_meet 38 = .ok (.getfield 13, 3) := by decide +kernel
theorem dX12_meet_41 : decode cX12_meet 41 = .ok (.invokestatic 271, 3) := by decide +kernel
theorem dX12_meet_44 : decode cX12_meet 44 = .ok (.iconst 0, 1) := by decide +kernel
theorem dX12_meet_45 : decode cX12_meet 45 = .ok (.istore 4, 2) := by decide +kernel
theorem dX12_meet_47 : decode cX12_meet 47 = .ok (.aload_n 0, 1) := by decide +kernel
theorem dX12_meet_48 : decode cX12_meet 48 = .ok (.getfield 7, 3) := by decide +kernel
theorem dX12_meet_51 : decode cX12_meet 51 = .ok (.bipush 8, 2) := by decide +kernel
theorem dX12_meet_53 : decode cX12_meet 53 = .ok (.iload_n 1, 1) := by decide +kernel
theorem dX12_meet_54 : decode cX12_meet 54 = .ok (.iadd, 1) := by decide +kernel
theorem dX12_meet_55 : decode cX12_meet 55 = .ok (.iaload, 1) := by decide +kernel
theorem dX12_meet_56 : decode cX12_meet 56 = .ok (.aload_n 0, 1) := by decide +kernel
theorem dX12_meet_57 : decode cX12_meet 57 = .ok (.getfield 7, 3) := by decide +kernel
theorem dX12_meet_60 : decode cX12_meet 60 = .ok (.bipush 8, 2) := by decide +kernel
theorem dX12_meet_62 : decode cX12_meet 62 = .ok (.iload_n 2, 1) := by decide +kernel
theorem dX12_meet_63 : decode cX12_meet 63 = .ok (.iadd, 1) := by decide +kernel
theorem dX12_meet_64 : decode cX12_meet 64 = .ok (.iaload, 1) := by decide +kernel
theorem dX12_meet_65 : decode cX12_meet 65 = .ok (.if_icmp .eq 36, 3) := by decide +kernel
theorem dX12_meet_68 : decode cX12_meet 68 = .ok (.iload 4, 2) := by decide +kernel
theorem dX12_meet_70 : decode cX12_meet 70 = .ok (.iload_n 3, 1) := by decide +kernel
theorem dX12_meet_71 : decode cX12_meet 71 = .ok (.if_icmp .ge 30, 3) := by decide +kernel
theorem dX12_meet_74 : decode cX12_meet 74 = .ok (.aload_n 0, 1) := by decide +kernel
theorem dX12_meet_75 : decode cX12_meet 75 = .ok (.getfield 7, 3) := by decide +kernel
theorem dX12_meet_78 : decode cX12_meet 78 = .ok (.sipush 128, 3) := by decide +kernel
theorem dX12_meet_81 : decode cX12_meet 81 = .ok (.iaload, 1) := by decide +kernel
theorem dX12_meet_82 : decode cX12_meet 82 = .ok (.sipush 9999, 3) := by decide +kernel
theorem dX12_meet_85 : decode cX12_meet 85 = .ok (.if_icmp .ge 16, 3) := by decide +kernel
theorem dX12_meet_88 : decode cX12_meet 88 = .ok (.aload_n 0, 1) := by decide +kernel
theorem dX12_meet_89 : decode cX12_meet 89 = .ok (.invokevirtual 335, 3) := by decide +kernel
theorem dX12_meet_92 : decode cX12_meet 92 = .ok (.iload 4, 2) := by decide +kernel
theorem dX12_meet_94 : decode cX12_meet 94 = .ok (.iconst 1, 1) := by decide +kernel
theorem dX12_meet_95 : decode cX12_meet 95 = .ok (.iadd, 1) := by decide +kernel
theorem dX12_meet_96 : decode cX12_meet 96 = .ok (.istore 4, 2) := by decide +kernel
theorem dX12_meet_98 : decode cX12_meet 98 = .ok (.goto (-51), 3) := by decide +kernel
theorem dX12_meet_101 : decode cX12_meet 101 = .ok (.aload_n 0, 1) := by decide +kernel
theorem dX12_meet_102 : decode cX12_meet 102 = .ok (.getfield 7, 3) := by decide +kernel
theorem dX12_meet_105 : decode cX12_meet 105 = .ok (.bipush 8, 2) := by decide +kernel
theorem dX12_meet_107 : decode cX12_meet 107 = .ok (.iload_n 1, 1) := by decide +kernel
theorem dX12_meet_108 : decode cX12_meet 108 = .ok (.iadd, 1) := by decide +kernel
theorem dX12_meet_109 : decode cX12_meet 109 = .ok (.iaload, 1) := by decide +kernel
theorem dX12_meet_110 : decode cX12_meet 110 = .ok (.aload_n 0, 1) := by decide +kernel
theorem dX12_meet_111 : decode cX12_meet 111 = .ok (.getfield 7, 3) := by decide +kernel
theorem dX12_meet_114 : decode cX12_meet 114 = .ok (.bipush 8, 2) := by decide +kernel
theorem dX12_meet_116 : decode cX12_meet 116 = .ok (.iload_n 2, 1) := by decide +kernel
theorem dX12_meet_117 : decode cX12_meet 117 = .ok (.iadd, 1) := by decide +kernel
theorem dX12_meet_118 : decode cX12_meet 118 = .ok (.iaload, 1) := by decide +kernel
theorem dX12_meet_119 : decode cX12_meet 119 = .ok (.if_icmp .ne 7, 3) := by decide +kernel
theorem dX12_meet_122 : decode cX12_meet 122 = .ok (.iconst 1, 1) := by decide +kernel
theorem dX12_meet_123 : decode cX12_meet 123 = .ok (.goto 4, 3) := by decide +kernel
theorem dX12_meet_126 : decode cX12_meet 126 = .ok (.iconst 0, 1) := by decide +kernel
theorem dX12_meet_127 : decode cX12_meet 127 = .ok (.istore 5, 2) := by decide +kernel
theorem dX12_meet_129 : decode cX12_meet 129 = .ok (.aload_n 0, 1) := by decide +kernel
theorem dX12_meet_130 : decode cX12_meet 130 = .ok (.getfield 13, 3) := by decide +kernel
theorem dX12_meet_133 : decode cX12_meet 133 = .ok (.aload_n 0, 1) := by decide +kernel
theorem dX12_meet_134 : decode cX12_meet 134 = .ok (.getfield 7, 3) := by decide +kernel
theorem dX12_meet_137 : decode cX12_meet 137 = .ok (.invokestatic 271, 3) := by decide +kernel
theorem dX12_meet_140 : decode cX12_meet 140 = .ok (.iload 5, 2) := by decide +kernel
theorem dX12_meet_142 : decode cX12_meet 142 = .ok (.ifCond .eq 8, 3) := by decide +kernel
theorem dX12_meet_145 : decode cX12_meet 145 = .ok (.iload 4, 2) := by decide +kernel
theorem dX12_meet_147 : decode cX12_meet 147 = .ok (.goto 5, 3) := by decide +kernel
theorem dX12_meet_150 : decode cX12_meet 150 = .ok (.bipush (-2), 2) := by decide +kernel
theorem dX12_meet_152 : decode cX12_meet 152 = .ok (.ireturn, 1) := by decide +kernel
theorem dX12_again_0 : decode cX12_again 0 = .ok (.aload_n 0, 1) := by decide +kernel
theorem dX12_again_1 : decode cX12_again 1 = .ok (.iload_n 1, 1) := by decide +kernel
theorem dX12_again_2 : decode cX12_again 2 = .ok (.invokevirtual 259, 3) := by decide +kernel
theorem dX12_again_5 : decode cX12_again 5 = .ok (.ifCond .eq 13, 3) := by decide +kernel
theorem dX12_again_8 : decode cX12_again 8 = .ok (.iload_n 2, 1) := by decide +kernel
theorem dX12_again_9 : decode cX12_again 9 = .ok (.iconst 1, 1) := by decide +kernel
theorem dX12_again_10 : decode cX12_again 10 = .ok (.bipush 100, 2) := by decide +kernel
theorem dX12_again_12 : decode cX12_again 12 = .ok (.invokestatic 105, 3) := by decide +kernel
theorem dX12_again_15 : decode cX12_again 15 = .ok (.ifCond .ne 5, 3) := by decide +kernel
theorem dX12_again_18 : decode cX12_again 18 = .ok (.iconst (-1), 1) := by decide +kernel
theorem dX12_again_19 : decode cX12_again 19 = .ok (.ireturn, 1) := by decide +kernel
theorem dX12_again_20 : decode cX12_again 20 = .ok (.aload_n 0, 1) := by decide +kernel
theorem dX12_again_21 : decode cX12_again 21 = .ok (.getfield 7, 3) := by decide +kernel
theorem dX12_again_24 : decode cX12_again 24 = .ok (.aload_n 0, 1) := by decide +kernel
theorem dX12_again_25 : decode cX12_again 25 = .ok (.getfield 13, 3) := by decide +kernel
theorem dX12_again_28 : decode cX12_again 28 = .ok (.invokestatic 271, 3) := by decide +kernel
theorem dX12_again_31 : decode cX12_again 31 = .ok (.iconst 0, 1) := by decide +kernel
theorem dX12_again_32 : decode cX12_again 32 = .ok (.istore_n 3, 1) := by decide +kernel
theorem dX12_again_33 : decode cX12_again 33 = .ok (.iload_n 3, 1) := by decide +kernel
theorem dX12_again_34 : decode cX12_again 34 = .ok (.sipush 384, 3) := by decide +kernel
theorem dX12_again_37 : decode cX12_again 37 = .ok (.if_icmp .ge 16, 3) := by decide +kernel
theorem dX12_again_40 : decode cX12_again 40 = .ok (.aload_n 0, 1) := by decide +kernel
theorem dX12_again_41 : decode cX12_again 41 = .ok (.getfield 93, 3) := by decide +kernel
theorem dX12_again_44 : decode cX12_again 44 = .ok (.iload_n 3, 1) := by decide +kernel
theorem dX12_again_45 : decode cX12_again 45 = .ok (.iconst 0, 1) := by decide +kernel
theorem dX12_again_46 : decode cX12_again 46 = .ok (.bastore, 1) := by decide +kernel
theorem dX12_again_47 : decode cX12_again 47 = .ok (.iinc 3 1, 3) := by decide +kernel
theorem dX12_again_50 : decode cX12_again 50 = .ok (.goto (-17), 3) := by decide +kernel
theorem dX12_again_53 : decode cX12_again 53 = .ok (.aload_n 0, 1) := by decide +kernel
theorem dX12_again_54 : decode cX12_again 54 = .ok (.getfield 93, 3) := by decide +kernel
theorem dX12_again_57 : decode cX12_again 57 = .ok (.aload_n 0, 1) := by decide +kernel
theorem dX12_again_58 : decode cX12_again 58 = .ok (.getfield 7, 3) := by decide +kernel
theorem dX12_again_61 : decode cX12_again 61 = .ok (.bipush 8, 2) := by decide +kernel
theorem dX12_again_63 : decode cX12_again 63 = .ok (.iload_n 1, 1) := by decide +kernel
theorem dX12_again_64 : decode cX12_again 64 = .ok (.iadd, 1) := by decide +kernel
theorem dX12_again_65 : decode cX12_again 65 = .ok (.iaload, 1) := by decide +kernel
theorem dX12_again_66 : decode cX12_again 66 = .ok (.iconst 1, 1) := by decide +kernel
theorem dX12_again_67 : decode cX12_again 67 = .ok (.bastore, 1) := by decide +kernel
theorem dX12_again_68 : decode cX12_again 68 = .ok (.bipush (-2), 2) := by decide +kernel
theorem dX12_again_70 : decode cX12_again 70 = .ok (.istore_n 3, 1) := by decide +kernel
theorem dX12_again_71 : decode cX12_again 71 = .ok (.iconst 1, 1) := by decide +kernel
theorem dX12_again_72 : decode cX12_again 72 = .ok (.istore 4, 2) := by decide +kernel
theorem dX12_again_74 : decode cX12_again 74 = .ok (.iload 4, 2) := by decide +kernel
theorem dX12_again_76 : decode cX12_again 76 = .ok (.iload_n 2, 1) := by decide +kernel
theorem dX12_again_77 : decode cX12_again 77 = .ok (.if_icmp .gt 93, 3) := by decide +kernel
theorem dX12_again_80 : decode cX12_again 80 = .ok (.aload_n 0, 1) := by decide +kernel
theorem dX12_again_81 : decode cX12_again 81 = .ok (.getfield 7, 3) := by decide +kernel
theorem dX12_again_84 : decode cX12_again 84 = .ok (.sipush 128, 3) := by decide +kernel
theorem dX12_again_87 : decode cX12_again 87 = .ok (.iaload, 1) := by decide +kernel
theorem dX12_again_88 : decode cX12_again 88 = .ok (.sipush 9999, 3) := by decide +kernel
theorem dX12_again_91 : decode cX12_again 91 = .ok (.if_icmp .ge 79, 3) := by decide +kernel
theorem dX12_again_94 : decode cX12_again 94 = .ok (.iload_n 3, 1) := by decide +kernel
theorem dX12_again_95 : decode cX12_again 95 = .ok (.bipush (-2), 2) := by decide +kernel
theorem dX12_again_97 : decode cX12_again 97 = .ok (.if_icmp .ne 73, 3) := by decide +kernel
theorem dX12_again_100 : decode cX12_again 100 = .ok (.aload_n 0, 1) := by decide +kernel
theorem dX12_again_101 : decode cX12_again 101 = .ok (.getfield 7, 3) := by decide +kernel
theorem dX12_again_104 : decode cX12_again 104 = .ok (.bipush 8, 2) := by decide +kernel
theorem dX12_again_106 : decode cX12_again 106 = .ok (.iload_n 1, 1) := by decide +kernel
theorem dX12_again_107 : decode cX12_again 107 = .ok (.iadd, 1) := by decide +kernel
theorem dX12_again_108 : decode cX12_again 108 = .ok (.iaload, 1) := by decide +kernel
theorem dX12_again_109 : decode cX12_again 109 = .ok (.istore 5, 2) := by decide +kernel
theorem dX12_again_111 : decode cX12_again 111 = .ok (.aload_n 0, 1) := by decide +kernel
theorem dX12_again_112 : decode cX12_again 112 = .ok (.invokevirtual 335, 3) := by decide +kernel
theorem dX12_again_115 : decode cX12_again 115 = .ok (.aload_n 0, 1) := by decide +kernel
theorem dX12_again_116 : decode cX12_again 116 = .ok (.getfield 7, 3) := by decide +kernel
theorem dX12_again_119 : decode cX12_again 119 = .ok (.bipush 8, 2) := by decide +kernel
theorem dX12_again_121 : decode cX12_again 121 = .ok (.iload_n 1, 1) := by decide +kernel
theorem dX12_again_122 : decode cX12_again 122 = .ok (.iadd, 1) := by decide +kernel
theorem dX12_again_123 : decode cX12_again 123 = .ok (.iaload, 1) := by decide +kernel
theorem dX12_again_124 : decode cX12_again 124 = .ok (.iload 5, 2) := by decide +kernel
theorem dX12_again_126 : decode cX12_again 126 = .ok (.if_icmp .eq 23, 3) := by decide +kernel
theorem dX12_again_129 : decode cX12_again 129 = .ok (.aload_n 0, 1) := by decide +kernel
theorem dX12_again_130 : decode cX12_again 130 = .ok (.getfield 93, 3) := by decide +kernel
theorem dX12_again_133 : decode cX12_again 133 = .ok (.aload_n 0, 1) := by decide +kernel
theorem dX12_again_134 : decode cX12_again 134 = .ok (.getfield 7, 3) := by decide +kernel
theorem dX12_again_137 : decode cX12_again 137 = .ok (.bipush 8, 2) := by decide +kernel
theorem dX12_again_139 : decode cX12_again 139 = .ok (.iload_n 1, 1) := by decide +kernel
theorem dX12_again_140 : decode cX12_again 140 = .ok (.iadd, 1) := by decide +kernel
theorem dX12_again_141 : decode cX12_again 141 = .ok (.iaload, 1) := by decide +kernel
theorem dX12_again_142 : decode cX12_again 142 = .ok (.baload, 1) := by decide +kernel
theorem dX12_again_143 : decode cX12_again 143 = .ok (.ifCond .eq 6, 3) := by decide +kernel
theorem dX12_again_146 : decode cX12_again 146 = .ok (.iload 4, 2) := by decide +kernel
theorem dX12_again_148 : decode cX12_again 148 = .ok (.istore_n 3, 1) := by decide +kernel
theorem dX12_again_149 : decode cX12_again 149 = .ok (.aload_n 0, 1) := by decide +kernel
theorem dX12_again_150 : decode cX12_again 150 = .ok (.getfield 93, 3) := by decide +kernel
theorem dX12_again_153 : decode cX12_again 153 = .ok (.aload_n 0, 1) := by decide +kernel
theorem dX12_again_154 : decode cX12_again 154 = .ok (.getfield 7, 3) := by decide +kernel
theorem dX12_again_157 : decode cX12_again 157 = .ok (.bipush 8, 2) := by decide +kernel
theorem dX12_again_159 : decode cX12_again 159 = .ok (.iload_n 1, 1) := by decide +kernel
theorem dX12_again_160 : decode cX12_again 160 = .ok (.iadd, 1) := by decide +kernel
theorem dX12_again_161 : decode cX12_again 161 = .ok (.iaload, 1) := by decide +kernel
theorem dX12_again_162 : decode cX12_again 162 = .ok (.iconst 1, 1) := by decide +kernel
theorem dX12_again_163 : decode cX12_again 163 = .ok (.bastore, 1) := by decide +kernel
theorem dX12_again_164 : decode cX12_again 164 = .ok (.iinc 4 1, 3) := by decide +kernel
theorem dX12_again_167 : decode cX12_again 167 = .ok (.goto (-93), 3) := by decide +kernel
theorem dX12_again_170 : decode cX12_again 170 = .ok (.aload_n 0, 1) := by decide +kernel
theorem dX12_again_171 : decode cX12_again 171 = .ok (.getfield 13, 3) := by decide +kernel
theorem dX12_again_174 : decode cX12_again 174 = .ok (.aload_n 0, 1) := by decide +kernel
theorem dX12_again_175 : decode cX12_again 175 = .ok (.getfield 7, 3) := by decide +kernel
theorem dX12_again_178 : decode cX12_again 178 = .ok (.invokestatic 271, 3) := by decide +kernel
theorem dX12_again_181 : decode cX12_again 181 = .ok (.iload_n 3, 1) := by decide +kernel
theorem dX12_again_182 : decode cX12_again 182 = .ok (.ireturn, 1) := by decide +kernel
theorem dX12_home_0 : decode cX12_home 0 = .ok (.aload_n 0, 1) := by decide +kernel
theorem dX12_home_1 : decode cX12_home 1 = .ok (.iload_n 1, 1) := by decide +kernel
theorem dX12_home_2 : decode cX12_home 2 = .ok (.invokevirtual 259, 3) := by decide +kernel
theorem dX12_home_5 : decode cX12_home 5 = .ok (.ifCond .eq 12, 3) := by decide +kernel
theorem dX12_home_8 : decode cX12_home 8 = .ok (.iload_n 2, 1) := by decide +kernel
theorem dX12_home_9 : decode cX12_home 9 = .ok (.iconst 0, 1) := by decide +kernel
theorem dX12_home_10 : decode cX12_home 10 = .ok (.iconst 1, 1) := by decide +kernel
theorem dX12_home_11 : decode cX12_home 11 = .ok (.invokestatic 105, 3) := by decide +kernel
theorem dX12_home_14 : decode cX12_home 14 = .ok (.ifCond .ne 5, 3) := by decide +kernel
theorem dX12_home_17 : decode cX12_home 17 = .ok (.iconst (-1), 1) := by decide +kernel
theorem dX12_home_18 : decode cX12_home 18 = .ok (.ireturn, 1) := by decide +kernel
theorem dX12_home_19 : decode cX12_home 19 = .ok (.bipush (-2), 2) := by decide +kernel
theorem dX12_home_21 : decode cX12_home 21 = .ok (.istore_n 3, 1) := by decide +kernel
theorem dX12_home_22 : decode cX12_home 22 = .ok (.iconst 0, 1) := by decide +kernel
theorem dX12_home_23 : decode cX12_home 23 = .ok (.istore 4, 2) := by decide +kernel
theorem dX12_home_25 : decode cX12_home 25 = .ok (.iconst 0, 1) := by decide +kernel
theorem dX12_home_26 : decode cX12_home 26 = .ok (.istore 5, 2) := by decide +kernel
theorem dX12_home_28 : decode cX12_home 28 = .ok (.iload 5, 2) := by decide +kernel
theorem dX12_home_30 : decode cX12_home 30 = .ok (.bipush 8, 2) := by decide +kernel
theorem dX12_home_32 : decode cX12_home 32 = .ok (.if_icmp .ge 79, 3) := by decide +kernel
theorem dX12_home_35 : decode cX12_home 35 = .ok (.iconst 0, 1) := by decide +kernel
theorem dX12_home_36 : decode cX12_home 36 = .ok (.istore 6, 2) := by decide +kernel
theorem dX12_home_38 : decode cX12_home 38 = .ok (.iconst 0, 1) := by decide +kernel
theorem dX12_home_39 : decode cX12_home 39 = .ok (.istore 7, 2) := by decide +kernel
theorem dX12_home_41 : decode cX12_home 41 = .ok (.iload 7, 2) := by decide +kernel
theorem dX12_home_43 : decode cX12_home 43 = .ok (.bipush 48, 2) := by decide +kernel
theorem dX12_home_45 : decode cX12_home 45 = .ok (.if_icmp .ge 43, 3) := by decide +kernel
theorem dX12_home_48 : decode cX12_home 48 = .ok (.aload_n 0, 1) := by decide +kernel
theorem dX12_home_49 : decode cX12_home 49 = .ok (.iload 7, 2) := by decide +kernel
theorem dX12_home_51 : decode cX12_home 51 = .ok (.iload_n 1, 1) := by decide +kernel
theorem dX12_home_52 : decode cX12_home 52 = .ok (.invokevirtual 287, 3) := by decide +kernel
theorem dX12_home_55 : decode cX12_home 55 = .ok (.ifCond .eq 27, 3) := by decide +kernel
theorem dX12_home_58 : decode cX12_home 58 = .ok (.aload_n 0, 1) := by decide +kernel
theorem dX12_home_59 : decode cX12_home 59 = .ok (.getfield 22, 3) := by decide +kernel
theorem dX12_home_62 : decode cX12_home 62 = .ok (.iload 7, 2) := by decide +kernel
theorem dX12_home_64 : decode cX12_home 64 = .ok (.iaload, 1) := by decide +kernel
theorem dX12_home_65 : decode cX12_home 65 = .ok (.iload 5, 2) := by decide +kernel
theorem dX12_home_67 : decode cX12_home 67 = .ok (.if_icmp .ne 15, 3) := by decide +kernel
theorem dX12_home_70 : decode cX12_home 70 = .ok (.iload 6, 2) := by decide +kernel
theorem dX12_home_72 : decode cX12_home 72 = .ok (.aload_n 0, 1) := by decide +kernel
theorem dX12_home_73 : decode cX12_home 73 = .ok (.getfield 25, 3) := by decide +kernel
theorem dX12_home_76 : decode cX12_home 76 = .ok (.iload 7, 2) := by decide +kernel
theorem dX12_home_78 : decode cX12_home 78 = .ok (.iaload, 1) := by decide +kernel
theorem dX12_home_79 : decode cX12_home 79 = .ok (.iadd, 1) := by decide +kernel
theorem dX12_home_80 : decode cX12_home 80 = .ok (.istore 6, 2) := by decide +kernel
theorem dX12_home_82 : decode cX12_home 82 = .ok (.iinc 7 1, 3) := by decide +kernel
theorem dX12_home_85 : decode cX12_home 85 = .ok (.goto (-44), 3) := by decide +kernel
theorem dX12_home_88 : decode cX12_home 88 = .ok (.iload 6, 2) := by decide +kernel
theorem dX12_home_90 : decode cX12_home 90 = .ok (.iload 4, 2) := by decide +kernel
theorem dX12_home_92 : decode cX12_home 92 = .ok (.if_icmp .gt 6, 3) := by decide +kernel
theorem dX12_home_95 : decode cX12_home 95 = .ok (.goto 10, 3) := by decide +kernel
theorem dX12_home_98 : decode cX12_home 98 = .ok (.iload 6, 2) := by decide +kernel
theorem dX12_home_100 : decode cX12_home 100 = .ok (.istore 4, 2) := by decide +kernel
theorem dX12_home_102 : decode cX12_home 102 = .ok (.iload 5, 2) := by decide +kernel
theorem dX12_home_104 : decode cX12_home 104 = .ok (.istore_n 3, 1) := by decide +kernel
theorem dX12_home_105 : decode cX12_home 105 = .ok (.iinc 5 1, 3) := by decide +kernel
theorem dX12_home_108 : decode cX12_home 108 = .ok (.goto (-80), 3) := by decide +kernel
theorem dX12_home_111 : decode cX12_home 111 = .ok (.iload_n 2, 1) := by decide +kernel
theorem dX12_home_112 : decode cX12_home 112 = .ok (.ifCond .ne 7, 3) := by decide +kernel
theorem dX12_home_115 : decode cX12_home 115 = .ok (.iload_n 3, 1) := by decide +kernel
theorem dX12_home_116 : decode cX12_home 116 = .ok (.goto 5, 3) := by decide +kernel
theorem dX12_home_119 : decode cX12_home 119 = .ok (.iload 4, 2) := by decide +kernel
theorem dX12_home_121 : decode cX12_home 121 = .ok (.ireturn, 1) := by decide +kernel
theorem dX12_lying_0 : decode cX12_lying 0 = .ok (.iload_n 1, 1) := by decide +kernel
theorem dX12_lying_1 : decode cX12_lying 1 = .ok (.invokestatic 357, 3) := by decide +kernel
theorem dX12_lying_4 : decode cX12_lying 4 = .ok (.ifCond .ne 5, 3) := by decide +kernel
theorem dX12_lying_7 : decode cX12_lying 7 = .ok (.iconst (-1), 1) := by decide +kernel
theorem dX12_lying_8 : decode cX12_lying 8 = .ok (.ireturn, 1) := by decide +kernel
theorem dX12_lying_9 : decode cX12_lying 9 = .ok (.iconst 0, 1) := by decide +kernel
theorem dX12_lying_10 : decode cX12_lying 10 = .ok (.istore_n 2, 1) := by decide +kernel
theorem dX12_lying_11 : decode cX12_lying 11 = .ok (.iconst 0, 1) := by decide +kernel
theorem dX12_lying_12 : decode cX12_lying 12 = .ok (.istore_n 3, 1) := by decide +kernel
theorem dX12_lying_13 : decode cX12_lying 13 = .ok (.iload_n 3, 1) := by decide +kernel
theorem dX12_lying_14 : decode cX12_lying 14 = .ok (.bipush 8, 2) := by decide +kernel
theorem dX12_lying_16 : decode cX12_lying 16 = .ok (.if_icmp .ge 36, 3) := by decide +kernel
theorem dX12_lying_19 : decode cX12_lying 19 = .ok (.aload_n 0, 1) := by decide +kernel
theorem dX12_lying_20 : decode cX12_lying 20 = .ok (.iload_n 3, 1) := by decide +kernel
theorem dX12_lying_21 : decode cX12_lying 21 = .ok (.invokevirtual 259, 3) := by decide +kernel
theorem dX12_lying_24 : decode cX12_lying 24 = .ok (.ifCond .eq 22, 3) := by decide +kernel
theorem dX12_lying_27 : decode cX12_lying 27 = .ok (.aload_n 0, 1) := by decide +kernel
theorem dX12_lying_28 : decode cX12_lying 28 = .ok (.getfield 7, 3) := by decide +kernel
theorem dX12_lying_31 : decode cX12_lying 31 = .ok (.bipush 8, 2) := by decide +kernel
theorem dX12_lying_33 : decode cX12_lying 33 = .ok (.iload_n 3, 1) := by decide +kernel
theorem dX12_lying_34 : decode cX12_lying 34 = .ok (.iadd, 1) := by decide +kernel
theorem dX12_lying_35 : decode cX12_lying 35 = .ok (.iaload, 1) := by decide +kernel
theorem dX12_lying_36 : decode cX12_lying 36 = .ok (.iload_n 1, 1) := by decide +kernel
theorem dX12_lying_37 : decode cX12_lying 37 = .ok (.if_icmp .ne 9, 3) := by decide +kernel
theorem dX12_lying_40 : decode cX12_lying 40 = .ok (.iload_n 2, 1) := by decide +kernel
theorem dX12_lying_41 : decode cX12_lying 41 = .ok (.iconst 1, 1) := by decide +kernel
theorem dX12_lying_42 : decode cX12_lying 42 = .ok (.iload_n 3, 1) := by decide +kernel
theorem dX12_lying_43 : decode cX12_lying 43 = .ok (.ishl, 1) := by decide +kernel
theorem dX12_lying_44 : decode cX12_lying 44 = .ok (.ior, 1) := by decide +kernel
theorem dX12_lying_45 : decode cX12_lying 45 = .ok (.istore_n 2, 1) := by decide +kernel
theorem dX12_lying_46 : decode cX12_lying 46 = .ok (.iinc 3 1, 3) := by decide +kernel
theorem dX12_lying_49 : decode cX12_lying 49 = .ok (.goto (-36), 3) := by decide +kernel
theorem dX12_lying_52 : decode cX12_lying 52 = .ok (.iload_n 2, 1) := by decide +kernel
theorem dX12_lying_53 : decode cX12_lying 53 = .ok (.ireturn, 1) := by decide +kernel
theorem dX12_takesStamps_0 : decode cX12_takesStamps 0 = .ok (.aload_n 0, 1) := by decide +kernel
theorem dX12_takesStamps_1 : decode cX12_takesStamps 1 = .ok (.iconst 0, 1) := by decide +kernel
theorem dX12_takesStamps_2 : decode cX12_takesStamps 2 = .ok (.putfield 117, 3) := by decide +kernel
theorem dX12_takesStamps_5 : decode cX12_takesStamps 5 = .ok (.iconst 0, 1) := by decide +kernel
theorem dX12_takesStamps_6 : decode cX12_takesStamps 6 = .ok (.istore_n 2, 1) := by decide +kernel
theorem dX12_takesStamps_7 : decode cX12_takesStamps 7 = .ok (.iload_n 2, 1) := by decide +kernel
theorem dX12_takesStamps_8 : decode cX12_takesStamps 8 = .ok (.iload_n 1, 1) := by decide +kernel
theorem dX12_takesStamps_9 : decode cX12_takesStamps 9 = .ok (.if_icmp .ge 47, 3) := by decide +kernel
theorem dX12_takesStamps_12 : decode cX12_takesStamps 12 = .ok (.aload_n 0, 1) := by decide +kernel
theorem dX12_takesStamps_13 : decode cX12_takesStamps 13 = .ok (.iload_n 2, 1) := by decide +kernel
theorem dX12_takesStamps_14 : decode cX12_takesStamps 14 = .ok (.invokevirtual 360, 3) := by decide +kernel
theorem dX12_takesStamps_17 : decode cX12_takesStamps 17 = .ok (.istore_n 3, 1) := by decide +kernel
theorem dX12_takesStamps_18 : decode cX12_takesStamps 18 = .ok (.aload_n 0, 1) := by decide +kernel
theorem dX12_takesStamps_19 : decode cX12_takesStamps 19 = .ok (.iload_n 3, 1) := by decide +kernel
theorem dX12_takesStamps_20 : decode cX12_takesStamps 20 = .ok (.invokevirtual 113, 3) := by decide +kernel
theorem dX12_takesStamps_23 : decode cX12_takesStamps 23 = .ok (.ifCond .eq 18, 3) := by decide +kernel
theorem dX12_takesStamps_26 : decode cX12_takesStamps 26 = .ok (.aload_n 0, 1) := by decide +kernel
theorem dX12_takesStamps_27 : decode cX12_takesStamps 27 = .ok (.getfield 19, 3) := by decide +kernel
theorem dX12_takesStamps_30 : decode cX12_takesStamps 30 = .ok (.aload_n 0, 1) := by decide +kernel
theorem dX12_takesStamps_31 : decode cX12_takesStamps 31 = .ok (.getfield 22, 3) := by decide +kernel
theorem dX12_takesStamps_34 : decode cX12_takesStamps 34 = .ok (.iload_n 3, 1) := by decide +kernel
theorem dX12_takesStamps_35 : decode cX12_takesStamps 35 = .ok (.iaload, 1) := by decide +kernel
theorem dX12_takesStamps_36 : decode cX12_takesStamps 36 = .ok (.iaload, 1) := by decide +kernel
theorem dX12_takesStamps_37 : decode cX12_takesStamps 37 = .ok (.iconst (-1), 1) := by decide +kernel
theorem dX12_takesStamps_38 : decode cX12_takesStamps 38 = .ok (.if_icmp .ne 5, 3) := by decide +kernel
theorem dX12_takesStamps_41 : decode cX12_takesStamps 41 = .ok (.iconst 0, 1) := by decide +kernel
theorem dX12_takesStamps_42 : decode cX12_takesStamps 42 = .ok (.ireturn, 1) := by decide +kernel
theorem dX12_takesStamps_43 : decode cX12_takesStamps 43 = .ok (.aload_n 0, 1) := by decide +kernel
theorem dX12_takesStamps_44 : decode cX12_takesStamps 44 = .ok (.getfield 96, 3) := by decide +kernel
theorem dX12_takesStamps_47 : decode cX12_takesStamps 47 = .ok (.iload_n 2, 1) := by decide +kernel
theorem dX12_takesStamps_48 : decode cX12_takesStamps 48 = .ok (.iload_n 3, 1) := by decide +kernel
theorem dX12_takesStamps_49 : decode cX12_takesStamps 49 = .ok (.iastore, 1) := by decide +kernel
theorem dX12_takesStamps_50 : decode cX12_takesStamps 50 = .ok (.iinc 2 1, 3) := by decide +kernel
theorem dX12_takesStamps_53 : decode cX12_takesStamps 53 = .ok (.goto (-46), 3) := by decide +kernel
theorem dX12_takesStamps_56 : decode cX12_takesStamps 56 = .ok (.iconst 1, 1) := by decide +kernel
theorem dX12_takesStamps_57 : decode cX12_takesStamps 57 = .ok (.ireturn, 1) := by decide +kernel
theorem dX12_pullOf_0 : decode cX12_pullOf 0 = .ok (.iconst 0, 1) := by decide +kernel
theorem dX12_pullOf_1 : decode cX12_pullOf 1 = .ok (.istore 5, 2) := by decide +kernel
theorem dX12_pullOf_3 : decode cX12_pullOf 3 = .ok (.iconst 0, 1) := by decide +kernel
theorem dX12_pullOf_4 : decode cX12_pullOf 4 = .ok (.istore 6, 2) := by decide +kernel
theorem dX12_pullOf_6 : decode cX12_pullOf 6 = .ok (.iload 6, 2) := by decide +kernel
theorem dX12_pullOf_8 : decode cX12_pullOf 8 = .ok (.iload_n 2, 1) := by decide +kernel
theorem dX12_pullOf_9 : decode cX12_pullOf 9 = .ok (.if_icmp .ge 78, 3) := by decide +kernel
theorem dX12_pullOf_12 : decode cX12_pullOf 12 = .ok (.iload_n 1, 1) := by decide +kernel
theorem dX12_pullOf_13 : decode cX12_pullOf 13 = .ok (.iload 6, 2) := by decide +kernel
theorem dX12_pullOf_15 : decode cX12_pullOf 15 = .ok (.invokestatic 363, 3) := by decide +kernel
theorem dX12_pullOf_18 : decode cX12_pullOf 18 = .ok (.ifCond .ne 6, 3) := by decide +kernel
theorem dX12_pullOf_21 : decode cX12_pullOf 21 = .ok (.goto 60, 3) := by decide +kernel
theorem dX12_pullOf_24 : decode cX12_pullOf 24 = .ok (.aload_n 0, 1) := by decide +kernel
theorem dX12_pullOf_25 : decode cX12_pullOf 25 = .ok (.getfield 19, 3) := by decide +kernel
theorem dX12_pullOf_28 : decode cX12_pullOf 28 = .ok (.aload_n 0, 1) := by decide +kernel
theorem dX12_pullOf_29 : decode cX12_pullOf 29 = .ok (.getfield 22, 3) := by decide +kernel
theorem dX12_pullOf_32 : decode cX12_pullOf 32 = .ok (.aload_n 0, 1) := by decide +kernel
theorem dX12_pullOf_33 : decode cX12_pullOf 33 = .ok (.getfield 96, 3) := by decide +kernel
theorem dX12_pullOf_36 : decode cX12_pullOf 36 = .ok (.iload 6, 2) := by decide +kernel
theorem dX12_pullOf_38 : decode cX12_pullOf 38 = .ok (.iaload, 1) := by decide +kernel
theorem dX12_pullOf_39 : decode cX12_pullOf 39 = .ok (.iaload, 1) := by decide +kernel
theorem dX12_pullOf_40 : decode cX12_pullOf 40 = .ok (.iaload, 1) := by decide +kernel
theorem dX12_pullOf_41 : decode cX12_pullOf 41 = .ok (.istore 7, 2) := by decide +kernel
theorem dX12_pullOf_43 : decode cX12_pullOf 43 = .ok (.iload 5, 2) := by decide +kernel
theorem dX12_pullOf_45 : decode cX12_pullOf 45 = .ok (.aload_n 0, 1) := by decide +kernel
theorem dX12_pullOf_46 : decode cX12_pullOf 46 = .ok (.getfield 25, 3) := by decide +kernel
theorem dX12_pullOf_49 : decode cX12_pullOf 49 = .ok (.aload_n 0, 1) := by decide +kernel
theorem dX12_pullOf_50 : decode cX12_pullOf 50 = .ok (.getfield 96, 3) := by decide +kernel
theorem dX12_pullOf_53 : decode cX12_pullOf 53 = .ok (.iload 6, 2) := by decide +kernel
theorem dX12_pullOf_55 : decode cX12_pullOf 55 = .ok (.iaload, 1) := by decide +kernel
theorem dX12_pullOf_56 : decode cX12_pullOf 56 = .ok (.iaload, 1) := by decide +kernel
theorem dX12_pullOf_57 : decode cX12_pullOf 57 = .ok (.iload 4, 2) := by decide +kernel
theorem dX12_pullOf_59 : decode cX12_pullOf 59 = .ok (.ifCond .eq 12, 3) := by decide +kernel
theorem dX12_pullOf_62 : decode cX12_pullOf 62 = .ok (.iload_n 3, 1) := by decide +kernel
theorem dX12_pullOf_63 : decode cX12_pullOf 63 = .ok (.iload 7, 2) := by decide +kernel
theorem dX12_pullOf_65 : decode cX12_pullOf 65 = .ok (.invokestatic 309, 3) := by decide +kernel
theorem dX12_pullOf_68 : decode cX12_pullOf 68 = .ok (.goto 9, 3) := by decide +kernel
theorem dX12_pullOf_71 : decode cX12_pullOf 71 = .ok (.iload_n 3, 1) := by decide +kernel
theorem dX12_pullOf_72 : decode cX12_pullOf 72 = .ok (.iload 7, 2) := by decide +kernel
theorem dX12_pullOf_74 : decode cX12_pullOf 74 = .ok (.invokestatic 315, 3) := by decide +kernel
theorem dX12_pullOf_77 : decode cX12_pullOf 77 = .ok (.imul, 1) := by decide +kernel
theorem dX12_pullOf_78 : decode cX12_pullOf 78 = .ok (.iadd, 1) := by decide +kernel
theorem dX12_pullOf_79 : decode cX12_pullOf 79 = .ok (.istore 5, 2) := by decide +kernel
theorem dX12_pullOf_81 : decode cX12_pullOf 81 = .ok (.iinc 6 1, 3) := by decide +kernel
theorem dX12_pullOf_84 : decode cX12_pullOf 84 = .ok (.goto (-78), 3) := by decide +kernel
theorem dX12_pullOf_87 : decode cX12_pullOf 87 = .ok (.iload 5, 2) := by decide +kernel
theorem dX12_pullOf_89 : decode cX12_pullOf 89 = .ok (.ireturn, 1) := by decide +kernel
theorem dX12_stepBy_0 : decode cX12_stepBy 0 = .ok (.iload_n 3, 1) := by decide +kernel
theorem dX12_stepBy_1 : decode cX12_stepBy 1 = .ok (.aload_n 0, 1) := by decide +kernel
theorem dX12_stepBy_2 : decode cX12_stepBy 2 = .ok (.iload_n 1, 1) := by decide +kernel
theorem dX12_stepBy_3 : decode cX12_stepBy 3 = .ok (.iload_n 2, 1) := by decide +kernel
theorem dX12_stepBy_4 : decode cX12_stepBy 4 = .ok (.iload_n 3, 1) := by decide +kernel
theorem dX12_stepBy_5 : decode cX12_stepBy 5 = .ok (.iconst 1, 1) := by decide +kernel
theorem dX12_stepBy_6 : decode cX12_stepBy 6 = .ok (.invokevirtual 366, 3) := by decide +kernel
theorem dX12_stepBy_9 : decode cX12_stepBy 9 = .ok (.aload_n 0, 1) := by decide +kernel
theorem dX12_stepBy_10 : decode cX12_stepBy 10 = .ok (.iload_n 1, 1) := by decide +kernel
theorem dX12_stepBy_11 : decode cX12_stepBy 11 = .ok (.iload_n 2, 1) := by decide +kernel
theorem dX12_stepBy_12 : decode cX12_stepBy 12 = .ok (.iload_n 3, 1) := by decide +kernel
theorem dX12_stepBy_13 : decode cX12_stepBy 13 = .ok (.iconst 0, 1) := by decide +kernel
theorem dX12_stepBy_14 : decode cX12_stepBy 14 = .ok (.invokevirtual 366, 3) := by decide +kernel
theorem dX12_stepBy_17 : decode cX12_stepBy 17 = .ok (.iconst 0, 1) := by decide +kernel
theorem dX12_stepBy_18 : decode cX12_stepBy 18 = .ok (.invokestatic 322, 3) := by decide +kernel
theorem dX12_stepBy_21 : decode cX12_stepBy 21 = .ok (.ireturn, 1) := by decide +kernel
theorem dX12_brings_0 : decode cX12_brings 0 = .ok (.iload_n 3, 1) := by decide +kernel
theorem dX12_brings_1 : decode cX12_brings 1 = .ok (.istore 6, 2) := by decide +kernel
theorem dX12_brings_3 : decode cX12_brings 3 = .ok (.iconst 0, 1) := by decide +kernel
theorem dX12_brings_4 : decode cX12_brings 4 = .ok (.istore 7, 2) := by decide +kernel
theorem dX12_brings_6 : decode cX12_brings 6 = .ok (.iload 7, 2) := by decide +kernel
theorem dX12_brings_8 : decode cX12_brings 8 = .ok (.iload 5, 2) := by decide +kernel
theorem dX12_brings_10 : decode cX12_brings 10 = .ok (.if_icmp .ge 42, 3) := by decide +kernel
theorem dX12_brings_13 : decode cX12_brings 13 = .ok (.aload_n 0, 1) := by decide +kernel
theorem dX12_brings_14 : decode cX12_brings 14 = .ok (.iload_n 1, 1) := by decide +kernel
theorem dX12_brings_15 : decode cX12_brings 15 = .ok (.iload_n 2, 1) := by decide +kernel
theorem dX12_brings_16 : decode cX12_brings 16 = .ok (.iload 6, 2) := by decide +kernel
theorem dX12_brings_18 : decode cX12_brings 18 = .ok (.invokevirtual 370, 3) := by decide +kernel
theorem dX12_brings_21 : decode cX12_brings 21 = .ok (.istore 8, 2) := by decide +kernel
theorem dX12_brings_23 : decode cX12_brings 23 = .ok (.iload 8, 2) := by decide +kernel
theorem dX12_brings_25 : decode cX12_brings 25 = .ok (.iload 6, 2) := by decide +kernel
theorem dX12_brings_27 : decode cX12_brings 27 = .ok (.if_icmp .eq 15, 3) := by decide +kernel
theorem dX12_brings_30 : decode cX12_brings 30 = .ok (.aload_n 0, 1) := by decide +kernel
theorem dX12_brings_31 : decode cX12_brings 31 = .ok (.getfield 28, 3) := by decide +kernel
theorem dX12_brings_34 : decode cX12_brings 34 = .ok (.iload 8, 2) := by decide +kernel
theorem dX12_brings_36 : decode cX12_brings 36 = .ok (.baload, 1) := by decide +kernel
theorem dX12_brings_37 : decode cX12_brings 37 = .ok (.ifCond .eq 5, 3) := by decide +kernel
theorem dX12_brings_40 : decode cX12_brings 40 = .ok (.iconst 0, 1) := by decide +kernel
theorem dX12_brings_41 : decode cX12_brings 41 = .ok (.ireturn, 1) := by decide +kernel
theorem dX12_brings_42 : decode cX12_brings 42 = .ok (.iload 8, 2) := by decide +kernel
theorem dX12_brings_44 : decode cX12_brings 44 = .ok (.istore 6, 2) := by decide +kernel
theorem dX12_brings_46 : decode cX12_brings 46 = .ok (.iinc 7 1, 3) := by decide +kernel
theorem dX12_brings_49 : decode cX12_brings 49 = .ok (.goto (-43), 3) := by decide +kernel
theorem dX12_brings_52 : decode cX12_brings 52 = .ok (.iload 6, 2) := by decide +kernel
theorem dX12_brings_54 : decode cX12_brings 54 = .ok (.iload 4, 2) := by decide +kernel
theorem dX12_brings_56 : decode cX12_brings 56 = .ok (.if_icmp .ne 7, 3) := by decide +kernel
theorem dX12_brings_59 : decode cX12_brings 59 = .ok (.iconst 1, 1) := by decide +kernel
theorem dX12_brings_60 : decode cX12_brings 60 = .ok (.goto 4, 3) := by decide +kernel
theorem dX12_brings_63 : decode cX12_brings 63 = .ok (.iconst 0, 1) := by decide +kernel
theorem dX12_brings_64 : decode cX12_brings 64 = .ok (.ireturn, 1) := by decide +kernel
theorem dX12_isLess_0 : decode cX12_isLess 0 = .ok (.iload_n 1, 1) := by decide +kernel
theorem dX12_isLess_1 : decode cX12_isLess 1 = .ok (.bipush (-2), 2) := by decide +kernel
theorem dX12_isLess_3 : decode cX12_isLess 3 = .ok (.if_icmp .eq 14, 3) := by decide +kernel
theorem dX12_isLess_6 : decode cX12_isLess 6 = .ok (.iload_n 0, 1) := by decide +kernel
theorem dX12_isLess_7 : decode cX12_isLess 7 = .ok (.invokestatic 373, 3) := by decide +kernel
theorem dX12_isLess_10 : decode cX12_isLess 10 = .ok (.iload_n 1, 1) := by decide +kernel
theorem dX12_isLess_11 : decode cX12_isLess 11 = .ok (.invokestatic 373, 3) := by decide +kernel
theorem dX12_isLess_14 : decode cX12_isLess 14 = .ok (.if_icmp .ge 7, 3) := by decide +kernel
theorem dX12_isLess_17 : decode cX12_isLess 17 = .ok (.iconst 1, 1) := by decide +kernel
theorem dX12_isLess_18 : decode cX12_isLess 18 = .ok (.goto 4, 3) := by decide +kernel
theorem dX12_isLess_21 : decode cX12_isLess 21 = .ok (.iconst 0, 1) := by decide +kernel
theorem dX12_isLess_22 : decode cX12_isLess 22 = .ok (.ireturn, 1) := by decide +kernel
theorem dX12_stamped_0 : decode cX12_stamped 0 = .ok (.iload_n 1, 1) := by decide +kernel
theorem dX12_stamped_1 : decode cX12_stamped 1 = .ok (.iconst 1, 1) := by decide +kernel
theorem dX12_stamped_2 : decode cX12_stamped 2 = .ok (.bipush 9, 2) := by decide +kernel
theorem dX12_stamped_4 : decode cX12_stamped 4 = .ok (.invokestatic 105, 3) := by decide +kernel
theorem dX12_stamped_7 : decode cX12_stamped 7 = .ok (.ifCond .eq 46, 3) := by decide +kernel
theorem dX12_stamped_10 : decode cX12_stamped 10 = .ok (.iload_n 2, 1) := by decide +kernel
theorem dX12_stamped_11 : decode cX12_stamped 11 = .ok (.invokestatic 357, 3) := by decide +kernel
theorem dX12_stamped_14 : decode cX12_stamped 14 = .ok (.ifCond .eq 39, 3) := by decide +kernel
theorem dX12_stamped_17 : decode cX12_stamped 17 = .ok (.iload_n 3, 1) := by decide +kernel
theorem dX12_stamped_18 : decode cX12_stamped 18 = .ok (.invokestatic 357, 3) := by decide +kernel
theorem dX12_stamped_21 : decode cX12_stamped 21 = .ok (.ifCond .eq 32, 3) := by decide +kernel
theorem dX12_stamped_24 : decode cX12_stamped 24 = .ok (.iload 4, 2) := by decide +kernel
theorem dX12_stamped_26 : decode cX12_stamped 26 = .ok (.iconst 0, 1) := by decide +kernel
theorem dX12_stamped_27 : decode cX12_stamped 27 = .ok (.bipush 60, 2) := by decide +kernel
theorem dX12_stamped_29 : decode cX12_stamped 29 = .ok (.invokestatic 105, 3) := by decide +kernel
theorem dX12_stamped_32 : decode cX12_stamped 32 = .ok (.ifCond .eq 21, 3) := by decide +kernel
theorem dX12_stamped_35 : decode cX12_stamped 35 = .ok (.iload 5, 2) := by decide +kernel
theorem dX12_stamped_37 : decode cX12_stamped 37 = .ok (.iconst 0, 1) := by decide +kernel
theorem dX12_stamped_38 : decode cX12_stamped 38 = .ok (.iconst 1, 1) := by decide +kernel
theorem dX12_stamped_39 : decode cX12_stamped 39 = .ok (.invokestatic 105, 3) := by decide +kernel
theorem dX12_stamped_42 : decode cX12_stamped 42 = .ok (.ifCond .eq 11, 3) := by decide +kernel
theorem dX12_stamped_45 : decode cX12_stamped 45 = .ok (.iload_n 1, 1) := by decide +kernel
theorem dX12_stamped_46 : decode cX12_stamped 46 = .ok (.aload_n 0, 1) := by decide +kernel
theorem dX12_stamped_47 : decode cX12_stamped 47 = .ok (.getfield 117, 3) := by decide +kernel
theorem dX12_stamped_50 : decode cX12_stamped 50 = .ok (.if_icmp .le 5, 3) := by decide +kernel
theorem dX12_stamped_53 : decode cX12_stamped 53 = .ok (.iconst (-1), 1) := by decide +kernel
theorem dX12_stamped_54 : decode cX12_stamped 54 = .ok (.ireturn, 1) := by decide +kernel
theorem dX12_stamped_55 : decode cX12_stamped 55 = .ok (.aload_n 0, 1) := by decide +kernel
theorem dX12_stamped_56 : decode cX12_stamped 56 = .ok (.iload_n 1, 1) := by decide +kernel
theorem dX12_stamped_57 : decode cX12_stamped 57 = .ok (.invokevirtual 376, 3) := by decide +kernel
theorem dX12_stamped_60 : decode cX12_stamped 60 = .ok (.ifCond .ne 6, 3) := by decide +kernel
theorem dX12_stamped_63 : decode cX12_stamped 63 = .ok (.bipush (-3), 2) := by decide +kernel
theorem dX12_stamped_65 : decode cX12_stamped 65 = .ok (.ireturn, 1) := by decide +kernel
theorem dX12_stamped_66 : decode cX12_stamped 66 = .ok (.bipush (-2), 2) := by decide +kernel
theorem dX12_stamped_68 : decode cX12_stamped 68 = .ok (.istore 6, 2) := by decide +kernel
theorem dX12_stamped_70 : decode cX12_stamped 70 = .ok (.iconst 0, 1) := by decide +kernel
theorem dX12_stamped_71 : decode cX12_stamped 71 = .ok (.istore 7, 2) := by decide +kernel
theorem dX12_stamped_73 : decode cX12_stamped 73 = .ok (.iload 7, 2) := by decide +kernel
theorem dX12_stamped_75 : decode cX12_stamped 75 = .ok (.iconst 1, 1) := by decide +kernel
theorem dX12_stamped_76 : decode cX12_stamped 76 = .ok (.iload_n 1, 1) := by decide +kernel
theorem dX12_stamped_77 : decode cX12_stamped 77 = .ok (.ishl, 1) := by decide +kernel
theorem dX12_stamped_78 : decode cX12_stamped 78 = .ok (.if_icmp .ge 37, 3) := by decide +kernel
theorem dX12_stamped_81 : decode cX12_stamped 81 = .ok (.iload 7, 2) := by decide +kernel
theorem dX12_stamped_83 : decode cX12_stamped 83 = .ok (.iload 6, 2) := by decide +kernel
theorem dX12_stamped_85 : decode cX12_stamped 85 = .ok (.invokestatic 379, 3) := by decide +kernel
theorem dX12_stamped_88 : decode cX12_stamped 88 = .ok (.ifCond .eq 21, 3) := by decide +kernel
theorem dX12_stamped_91 : decode cX12_stamped 91 = .ok (.aload_n 0, 1) := by decide +kernel
theorem dX12_stamped_92 : decode cX12_stamped 92 = .ok (.iload 7, 2) := by decide +kernel
theorem dX12_stamped_94 : decode cX12_stamped 94 = .ok (.iload_n 1, 1) := by decide +kernel
theorem dX12_stamped_95 : decode cX12_stamped 95 = .ok (.iload_n 2, 1) := by decide +kernel
theorem dX12_stamped_96 : decode cX12_stamped 96 = .ok (.iload_n 3, 1) := by decide +kernel
theorem dX12_stamped_97 : decode cX12_stamped 97 = .ok (.iload 4, 2) := by decide +kernel
theorem dX12_stamped_99 : decode cX12_stamped 99 = .ok (.invokevirtual 382, 3) := by decide +kernel
theorem dX12_stamped_102 : decode cX12_stamped 102 = .ok (.ifCond .eq 7, 3) := by decide +kernel
theorem dX12_stamped_105 : decode cX12_stamped 105 = .ok (.iload 7, 2) := by decide +kernel
theorem dX12_stamped_107 : decode cX12_stamped 107 = .ok (.istore 6, 2) := by decide +kernel
theorem dX12_stamped_109 : decode cX12_stamped 109 = .ok (.iinc 7 1, 3) := by decide +kernel
theorem dX12_stamped_112 : decode cX12_stamped 112 = .ok (.goto (-39), 3) := by decide +kernel
theorem dX12_stamped_115 : decode cX12_stamped 115 = .ok (.iload 5, 2) := by decide +kernel
theorem dX12_stamped_117 : decode cX12_stamped 117 = .ok (.iconst 1, 1) := by decide +kernel
theorem dX12_stamped_118 : decode cX12_stamped 118 = .ok (.if_icmp .eq 10, 3) := by decide +kernel
theorem dX12_stamped_121 : decode cX12_stamped 121 = .ok (.iload 6, 2) := by decide +kernel
theorem dX12_stamped_123 : decode cX12_stamped 123 = .ok (.bipush (-2), 2) := by decide +kernel
theorem dX12_stamped_125 : decode cX12_stamped 125 = .ok (.if_icmp .ne 8, 3) := by decide +kernel
theorem dX12_stamped_128 : decode cX12_stamped 128 = .ok (.iload 6, 2) := by decide +kernel
theorem dX12_stamped_130 : decode cX12_stamped 130 = .ok (.goto 8, 3) := by decide +kernel
theorem dX12_stamped_133 : decode cX12_stamped 133 = .ok (.iload 6, 2) := by decide +kernel
theorem dX12_stamped_135 : decode cX12_stamped 135 = .ok (.invokestatic 373, 3) := by decide +kernel
theorem dX12_stamped_138 : decode cX12_stamped 138 = .ok (.ireturn, 1) := by decide +kernel
theorem dX12_hang_0 : decode cX12_hang 0 = .ok (.iload_n 1, 1) := by decide +kernel
theorem dX12_hang_1 : decode cX12_hang 1 = .ok (.iconst 1, 1) := by decide +kernel
theorem dX12_hang_2 : decode cX12_hang 2 = .ok (.bipush 9, 2) := by decide +kernel
theorem dX12_hang_4 : decode cX12_hang 4 = .ok (.invokestatic 105, 3) := by decide +kernel
theorem dX12_hang_7 : decode cX12_hang 7 = .ok (.ifCond .eq 27, 3) := by decide +kernel
theorem dX12_hang_10 : decode cX12_hang 10 = .ok (.iload_n 2, 1) := by decide +kernel
theorem dX12_hang_11 : decode cX12_hang 11 = .ok (.invokestatic 357, 3) := by decide +kernel
theorem dX12_hang_14 : decode cX12_hang 14 = .ok (.ifCond .eq 20, 3) := by decide +kernel
theorem dX12_hang_17 : decode cX12_hang 17 = .ok (.iload_n 3, 1) := by decide +kernel
theorem dX12_hang_18 : decode cX12_hang 18 = .ok (.iconst 0, 1) := by decide +kernel
theorem dX12_hang_19 : decode cX12_hang 19 = .ok (.iconst 1, 1) := by decide +kernel
theorem dX12_hang_20 : decode cX12_hang 20 = .ok (.invokestatic 105, 3) := by decide +kernel
theorem dX12_hang_23 : decode cX12_hang 23 = .ok (.ifCond .eq 11, 3) := by decide +kernel
theorem dX12_hang_26 : decode cX12_hang 26 = .ok (.iload_n 1, 1) := by decide +kernel
theorem dX12_hang_27 : decode cX12_hang 27 = .ok (.aload_n 0, 1) := by decide +kernel
theorem dX12_hang_28 : decode cX12_hang 28 = .ok (.getfield 117, 3) := by decide +kernel
theorem dX12_hang_31 : decode cX12_hang 31 = .ok (.if_icmp .le 5, 3) := by decide +kernel
theorem dX12_hang_34 : decode cX12_hang 34 = .ok (.iconst (-1), 1) := by decide +kernel
theorem dX12_hang_35 : decode cX12_hang 35 = .ok (.ireturn, 1) := by decide +kernel
theorem dX12_hang_36 : decode cX12_hang 36 = .ok (.aload_n 0, 1) := by decide +kernel
theorem dX12_hang_37 : decode cX12_hang 37 = .ok (.iload_n 1, 1) := by decide +kernel
theorem dX12_hang_38 : decode cX12_hang 38 = .ok (.invokevirtual 376, 3) := by decide +kernel
theorem dX12_hang_41 : decode cX12_hang 41 = .ok (.ifCond .ne 6, 3) := by decide +kernel
theorem dX12_hang_44 : decode cX12_hang 44 = .ok (.bipush (-3), 2) := by decide +kernel
theorem dX12_hang_46 : decode cX12_hang 46 = .ok (.ireturn, 1) := by decide +kernel
theorem dX12_hang_47 : decode cX12_hang 47 = .ok (.iconst 0, 1) := by decide +kernel
theorem dX12_hang_48 : decode cX12_hang 48 = .ok (.istore 4, 2) := by decide +kernel
theorem dX12_hang_50 : decode cX12_hang 50 = .ok (.bipush (-2), 2) := by decide +kernel
theorem dX12_hang_52 : decode cX12_hang 52 = .ok (.istore 5, 2) := by decide +kernel
theorem dX12_hang_54 : decode cX12_hang 54 = .ok (.iconst 1, 1) := by decide +kernel
theorem dX12_hang_55 : decode cX12_hang 55 = .ok (.istore 6, 2) := by decide +kernel
theorem dX12_hang_57 : decode cX12_hang 57 = .ok (.iload 6, 2) := by decide +kernel
theorem dX12_hang_59 : decode cX12_hang 59 = .ok (.iconst 1, 1) := by decide +kernel
theorem dX12_hang_60 : decode cX12_hang 60 = .ok (.iload_n 1, 1) := by decide +kernel
theorem dX12_hang_61 : decode cX12_hang 61 = .ok (.ishl, 1) := by decide +kernel
theorem dX12_hang_62 : decode cX12_hang 62 = .ok (.if_icmp .ge 56, 3) := by decide +kernel
theorem dX12_hang_65 : decode cX12_hang 65 = .ok (.aload_n 0, 1) := by decide +kernel
theorem dX12_hang_66 : decode cX12_hang 66 = .ok (.iload 6, 2) := by decide +kernel
theorem dX12_hang_68 : decode cX12_hang 68 = .ok (.iload_n 1, 1) := by decide +kernel
theorem dX12_hang_69 : decode cX12_hang 69 = .ok (.iload_n 2, 1) := by decide +kernel
theorem dX12_hang_70 : decode cX12_hang 70 = .ok (.iconst 1, 1) := by decide +kernel
theorem dX12_hang_71 : decode cX12_hang 71 = .ok (.invokevirtual 366, 3) := by decide +kernel
theorem dX12_hang_74 : decode cX12_hang 74 = .ok (.ifCond .ne 38, 3) := by decide +kernel
theorem dX12_hang_77 : decode cX12_hang 77 = .ok (.aload_n 0, 1) := by decide +kernel
theorem dX12_hang_78 : decode cX12_hang 78 = .ok (.iload 6, 2) := by decide +kernel
theorem dX12_hang_80 : decode cX12_hang 80 = .ok (.iload_n 1, 1) := by decide +kernel
theorem dX12_hang_81 : decode cX12_hang 81 = .ok (.iload_n 2, 1) := by decide +kernel
theorem dX12_hang_82 : decode cX12_hang 82 = .ok (.iconst 0, 1) := by decide +kernel
theorem dX12_hang_83 : decode cX12_hang 83 = .ok (.invokevirtual 366, 3) := by decide +kernel
theorem dX12_hang_86 : decode cX12_hang 86 = .ok (.ifCond .eq 6, 3) := by decide +kernel
theorem dX12_hang_89 : decode cX12_hang 89 = .ok (.goto 23, 3) := by decide +kernel
theorem dX12_hang_92 : decode cX12_hang 92 = .ok (.iload 4, 2) := by decide +kernel
theorem dX12_hang_94 : decode cX12_hang 94 = .ok (.iconst 1, 1) := by decide +kernel
theorem dX12_hang_95 : decode cX12_hang 95 = .ok (.iadd, 1) := by decide +kernel
theorem dX12_hang_96 : decode cX12_hang 96 = .ok (.istore 4, 2) := by decide +kernel
theorem dX12_hang_98 : decode cX12_hang 98 = .ok (.iload 6, 2) := by decide +kernel
theorem dX12_hang_100 : decode cX12_hang 100 = .ok (.iload 5, 2) := by decide +kernel
theorem dX12_hang_102 : decode cX12_hang 102 = .ok (.invokestatic 379, 3) := by decide +kernel
theorem dX12_hang_105 : decode cX12_hang 105 = .ok (.ifCond .eq 7, 3) := by decide +kernel
theorem dX12_hang_108 : decode cX12_hang 108 = .ok (.iload 6, 2) := by decide +kernel
theorem dX12_hang_110 : decode cX12_hang 110 = .ok (.istore 5, 2) := by decide +kernel
theorem dX12_hang_112 : decode cX12_hang 112 = .ok (.iinc 6 1, 3) := by decide +kernel
theorem dX12_hang_115 : decode cX12_hang 115 = .ok (.goto (-58), 3) := by decide +kernel
theorem dX12_hang_118 : decode cX12_hang 118 = .ok (.iload_n 3, 1) := by decide +kernel
theorem dX12_hang_119 : decode cX12_hang 119 = .ok (.ifCond .ne 8, 3) := by decide +kernel
theorem dX12_hang_122 : decode cX12_hang 122 = .ok (.iload 4, 2) := by decide +kernel
theorem dX12_hang_124 : decode cX12_hang 124 = .ok (.goto 5, 3) := by decide +kernel
theorem dX12_hang_127 : decode cX12_hang 127 = .ok (.iload 5, 2) := by decide +kernel
theorem dX12_hang_129 : decode cX12_hang 129 = .ok (.ireturn, 1) := by decide +kernel
theorem dX12_falseOnes_0 : decode cX12_falseOnes 0 = .ok (.iload_n 1, 1) := by decide +kernel
theorem dX12_falseOnes_1 : decode cX12_falseOnes 1 = .ok (.iconst 1, 1) := by decide +kernel
theorem dX12_falseOnes_2 : decode cX12_falseOnes 2 = .ok (.bipush 9, 2) := by decide +kernel
theorem dX12_falseOnes_4 : decode cX12_falseOnes 4 = .ok (.invokestatic 105, 3) := by decide +kernel
theorem dX12_falseOnes_7 : decode cX12_falseOnes 7 = .ok (.ifCond .eq 47, 3) := by decide +kernel
theorem dX12_falseOnes_10 : decode cX12_falseOnes 10 = .ok (.iload_n 2, 1) := by decide +kernel
theorem dX12_falseOnes_11 : decode cX12_falseOnes 11 = .ok (.invokestatic 357, 3) := by decide +kernel
theorem dX12_falseOnes_14 : decode cX12_falseOnes 14 = .ok (.ifCond .eq 40, 3) := by decide +kernel
theorem dX12_falseOnes_17 : decode cX12_falseOnes 17 = .ok (.iload_n 3, 1) := by decide +kernel
theorem dX12_falseOnes_18 : decode cX12_falseOnes 18 = .ok (.iconst (-1), 1) := by decide +kernel
theorem dX12_falseOnes_19 : decode cX12_falseOnes 19 = .ok (.iconst 1, 1) := by decide +kernel
theorem dX12_falseOnes_20 : decode cX12_falseOnes 20 = .ok (.invokestatic 105, 3) := by decide +kernel
theorem dX12_falseOnes_23 : decode cX12_falseOnes 23 = .ok (.ifCond .eq 31, 3) := by decide +kernel
theorem dX12_falseOnes_26 : decode cX12_falseOnes 26 = .ok (.iload 4, 2) := by decide +kernel
theorem dX12_falseOnes_28 : decode cX12_falseOnes 28 = .ok (.iconst (-1), 1) := by decide +kernel
theorem dX12_falseOnes_29 : decode cX12_falseOnes 29 = .ok (.iconst 1, 1) := by decide +kernel
theorem dX12_falseOnes_30 : decode cX12_falseOnes 30 = .ok (.invokestatic 105, 3) := by decide +kernel
theorem dX12_falseOnes_33 : decode cX12_falseOnes 33 = .ok (.ifCond .eq 21, 3) := by decide +kernel
theorem dX12_falseOnes_36 : decode cX12_falseOnes 36 = .ok (.iload 5, 2) := by decide +kernel
theorem dX12_falseOnes_38 : decode cX12_falseOnes 38 = .ok (.iconst 0, 1) := by decide +kernel
theorem dX12_falseOnes_39 : decode cX12_falseOnes 39 = .ok (.iconst 1, 1) := by decide +kernel
theorem dX12_falseOnes_40 : decode cX12_falseOnes 40 = .ok (.invokestatic 105, 3) := by decide +kernel
theorem dX12_falseOnes_43 : decode cX12_falseOnes 43 = .ok (.ifCond .eq 11, 3) := by decide +kernel
theorem dX12_falseOnes_46 : decode cX12_falseOnes 46 = .ok (.iload_n 1, 1) := by decide +kernel
theorem dX12_falseOnes_47 : decode cX12_falseOnes 47 = .ok (.aload_n 0, 1) := by decide +kernel
theorem dX12_falseOnes_48 : decode cX12_falseOnes 48 = .ok (.getfield 117, 3) := by decide +kernel
theorem dX12_falseOnes_51 : decode cX12_falseOnes 51 = .ok (.if_icmp .le 5, 3) := by decide +kernel
theorem dX12_falseOnes_54 : decode cX12_falseOnes 54 = .ok (.iconst (-1), 1) := by decide +kernel
theorem dX12_falseOnes_55 : decode cX12_falseOnes 55 = .ok (.ireturn, 1) := by decide +kernel
theorem dX12_falseOnes_56 : decode cX12_falseOnes 56 = .ok (.aload_n 0, 1) := by decide +kernel
theorem dX12_falseOnes_57 : decode cX12_falseOnes 57 = .ok (.iload_n 1, 1) := by decide +kernel
theorem dX12_falseOnes_58 : decode cX12_falseOnes 58 = .ok (.invokevirtual 376, 3) := by decide +kernel
theorem dX12_falseOnes_61 : decode cX12_falseOnes 61 = .ok (.ifCond .ne 6, 3) := by decide +kernel
theorem dX12_falseOnes_64 : decode cX12_falseOnes 64 = .ok (.bipush (-3), 2) := by decide +kernel
theorem dX12_falseOnes_66 : decode cX12_falseOnes 66 = .ok (.ireturn, 1) := by decide +kernel
theorem dX12_falseOnes_67 : decode cX12_falseOnes 67 = .ok (.iconst 0, 1) := by decide +kernel
theorem dX12_falseOnes_68 : decode cX12_falseOnes 68 = .ok (.istore 6, 2) := by decide +kernel
theorem dX12_falseOnes_70 : decode cX12_falseOnes 70 = .ok (.iconst 0, 1) := by decide +kernel
theorem dX12_falseOnes_71 : decode cX12_falseOnes 71 = .ok (.istore 7, 2) := by decide +kernel
theorem dX12_falseOnes_73 : decode cX12_falseOnes 73 = .ok (.iload 7, 2) := by decide +kernel
theorem dX12_falseOnes_75 : decode cX12_falseOnes 75 = .ok (.iload_n 1, 1) := by decide +kernel
theorem dX12_falseOnes_76 : decode cX12_falseOnes 76 = .ok (.if_icmp .ge 33, 3) := by decide +kernel
theorem dX12_falseOnes_79 : decode cX12_falseOnes 79 = .ok (.aload_n 0, 1) := by decide +kernel
theorem dX12_falseOnes_80 : decode cX12_falseOnes 80 = .ok (.getfield 25, 3) := by decide +kernel
theorem dX12_falseOnes_83 : decode cX12_falseOnes 83 = .ok (.aload_n 0, 1) := by decide +kernel
theorem dX12_falseOnes_84 : decode cX12_falseOnes 84 = .ok (.getfield 96, 3) := by decide +kernel
theorem dX12_falseOnes_87 : decode cX12_falseOnes 87 = .ok (.iload 7, 2) := by decide +kernel
theorem dX12_falseOnes_89 : decode cX12_falseOnes 89 = .ok (.iaload, 1) := by decide +kernel
theorem dX12_falseOnes_90 : decode cX12_falseOnes 90 = .ok (.iaload, 1) := by decide +kernel
theorem dX12_falseOnes_91 : decode cX12_falseOnes 91 = .ok (.ifCond .ne 12, 3) := by decide +kernel
theorem dX12_falseOnes_94 : decode cX12_falseOnes 94 = .ok (.iload 6, 2) := by decide +kernel
theorem dX12_falseOnes_96 : decode cX12_falseOnes 96 = .ok (.iconst 1, 1) := by decide +kernel
theorem dX12_falseOnes_97 : decode cX12_falseOnes 97 = .ok (.iload 7, 2) := by decide +kernel
theorem dX12_falseOnes_99 : decode cX12_falseOnes 99 = .ok (.ishl, 1) := by decide +kernel
theorem dX12_falseOnes_100 : decode cX12_falseOnes 100 = .ok (.ior, 1) := by decide +kernel
theorem dX12_falseOnes_101 : decode cX12_falseOnes 101 = .ok (.istore 6, 2) := by decide +kernel
theorem dX12_falseOnes_103 : decode cX12_falseOnes 103 = .ok (.iinc 7 1, 3) := by decide +kernel
theorem dX12_falseOnes_106 : decode cX12_falseOnes 106 = .ok (.goto (-33), 3) := by decide +kernel
theorem dX12_falseOnes_109 : decode cX12_falseOnes 109 = .ok (.bipush (-2), 2) := by decide +kernel
theorem dX12_falseOnes_111 : decode cX12_falseOnes 111 = .ok (.istore 7, 2) := by decide +kernel
theorem dX12_falseOnes_113 : decode cX12_falseOnes 113 = .ok (.iconst 0, 1) := by decide +kernel
theorem dX12_falseOnes_114 : decode cX12_falseOnes 114 = .ok (.istore 8, 2) := by decide +kernel
theorem dX12_falseOnes_116 : decode cX12_falseOnes 116 = .ok (.iload 8, 2) := by decide +kernel
theorem dX12_falseOnes_118 : decode cX12_falseOnes 118 = .ok (.iconst 1, 1) := by decide +kernel
theorem dX12_falseOnes_119 : decode cX12_falseOnes 119 = .ok (.iload_n 1, 1) := by decide +kernel
theorem dX12_falseOnes_120 : decode cX12_falseOnes 120 = .ok (.ishl, 1) := by decide +kernel
theorem dX12_falseOnes_121 : decode cX12_falseOnes 121 = .ok (.if_icmp .ge 130, 3) := by decide +kernel
theorem dX12_falseOnes_124 : decode cX12_falseOnes 124 = .ok (.iload 8, 2) := by decide +kernel
theorem dX12_falseOnes_126 : decode cX12_falseOnes 126 = .ok (.iload 6, 2) := by decide +kernel
theorem dX12_falseOnes_128 : decode cX12_falseOnes 128 = .ok (.iand, 1) := by decide +kernel
theorem dX12_falseOnes_129 : decode cX12_falseOnes 129 = .ok (.ifCond .ne 116, 3) := by decide +kernel
theorem dX12_falseOnes_132 : decode cX12_falseOnes 132 = .ok (.iload 8, 2) := by decide +kernel
theorem dX12_falseOnes_134 : decode cX12_falseOnes 134 = .ok (.iload 7, 2) := by decide +kernel
theorem dX12_falseOnes_136 : decode cX12_falseOnes 136 = .ok (.invokestatic 379, 3) := by decide +kernel
theorem dX12_falseOnes_139 : decode cX12_falseOnes 139 = .ok (.ifCond .ne 6, 3) := by decide +kernel
theorem dX12_falseOnes_142 : decode cX12_falseOnes 142 = .ok (.goto 103, 3) := by decide +kernel
theorem dX12_falseOnes_145 : decode cX12_falseOnes 145 = .ok (.aload_n 0, 1) := by decide +kernel
theorem dX12_falseOnes_146 : decode cX12_falseOnes 146 = .ok (.iload 8, 2) := by decide +kernel
theorem dX12_falseOnes_148 : decode cX12_falseOnes 148 = .ok (.iconst (-1), 1) := by decide +kernel
theorem dX12_falseOnes_149 : decode cX12_falseOnes 149 = .ok (.ixor, 1) := by decide +kernel
theorem dX12_falseOnes_150 : decode cX12_falseOnes 150 = .ok (.iload_n 1, 1) := by decide +kernel
theorem dX12_falseOnes_151 : decode cX12_falseOnes 151 = .ok (.iload_n 2, 1) := by decide +kernel
theorem dX12_falseOnes_152 : decode cX12_falseOnes 152 = .ok (.iconst 1, 1) := by decide +kernel
theorem dX12_falseOnes_153 : decode cX12_falseOnes 153 = .ok (.invokevirtual 366, 3) := by decide +kernel
theorem dX12_falseOnes_156 : decode cX12_falseOnes 156 = .ok (.istore 9, 2) := by decide +kernel
theorem dX12_falseOnes_158 : decode cX12_falseOnes 158 = .ok (.aload_n 0, 1) := by decide +kernel
theorem dX12_falseOnes_159 : decode cX12_falseOnes 159 = .ok (.iload 8, 2) := by decide +kernel
theorem dX12_falseOnes_161 : decode cX12_falseOnes 161 = .ok (.iconst (-1), 1) := by decide +kernel
theorem dX12_falseOnes_162 : decode cX12_falseOnes 162 = .ok (.ixor, 1) := by decide +kernel
theorem dX12_falseOnes_163 : decode cX12_falseOnes 163 = .ok (.iload_n 1, 1) := by decide +kernel
theorem dX12_falseOnes_164 : decode cX12_falseOnes 164 = .ok (.iload_n 2, 1) := by decide +kernel
theorem dX12_falseOnes_165 : decode cX12_falseOnes 165 = .ok (.iconst 0, 1) := by decide +kernel
theorem dX12_falseOnes_166 : decode cX12_falseOnes 166 = .ok (.invokevirtual 366, 3) := by decide +kernel
theorem dX12_falseOnes_169 : decode cX12_falseOnes 169 = .ok (.istore 10, 2) := by decide +kernel
theorem dX12_falseOnes_171 : decode cX12_falseOnes 171 = .ok (.iload 9, 2) := by decide +kernel
theorem dX12_falseOnes_173 : decode cX12_falseOnes 173 = .ok (.ifCond .eq 20, 3) := by decide +kernel
theorem dX12_falseOnes_176 : decode cX12_falseOnes 176 = .ok (.iload 9, 2) := by decide +kernel
theorem dX12_falseOnes_178 : decode cX12_falseOnes 178 = .ok (.invokestatic 281, 3) := by decide +kernel
theorem dX12_falseOnes_181 : decode cX12_falseOnes 181 = .ok (.iload 10, 2) := by decide +kernel
theorem dX12_falseOnes_183 : decode cX12_falseOnes 183 = .ok (.invokestatic 281, 3) := by decide +kernel
theorem dX12_falseOnes_186 : decode cX12_falseOnes 186 = .ok (.if_icmp .lt 7, 3) := by decide +kernel
theorem dX12_falseOnes_189 : decode cX12_falseOnes 189 = .ok (.iconst 1, 1) := by decide +kernel
theorem dX12_falseOnes_190 : decode cX12_falseOnes 190 = .ok (.goto 4, 3) := by decide +kernel
theorem dX12_falseOnes_193 : decode cX12_falseOnes 193 = .ok (.iconst 0, 1) := by decide +kernel
theorem dX12_falseOnes_194 : decode cX12_falseOnes 194 = .ok (.istore 11, 2) := by decide +kernel
theorem dX12_falseOnes_196 : decode cX12_falseOnes 196 = .ok (.iload 11, 2) := by decide +kernel
theorem dX12_falseOnes_198 : decode cX12_falseOnes 198 = .ok (.ifCond .eq 11, 3) := by decide +kernel
theorem dX12_falseOnes_201 : decode cX12_falseOnes 201 = .ok (.iload 9, 2) := by decide +kernel
theorem dX12_falseOnes_203 : decode cX12_falseOnes 203 = .ok (.invokestatic 278, 3) := by decide +kernel
theorem dX12_falseOnes_206 : decode cX12_falseOnes 206 = .ok (.goto 4, 3) := by decide +kernel
theorem dX12_falseOnes_209 : decode cX12_falseOnes 209 = .ok (.iconst 0, 1) := by decide +kernel
theorem dX12_falseOnes_210 : decode cX12_falseOnes 210 = .ok (.istore 12, 2) := by decide +kernel
theorem dX12_falseOnes_212 : decode cX12_falseOnes 212 = .ok (.iload 11, 2) := by decide +kernel
theorem dX12_falseOnes_214 : decode cX12_falseOnes 214 = .ok (.ifCond .eq 7, 3) := by decide +kernel
theorem dX12_falseOnes_217 : decode cX12_falseOnes 217 = .ok (.iconst 0, 1) := by decide +kernel
theorem dX12_falseOnes_218 : decode cX12_falseOnes 218 = .ok (.goto 8, 3) := by decide +kernel
theorem dX12_falseOnes_221 : decode cX12_falseOnes 221 = .ok (.iload 10, 2) := by decide +kernel
theorem dX12_falseOnes_223 : decode cX12_falseOnes 223 = .ok (.invokestatic 278, 3) := by decide +kernel
theorem dX12_falseOnes_226 : decode cX12_falseOnes 226 = .ok (.istore 13, 2) := by decide +kernel
theorem dX12_falseOnes_228 : decode cX12_falseOnes 228 = .ok (.iload 12, 2) := by decide +kernel
theorem dX12_falseOnes_230 : decode cX12_falseOnes 230 = .ok (.iload_n 3, 1) := by decide +kernel
theorem dX12_falseOnes_231 : decode cX12_falseOnes 231 = .ok (.if_icmp .ne 14, 3) := by decide +kernel
theorem dX12_falseOnes_234 : decode cX12_falseOnes 234 = .ok (.iload 13, 2) := by decide +kernel
theorem dX12_falseOnes_236 : decode cX12_falseOnes 236 = .ok (.iload 4, 2) := by decide +kernel
theorem dX12_falseOnes_238 : decode cX12_falseOnes 238 = .ok (.if_icmp .ne 7, 3) := by decide +kernel
theorem dX12_falseOnes_241 : decode cX12_falseOnes 241 = .ok (.iload 8, 2) := by decide +kernel
theorem dX12_falseOnes_243 : decode cX12_falseOnes 243 = .ok (.istore 7, 2) := by decide +kernel
theorem dX12_falseOnes_245 : decode cX12_falseOnes 245 = .ok (.iinc 8 1, 3) := by decide +kernel
theorem dX12_falseOnes_248 : decode cX12_falseOnes 248 = .ok (.goto (-132), 3) := by decide +kernel
theorem dX12_falseOnes_251 : decode cX12_falseOnes 251 = .ok (.iload 5, 2) := by decide +kernel
theorem dX12_falseOnes_253 : decode cX12_falseOnes 253 = .ok (.iconst 1, 1) := by decide +kernel
theorem dX12_falseOnes_254 : decode cX12_falseOnes 254 = .ok (.if_icmp .eq 10, 3) := by decide +kernel
theorem dX12_falseOnes_257 : decode cX12_falseOnes 257 = .ok (.iload 7, 2) := by decide +kernel
theorem dX12_falseOnes_259 : decode cX12_falseOnes 259 = .ok (.bipush (-2), 2) := by decide +kernel
theorem dX12_falseOnes_261 : decode cX12_falseOnes 261 = .ok (.if_icmp .ne 8, 3) := by decide +kernel
theorem dX12_falseOnes_264 : decode cX12_falseOnes 264 = .ok (.iload 7, 2) := by decide +kernel
theorem dX12_falseOnes_266 : decode cX12_falseOnes 266 = .ok (.goto 8, 3) := by decide +kernel
theorem dX12_falseOnes_269 : decode cX12_falseOnes 269 = .ok (.iload 7, 2) := by decide +kernel
theorem dX12_falseOnes_271 : decode cX12_falseOnes 271 = .ok (.invokestatic 373, 3) := by decide +kernel
theorem dX12_falseOnes_274 : decode cX12_falseOnes 274 = .ok (.ireturn, 1) := by decide +kernel
theorem dX12_liesSo_0 : decode cX12_liesSo 0 = .ok (.iload_n 1, 1) := by decide +kernel
theorem dX12_liesSo_1 : decode cX12_liesSo 1 = .ok (.bipush 24, 2) := by decide +kernel
theorem dX12_liesSo_3 : decode cX12_liesSo 3 = .ok (.irem, 1) := by decide +kernel
theorem dX12_liesSo_4 : decode cX12_liesSo 4 = .ok (.aload_n 0, 1) := by decide +kernel
theorem dX12_liesSo_5 : decode cX12_liesSo 5 = .ok (.iconst 3, 1) := by decide +kernel
theorem dX12_liesSo_6 : decode cX12_liesSo 6 = .ok (.iload_n 2, 1) := by decide +kernel
theorem dX12_liesSo_7 : decode cX12_liesSo 7 = .ok (.imul, 1) := by decide +kernel
theorem dX12_liesSo_8 : decode cX12_liesSo 8 = .ok (.invokevirtual 360, 3) := by decide +kernel
theorem dX12_liesSo_11 : decode cX12_liesSo 11 = .ok (.isub, 1) := by decide +kernel
theorem dX12_liesSo_12 : decode cX12_liesSo 12 = .ok (.istore_n 3, 1) := by decide +kernel
theorem dX12_liesSo_13 : decode cX12_liesSo 13 = .ok (.iload_n 1, 1) := by decide +kernel
theorem dX12_liesSo_14 : decode cX12_liesSo 14 = .ok (.bipush 24, 2) := by decide +kernel
theorem dX12_liesSo_16 : decode cX12_liesSo 16 = .ok (.idiv, 1) := by decide +kernel
theorem dX12_liesSo_17 : decode cX12_liesSo 17 = .ok (.aload_n 0, 1) := by decide +kernel
theorem dX12_liesSo_18 : decode cX12_liesSo 18 = .ok (.iconst 3, 1) := by decide +kernel
theorem dX12_liesSo_19 : decode cX12_liesSo 19 = .ok (.iload_n 2, 1) := by decide +kernel
theorem dX12_liesSo_20 : decode cX12_liesSo 20 = .ok (.imul, 1) := by decide +kernel
theorem dX12_liesSo_21 : decode cX12_liesSo 21 = .ok (.iconst 1, 1) := by decide +kernel
theorem dX12_liesSo_22 : decode cX12_liesSo 22 = .ok (.iadd, 1) := by decide +kernel
theorem dX12_liesSo_23 : decode cX12_liesSo 23 = .ok (.invokevirtual 360, 3) := by decide +kernel
theorem dX12_liesSo_26 : decode cX12_liesSo 26 = .ok (.isub, 1) := by decide +kernel
theorem dX12_liesSo_27 : decode cX12_liesSo 27 = .ok (.istore 4, 2) := by decide +kernel
theorem dX12_liesSo_29 : decode cX12_liesSo 29 = .ok (.iload_n 3, 1) := by decide +kernel
theorem dX12_liesSo_30 : decode cX12_liesSo 30 = .ok (.ifCond .le 7, 3) := by decide +kernel
theorem dX12_liesSo_33 : decode cX12_liesSo 33 = .ok (.iconst 1, 1) := by decide +kernel
theorem dX12_liesSo_34 : decode cX12_liesSo 34 = .ok (.goto 4, 3) := by decide +kernel
theorem dX12_liesSo_37 : decode cX12_liesSo 37 = .ok (.iconst 0, 1) := by decide +kernel
theorem dX12_liesSo_38 : decode cX12_liesSo 38 = .ok (.iload_n 3, 1) := by decide +kernel
theorem dX12_liesSo_39 : decode cX12_liesSo 39 = .ok (.ifCond .ge 7, 3) := by decide +kernel
theorem dX12_liesSo_42 : decode cX12_liesSo 42 = .ok (.iconst 2, 1) := by decide +kernel
theorem dX12_liesSo_43 : decode cX12_liesSo 43 = .ok (.goto 4, 3) := by decide +kernel
theorem dX12_liesSo_46 : decode cX12_liesSo 46 = .ok (.iconst 0, 1) := by decide +kernel
theorem dX12_liesSo_47 : decode cX12_liesSo 47 = .ok (.iadd, 1) := by decide +kernel
theorem dX12_liesSo_48 : decode cX12_liesSo 48 = .ok (.iload 4, 2) := by decide +kernel
theorem dX12_liesSo_50 : decode cX12_liesSo 50 = .ok (.ifCond .le 7, 3) := by decide +kernel
theorem dX12_liesSo_53 : decode cX12_liesSo 53 = .ok (.iconst 4, 1) := by decide +kernel
theorem dX12_liesSo_54 : decode cX12_liesSo 54 = .ok (.goto 4, 3) := by decide +kernel
theorem dX12_liesSo_57 : decode cX12_liesSo 57 = .ok (.iconst 0, 1) := by decide +kernel
theorem dX12_liesSo_58 : decode cX12_liesSo 58 = .ok (.iadd, 1) := by decide +kernel
theorem dX12_liesSo_59 : decode cX12_liesSo 59 = .ok (.iload 4, 2) := by decide +kernel
theorem dX12_liesSo_61 : decode cX12_liesSo 61 = .ok (.ifCond .ge 8, 3) := by decide +kernel
theorem dX12_liesSo_64 : decode cX12_liesSo 64 = .ok (.bipush 8, 2) := by decide +kernel
theorem dX12_liesSo_66 : decode cX12_liesSo 66 = .ok (.goto 4, 3) := by decide +kernel
theorem dX12_liesSo_69 : decode cX12_liesSo 69 = .ok (.iconst 0, 1) := by decide +kernel
theorem dX12_liesSo_70 : decode cX12_liesSo 70 = .ok (.iadd, 1) := by decide +kernel
theorem dX12_liesSo_71 : decode cX12_liesSo 71 = .ok (.istore 5, 2) := by decide +kernel
theorem dX12_liesSo_73 : decode cX12_liesSo 73 = .ok (.iload 5, 2) := by decide +kernel
theorem dX12_liesSo_75 : decode cX12_liesSo 75 = .ok (.aload_n 0, 1) := by decide +kernel
theorem dX12_liesSo_76 : decode cX12_liesSo 76 = .ok (.iconst 3, 1) := by decide +kernel
theorem dX12_liesSo_77 : decode cX12_liesSo 77 = .ok (.iload_n 2, 1) := by decide +kernel
theorem dX12_liesSo_78 : decode cX12_liesSo 78 = .ok (.imul, 1) := by decide +kernel
theorem dX12_liesSo_79 : decode cX12_liesSo 79 = .ok (.iconst 2, 1) := by decide +kernel
theorem dX12_liesSo_80 : decode cX12_liesSo 80 = .ok (.iadd, 1) := by decide +kernel
theorem dX12_liesSo_81 : decode cX12_liesSo 81 = .ok (.invokevirtual 360, 3) := by decide +kernel
theorem dX12_liesSo_84 : decode cX12_liesSo 84 = .ok (.if_icmp .ne 7, 3) := by decide +kernel
theorem dX12_liesSo_87 : decode cX12_liesSo 87 = .ok (.iconst 1, 1) := by decide +kernel
theorem dX12_liesSo_88 : decode cX12_liesSo 88 = .ok (.goto 4, 3) := by decide +kernel
theorem dX12_liesSo_91 : decode cX12_liesSo 91 = .ok (.iconst 0, 1) := by decide +kernel
theorem dX12_liesSo_92 : decode cX12_liesSo 92 = .ok (.ireturn, 1) := by decide +kernel
theorem dX12_printed_0 : decode cX12_printed 0 = .ok (.iload_n 1, 1) := by decide +kernel
theorem dX12_printed_1 : decode cX12_printed 1 = .ok (.iconst 1, 1) := by decide +kernel
theorem dX12_printed_2 : decode cX12_printed 2 = .ok (.bipush 10, 2) := by decide +kernel
theorem dX12_printed_4 : decode cX12_printed 4 = .ok (.invokestatic 105, 3) := by decide +kernel
theorem dX12_printed_7 : decode cX12_printed 7 = .ok (.ifCond .eq 13, 3) := by decide +kernel
theorem dX12_printed_10 : decode cX12_printed 10 = .ok (.iconst 3, 1) := by decide +kernel
theorem dX12_printed_11 : decode cX12_printed 11 = .ok (.iload_n 1, 1) := by decide +kernel
theorem dX12_printed_12 : decode cX12_printed 12 = .ok (.imul, 1) := by decide +kernel
theorem dX12_printed_13 : decode cX12_printed 13 = .ok (.aload_n 0, 1) := by decide +kernel
theorem dX12_printed_14 : decode cX12_printed 14 = .ok (.getfield 117, 3) := by decide +kernel
theorem dX12_printed_17 : decode cX12_printed 17 = .ok (.if_icmp .le 5, 3) := by decide +kernel
theorem dX12_printed_20 : decode cX12_printed 20 = .ok (.iconst (-1), 1) := by decide +kernel
theorem dX12_printed_21 : decode cX12_printed 21 = .ok (.ireturn, 1) := by decide +kernel
theorem dX12_printed_22 : decode cX12_printed 22 = .ok (.aload_n 0, 1) := by decide +kernel
theorem dX12_printed_23 : decode cX12_printed 23 = .ok (.iconst 0, 1) := by decide +kernel
theorem dX12_printed_24 : decode cX12_printed 24 = .ok (.putfield 117, 3) := by decide +kernel
theorem dX12_printed_27 : decode cX12_printed 27 = .ok (.iconst 0, 1) := by decide +kernel
theorem dX12_printed_28 : decode cX12_printed 28 = .ok (.istore_n 2, 1) := by decide +kernel
theorem dX12_printed_29 : decode cX12_printed 29 = .ok (.iconst 0, 1) := by decide +kernel
theorem dX12_printed_30 : decode cX12_printed 30 = .ok (.istore_n 3, 1) := by decide +kernel
theorem dX12_printed_31 : decode cX12_printed 31 = .ok (.iload_n 3, 1) := by decide +kernel
theorem dX12_printed_32 : decode cX12_printed 32 = .ok (.bipush 8, 2) := by decide +kernel
theorem dX12_printed_34 : decode cX12_printed 34 = .ok (.if_icmp .ge 71, 3) := by decide +kernel
theorem dX12_printed_37 : decode cX12_printed 37 = .ok (.aload_n 0, 1) := by decide +kernel
theorem dX12_printed_38 : decode cX12_printed 38 = .ok (.getfield 19, 3) := by decide +kernel
theorem dX12_printed_41 : decode cX12_printed 41 = .ok (.iload_n 3, 1) := by decide +kernel
theorem dX12_printed_42 : decode cX12_printed 42 = .ok (.iaload, 1) := by decide +kernel
theorem dX12_printed_43 : decode cX12_printed 43 = .ok (.iconst (-1), 1) := by decide +kernel
theorem dX12_printed_44 : decode cX12_printed 44 = .ok (.if_icmp .eq 7, 3) := by decide +kernel
theorem dX12_printed_47 : decode cX12_printed 47 = .ok (.iconst 1, 1) := by decide +kernel
theorem dX12_printed_48 : decode cX12_printed 48 = .ok (.goto 4, 3) := by decide +kernel
theorem dX12_printed_51 : decode cX12_printed 51 = .ok (.iconst 0, 1) := by decide +kernel
theorem dX12_printed_52 : decode cX12_printed 52 = .ok (.istore 4, 2) := by decide +kernel
theorem dX12_printed_54 : decode cX12_printed 54 = .ok (.iconst 0, 1) := by decide +kernel
theorem dX12_printed_55 : decode cX12_printed 55 = .ok (.istore 5, 2) := by decide +kernel
theorem dX12_printed_57 : decode cX12_printed 57 = .ok (.iload 5, 2) := by decide +kernel
theorem dX12_printed_59 : decode cX12_printed 59 = .ok (.iload_n 1, 1) := by decide +kernel
theorem dX12_printed_60 : decode cX12_printed 60 = .ok (.if_icmp .ge 28, 3) := by decide +kernel
theorem dX12_printed_63 : decode cX12_printed 63 = .ok (.iload 4, 2) := by decide +kernel
theorem dX12_printed_65 : decode cX12_printed 65 = .ok (.ifCond .eq 23, 3) := by decide +kernel
theorem dX12_printed_68 : decode cX12_printed 68 = .ok (.aload_n 0, 1) := by decide +kernel
theorem dX12_printed_69 : decode cX12_printed 69 = .ok (.aload_n 0, 1) := by decide +kernel
theorem dX12_printed_70 : decode cX12_printed 70 = .ok (.getfield 19, 3) := by decide +kernel
theorem dX12_printed_73 : decode cX12_printed 73 = .ok (.iload_n 3, 1) := by decide +kernel
theorem dX12_printed_74 : decode cX12_printed 74 = .ok (.iaload, 1) := by decide +kernel
theorem dX12_printed_75 : decode cX12_printed 75 = .ok (.iload 5, 2) := by decide +kernel
theorem dX12_printed_77 : decode cX12_printed 77 = .ok (.invokevirtual 386, 3) := by decide +kernel
theorem dX12_printed_80 : decode cX12_printed 80 = .ok (.istore 4, 2) := by decide +kernel
theorem dX12_printed_82 : decode cX12_printed 82 = .ok (.iinc 5 1, 3) := by decide +kernel
theorem dX12_printed_85 : decode cX12_printed 85 = .ok (.goto (-28), 3) := by decide +kernel
theorem dX12_printed_88 : decode cX12_printed 88 = .ok (.iload 4, 2) := by decide +kernel
theorem dX12_printed_90 : decode cX12_printed 90 = .ok (.ifCond .eq 9, 3) := by decide +kernel
theorem dX12_printed_93 : decode cX12_printed 93 = .ok (.iload_n 2, 1) := by decide +kernel
theorem dX12_printed_94 : decode cX12_printed 94 = .ok (.iconst 1, 1) := by decide +kernel
theorem dX12_printed_95 : decode cX12_printed 95 = .ok (.iload_n 3, 1) := by decide +kernel
theorem dX12_printed_96 : decode cX12_printed 96 = .ok (.ishl, 1) := by decide +kernel
theorem dX12_printed_97 : decode cX12_printed 97 = .ok (.ior, 1) := by decide +kernel
theorem dX12_printed_98 : decode cX12_printed 98 = .ok (.istore_n 2, 1) := by decide +kernel
theorem dX12_printed_99 : decode cX12_printed 99 = .ok (.iinc 3 1, 3) := by decide +kernel
theorem dX12_printed_102 : decode cX12_printed 102 = .ok (.goto (-71), 3) := by decide +kernel
theorem dX12_printed_105 : decode cX12_printed 105 = .ok (.iload_n 2, 1) := by decide +kernel
theorem dX12_printed_106 : decode cX12_printed 106 = .ok (.ireturn, 1) := by decide +kernel
theorem dX12_sumOf_0 : decode cX12_sumOf 0 = .ok (.iconst 0, 1) := by decide +kernel
theorem dX12_sumOf_1 : decode cX12_sumOf 1 = .ok (.istore_n 3, 1) := by decide +kernel
theorem dX12_sumOf_2 : decode cX12_sumOf 2 = .ok (.iconst 0, 1) := by decide +kernel
theorem dX12_sumOf_3 : decode cX12_sumOf 3 = .ok (.istore 4, 2) := by decide +kernel
theorem dX12_sumOf_5 : decode cX12_sumOf 5 = .ok (.iload 4, 2) := by decide +kernel
theorem dX12_sumOf_7 : decode cX12_sumOf 7 = .ok (.iload_n 2, 1) := by decide +kernel
theorem dX12_sumOf_8 : decode cX12_sumOf 8 = .ok (.if_icmp .ge 27, 3) := by decide +kernel
theorem dX12_sumOf_11 : decode cX12_sumOf 11 = .ok (.iload_n 1, 1) := by decide +kernel
theorem dX12_sumOf_12 : decode cX12_sumOf 12 = .ok (.iload 4, 2) := by decide +kernel
theorem dX12_sumOf_14 : decode cX12_sumOf 14 = .ok (.invokestatic 363, 3) := by decide +kernel
theorem dX12_sumOf_17 : decode cX12_sumOf 17 = .ok (.ifCond .eq 12, 3) := by decide +kernel
theorem dX12_sumOf_20 : decode cX12_sumOf 20 = .ok (.iload_n 3, 1) := by decide +kernel
theorem dX12_sumOf_21 : decode cX12_sumOf 21 = .ok (.aload_n 0, 1) := by decide +kernel
theorem dX12_sumOf_22 : decode cX12_sumOf 22 = .ok (.iload 4, 2) := by decide +kernel
theorem dX12_sumOf_24 : decode cX12_sumOf 24 = .ok (.invokevirtual 360, 3) := by decide +kernel
theorem dX12_sumOf_27 : decode cX12_sumOf 27 = .ok (.iadd, 1) := by decide +kernel
theorem dX12_sumOf_28 : decode cX12_sumOf 28 = .ok (.istore_n 3, 1) := by decide +kernel
theorem dX12_sumOf_29 : decode cX12_sumOf 29 = .ok (.iinc 4 1, 3) := by decide +kernel
theorem dX12_sumOf_32 : decode cX12_sumOf 32 = .ok (.goto (-27), 3) := by decide +kernel
theorem dX12_sumOf_35 : decode cX12_sumOf 35 = .ok (.iload_n 3, 1) := by decide +kernel
theorem dX12_sumOf_36 : decode cX12_sumOf 36 = .ok (.ireturn, 1) := by decide +kernel
theorem dX12_ship_0 : decode cX12_ship 0 = .ok (.iload_n 1, 1) := by decide +kernel
theorem dX12_ship_1 : decode cX12_ship 1 = .ok (.iconst 1, 1) := by decide +kernel
theorem dX12_ship_2 : decode cX12_ship 2 = .ok (.bipush 10, 2) := by decide +kernel
theorem dX12_ship_4 : decode cX12_ship 4 = .ok (.invokestatic 105, 3) := by decide +kernel
theorem dX12_ship_7 : decode cX12_ship 7 = .ok (.ifCond .eq 20, 3) := by decide +kernel
theorem dX12_ship_10 : decode cX12_ship 10 = .ok (.iload_n 2, 1) := by decide +kernel
theorem dX12_ship_11 : decode cX12_ship 11 = .ok (.iconst 0, 1) := by decide +kernel
theorem dX12_ship_12 : decode cX12_ship 12 = .ok (.iconst 1, 1) := by decide +kernel
theorem dX12_ship_13 : decode cX12_ship 13 = .ok (.invokestatic 105, 3) := by decide +kernel
theorem dX12_ship_16 : decode cX12_ship 16 = .ok (.ifCond .eq 11, 3) := by decide +kernel
theorem dX12_ship_19 : decode cX12_ship 19 = .ok (.iload_n 1, 1) := by decide +kernel
theorem dX12_ship_20 : decode cX12_ship 20 = .ok (.aload_n 0, 1) := by decide +kernel
theorem dX12_ship_21 : decode cX12_ship 21 = .ok (.getfield 117, 3) := by decide +kernel
theorem dX12_ship_24 : decode cX12_ship 24 = .ok (.if_icmp .le 5, 3) := by decide +kernel
theorem dX12_ship_27 : decode cX12_ship 27 = .ok (.iconst (-1), 1) := by decide +kernel
theorem dX12_ship_28 : decode cX12_ship 28 = .ok (.ireturn, 1) := by decide +kernel
theorem dX12_ship_29 : decode cX12_ship 29 = .ok (.aload_n 0, 1) := by decide +kernel
theorem dX12_ship_30 : decode cX12_ship 30 = .ok (.iconst 0, 1) := by decide +kernel
theorem dX12_ship_31 : decode cX12_ship 31 = .ok (.putfield 117, 3) := by decide +kernel
theorem dX12_ship_34 : decode cX12_ship 34 = .ok (.aload_n 0, 1) := by decide +kernel
theorem dX12_ship_35 : decode cX12_ship 35 = .ok (.iconst 1, 1) := by decide +kernel
theorem dX12_ship_36 : decode cX12_ship 36 = .ok (.iload_n 1, 1) := by decide +kernel
theorem dX12_ship_37 : decode cX12_ship 37 = .ok (.ishl, 1) := by decide +kernel
theorem dX12_ship_38 : decode cX12_ship 38 = .ok (.iconst 1, 1) := by decide +kernel
theorem dX12_ship_39 : decode cX12_ship 39 = .ok (.isub, 1) := by decide +kernel
theorem dX12_ship_40 : decode cX12_ship 40 = .ok (.iload_n 1, 1) := by decide +kernel
theorem dX12_ship_41 : decode cX12_ship 41 = .ok (.invokevirtual 389, 3) := by decide +kernel
theorem dX12_ship_44 : decode cX12_ship 44 = .ok (.istore_n 3, 1) := by decide +kernel
theorem dX12_ship_45 : decode cX12_ship 45 = .ok (.ldc_w 392, 3) := by decide +kernel
theorem dX12_ship_48 : decode cX12_ship 48 = .ok (.istore 4, 2) := by decide +kernel
theorem dX12_ship_50 : decode cX12_ship 50 = .ok (.iconst 0, 1) := by decide +kernel
theorem dX12_ship_51 : decode cX12_ship 51 = .ok (.istore 5, 2) := by decide +kernel
theorem dX12_ship_53 : decode cX12_ship 53 = .ok (.iconst 1, 1) := by decide +kernel
theorem dX12_ship_54 : decode cX12_ship 54 = .ok (.istore 6, 2) := by decide +kernel
theorem dX12_ship_56 : decode cX12_ship 56 = .ok (.iload 6, 2) := by decide +kernel
theorem dX12_ship_58 : decode cX12_ship 58 = .ok (.iconst 1, 1) := by decide +kernel
theorem dX12_ship_59 : decode cX12_ship 59 = .ok (.iload_n 1, 1) := by decide +kernel
theorem dX12_ship_60 : decode cX12_ship 60 = .ok (.ishl, 1) := by decide +kernel
theorem dX12_ship_61 : decode cX12_ship 61 = .ok (.if_icmp .ge 46, 3) := by decide +kernel
theorem dX12_ship_64 : decode cX12_ship 64 = .ok (.iload_n 3, 1) := by decide +kernel
theorem dX12_ship_65 : decode cX12_ship 65 = .ok (.iconst 2, 1) := by decide +kernel
theorem dX12_ship_66 : decode cX12_ship 66 = .ok (.aload_n 0, 1) := by decide +kernel
theorem dX12_ship_67 : decode cX12_ship 67 = .ok (.iload 6, 2) := by decide +kernel
theorem dX12_ship_69 : decode cX12_ship 69 = .ok (.iload_n 1, 1) := by decide +kernel
theorem dX12_ship_70 : decode cX12_ship 70 = .ok (.invokevirtual 389, 3) := by decide +kernel
theorem dX12_ship_73 : decode cX12_ship 73 = .ok (.imul, 1) := by decide +kernel
theorem dX12_ship_74 : decode cX12_ship 74 = .ok (.isub, 1) := by decide +kernel
theorem dX12_ship_75 : decode cX12_ship 75 = .ok (.invokestatic 281, 3) := by decide +kernel
theorem dX12_ship_78 : decode cX12_ship 78 = .ok (.istore 7, 2) := by decide +kernel
theorem dX12_ship_80 : decode cX12_ship 80 = .ok (.iload 7, 2) := by decide +kernel
theorem dX12_ship_82 : decode cX12_ship 82 = .ok (.iload 4, 2) := by decide +kernel
theorem dX12_ship_84 : decode cX12_ship 84 = .ok (.if_icmp .lt 6, 3) := by decide +kernel
theorem dX12_ship_87 : decode cX12_ship 87 = .ok (.goto 11, 3) := by decide +kernel
theorem dX12_ship_90 : decode cX12_ship 90 = .ok (.iload 7, 2) := by decide +kernel
theorem dX12_ship_92 : decode cX12_ship 92 = .ok (.istore 4, 2) := by decide +kernel
theorem dX12_ship_94 : decode cX12_ship 94 = .ok (.iload 6, 2) := by decide +kernel
theorem dX12_ship_96 : decode cX12_ship 96 = .ok (.istore 5, 2) := by decide +kernel
theorem dX12_ship_98 : decode cX12_ship 98 = .ok (.iload 6, 2) := by decide +kernel
theorem dX12_ship_100 : decode cX12_ship 100 = .ok (.iconst 2, 1) := by decide +kernel
theorem dX12_ship_101 : decode cX12_ship 101 = .ok (.iadd, 1) := by decide +kernel
theorem dX12_ship_102 : decode cX12_ship 102 = .ok (.istore 6, 2) := by decide +kernel
theorem dX12_ship_104 : decode cX12_ship 104 = .ok (.goto (-48), 3) := by decide +kernel
theorem dX12_ship_107 : decode cX12_ship 107 = .ok (.iload_n 2, 1) := by decide +kernel
theorem dX12_ship_108 : decode cX12_ship 108 = .ok (.ifCond .ne 8, 3) := by decide +kernel
theorem dX12_ship_111 : decode cX12_ship 111 = .ok (.iload 4, 2) := by decide +kernel
theorem dX12_ship_113 : decode cX12_ship 113 = .ok (.goto 5, 3) := by decide +kernel
theorem dX12_ship_116 : decode cX12_ship 116 = .ok (.iload 5, 2) := by decide +kernel
theorem dX12_ship_118 : decode cX12_ship 118 = .ok (.ireturn, 1) := by decide +kernel
theorem dX12_mule_0 : decode cX12_mule 0 = .ok (.iload_n 1, 1) := by decide +kernel
theorem dX12_mule_1 : decode cX12_mule 1 = .ok (.iconst 1, 1) := by decide +kernel
theorem dX12_mule_2 : decode cX12_mule 2 = .ok (.bipush 12, 2) := by decide +kernel
theorem dX12_mule_4 : decode cX12_mule 4 = .ok (.invokestatic 105, 3) := by decide +kernel
theorem dX12_mule_7 : decode cX12_mule 7 = .ok (.ifCond .eq 31, 3) := by decide +kernel
theorem dX12_mule_10 : decode cX12_mule 10 = .ok (.iload_n 2, 1) := by decide +kernel
theorem dX12_mule_11 : decode cX12_mule 11 = .ok (.iconst 0, 1) := by decide +kernel
theorem dX12_mule_12 : decode cX12_mule 12 = .ok (.sipush 3060, 3) := by decide +kernel
theorem dX12_mule_15 : decode cX12_mule 15 = .ok (.invokestatic 105, 3) := by decide +kernel
theorem dX12_mule_18 : decode cX12_mule 18 = .ok (.ifCond .eq 20, 3) := by decide +kernel
theorem dX12_mule_21 : decode cX12_mule 21 = .ok (.iload_n 3, 1) := by decide +kernel
theorem dX12_mule_22 : decode cX12_mule 22 = .ok (.iconst 0, 1) := by decide +kernel
theorem dX12_mule_23 : decode cX12_mule 23 = .ok (.iconst 2, 1) := by decide +kernel
theorem dX12_mule_24 : decode cX12_mule 24 = .ok (.invokestatic 105, 3) := by decide +kernel
theorem dX12_mule_27 : decode cX12_mule 27 = .ok (.ifCond .eq 11, 3) := by decide +kernel
theorem dX12_mule_30 : decode cX12_mule 30 = .ok (.iload_n 1, 1) := by decide +kernel
theorem dX12_mule_31 : decode cX12_mule 31 = .ok (.aload_n 0, 1) := by decide +kernel
theorem dX12_mule_32 : decode cX12_mule 32 = .ok (.getfield 117, 3) := by decide +kernel
theorem dX12_mule_35 : decode cX12_mule 35 = .ok (.if_icmp .le 5, 3) := by decide +kernel
theorem dX12_mule_38 : decode cX12_mule 38 = .ok (.iconst (-1), 1) := by decide +kernel
theorem dX12_mule_39 : decode cX12_mule 39 = .ok (.ireturn, 1) := by decide +kernel
theorem dX12_mule_40 : decode cX12_mule 40 = .ok (.aload_n 0, 1) := by decide +kernel
theorem dX12_mule_41 : decode cX12_mule 41 = .ok (.iconst 0, 1) := by decide +kernel
theorem dX12_mule_42 : decode cX12_mule 42 = .ok (.putfield 117, 3) := by decide +kernel
theorem dX12_mule_45 : decode cX12_mule 45 = .ok (.bipush (-2), 2) := by decide +kernel
theorem dX12_mule_47 : decode cX12_mule 47 = .ok (.istore 4, 2) := by decide +kernel
theorem dX12_mule_49 : decode cX12_mule 49 = .ok (.iconst 0, 1) := by decide +kernel
theorem dX12_mule_50 : decode cX12_mule 50 = .ok (.istore 5, 2) := by decide +kernel
theorem dX12_mule_52 : decode cX12_mule 52 = .ok (.iconst 0, 1) := by decide +kernel
theorem dX12_mule_53 : decode cX12_mule 53 = .ok (.istore 6, 2) := by decide +kernel
theorem dX12_mule_55 : decode cX12_mule 55 = .ok (.iload 6, 2) := by decide +kernel
theorem dX12_mule_57 : decode cX12_mule 57 = .ok (.iconst 1, 1) := by decide +kernel
theorem dX12_mule_58 : decode cX12_mule 58 = .ok (.iload_n 1, 1) := by decide +kernel
theorem dX12_mule_59 : decode cX12_mule 59 = .ok (.ishl, 1) := by decide +kernel
theorem dX12_mule_60 : decode cX12_mule 60 = .ok (.if_icmp .ge 75, 3) := by decide +kernel
theorem dX12_mule_63 : decode cX12_mule 63 = .ok (.aload_n 0, 1) := by decide +kernel
theorem dX12_mule_64 : decode cX12_mule 64 = .ok (.iload 6, 2) := by decide +kernel
theorem dX12_mule_66 : decode cX12_mule 66 = .ok (.iload_n 1, 1) := by decide +kernel
theorem dX12_mule_67 : decode cX12_mule 67 = .ok (.invokevirtual 389, 3) := by decide +kernel
theorem dX12_mule_70 : decode cX12_mule 70 = .ok (.istore 7, 2) := by decide +kernel
theorem dX12_mule_72 : decode cX12_mule 72 = .ok (.iload 7, 2) := by decide +kernel
theorem dX12_mule_74 : decode cX12_mule 74 = .ok (.iload_n 2, 1) := by decide +kernel
theorem dX12_mule_75 : decode cX12_mule 75 = .ok (.if_icmp .lt 54, 3) := by decide +kernel
theorem dX12_mule_78 : decode cX12_mule 78 = .ok (.iload 4, 2) := by decide +kernel
theorem dX12_mule_80 : decode cX12_mule 80 = .ok (.bipush (-2), 2) := by decide +kernel
theorem dX12_mule_82 : decode cX12_mule 82 = .ok (.if_icmp .eq 39, 3) := by decide +kernel
theorem dX12_mule_85 : decode cX12_mule 85 = .ok (.iload 6, 2) := by decide +kernel
theorem dX12_mule_87 : decode cX12_mule 87 = .ok (.invokestatic 373, 3) := by decide +kernel
theorem dX12_mule_90 : decode cX12_mule 90 = .ok (.iload 4, 2) := by decide +kernel
theorem dX12_mule_92 : decode cX12_mule 92 = .ok (.invokestatic 373, 3) := by decide +kernel
theorem dX12_mule_95 : decode cX12_mule 95 = .ok (.if_icmp .gt 34, 3) := by decide +kernel
theorem dX12_mule_98 : decode cX12_mule 98 = .ok (.iload 6, 2) := by decide +kernel
theorem dX12_mule_100 : decode cX12_mule 100 = .ok (.invokestatic 373, 3) := by decide +kernel
theorem dX12_mule_103 : decode cX12_mule 103 = .ok (.iload 4, 2) := by decide +kernel
theorem dX12_mule_105 : decode cX12_mule 105 = .ok (.invokestatic 373, 3) := by decide +kernel
theorem dX12_mule_108 : decode cX12_mule 108 = .ok (.if_icmp .ne 13, 3) := by decide +kernel
theorem dX12_mule_111 : decode cX12_mule 111 = .ok (.iload 7, 2) := by decide +kernel
theorem dX12_mule_113 : decode cX12_mule 113 = .ok (.iload 5, 2) := by decide +kernel
theorem dX12_mule_115 : decode cX12_mule 115 = .ok (.if_icmp .lt 6, 3) := by decide +kernel
theorem dX12_mule_118 : decode cX12_mule 118 = .ok (.goto 11, 3) := by decide +kernel
theorem dX12_mule_121 : decode cX12_mule 121 = .ok (.iload 6, 2) := by decide +kernel
theorem dX12_mule_123 : decode cX12_mule 123 = .ok (.istore 4, 2) := by decide +kernel
theorem dX12_mule_125 : decode cX12_mule 125 = .ok (.iload 7, 2) := by decide +kernel
theorem dX12_mule_127 : decode cX12_mule 127 = .ok (.istore 5, 2) := by decide +kernel
theorem dX12_mule_129 : decode cX12_mule 129 = .ok (.iinc 6 1, 3) := by decide +kernel
theorem dX12_mule_132 : decode cX12_mule 132 = .ok (.goto (-77), 3) := by decide +kernel
theorem dX12_mule_135 : decode cX12_mule 135 = .ok (.iload 4, 2) := by decide +kernel
theorem dX12_mule_137 : decode cX12_mule 137 = .ok (.bipush (-2), 2) := by decide +kernel
theorem dX12_mule_139 : decode cX12_mule 139 = .ok (.if_icmp .ne 6, 3) := by decide +kernel
theorem dX12_mule_142 : decode cX12_mule 142 = .ok (.bipush (-2), 2) := by decide +kernel
theorem dX12_mule_144 : decode cX12_mule 144 = .ok (.ireturn, 1) := by decide +kernel
theorem dX12_mule_145 : decode cX12_mule 145 = .ok (.iload_n 3, 1) := by decide +kernel
theorem dX12_mule_146 : decode cX12_mule 146 = .ok (.ifCond .ne 11, 3) := by decide +kernel
theorem dX12_mule_149 : decode cX12_mule 149 = .ok (.iload 4, 2) := by decide +kernel
theorem dX12_mule_151 : decode cX12_mule 151 = .ok (.invokestatic 373, 3) := by decide +kernel
theorem dX12_mule_154 : decode cX12_mule 154 = .ok (.goto 15, 3) := by decide +kernel
theorem dX12_mule_157 : decode cX12_mule 157 = .ok (.iload_n 3, 1) := by decide +kernel
theorem dX12_mule_158 : decode cX12_mule 158 = .ok (.iconst 1, 1) := by decide +kernel
theorem dX12_mule_159 : decode cX12_mule 159 = .ok (.if_icmp .ne 8, 3) := by decide +kernel
theorem dX12_mule_162 : decode cX12_mule 162 = .ok (.iload 4, 2) := by decide +kernel
theorem dX12_mule_164 : decode cX12_mule 164 = .ok (.goto 5, 3) := by decide +kernel
theorem dX12_mule_167 : decode cX12_mule 167 = .ok (.iload 5, 2) := by decide +kernel
theorem dX12_mule_169 : decode cX12_mule 169 = .ok (.ireturn, 1) := by decide +kernel
theorem dX12_laysFewest_0 : decode cX12_laysFewest 0 = .ok (.aload_n 0, 1) := by decide +kernel
theorem dX12_laysFewest_1 : decode cX12_laysFewest 1 = .ok (.iconst 0, 1) := by decide +kernel
theorem dX12_laysFewest_2 : decode cX12_laysFewest 2 = .ok (.putfield 117, 3) := by decide +kernel
theorem dX12_laysFewest_5 : decode cX12_laysFewest 5 = .ok (.iconst 0, 1) := by decide +kernel
theorem dX12_laysFewest_6 : decode cX12_laysFewest 6 = .ok (.istore_n 2, 1) := by decide +kernel
theorem dX12_laysFewest_7 : decode cX12_laysFewest 7 = .ok (.iload_n 2, 1) := by decide +kernel
theorem dX12_laysFewest_8 : decode cX12_laysFewest 8 = .ok (.iload_n 1, 1) := by decide +kernel
theorem dX12_laysFewest_9 : decode cX12_laysFewest 9 = .ok (.if_icmp .ge 25, 3) := by decide +kernel
theorem dX12_laysFewest_12 : decode cX12_laysFewest 12 = .ok (.aload_n 0, 1) := by decide +kernel
theorem dX12_laysFewest_13 : decode cX12_laysFewest 13 = .ok (.iload_n 2, 1) := by decide +kernel
theorem dX12_laysFewest_14 : decode cX12_laysFewest 14 = .ok (.invokevirtual 360, 3) := by decide +kernel
theorem dX12_laysFewest_17 : decode cX12_laysFewest 17 = .ok (.iconst 1, 1) := by decide +kernel
theorem dX12_laysFewest_18 : decode cX12_laysFewest 18 = .ok (.bipush 100, 2) := by decide +kernel
theorem dX12_laysFewest_20 : decode cX12_laysFewest 20 = .ok (.invokestatic 105, 3) := by decide +kernel
theorem dX12_laysFewest_23 : decode cX12_laysFewest 23 = .ok (.ifCond .ne 5, 3) := by decide +kernel
theorem dX12_laysFewest_26 : decode cX12_laysFewest 26 = .ok (.iconst 0, 1) := by decide +kernel
theorem dX12_laysFewest_27 : decode cX12_laysFewest 27 = .ok (.ireturn, 1) := by decide +kernel
theorem dX12_laysFewest_28 : decode cX12_laysFewest 28 = .ok (.iinc 2 1, 3) := by decide +kernel
theorem dX12_laysFewest_31 : decode cX12_laysFewest 31 = .ok (.goto (-24), 3) := by decide +kernel
theorem dX12_laysFewest_34 : decode cX12_laysFewest 34 = .ok (.aload_n 0, 1) := by decide +kernel
theorem dX12_laysFewest_35 : decode cX12_laysFewest 35 = .ok (.getfield 99, 3) := by decide +kernel
theorem dX12_laysFewest_38 : decode cX12_laysFewest 38 = .ok (.iconst 0, 1) := by decide +kernel
theorem dX12_laysFewest_39 : decode cX12_laysFewest 39 = .ok (.iconst 0, 1) := by decide +kernel
theorem dX12_laysFewest_40 : decode cX12_laysFewest 40 = .ok (.iastore, 1) := by decide +kernel
theorem dX12_laysFewest_41 : decode cX12_laysFewest 41 = .ok (.iconst 1, 1) := by decide +kernel
theorem dX12_laysFewest_42 : decode cX12_laysFewest 42 = .ok (.istore_n 2, 1) := by decide +kernel
theorem dX12_laysFewest_43 : decode cX12_laysFewest 43 = .ok (.iload_n 2, 1) := by decide +kernel
theorem dX12_laysFewest_44 : decode cX12_laysFewest 44 = .ok (.sipush 600, 3) := by decide +kernel
theorem dX12_laysFewest_47 : decode cX12_laysFewest 47 = .ok (.if_icmp .gt 69, 3) := by decide +kernel
theorem dX12_laysFewest_50 : decode cX12_laysFewest 50 = .ok (.aload_n 0, 1) := by decide +kernel
theorem dX12_laysFewest_51 : decode cX12_laysFewest 51 = .ok (.getfield 99, 3) := by decide +kernel
theorem dX12_laysFewest_54 : decode cX12_laysFewest 54 = .ok (.iload_n 2, 1) := by decide +kernel
theorem dX12_laysFewest_55 : decode cX12_laysFewest 55 = .ok (.ldc_w 392, 3) := by decide +kernel
theorem dX12_laysFewest_58 : decode cX12_laysFewest 58 = .ok (.iastore, 1) := by decide +kernel
theorem dX12_laysFewest_59 : decode cX12_laysFewest 59 = .ok (.iconst 0, 1) := by decide +kernel
theorem dX12_laysFewest_60 : decode cX12_laysFewest 60 = .ok (.istore_n 3, 1) := by decide +kernel
theorem dX12_laysFewest_61 : decode cX12_laysFewest 61 = .ok (.iload_n 3, 1) := by decide +kernel
theorem dX12_laysFewest_62 : decode cX12_laysFewest 62 = .ok (.iload_n 1, 1) := by decide +kernel
theorem dX12_laysFewest_63 : decode cX12_laysFewest 63 = .ok (.if_icmp .ge 47, 3) := by decide +kernel
theorem dX12_laysFewest_66 : decode cX12_laysFewest 66 = .ok (.aload_n 0, 1) := by decide +kernel
theorem dX12_laysFewest_67 : decode cX12_laysFewest 67 = .ok (.iload_n 3, 1) := by decide +kernel
theorem dX12_laysFewest_68 : decode cX12_laysFewest 68 = .ok (.invokevirtual 360, 3) := by decide +kernel
theorem dX12_laysFewest_71 : decode cX12_laysFewest 71 = .ok (.iload_n 2, 1) := by decide +kernel
theorem dX12_laysFewest_72 : decode cX12_laysFewest 72 = .ok (.if_icmp .gt 32, 3) := by decide +kernel
theorem dX12_laysFewest_75 : decode cX12_laysFewest 75 = .ok (.aload_n 0, 1) := by decide +kernel
theorem dX12_laysFewest_76 : decode cX12_laysFewest 76 = .ok (.getfield 99, 3) := by decide +kernel
theorem dX12_laysFewest_79 : decode cX12_laysFewest 79 = .ok (.iload_n 2, 1) := by decide +kernel
theorem dX12_laysFewest_80 : decode cX12_laysFewest 80 = .ok (.aload_n 0, 1) := by decide +kernel
theorem dX12_laysFewest_81 : decode cX12_laysFewest 81 = .ok (.getfield 99, 3) := by decide +kernel
theorem dX12_laysFewest_84 : decode cX12_laysFewest 84 = .ok (.iload_n 2, 1) := by decide +kernel
theorem dX12_laysFewest_85 : decode cX12_laysFewest 85 = .ok (.iaload, 1) := by decide +kernel
theorem dX12_laysFewest_86 : decode cX12_laysFewest 86 = .ok (.aload_n 0, 1) := by decide +kernel
theorem dX12_laysFewest_87 : decode cX12_laysFewest 87 = .ok (.getfield 99, 3) := by decide +kernel
theorem dX12_laysFewest_90 : decode cX12_laysFewest 90 = .ok (.iload_n 2, 1) := by decide +kernel
theorem dX12_laysFewest_91 : decode cX12_laysFewest 91 = .ok (.aload_n 0, 1) := by decide +kernel
theorem dX12_laysFewest_92 : decode cX12_laysFewest 92 = .ok (.iload_n 3, 1) := by decide +kernel
theorem dX12_laysFewest_93 : decode cX12_laysFewest 93 = .ok (.invokevirtual 360, 3) := by decide +kernel
theorem dX12_laysFewest_96 : decode cX12_laysFewest 96 = .ok (.isub, 1) := by decide +kernel
theorem dX12_laysFewest_97 : decode cX12_laysFewest 97 = .ok (.iaload, 1) := by decide +kernel
theorem dX12_laysFewest_98 : decode cX12_laysFewest 98 = .ok (.iconst 1, 1) := by decide +kernel
theorem dX12_laysFewest_99 : decode cX12_laysFewest 99 = .ok (.iadd, 1) := by decide +kernel
theorem dX12_laysFewest_100 : decode cX12_laysFewest 100 = .ok (.invokestatic 329, 3) := by decide +kernel
theorem dX12_laysFewest_103 : decode cX12_laysFewest 103 = .ok (.iastore, 1) := by decide +kernel
theorem dX12_laysFewest_104 : decode cX12_laysFewest 104 = .ok (.iinc 3 1, 3) := by decide +kernel
theorem dX12_laysFewest_107 : decode cX12_laysFewest 107 = .ok (.goto (-46), 3) := by decide +kernel
theorem dX12_laysFewest_110 : decode cX12_laysFewest 110 = .ok (.iinc 2 1, 3) := by decide +kernel
theorem dX12_laysFewest_113 : decode cX12_laysFewest 113 = .ok (.goto (-70), 3) := by decide +kernel
theorem dX12_laysFewest_116 : decode cX12_laysFewest 116 = .ok (.iconst 1, 1) := by decide +kernel
theorem dX12_laysFewest_117 : decode cX12_laysFewest 117 = .ok (.ireturn, 1) := by decide +kernel
theorem dX12_marks_0 : decode cX12_marks 0 = .ok (.iload_n 1, 1) := by decide +kernel
theorem dX12_marks_1 : decode cX12_marks 1 = .ok (.iconst 1, 1) := by decide +kernel
theorem dX12_marks_2 : decode cX12_marks 2 = .ok (.iconst 5, 1) := by decide +kernel
theorem dX12_marks_3 : decode cX12_marks 3 = .ok (.invokestatic 105, 3) := by decide +kernel
theorem dX12_marks_6 : decode cX12_marks 6 = .ok (.ifCond .eq 21, 3) := by decide +kernel
theorem dX12_marks_9 : decode cX12_marks 9 = .ok (.iload_n 2, 1) := by decide +kernel
theorem dX12_marks_10 : decode cX12_marks 10 = .ok (.iconst 1, 1) := by decide +kernel
theorem dX12_marks_11 : decode cX12_marks 11 = .ok (.bipush 6, 2) := by decide +kernel
theorem dX12_marks_13 : decode cX12_marks 13 = .ok (.invokestatic 105, 3) := by decide +kernel
theorem dX12_marks_16 : decode cX12_marks 16 = .ok (.ifCond .eq 11, 3) := by decide +kernel
theorem dX12_marks_19 : decode cX12_marks 19 = .ok (.iload_n 1, 1) := by decide +kernel
theorem dX12_marks_20 : decode cX12_marks 20 = .ok (.aload_n 0, 1) := by decide +kernel
theorem dX12_marks_21 : decode cX12_marks 21 = .ok (.getfield 117, 3) := by decide +kernel
theorem dX12_marks_24 : decode cX12_marks 24 = .ok (.if_icmp .le 5, 3) := by decide +kernel
theorem dX12_marks_27 : decode cX12_marks 27 = .ok (.iconst (-1), 1) := by decide +kernel
theorem dX12_marks_28 : decode cX12_marks 28 = .ok (.ireturn, 1) := by decide +kernel
theorem dX12_marks_29 : decode cX12_marks 29 = .ok (.aload_n 0, 1) := by decide +kernel
theorem dX12_marks_30 : decode cX12_marks 30 = .ok (.iload_n 1, 1) := by decide +kernel
theorem dX12_marks_31 : decode cX12_marks 31 = .ok (.invokevirtual 393, 3) := by decide +kernel
theorem dX12_marks_34 : decode cX12_marks 34 = .ok (.ifCond .ne 6, 3) := by decide +kernel
theorem dX12_marks_37 : decode cX12_marks 37 = .ok (.bipush (-2), 2) := by decide +kernel
theorem dX12_marks_39 : decode cX12_marks 39 = .ok (.ireturn, 1) := by decide +kernel
theorem dX12_marks_40 : decode cX12_marks 40 = .ok (.iconst 0, 1) := by decide +kernel
theorem dX12_marks_41 : decode cX12_marks 41 = .ok (.istore_n 3, 1) := by decide +kernel
theorem dX12_marks_42 : decode cX12_marks 42 = .ok (.iload_n 3, 1) := by decide +kernel
theorem dX12_marks_43 : decode cX12_marks 43 = .ok (.sipush 600, 3) := by decide +kernel
theorem dX12_marks_46 : decode cX12_marks 46 = .ok (.if_icmp .ge 22, 3) := by decide +kernel
theorem dX12_marks_49 : decode cX12_marks 49 = .ok (.aload_n 0, 1) := by decide +kernel
theorem dX12_marks_50 : decode cX12_marks 50 = .ok (.getfield 99, 3) := by decide +kernel
theorem dX12_marks_53 : decode cX12_marks 53 = .ok (.iload_n 3, 1) := by decide +kernel
theorem dX12_marks_54 : decode cX12_marks 54 = .ok (.iconst 1, 1) := by decide +kernel
theorem dX12_marks_55 : decode cX12_marks 55 = .ok (.iadd, 1) := by decide +kernel
theorem dX12_marks_56 : decode cX12_marks 56 = .ok (.iaload, 1) := by decide +kernel
theorem dX12_marks_57 : decode cX12_marks 57 = .ok (.iload_n 2, 1) := by decide +kernel
theorem dX12_marks_58 : decode cX12_marks 58 = .ok (.if_icmp .gt 10, 3) := by decide +kernel
theorem dX12_marks_61 : decode cX12_marks 61 = .ok (.iload_n 3, 1) := by decide +kernel
theorem dX12_marks_62 : decode cX12_marks 62 = .ok (.iconst 1, 1) := by decide +kernel
theorem dX12_marks_63 : decode cX12_marks 63 = .ok (.iadd, 1) := by decide +kernel
theorem dX12_marks_64 : decode cX12_marks 64 = .ok (.istore_n 3, 1) := by decide +kernel
theorem dX12_marks_65 : decode cX12_marks 65 = .ok (.goto (-23), 3) := by decide +kernel
theorem dX12_marks_68 : decode cX12_marks 68 = .ok (.iload_n 3, 1) := by decide +kernel
theorem dX12_marks_69 : decode cX12_marks 69 = .ok (.ireturn, 1) := by decide +kernel
theorem dX12_franked_0 : decode cX12_franked 0 = .ok (.iload_n 1, 1) := by decide +kernel
theorem dX12_franked_1 : decode cX12_franked 1 = .ok (.iconst 1, 1) := by decide +kernel
theorem dX12_franked_2 : decode cX12_franked 2 = .ok (.iconst 5, 1) := by decide +kernel
theorem dX12_franked_3 : decode cX12_franked 3 = .ok (.invokestatic 105, 3) := by decide +kernel
theorem dX12_franked_6 : decode cX12_franked 6 = .ok (.ifCond .eq 22, 3) := by decide +kernel
theorem dX12_franked_9 : decode cX12_franked 9 = .ok (.iload_n 2, 1) := by decide +kernel
theorem dX12_franked_10 : decode cX12_franked 10 = .ok (.iconst 1, 1) := by decide +kernel
theorem dX12_franked_11 : decode cX12_franked 11 = .ok (.sipush 600, 3) := by decide +kernel
theorem dX12_franked_14 : decode cX12_franked 14 = .ok (.invokestatic 105, 3) := by decide +kernel
theorem dX12_franked_17 : decode cX12_franked 17 = .ok (.ifCond .eq 11, 3) := by decide +kernel
theorem dX12_franked_20 : decode cX12_franked 20 = .ok (.iload_n 1, 1) := by decide +kernel
theorem dX12_franked_21 : decode cX12_franked 21 = .ok (.aload_n 0, 1) := by decide +kernel
theorem dX12_franked_22 : decode cX12_franked 22 = .ok (.getfield 117, 3) := by decide +kernel
theorem dX12_franked_25 : decode cX12_franked 25 = .ok (.if_icmp .le 5, 3) := by decide +kernel
theorem dX12_franked_28 : decode cX12_franked 28 = .ok (.iconst (-1), 1) := by decide +kernel
theorem dX12_franked_29 : decode cX12_franked 29 = .ok (.ireturn, 1) := by decide +kernel
theorem dX12_franked_30 : decode cX12_franked 30 = .ok (.aload_n 0, 1) := by decide +kernel
theorem dX12_franked_31 : decode cX12_franked 31 = .ok (.iload_n 1, 1) := by decide +kernel
theorem dX12_franked_32 : decode cX12_franked 32 = .ok (.invokevirtual 393, 3) := by decide +kernel
theorem dX12_franked_35 : decode cX12_franked 35 = .ok (.ifCond .ne 6, 3) := by decide +kernel
theorem dX12_franked_38 : decode cX12_franked 38 = .ok (.bipush (-2), 2) := by decide +kernel
theorem dX12_franked_40 : decode cX12_franked 40 = .ok (.ireturn, 1) := by decide +kernel
theorem dX12_franked_41 : decode cX12_franked 41 = .ok (.aload_n 0, 1) := by decide +kernel
theorem dX12_franked_42 : decode cX12_franked 42 = .ok (.getfield 99, 3) := by decide +kernel
theorem dX12_franked_45 : decode cX12_franked 45 = .ok (.iload_n 2, 1) := by decide +kernel
theorem dX12_franked_46 : decode cX12_franked 46 = .ok (.iaload, 1) := by decide +kernel
theorem dX12_franked_47 : decode cX12_franked 47 = .ok (.ldc_w 392, 3) := by decide +kernel
theorem dX12_franked_50 : decode cX12_franked 50 = .ok (.if_icmp .lt 8, 3) := by decide +kernel
theorem dX12_franked_53 : decode cX12_franked 53 = .ok (.bipush (-3), 2) := by decide +kernel
theorem dX12_franked_55 : decode cX12_franked 55 = .ok (.goto 9, 3) := by decide +kernel
theorem dX12_franked_58 : decode cX12_franked 58 = .ok (.aload_n 0, 1) := by decide +kernel
theorem dX12_franked_59 : decode cX12_franked 59 = .ok (.getfield 99, 3) := by decide +kernel
theorem dX12_franked_62 : decode cX12_franked 62 = .ok (.iload_n 2, 1) := by decide +kernel
theorem dX12_franked_63 : decode cX12_franked 63 = .ok (.iaload, 1) := by decide +kernel
theorem dX12_franked_64 : decode cX12_franked 64 = .ok (.ireturn, 1) := by decide +kernel
theorem dX12_areRows_0 : decode cX12_areRows 0 = .ok (.iconst 0, 1) := by decide +kernel
theorem dX12_areRows_1 : decode cX12_areRows 1 = .ok (.istore_n 2, 1) := by decide +kernel
theorem dX12_areRows_2 : decode cX12_areRows 2 = .ok (.iload_n 2, 1) := by decide +kernel
theorem dX12_areRows_3 : decode cX12_areRows 3 = .ok (.iload_n 1, 1) := by decide +kernel
theorem dX12_areRows_4 : decode cX12_areRows 4 = .ok (.if_icmp .ge 62, 3) := by decide +kernel
theorem dX12_areRows_7 : decode cX12_areRows 7 = .ok (.iconst 0, 1) := by decide +kernel
theorem dX12_areRows_8 : decode cX12_areRows 8 = .ok (.istore_n 3, 1) := by decide +kernel
theorem dX12_areRows_9 : decode cX12_areRows 9 = .ok (.iconst 0, 1) := by decide +kernel
theorem dX12_areRows_10 : decode cX12_areRows 10 = .ok (.istore 4, 2) := by decide +kernel
theorem dX12_areRows_12 : decode cX12_areRows 12 = .ok (.iload 4, 2) := by decide +kernel
theorem dX12_areRows_14 : decode cX12_areRows 14 = .ok (.iload_n 1, 1) := by decide +kernel
theorem dX12_areRows_15 : decode cX12_areRows 15 = .ok (.if_icmp .ge 45, 3) := by decide +kernel
theorem dX12_areRows_18 : decode cX12_areRows 18 = .ok (.aload_n 0, 1) := by decide +kernel
theorem dX12_areRows_19 : decode cX12_areRows 19 = .ok (.iload_n 1, 1) := by decide +kernel
theorem dX12_areRows_20 : decode cX12_areRows 20 = .ok (.iload_n 2, 1) := by decide +kernel
theorem dX12_areRows_21 : decode cX12_areRows 21 = .ok (.imul, 1) := by decide +kernel
theorem dX12_areRows_22 : decode cX12_areRows 22 = .ok (.iload 4, 2) := by decide +kernel
theorem dX12_areRows_24 : decode cX12_areRows 24 = .ok (.iadd, 1) := by decide +kernel
theorem dX12_areRows_25 : decode cX12_areRows 25 = .ok (.invokevirtual 360, 3) := by decide +kernel
theorem dX12_areRows_28 : decode cX12_areRows 28 = .ok (.istore 5, 2) := by decide +kernel
theorem dX12_areRows_30 : decode cX12_areRows 30 = .ok (.iload 5, 2) := by decide +kernel
theorem dX12_areRows_32 : decode cX12_areRows 32 = .ok (.iload_n 1, 1) := by decide +kernel
theorem dX12_areRows_33 : decode cX12_areRows 33 = .ok (.if_icmp .ge 12, 3) := by decide +kernel
theorem dX12_areRows_36 : decode cX12_areRows 36 = .ok (.iload_n 3, 1) := by decide +kernel
theorem dX12_areRows_37 : decode cX12_areRows 37 = .ok (.iload 5, 2) := by decide +kernel
theorem dX12_areRows_39 : decode cX12_areRows 39 = .ok (.invokestatic 363, 3) := by decide +kernel
theorem dX12_areRows_42 : decode cX12_areRows 42 = .ok (.ifCond .eq 5, 3) := by decide +kernel
theorem dX12_areRows_45 : decode cX12_areRows 45 = .ok (.iconst 0, 1) := by decide +kernel
theorem dX12_areRows_46 : decode cX12_areRows 46 = .ok (.ireturn, 1) := by decide +kernel
theorem dX12_areRows_47 : decode cX12_areRows 47 = .ok (.iload_n 3, 1) := by decide +kernel
theorem dX12_areRows_48 : decode cX12_areRows 48 = .ok (.iconst 1, 1) := by decide +kernel
theorem dX12_areRows_49 : decode cX12_areRows 49 = .ok (.iload 5, 2) := by decide +kernel
theorem dX12_areRows_51 : decode cX12_areRows 51 = .ok (.ishl, 1) := by decide +kernel
theorem dX12_areRows_52 : decode cX12_areRows 52 = .ok (.ior, 1) := by decide +kernel
theorem dX12_areRows_53 : decode cX12_areRows 53 = .ok (.istore_n 3, 1) := by decide +kernel
theorem dX12_areRows_54 : decode cX12_areRows 54 = .ok (.iinc 4 1, 3) := by decide +kernel
theorem dX12_areRows_57 : decode cX12_areRows 57 = .ok (.goto (-45), 3) := by decide +kernel
theorem dX12_areRows_60 : decode cX12_areRows 60 = .ok (.iinc 2 1, 3) := by decide +kernel
theorem dX12_areRows_63 : decode cX12_areRows 63 = .ok (.goto (-61), 3) := by decide +kernel
theorem dX12_areRows_66 : decode cX12_areRows 66 = .ok (.iconst 1, 1) := by decide +kernel
theorem dX12_areRows_67 : decode cX12_areRows 67 = .ok (.ireturn, 1) := by decide +kernel
theorem dX12_likesOf_0 : decode cX12_likesOf 0 = .ok (.iconst 0, 1) := by decide +kernel
theorem dX12_likesOf_1 : decode cX12_likesOf 1 = .ok (.istore 4, 2) := by decide +kernel
theorem dX12_likesOf_3 : decode cX12_likesOf 3 = .ok (.iload_n 2, 1) := by decide +kernel
theorem dX12_likesOf_4 : decode cX12_likesOf 4 = .ok (.aload_n 0, 1) := by decide +kernel
theorem dX12_likesOf_5 : decode cX12_likesOf 5 = .ok (.iload_n 3, 1) := by decide +kernel
theorem dX12_likesOf_6 : decode cX12_likesOf 6 = .ok (.iload_n 1, 1) := by decide +kernel
theorem dX12_likesOf_7 : decode cX12_likesOf 7 = .ok (.imul, 1) := by decide +kernel
theorem dX12_likesOf_8 : decode cX12_likesOf 8 = .ok (.iload 4, 2) := by decide +kernel
theorem dX12_likesOf_10 : decode cX12_likesOf 10 = .ok (.iadd, 1) := by decide +kernel
theorem dX12_likesOf_11 : decode cX12_likesOf 11 = .ok (.invokevirtual 360, 3) := by decide +kernel
theorem dX12_likesOf_14 : decode cX12_likesOf 14 = .ok (.invokestatic 363, 3) := by decide +kernel
theorem dX12_likesOf_17 : decode cX12_likesOf 17 = .ok (.ifCond .ne 12, 3) := by decide +kernel
theorem dX12_likesOf_20 : decode cX12_likesOf 20 = .ok (.iload 4, 2) := by decide +kernel
theorem dX12_likesOf_22 : decode cX12_likesOf 22 = .ok (.iconst 1, 1) := by decide +kernel
theorem dX12_likesOf_23 : decode cX12_likesOf 23 = .ok (.iadd, 1) := by decide +kernel
theorem dX12_likesOf_24 : decode cX12_likesOf 24 = .ok (.istore 4, 2) := by decide +kernel
theorem dX12_likesOf_26 : decode cX12_likesOf 26 = .ok (.goto (-23), 3) := by decide +kernel
theorem dX12_likesOf_29 : decode cX12_likesOf 29 = .ok (.aload_n 0, 1) := by decide +kernel
theorem dX12_likesOf_30 : decode cX12_likesOf 30 = .ok (.iload_n 3, 1) := by decide +kernel
theorem dX12_likesOf_31 : decode cX12_likesOf 31 = .ok (.iload_n 1, 1) := by decide +kernel
theorem dX12_likesOf_32 : decode cX12_likesOf 32 = .ok (.imul, 1) := by decide +kernel
theorem dX12_likesOf_33 : decode cX12_likesOf 33 = .ok (.iload 4, 2) := by decide +kernel
theorem dX12_likesOf_35 : decode cX12_likesOf 35 = .ok (.iadd, 1) := by decide +kernel
theorem dX12_likesOf_36 : decode cX12_likesOf 36 = .ok (.invokevirtual 360, 3) := by decide +kernel
theorem dX12_likesOf_39 : decode cX12_likesOf 39 = .ok (.ireturn, 1) := by decide +kernel
theorem dX12_changesRing_0 : decode cX12_changesRing 0 = .ok (.iconst 0, 1) := by decide +kernel
theorem dX12_changesRing_1 : decode cX12_changesRing 1 = .ok (.istore_n 3, 1) := by decide +kernel
theorem dX12_changesRing_2 : decode cX12_changesRing 2 = .ok (.iload_n 1, 1) := by decide +kernel
theorem dX12_changesRing_3 : decode cX12_changesRing 3 = .ok (.iload_n 3, 1) := by decide +kernel
theorem dX12_changesRing_4 : decode cX12_changesRing 4 = .ok (.invokestatic 363, 3) := by decide +kernel
theorem dX12_changesRing_7 : decode cX12_changesRing 7 = .ok (.ifCond .ne 10, 3) := by decide +kernel
theorem dX12_changesRing_10 : decode cX12_changesRing 10 = .ok (.iload_n 3, 1) := by decide +kernel
theorem dX12_changesRing_11 : decode cX12_changesRing 11 = .ok (.iconst 1, 1) := by decide +kernel
theorem dX12_changesRing_12 : decode cX12_changesRing 12 = .ok (.iadd, 1) := by decide +kernel
theorem dX12_changesRing_13 : decode cX12_changesRing 13 = .ok (.istore_n 3, 1) := by decide +kernel
theorem dX12_changesRing_14 : decode cX12_changesRing 14 = .ok (.goto (-12), 3) := by decide +kernel
theorem dX12_changesRing_17 : decode cX12_changesRing 17 = .ok (.iconst 0, 1) := by decide +kernel
theorem dX12_changesRing_18 : decode cX12_changesRing 18 = .ok (.istore 4, 2) := by decide +kernel
theorem dX12_changesRing_20 : decode cX12_changesRing 20 = .ok (.iload 4, 2) := by decide +kernel
theorem dX12_changesRing_22 : decode cX12_changesRing 22 = .ok (.iload_n 2, 1) := by decide +kernel
theorem dX12_changesRing_23 : decode cX12_changesRing 23 = .ok (.if_icmp .ge 17, 3) := by decide +kernel
theorem dX12_changesRing_26 : decode cX12_changesRing 26 = .ok (.aload_n 0, 1) := by decide +kernel
theorem dX12_changesRing_27 : decode cX12_changesRing 27 = .ok (.iload_n 3, 1) := by decide +kernel
theorem dX12_changesRing_28 : decode cX12_changesRing 28 = .ok (.iload_n 1, 1) := by decide +kernel
theorem dX12_changesRing_29 : decode cX12_changesRing 29 = .ok (.iload_n 2, 1) := by decide +kernel
theorem dX12_changesRing_30 : decode cX12_changesRing 30 = .ok (.invokevirtual 396, 3) := by decide +kernel
theorem dX12_changesRing_33 : decode cX12_changesRing 33 = .ok (.istore_n 3, 1) := by decide +kernel
theorem dX12_changesRing_34 : decode cX12_changesRing 34 = .ok (.iinc 4 1, 3) := by decide +kernel
theorem dX12_changesRing_37 : decode cX12_changesRing 37 = .ok (.goto (-17), 3) := by decide +kernel
theorem dX12_changesRing_40 : decode cX12_changesRing 40 = .ok (.iload_n 3, 1) := by decide +kernel
theorem dX12_changesRing_41 : decode cX12_changesRing 41 = .ok (.istore 4, 2) := by decide +kernel
theorem dX12_changesRing_43 : decode cX12_changesRing 43 = .ok (.iconst 0, 1) := by decide +kernel
theorem dX12_changesRing_44 : decode cX12_changesRing 44 = .ok (.istore 5, 2) := by decide +kernel
theorem dX12_changesRing_46 : decode cX12_changesRing 46 = .ok (.iload 5, 2) := by decide +kernel
theorem dX12_changesRing_48 : decode cX12_changesRing 48 = .ok (.iload 4, 2) := by decide +kernel
theorem dX12_changesRing_50 : decode cX12_changesRing 50 = .ok (.invokestatic 363, 3) := by decide +kernel
theorem dX12_changesRing_53 : decode cX12_changesRing 53 = .ok (.ifCond .ne 34, 3) := by decide +kernel
theorem dX12_changesRing_56 : decode cX12_changesRing 56 = .ok (.aload_n 0, 1) := by decide +kernel
theorem dX12_changesRing_57 : decode cX12_changesRing 57 = .ok (.getfield 102, 3) := by decide +kernel
theorem dX12_changesRing_60 : decode cX12_changesRing 60 = .ok (.iload_n 3, 1) := by decide +kernel
theorem dX12_changesRing_61 : decode cX12_changesRing 61 = .ok (.aload_n 0, 1) := by decide +kernel
theorem dX12_changesRing_62 : decode cX12_changesRing 62 = .ok (.iload_n 3, 1) := by decide +kernel
theorem dX12_changesRing_63 : decode cX12_changesRing 63 = .ok (.iload_n 1, 1) := by decide +kernel
theorem dX12_changesRing_64 : decode cX12_changesRing 64 = .ok (.iload_n 2, 1) := by decide +kernel
theorem dX12_changesRing_65 : decode cX12_changesRing 65 = .ok (.invokevirtual 396, 3) := by decide +kernel
theorem dX12_changesRing_68 : decode cX12_changesRing 68 = .ok (.iastore, 1) := by decide +kernel
theorem dX12_changesRing_69 : decode cX12_changesRing 69 = .ok (.aload_n 0, 1) := by decide +kernel
theorem dX12_changesRing_70 : decode cX12_changesRing 70 = .ok (.getfield 102, 3) := by decide +kernel
theorem dX12_changesRing_73 : decode cX12_changesRing 73 = .ok (.iload_n 3, 1) := by decide +kernel
theorem dX12_changesRing_74 : decode cX12_changesRing 74 = .ok (.iaload, 1) := by decide +kernel
theorem dX12_changesRing_75 : decode cX12_changesRing 75 = .ok (.istore_n 3, 1) := by decide +kernel
theorem dX12_changesRing_76 : decode cX12_changesRing 76 = .ok (.iload 5, 2) := by decide +kernel
theorem dX12_changesRing_78 : decode cX12_changesRing 78 = .ok (.iconst 1, 1) := by decide +kernel
theorem dX12_changesRing_79 : decode cX12_changesRing 79 = .ok (.iload_n 3, 1) := by decide +kernel
theorem dX12_changesRing_80 : decode cX12_changesRing 80 = .ok (.ishl, 1) := by decide +kernel
theorem dX12_changesRing_81 : decode cX12_changesRing 81 = .ok (.ior, 1) := by decide +kernel
theorem dX12_changesRing_82 : decode cX12_changesRing 82 = .ok (.istore 5, 2) := by decide +kernel
theorem dX12_changesRing_84 : decode cX12_changesRing 84 = .ok (.goto (-38), 3) := by decide +kernel
theorem dX12_changesRing_87 : decode cX12_changesRing 87 = .ok (.iload_n 1, 1) := by decide +kernel
theorem dX12_changesRing_88 : decode cX12_changesRing 88 = .ok (.iload 5, 2) := by decide +kernel
theorem dX12_changesRing_90 : decode cX12_changesRing 90 = .ok (.iconst (-1), 1) := by decide +kernel
theorem dX12_changesRing_91 : decode cX12_changesRing 91 = .ok (.ixor, 1) := by decide +kernel
theorem dX12_changesRing_92 : decode cX12_changesRing 92 = .ok (.iand, 1) := by decide +kernel
theorem dX12_changesRing_93 : decode cX12_changesRing 93 = .ok (.ireturn, 1) := by decide +kernel
theorem dX12_exchange_0 : decode cX12_exchange 0 = .ok (.iload_n 1, 1) := by decide +kernel
theorem dX12_exchange_1 : decode cX12_exchange 1 = .ok (.iconst 2, 1) := by decide +kernel
theorem dX12_exchange_2 : decode cX12_exchange 2 = .ok (.bipush 6, 2) := by decide +kernel
theorem dX12_exchange_4 : decode cX12_exchange 4 = .ok (.invokestatic 105, 3) := by decide +kernel
theorem dX12_exchange_7 : decode cX12_exchange 7 = .ok (.ifCond .eq 24, 3) := by decide +kernel
theorem dX12_exchange_10 : decode cX12_exchange 10 = .ok (.iload_n 2, 1) := by decide +kernel
theorem dX12_exchange_11 : decode cX12_exchange 11 = .ok (.iconst 0, 1) := by decide +kernel
theorem dX12_exchange_12 : decode cX12_exchange 12 = .ok (.iload_n 1, 1) := by decide +kernel
theorem dX12_exchange_13 : decode cX12_exchange 13 = .ok (.iconst 1, 1) := by decide +kernel
theorem dX12_exchange_14 : decode cX12_exchange 14 = .ok (.isub, 1) := by decide +kernel
theorem dX12_exchange_15 : decode cX12_exchange 15 = .ok (.invokestatic 105, 3) := by decide +kernel
theorem dX12_exchange_18 : decode cX12_exchange 18 = .ok (.ifCond .eq 13, 3) := by decide +kernel
theorem dX12_exchange_21 : decode cX12_exchange 21 = .ok (.iload_n 1, 1) := by decide +kernel
theorem dX12_exchange_22 : decode cX12_exchange 22 = .ok (.iload_n 1, 1) := by decide +kernel
theorem dX12_exchange_23 : decode cX12_exchange 23 = .ok (.imul, 1) := by decide +kernel
theorem dX12_exchange_24 : decode cX12_exchange 24 = .ok (.aload_n 0, 1) := by decide +kernel
theorem dX12_exchange_25 : decode cX12_exchange 25 = .ok (.getfield 117, 3) := by decide +kernel
theorem dX12_exchange_28 : decode cX12_exchange 28 = .ok (.if_icmp .le 5, 3) := by decide +kernel
theorem dX12_exchange_31 : decode cX12_exchange 31 = .ok (.iconst (-1), 1) := by decide +kernel
theorem dX12_exchange_32 : decode cX12_exchange 32 = .ok (.ireturn, 1) := by decide +kernel
theorem dX12_exchange_33 : decode cX12_exchange 33 = .ok (.aload_n 0, 1) := by decide +kernel
theorem dX12_exchange_34 : decode cX12_exchange 34 = .ok (.iconst 0, 1) := by decide +kernel
theorem dX12_exchange_35 : decode cX12_exchange 35 = .ok (.putfield 117, 3) := by decide +kernel
theorem dX12_exchange_38 : decode cX12_exchange 38 = .ok (.aload_n 0, 1) := by decide +kernel
theorem dX12_exchange_39 : decode cX12_exchange 39 = .ok (.iload_n 1, 1) := by decide +kernel
theorem dX12_exchange_40 : decode cX12_exchange 40 = .ok (.invokevirtual 399, 3) := by decide +kernel
theorem dX12_exchange_43 : decode cX12_exchange 43 = .ok (.ifCond .ne 6, 3) := by decide +kernel
theorem dX12_exchange_46 : decode cX12_exchange 46 = .ok (.bipush (-2), 2) := by decide +kernel
theorem dX12_exchange_48 : decode cX12_exchange 48 = .ok (.ireturn, 1) := by decide +kernel
theorem dX12_exchange_49 : decode cX12_exchange 49 = .ok (.iconst 1, 1) := by decide +kernel
theorem dX12_exchange_50 : decode cX12_exchange 50 = .ok (.iload_n 1, 1) := by decide +kernel
theorem dX12_exchange_51 : decode cX12_exchange 51 = .ok (.ishl, 1) := by decide +kernel
theorem dX12_exchange_52 : decode cX12_exchange 52 = .ok (.iconst 1, 1) := by decide +kernel
theorem dX12_exchange_53 : decode cX12_exchange 53 = .ok (.isub, 1) := by decide +kernel
theorem dX12_exchange_54 : decode cX12_exchange 54 = .ok (.istore_n 3, 1) := by decide +kernel
theorem dX12_exchange_55 : decode cX12_exchange 55 = .ok (.iload_n 3, 1) := by decide +kernel
theorem dX12_exchange_56 : decode cX12_exchange 56 = .ok (.ifCond .eq 13, 3) := by decide +kernel
theorem dX12_exchange_59 : decode cX12_exchange 59 = .ok (.aload_n 0, 1) := by decide +kernel
theorem dX12_exchange_60 : decode cX12_exchange 60 = .ok (.iload_n 3, 1) := by decide +kernel
theorem dX12_exchange_61 : decode cX12_exchange 61 = .ok (.iload_n 1, 1) := by decide +kernel
theorem dX12_exchange_62 : decode cX12_exchange 62 = .ok (.invokevirtual 402, 3) := by decide +kernel
theorem dX12_exchange_65 : decode cX12_exchange 65 = .ok (.istore_n 3, 1) := by decide +kernel
theorem dX12_exchange_66 : decode cX12_exchange 66 = .ok (.goto (-11), 3) := by decide +kernel
theorem dX12_exchange_69 : decode cX12_exchange 69 = .ok (.aload_n 0, 1) := by decide +kernel
theorem dX12_exchange_70 : decode cX12_exchange 70 = .ok (.getfield 102, 3) := by decide +kernel
theorem dX12_exchange_73 : decode cX12_exchange 73 = .ok (.iload_n 2, 1) := by decide +kernel
theorem dX12_exchange_74 : decode cX12_exchange 74 = .ok (.iaload, 1) := by decide +kernel
theorem dX12_exchange_75 : decode cX12_exchange 75 = .ok (.ireturn, 1) := by decide +kernel
theorem dX12_seed_0 : decode cX12_seed 0 = .ok (.iload_n 1, 1) := by decide +kernel
theorem dX12_seed_1 : decode cX12_seed 1 = .ok (.iconst 0, 1) := by decide +kernel
theorem dX12_seed_2 : decode cX12_seed 2 = .ok (.ldc_w 405, 3) := by decide +kernel
theorem dX12_seed_5 : decode cX12_seed 5 = .ok (.invokestatic 105, 3) := by decide +kernel
theorem dX12_seed_8 : decode cX12_seed 8 = .ok (.ifCond .ne 5, 3) := by decide +kernel
theorem dX12_seed_11 : decode cX12_seed 11 = .ok (.iconst 0, 1) := by decide +kernel
theorem dX12_seed_12 : decode cX12_seed 12 = .ok (.ireturn, 1) := by decide +kernel
theorem dX12_seed_13 : decode cX12_seed 13 = .ok (.aload_n 0, 1) := by decide +kernel
theorem dX12_seed_14 : decode cX12_seed 14 = .ok (.getfield 7, 3) := by decide +kernel
theorem dX12_seed_17 : decode cX12_seed 17 = .ok (.sipush 129, 3) := by decide +kernel
theorem dX12_seed_20 : decode cX12_seed 20 = .ok (.iload_n 1, 1) := by decide +kernel
theorem dX12_seed_21 : decode cX12_seed 21 = .ok (.iastore, 1) := by decide +kernel
theorem dX12_seed_22 : decode cX12_seed 22 = .ok (.iconst 1, 1) := by decide +kernel
theorem dX12_seed_23 : decode cX12_seed 23 = .ok (.ireturn, 1) := by decide +kernel
theorem dX12_keep_0 : decode cX12_keep 0 = .ok (.aload_n 0, 1) := by decide +kernel
theorem dX12_keep_1 : decode cX12_keep 1 = .ok (.iconst 1, 1) := by decide +kernel
theorem dX12_keep_2 : decode cX12_keep 2 = .ok (.putfield 406, 3) := by decide +kernel
theorem dX12_keep_5 : decode cX12_keep 5 = .ok (.aload_n 0, 1) := by decide +kernel
theorem dX12_keep_6 : decode cX12_keep 6 = .ok (.getfield 7, 3) := by decide +kernel
theorem dX12_keep_9 : decode cX12_keep 9 = .ok (.aload_n 0, 1) := by decide +kernel
theorem dX12_keep_10 : decode cX12_keep 10 = .ok (.getfield 16, 3) := by decide +kernel
theorem dX12_keep_13 : decode cX12_keep 13 = .ok (.invokestatic 271, 3) := by decide +kernel
theorem dX12_keep_16 : decode cX12_keep 16 = .ok (.aload_n 0, 1) := by decide +kernel
theorem dX12_keep_17 : decode cX12_keep 17 = .ok (.getfield 109, 3) := by decide +kernel
theorem dX12_keep_20 : decode cX12_keep 20 = .ok (.istore_n 1, 1) := by decide +kernel
theorem dX12_keep_21 : decode cX12_keep 21 = .ok (.iload_n 1, 1) := by decide +kernel
theorem dX12_keep_22 : decode cX12_keep 22 = .ok (.bipush 48, 2) := by decide +kernel
theorem dX12_keep_24 : decode cX12_keep 24 = .ok (.if_icmp .ge 19, 3) := by decide +kernel
theorem dX12_keep_27 : decode cX12_keep 27 = .ok (.aload_n 0, 1) := by decide +kernel
theorem dX12_keep_28 : decode cX12_keep 28 = .ok (.getfield 16, 3) := by decide +kernel
theorem dX12_keep_31 : decode cX12_keep 31 = .ok (.bipush 32, 2) := by decide +kernel
theorem dX12_keep_33 : decode cX12_keep 33 = .ok (.iload_n 1, 1) := by decide +kernel
theorem dX12_keep_34 : decode cX12_keep 34 = .ok (.iadd, 1) := by decide +kernel
theorem dX12_keep_35 : decode cX12_keep 35 = .ok (.iconst (-1), 1) := by decide +kernel
theorem dX12_keep_36 : decode cX12_keep 36 = .ok (.iastore, 1) := by decide +kernel
theorem dX12_keep_37 : decode cX12_keep 37 = .ok (.iinc 1 1, 3) := by decide +kernel
theorem dX12_keep_40 : decode cX12_keep 40 = .ok (.goto (-19), 3) := by decide +kernel
theorem dX12_keep_43 : decode cX12_keep 43 = .ok (.aload_n 0, 1) := by decide +kernel
theorem dX12_keep_44 : decode cX12_keep 44 = .ok (.getfield 7, 3) := by decide +kernel
theorem dX12_keep_47 : decode cX12_keep 47 = .ok (.sipush 128, 3) := by decide +kernel
theorem dX12_keep_50 : decode cX12_keep 50 = .ok (.iaload, 1) := by decide +kernel
theorem dX12_keep_51 : decode cX12_keep 51 = .ok (.ireturn, 1) := by decide +kernel
theorem dX12_undo_0 : decode cX12_undo 0 = .ok (.aload_n 0, 1) := by decide +kernel
theorem dX12_undo_1 : decode cX12_undo 1 = .ok (.getfield 406, 3) := by decide +kernel
theorem dX12_undo_4 : decode cX12_undo 4 = .ok (.ifCond .ne 5, 3) := by decide +kernel
theorem dX12_undo_7 : decode cX12_undo 7 = .ok (.iconst 0, 1) := by decide +kernel
theorem dX12_undo_8 : decode cX12_undo 8 = .ok (.ireturn, 1) := by decide +kernel
theorem dX12_undo_9 : decode cX12_undo 9 = .ok (.aload_n 0, 1) := by decide +kernel
theorem dX12_undo_10 : decode cX12_undo 10 = .ok (.getfield 16, 3) := by decide +kernel
theorem dX12_undo_13 : decode cX12_undo 13 = .ok (.aload_n 0, 1) := by decide +kernel
theorem dX12_undo_14 : decode cX12_undo 14 = .ok (.getfield 7, 3) := by decide +kernel
theorem dX12_undo_17 : decode cX12_undo 17 = .ok (.invokestatic 271, 3) := by decide +kernel
theorem dX12_undo_20 : decode cX12_undo 20 = .ok (.iconst 1, 1) := by decide +kernel
theorem dX12_undo_21 : decode cX12_undo 21 = .ok (.ireturn, 1) := by decide +kernel
theorem dX12_check_0 : decode cX12_check 0 = .ok (.iload_n 1, 1) := by decide +kernel
theorem dX12_check_1 : decode cX12_check 1 = .ok (.iconst 0, 1) := by decide +kernel
theorem dX12_check_2 : decode cX12_check 2 = .ok (.bipush 8, 2) := by decide +kernel
theorem dX12_check_4 : decode cX12_check 4 = .ok (.invokestatic 105, 3) := by decide +kernel
theorem dX12_check_7 : decode cX12_check 7 = .ok (.ifCond .eq 11, 3) := by decide +kernel
theorem dX12_check_10 : decode cX12_check 10 = .ok (.iload_n 1, 1) := by decide +kernel
theorem dX12_check_11 : decode cX12_check 11 = .ok (.aload_n 0, 1) := by decide +kernel
theorem dX12_check_12 : decode cX12_check 12 = .ok (.getfield 117, 3) := by decide +kernel
theorem dX12_check_15 : decode cX12_check 15 = .ok (.if_icmp .le 6, 3) := by decide +kernel
theorem dX12_check_18 : decode cX12_check 18 = .ok (.bipush (-2), 2) := by decide +kernel
theorem dX12_check_20 : decode cX12_check 20 = .ok (.ireturn, 1) := by decide +kernel
theorem dX12_check_21 : decode cX12_check 21 = .ok (.aload_n 0, 1) := by decide +kernel
theorem dX12_check_22 : decode cX12_check 22 = .ok (.iconst 0, 1) := by decide +kernel
theorem dX12_check_23 : decode cX12_check 23 = .ok (.putfield 117, 3) := by decide +kernel
theorem dX12_check_26 : decode cX12_check 26 = .ok (.iconst 0, 1) := by decide +kernel
theorem dX12_check_27 : decode cX12_check 27 = .ok (.istore_n 2, 1) := by decide +kernel
theorem dX12_check_28 : decode cX12_check 28 = .ok (.iload_n 2, 1) := by decide +kernel
theorem dX12_check_29 : decode cX12_check 29 = .ok (.iload_n 1, 1) := by decide +kernel
theorem dX12_check_30 : decode cX12_check 30 = .ok (.if_icmp .ge 45, 3) := by decide +kernel
theorem dX12_check_33 : decode cX12_check 33 = .ok (.aload_n 0, 1) := by decide +kernel
theorem dX12_check_34 : decode cX12_check 34 = .ok (.iload_n 2, 1) := by decide +kernel
theorem dX12_check_35 : decode cX12_check 35 = .ok (.invokevirtual 360, 3) := by decide +kernel
theorem dX12_check_38 : decode cX12_check 38 = .ok (.aload_n 0, 1) := by decide +kernel
theorem dX12_check_39 : decode cX12_check 39 = .ok (.iload_n 2, 1) := by decide +kernel
theorem dX12_check_40 : decode cX12_check 40 = .ok (.invokevirtual 259, 3) := by decide +kernel
theorem dX12_check_43 : decode cX12_check 43 = .ok (.ifCond .eq 18, 3) := by decide +kernel
theorem dX12_check_46 : decode cX12_check 46 = .ok (.aload_n 0, 1) := by decide +kernel
theorem dX12_check_47 : decode cX12_check 47 = .ok (.getfield 7, 3) := by decide +kernel
theorem dX12_check_50 : decode cX12_check 50 = .ok (.bipush 8, 2) := by decide +kernel
theorem dX12_check_52 : decode cX12_check 52 = .ok (.iload_n 2, 1) := by decide +kernel
theorem dX12_check_53 : decode cX12_check 53 = .ok (.iadd, 1) := by decide +kernel
theorem dX12_check_54 : decode cX12_check 54 = .ok (.iaload, 1) := by decide +kernel
theorem dX12_check_55 : decode cX12_check 55 = .ok (.bipush 24, 2) := by decide +kernel
theorem dX12_check_57 : decode cX12_check 57 = .ok (.irem, 1) := by decide +kernel
theorem dX12_check_58 : decode cX12_check 58 = .ok (.goto 6, 3) := by decide +kernel
theorem dX12_check_61 : decode cX12_check 61 = .ok (.sipush 255, 3) := by decide +kernel
theorem dX12_check_64 : decode cX12_check 64 = .ok (.if_icmp .eq 5, 3) := by decide +kernel
theorem dX12_check_67 : decode cX12_check 67 = .ok (.iload_n 2, 1) := by decide +kernel
theorem dX12_check_68 : decode cX12_check 68 = .ok (.ireturn, 1) := by decide +kernel
theorem dX12_check_69 : decode cX12_check 69 = .ok (.iinc 2 1, 3) := by decide +kernel
theorem dX12_check_72 : decode cX12_check 72 = .ok (.goto (-44), 3) := by decide +kernel
theorem dX12_check_75 : decode cX12_check 75 = .ok (.iconst (-1), 1) := by decide +kernel
theorem dX12_check_76 : decode cX12_check 76 = .ok (.ireturn, 1) := by decide +kernel
theorem dX12_toldMints_0 : decode cX12_toldMints 0 = .ok (.iconst 0, 1) := by decide +kernel
theorem dX12_toldMints_1 : decode cX12_toldMints 1 = .ok (.istore_n 1, 1) := by decide +kernel
theorem dX12_toldMints_2 : decode cX12_toldMints 2 = .ok (.iconst 0, 1) := by decide +kernel
theorem dX12_toldMints_3 : decode cX12_toldMints 3 = .ok (.istore_n 2, 1) := by decide +kernel
theorem dX12_toldMints_4 : decode cX12_toldMints 4 = .ok (.iload_n 2, 1) := by decide +kernel
theorem dX12_toldMints_5 : decode cX12_toldMints 5 = .ok (.bipush 8, 2) := by decide +kernel
theorem dX12_toldMints_7 : decode cX12_toldMints 7 = .ok (.if_icmp .ge 25, 3) := by decide +kernel
theorem dX12_toldMints_10 : decode cX12_toldMints 10 = .ok (.aload_n 0, 1) := by decide +kernel
theorem dX12_toldMints_11 : decode cX12_toldMints 11 = .ok (.getfield 19, 3) := by decide +kernel
theorem dX12_toldMints_14 : decode cX12_toldMints 14 = .ok (.iload_n 2, 1) := by decide +kernel
theorem dX12_toldMints_15 : decode cX12_toldMints 15 = .ok (.iaload, 1) := by decide +kernel
theorem dX12_toldMints_16 : decode cX12_toldMints 16 = .ok (.iconst (-1), 1) := by decide +kernel
theorem dX12_toldMints_17 : decode cX12_toldMints 17 = .ok (.if_icmp .eq 9, 3) := by decide +kernel
theorem dX12_toldMints_20 : decode cX12_toldMints 20 = .ok (.iload_n 1, 1) := by decide +kernel
theorem dX12_toldMints_21 : decode cX12_toldMints 21 = .ok (.iconst 1, 1) := by decide +kernel
theorem dX12_toldMints_22 : decode cX12_toldMints 22 = .ok (.iload_n 2, 1) := by decide +kernel
theorem dX12_toldMints_23 : decode cX12_toldMints 23 = .ok (.ishl, 1) := by decide +kernel
theorem dX12_toldMints_24 : decode cX12_toldMints 24 = .ok (.ior, 1) := by decide +kernel
theorem dX12_toldMints_25 : decode cX12_toldMints 25 = .ok (.istore_n 1, 1) := by decide +kernel
theorem dX12_toldMints_26 : decode cX12_toldMints 26 = .ok (.iinc 2 1, 3) := by decide +kernel
theorem dX12_toldMints_29 : decode cX12_toldMints 29 = .ok (.goto (-25), 3) := by decide +kernel
theorem dX12_toldMints_32 : decode cX12_toldMints 32 = .ok (.iload_n 1, 1) := by decide +kernel
theorem dX12_toldMints_33 : decode cX12_toldMints 33 = .ok (.ireturn, 1) := by decide +kernel
theorem dX12_toldLetters_0 : decode cX12_toldLetters 0 = .ok (.iconst 0, 1) := by decide +kernel
theorem dX12_toldLetters_1 : decode cX12_toldLetters 1 = .ok (.istore_n 1, 1) := by decide +kernel
theorem dX12_toldLetters_2 : decode cX12_toldLetters 2 = .ok (.iconst 0, 1) := by decide +kernel
theorem dX12_toldLetters_3 : decode cX12_toldLetters 3 = .ok (.istore_n 2, 1) := by decide +kernel
theorem dX12_toldLetters_4 : decode cX12_toldLetters 4 = .ok (.iload_n 2, 1) := by decide +kernel
theorem dX12_toldLetters_5 : decode cX12_toldLetters 5 = .ok (.bipush 8, 2) := by decide +kernel
theorem dX12_toldLetters_7 : decode cX12_toldLetters 7 = .ok (.if_icmp .ge 23, 3) := by decide +kernel
theorem dX12_toldLetters_10 : decode cX12_toldLetters 10 = .ok (.aload_n 0, 1) := by decide +kernel
theorem dX12_toldLetters_11 : decode cX12_toldLetters 11 = .ok (.iload_n 2, 1) := by decide +kernel
theorem dX12_toldLetters_12 : decode cX12_toldLetters 12 = .ok (.invokevirtual 259, 3) := by decide +kernel
theorem dX12_toldLetters_15 : decode cX12_toldLetters 15 = .ok (.ifCond .eq 9, 3) := by decide +kernel
theorem dX12_toldLetters_18 : decode cX12_toldLetters 18 = .ok (.iload_n 1, 1) := by decide +kernel
theorem dX12_toldLetters_19 : decode cX12_toldLetters 19 = .ok (.iconst 1, 1) := by decide +kernel
theorem dX12_toldLetters_20 : decode cX12_toldLetters 20 = .ok (.iload_n 2, 1) := by decide +kernel
theorem dX12_toldLetters_21 : decode cX12_toldLetters 21 = .ok (.ishl, 1) := by decide +kernel
theorem dX12_toldLetters_22 : decode cX12_toldLetters 22 = .ok (.ior, 1) := by decide +kernel
theorem dX12_toldLetters_23 : decode cX12_toldLetters 23 = .ok (.istore_n 1, 1) := by decide +kernel
theorem dX12_toldLetters_24 : decode cX12_toldLetters 24 = .ok (.iinc 2 1, 3) := by decide +kernel
theorem dX12_toldLetters_27 : decode cX12_toldLetters 27 = .ok (.goto (-23), 3) := by decide +kernel
theorem dX12_toldLetters_30 : decode cX12_toldLetters 30 = .ok (.iload_n 1, 1) := by decide +kernel
theorem dX12_toldLetters_31 : decode cX12_toldLetters 31 = .ok (.ireturn, 1) := by decide +kernel
theorem dX12_count_0 : decode cX12_count 0 = .ok (.iconst 0, 1) := by decide +kernel
theorem dX12_count_1 : decode cX12_count 1 = .ok (.istore_n 2, 1) := by decide +kernel
theorem dX12_count_2 : decode cX12_count 2 = .ok (.iload_n 1, 1) := by decide +kernel
theorem dX12_count_3 : decode cX12_count 3 = .ok (.tableswitch 157 0 8 #[49, 58, 63, 68, 73, 108, 138, 143, 148], 49) := by decide +kernel
theorem dX12_count_52 : decode cX12_count 52 = .ok (.aload_n 0, 1) := by decide +kernel
theorem dX12_count_53 : decode cX12_count 53 = .ok (.getfield 7, 3) := by decide +kernel
theorem dX12_count_56 : decode cX12_count 56 = .ok (.sipush 128, 3) := by decide +kernel
theorem dX12_count_59 : decode cX12_count 59 = .ok (.iaload, 1) := by decide +kernel
theorem dX12_count_60 : decode cX12_count 60 = .ok (.ireturn, 1) := by decide +kernel
theorem dX12_count_61 : decode cX12_count 61 = .ok (.aload_n 0, 1) := by decide +kernel
theorem dX12_count_62 : decode cX12_count 62 = .ok (.invokevirtual 410, 3) := by decide +kernel
theorem dX12_count_65 : decode cX12_count 65 = .ok (.ireturn, 1) := by decide +kernel
theorem dX12_count_66 : decode cX12_count 66 = .ok (.aload_n 0, 1) := by decide +kernel
theorem dX12_count_67 : decode cX12_count 67 = .ok (.invokevirtual 413, 3) := by decide +kernel
theorem dX12_count_70 : decode cX12_count 70 = .ok (.ireturn, 1) := by decide +kernel
theorem dX12_count_71 : decode cX12_count 71 = .ok (.aload_n 0, 1) := by decide +kernel
theorem dX12_count_72 : decode cX12_count 72 = .ok (.getfield 109, 3) := by decide +kernel
theorem dX12_count_75 : decode cX12_count 75 = .ok (.ireturn, 1) := by decide +kernel
theorem dX12_count_76 : decode cX12_count 76 = .ok (.iconst 0, 1) := by decide +kernel
theorem dX12_count_77 : decode cX12_count 77 = .ok (.istore_n 3, 1) := by decide +kernel
theorem dX12_count_78 : decode cX12_count 78 = .ok (.iload_n 3, 1) := by decide +kernel
theorem dX12_count_79 : decode cX12_count 79 = .ok (.aload_n 0, 1) := by decide +kernel
theorem dX12_count_80 : decode cX12_count 80 = .ok (.getfield 109, 3) := by decide +kernel
theorem dX12_count_83 : decode cX12_count 83 = .ok (.if_icmp .ge 26, 3) := by decide +kernel
theorem dX12_count_86 : decode cX12_count 86 = .ok (.aload_n 0, 1) := by decide +kernel
theorem dX12_count_87 : decode cX12_count 87 = .ok (.getfield 7, 3) := by decide +kernel
theorem dX12_count_90 : decode cX12_count 90 = .ok (.bipush 32, 2) := by decide +kernel
theorem dX12_count_92 : decode cX12_count 92 = .ok (.iload_n 3, 1) := by decide +kernel
theorem dX12_count_93 : decode cX12_count 93 = .ok (.iadd, 1) := by decide +kernel
theorem dX12_count_94 : decode cX12_count 94 = .ok (.iaload, 1) := by decide +kernel
theorem dX12_count_95 : decode cX12_count 95 = .ok (.iconst (-1), 1) := by decide +kernel
theorem dX12_count_96 : decode cX12_count 96 = .ok (.if_icmp .eq 7, 3) := by decide +kernel
theorem dX12_count_99 : decode cX12_count 99 = .ok (.iload_n 2, 1) := by decide +kernel
theorem dX12_count_100 : decode cX12_count 100 = .ok (.iconst 1, 1) := by decide +kernel
theorem dX12_count_101 : decode cX12_count 101 = .ok (.iadd, 1) := by decide +kernel
theorem dX12_count_102 : decode cX12_count 102 = .ok (.istore_n 2, 1) := by decide +kernel
theorem dX12_count_103 : decode cX12_count 103 = .ok (.iinc 3 1, 3) := by decide +kernel
theorem dX12_count_106 : decode cX12_count 106 = .ok (.goto (-28), 3) := by decide +kernel
theorem dX12_count_109 : decode cX12_count 109 = .ok (.iload_n 2, 1) := by decide +kernel
theorem dX12_count_110 : decode cX12_count 110 = .ok (.ireturn, 1) := by decide +kernel
theorem dX12_count_111 : decode cX12_count 111 = .ok (.iconst 0, 1) := by decide +kernel
theorem dX12_count_112 : decode cX12_count 112 = .ok (.istore_n 3, 1) := by decide +kernel
theorem dX12_count_113 : decode cX12_count 113 = .ok (.iload_n 3, 1) := by decide +kernel
theorem dX12_count_114 : decode cX12_count 114 = .ok (.sipush 384, 3) := by decide +kernel
theorem dX12_count_117 : decode cX12_count 117 = .ok (.if_icmp .ge 22, 3) := by decide +kernel
theorem dX12_count_120 : decode cX12_count 120 = .ok (.aload_n 0, 1) := by decide +kernel
theorem dX12_count_121 : decode cX12_count 121 = .ok (.getfield 28, 3) := by decide +kernel
theorem dX12_count_124 : decode cX12_count 124 = .ok (.iload_n 3, 1) := by decide +kernel
theorem dX12_count_125 : decode cX12_count 125 = .ok (.baload, 1) := by decide +kernel
theorem dX12_count_126 : decode cX12_count 126 = .ok (.ifCond .eq 7, 3) := by decide +kernel
theorem dX12_count_129 : decode cX12_count 129 = .ok (.iload_n 2, 1) := by decide +kernel
theorem dX12_count_130 : decode cX12_count 130 = .ok (.iconst 1, 1) := by decide +kernel
theorem dX12_count_131 : decode cX12_count 131 = .ok (.iadd, 1) := by decide +kernel
theorem dX12_count_132 : decode cX12_count 132 = .ok (.istore_n 2, 1) := by decide +kernel
theorem dX12_count_133 : decode cX12_count 133 = .ok (.iinc 3 1, 3) := by decide +kernel
theorem dX12_count_136 : decode cX12_count 136 = .ok (.goto (-23), 3) := by decide +kernel
theorem dX12_count_139 : decode cX12_count 139 = .ok (.iload_n 2, 1) := by decide +kernel
theorem dX12_count_140 : decode cX12_count 140 = .ok (.ireturn, 1) := by decide +kernel
theorem dX12_count_141 : decode cX12_count 141 = .ok (.aload_n 0, 1) := by decide +kernel
theorem dX12_count_142 : decode cX12_count 142 = .ok (.getfield 218, 3) := by decide +kernel
theorem dX12_count_145 : decode cX12_count 145 = .ok (.ireturn, 1) := by decide +kernel
theorem dX12_count_146 : decode cX12_count 146 = .ok (.aload_n 0, 1) := by decide +kernel
theorem dX12_count_147 : decode cX12_count 147 = .ok (.getfield 117, 3) := by decide +kernel
theorem dX12_count_150 : decode cX12_count 150 = .ok (.ireturn, 1) := by decide +kernel
theorem dX12_count_151 : decode cX12_count 151 = .ok (.aload_n 0, 1) := by decide +kernel
theorem dX12_count_152 : decode cX12_count 152 = .ok (.getfield 7, 3) := by decide +kernel
theorem dX12_count_155 : decode cX12_count 155 = .ok (.sipush 129, 3) := by decide +kernel
theorem dX12_count_158 : decode cX12_count 158 = .ok (.iaload, 1) := by decide +kernel
theorem dX12_count_159 : decode cX12_count 159 = .ok (.ireturn, 1) := by decide +kernel
theorem dX12_count_160 : decode cX12_count 160 = .ok (.iconst (-1), 1) := by decide +kernel
theorem dX12_count_161 : decode cX12_count 161 = .ok (.ireturn, 1) := by decide +kernel
