theorem dX12_init_0 : decode cX12_init 0 = .ok (.aload_n 0, 1) := by decide +kernel
theorem dX12_init_1 : decode cX12_init 1 = .ok (.invokespecial 1, 3) := by decide +kernel
theorem dX12_init_4 : decode cX12_init 4 = .ok (.aload_n 0, 1) := by decide +kernel
theorem dX12_init_5 : decode cX12_init 5 = .ok (.sipush 130, 3) := by decide +kernel
theorem dX12_init_8 : decode cX12_init 8 = .ok (.newarray .int, 2) := by decide +kernel
theorem dX12_init_10 : decode cX12_init 10 = .ok (.putfield 7, 3) := by decide +kernel
theorem dX12_init_13 : decode cX12_init 13 = .ok (.aload_n 0, 1) := by decide +kernel
theorem dX12_init_14 : decode cX12_init 14 = .ok (.sipush 130, 3) := by decide +kernel
theorem dX12_init_17 : decode cX12_init 17 = .ok (.newarray .int, 2) := by decide +kernel
theorem dX12_init_19 : decode cX12_init 19 = .ok (.putfield 13, 3) := by decide +kernel
theorem dX12_init_22 : decode cX12_init 22 = .ok (.aload_n 0, 1) := by decide +kernel
theorem dX12_init_23 : decode cX12_init 23 = .ok (.sipush 130, 3) := by decide +kernel
theorem dX12_init_26 : decode cX12_init 26 = .ok (.newarray .int, 2) := by decide +kernel
theorem dX12_init_28 : decode cX12_init 28 = .ok (.putfield 16, 3) := by decide +kernel
theorem dX12_init_31 : decode cX12_init 31 = .ok (.aload_n 0, 1) := by decide +kernel
theorem dX12_init_32 : decode cX12_init 32 = .ok (.bipush 8, 2) := by decide +kernel
theorem dX12_init_34 : decode cX12_init 34 = .ok (.newarray .int, 2) := by decide +kernel
theorem dX12_init_36 : decode cX12_init 36 = .ok (.putfield 19, 3) := by decide +kernel
theorem dX12_init_39 : decode cX12_init 39 = .ok (.aload_n 0, 1) := by decide +kernel
theorem dX12_init_40 : decode cX12_init 40 = .ok (.bipush 48, 2) := by decide +kernel
theorem dX12_init_42 : decode cX12_init 42 = .ok (.newarray .int, 2) := by decide +kernel
theorem dX12_init_44 : decode cX12_init 44 = .ok (.putfield 22, 3) := by decide +kernel
theorem dX12_init_47 : decode cX12_init 47 = .ok (.aload_n 0, 1) := by decide +kernel
theorem dX12_init_48 : decode cX12_init 48 = .ok (.bipush 48, 2) := by decide +kernel
theorem dX12_init_50 : decode cX12_init 50 = .ok (.newarray .int, 2) := by decide +kernel
theorem dX12_init_52 : decode cX12_init 52 = .ok (.putfield 25, 3) := by decide +kernel
theorem dX12_init_55 : decode cX12_init 55 = .ok (.aload_n 0, 1) := by decide +kernel
theorem dX12_init_56 : decode cX12_init 56 = .ok (.sipush 384, 3) := by decide +kernel
theorem dX12_init_59 : decode cX12_init 59 = .ok (.newarray .boolean, 2) := by decide +kernel
theorem dX12_init_61 : decode cX12_init 61 = .ok (.putfield 28, 3) := by decide +kernel
theorem dX12_init_64 : decode cX12_init 64 = .ok (.aload_n 0, 1) := by decide +kernel
theorem dX12_init_65 : decode cX12_init 65 = .ok (.sipush 384, 3) := by decide +kernel
theorem dX12_init_68 : decode cX12_init 68 = .ok (.newarray .boolean, 2) := by decide +kernel
theorem dX12_init_70 : decode cX12_init 70 = .ok (.putfield 32, 3) := by decide +kernel
theorem dX12_init_73 : decode cX12_init 73 = .ok (.aload_n 0, 1) := by decide +kernel
theorem dX12_init_74 : decode cX12_init 74 = .ok (.sipush 260, 3) := by decide +kernel
theorem dX12_init_77 : decode cX12_init 77 = .ok (.newarray .byte, 2) := by decide +kernel
theorem dX12_init_79 : decode cX12_init 79 = .ok (.putfield 35, 3) := by decide +kernel
theorem dX12_init_82 : decode cX12_init 82 = .ok (.aload_n 0, 1) := by decide +kernel
theorem dX12_init_83 : decode cX12_init 83 = .ok (.sipush 260, 3) := by decide +kernel
theorem dX12_init_86 : decode cX12_init 86 = .ok (.newarray .int, 2) := by decide +kernel
theorem dX12_init_88 : decode cX12_init 88 = .ok (.putfield 39, 3) := by decide +kernel
theorem dX12_init_91 : decode cX12_init 91 = .ok (.aload_n 0, 1) := by decide +kernel
theorem dX12_init_92 : decode cX12_init 92 = .ok (.sipush 260, 3) := by decide +kernel
theorem dX12_init_95 : decode cX12_init 95 = .ok (.newarray .int, 2) := by decide +kernel
theorem dX12_init_97 : decode cX12_init 97 = .ok (.putfield 42, 3) := by decide +kernel
theorem dX12_init_100 : decode cX12_init 100 = .ok (.aload_n 0, 1) := by decide +kernel
theorem dX12_init_101 : decode cX12_init 101 = .ok (.bipush 16, 2) := by decide +kernel
theorem dX12_init_103 : decode cX12_init 103 = .ok (.newarray .int, 2) := by decide +kernel
theorem dX12_init_105 : decode cX12_init 105 = .ok (.putfield 45, 3) := by decide +kernel
theorem dX12_init_108 : decode cX12_init 108 = .ok (.aload_n 0, 1) := by decide +kernel
theorem dX12_init_109 : decode cX12_init 109 = .ok (.bipush 16, 2) := by decide +kernel
theorem dX12_init_111 : decode cX12_init 111 = .ok (.newarray .int, 2) := by decide +kernel
theorem dX12_init_113 : decode cX12_init 113 = .ok (.putfield 48, 3) := by decide +kernel
theorem dX12_init_116 : decode cX12_init 116 = .ok (.aload_n 0, 1) := by decide +kernel
theorem dX12_init_117 : decode cX12_init 117 = .ok (.bipush 16, 2) := by decide +kernel
theorem dX12_init_119 : decode cX12_init 119 = .ok (.newarray .int, 2) := by decide +kernel
theorem dX12_init_121 : decode cX12_init 121 = .ok (.putfield 51, 3) := by decide +kernel
theorem dX12_init_124 : decode cX12_init 124 = .ok (.aload_n 0, 1) := by decide +kernel
theorem dX12_init_125 : decode cX12_init 125 = .ok (.bipush 16, 2) := by decide +kernel
theorem dX12_init_127 : decode cX12_init 127 = .ok (.newarray .int, 2) := by decide +kernel
theorem dX12_init_129 : decode cX12_init 129 = .ok (.putfield 54, 3) := by decide +kernel
theorem dX12_init_132 : decode cX12_init 132 = .ok (.aload_n 0, 1) := by decide +kernel
theorem dX12_init_133 : decode cX12_init 133 = .ok (.sipush 260, 3) := by decide +kernel
theorem dX12_init_136 : decode cX12_init 136 = .ok (.newarray .int, 2) := by decide +kernel
theorem dX12_init_138 : decode cX12_init 138 = .ok (.putfield 57, 3) := by decide +kernel
theorem dX12_init_141 : decode cX12_init 141 = .ok (.aload_n 0, 1) := by decide +kernel
theorem dX12_init_142 : decode cX12_init 142 = .ok (.bipush 16, 2) := by decide +kernel
theorem dX12_init_144 : decode cX12_init 144 = .ok (.newarray .int, 2) := by decide +kernel
theorem dX12_init_146 : decode cX12_init 146 = .ok (.putfield 60, 3) := by decide +kernel
theorem dX12_init_149 : decode cX12_init 149 = .ok (.aload_n 0, 1) := by decide +kernel
theorem dX12_init_150 : decode cX12_init 150 = .ok (.bipush 16, 2) := by decide +kernel
theorem dX12_init_152 : decode cX12_init 152 = .ok (.newarray .int, 2) := by decide +kernel
theorem dX12_init_154 : decode cX12_init 154 = .ok (.putfield 63, 3) := by decide +kernel
theorem dX12_init_157 : decode cX12_init 157 = .ok (.aload_n 0, 1) := by decide +kernel
theorem dX12_init_158 : decode cX12_init 158 = .ok (.bipush 16, 2) := by decide +kernel
theorem dX12_init_160 : decode cX12_init 160 = .ok (.newarray .int, 2) := by decide +kernel
theorem dX12_init_162 : decode cX12_init 162 = .ok (.putfield 66, 3) := by decide +kernel
theorem dX12_init_165 : decode cX12_init 165 = .ok (.aload_n 0, 1) := by decide +kernel
theorem dX12_init_166 : decode cX12_init 166 = .ok (.bipush 16, 2) := by decide +kernel
theorem dX12_init_168 : decode cX12_init 168 = .ok (.newarray .int, 2) := by decide +kernel
theorem dX12_init_170 : decode cX12_init 170 = .ok (.putfield 69, 3) := by decide +kernel
theorem dX12_init_173 : decode cX12_init 173 = .ok (.aload_n 0, 1) := by decide +kernel
theorem dX12_init_174 : decode cX12_init 174 = .ok (.sipush 260, 3) := by decide +kernel
theorem dX12_init_177 : decode cX12_init 177 = .ok (.newarray .int, 2) := by decide +kernel
theorem dX12_init_179 : decode cX12_init 179 = .ok (.putfield 72, 3) := by decide +kernel
theorem dX12_init_182 : decode cX12_init 182 = .ok (.aload_n 0, 1) := by decide +kernel
theorem dX12_init_183 : decode cX12_init 183 = .ok (.bipush 9, 2) := by decide +kernel
theorem dX12_init_185 : decode cX12_init 185 = .ok (.newarray .int, 2) := by decide +kernel
theorem dX12_init_187 : decode cX12_init 187 = .ok (.putfield 75, 3) := by decide +kernel
theorem dX12_init_190 : decode cX12_init 190 = .ok (.aload_n 0, 1) := by decide +kernel
theorem dX12_init_191 : decode cX12_init 191 = .ok (.bipush 48, 2) := by decide +kernel
theorem dX12_init_193 : decode cX12_init 193 = .ok (.newarray .int, 2) := by decide +kernel
theorem dX12_init_195 : decode cX12_init 195 = .ok (.putfield 78, 3) := by decide +kernel
theorem dX12_init_198 : decode cX12_init 198 = .ok (.aload_n 0, 1) := by decide +kernel
theorem dX12_init_199 : decode cX12_init 199 = .ok (.iconst 2, 1) := by decide +kernel
theorem dX12_init_200 : decode cX12_init 200 = .ok (.newarray .int, 2) := by decide +kernel
theorem dX12_init_202 : decode cX12_init 202 = .ok (.putfield 81, 3) := by decide +kernel
theorem dX12_init_205 : decode cX12_init 205 = .ok (.aload_n 0, 1) := by decide +kernel
theorem dX12_init_206 : decode cX12_init 206 = .ok (.iconst 2, 1) := by decide +kernel
theorem dX12_init_207 : decode cX12_init 207 = .ok (.newarray .int, 2) := by decide +kernel
theorem dX12_init_209 : decode cX12_init 209 = .ok (.putfield 84, 3) := by decide +kernel
theorem dX12_init_212 : decode cX12_init 212 = .ok (.aload_n 0, 1) := by decide +kernel
theorem dX12_init_213 : decode cX12_init 213 = .ok (.iconst 2, 1) := by decide +kernel
theorem dX12_init_214 : decode cX12_init 214 = .ok (.newarray .int, 2) := by decide +kernel
theorem dX12_init_216 : decode cX12_init 216 = .ok (.putfield 87, 3) := by decide +kernel
theorem dX12_init_219 : decode cX12_init 219 = .ok (.aload_n 0, 1) := by decide +kernel
theorem dX12_init_220 : decode cX12_init 220 = .ok (.bipush 48, 2) := by decide +kernel
theorem dX12_init_222 : decode cX12_init 222 = .ok (.newarray .int, 2) := by decide +kernel
theorem dX12_init_224 : decode cX12_init 224 = .ok (.putfield 90, 3) := by decide +kernel
theorem dX12_init_227 : decode cX12_init 227 = .ok (.aload_n 0, 1) := by decide +kernel
theorem dX12_init_228 : decode cX12_init 228 = .ok (.sipush 384, 3) := by decide +kernel
theorem dX12_init_231 : decode cX12_init 231 = .ok (.newarray .boolean, 2) := by decide +kernel
theorem dX12_init_233 : decode cX12_init 233 = .ok (.putfield 93, 3) := by decide +kernel
theorem dX12_init_236 : decode cX12_init 236 = .ok (.aload_n 0, 1) := by decide +kernel
theorem dX12_init_237 : decode cX12_init 237 = .ok (.bipush 9, 2) := by decide +kernel
theorem dX12_init_239 : decode cX12_init 239 = .ok (.newarray .int, 2) := by decide +kernel
theorem dX12_init_241 : decode cX12_init 241 = .ok (.putfield 96, 3) := by decide +kernel
theorem dX12_init_244 : decode cX12_init 244 = .ok (.aload_n 0, 1) := by decide +kernel
theorem dX12_init_245 : decode cX12_init 245 = .ok (.sipush 601, 3) := by decide +kernel
theorem dX12_init_248 : decode cX12_init 248 = .ok (.newarray .int, 2) := by decide +kernel
theorem dX12_init_250 : decode cX12_init 250 = .ok (.putfield 99, 3) := by decide +kernel
theorem dX12_init_253 : decode cX12_init 253 = .ok (.aload_n 0, 1) := by decide +kernel
theorem dX12_init_254 : decode cX12_init 254 = .ok (.bipush 6, 2) := by decide +kernel
theorem dX12_init_256 : decode cX12_init 256 = .ok (.newarray .int, 2) := by decide +kernel
theorem dX12_init_258 : decode cX12_init 258 = .ok (.putfield 102, 3) := by decide +kernel
theorem dX12_init_261 : decode cX12_init 261 = .ok (.aload_n 0, 1) := by decide +kernel
theorem dX12_init_262 : decode cX12_init 262 = .ok (.getfield 7, 3) := by decide +kernel
theorem dX12_init_265 : decode cX12_init 265 = .ok (.sipush 129, 3) := by decide +kernel
theorem dX12_init_268 : decode cX12_init 268 = .ok (.iconst 1, 1) := by decide +kernel
theorem dX12_init_269 : decode cX12_init 269 = .ok (.iastore, 1) := by decide +kernel
theorem dX12_init_270 : decode cX12_init 270 = .ok (.iconst 0, 1) := by decide +kernel
theorem dX12_init_271 : decode cX12_init 271 = .ok (.istore_n 1, 1) := by decide +kernel
theorem dX12_init_272 : decode cX12_init 272 = .ok (.iload_n 1, 1) := by decide +kernel
theorem dX12_init_273 : decode cX12_init 273 = .ok (.bipush 48, 2) := by decide +kernel
theorem dX12_init_275 : decode cX12_init 275 = .ok (.if_icmp .ge 19, 3) := by decide +kernel
theorem dX12_init_278 : decode cX12_init 278 = .ok (.aload_n 0, 1) := by decide +kernel
theorem dX12_init_279 : decode cX12_init 279 = .ok (.getfield 7, 3) := by decide +kernel
theorem dX12_init_282 : decode cX12_init 282 = .ok (.bipush 32, 2) := by decide +kernel
theorem dX12_init_284 : decode cX12_init 284 = .ok (.iload_n 1, 1) := by decide +kernel
theorem dX12_init_285 : decode cX12_init 285 = .ok (.iadd, 1) := by decide +kernel
theorem dX12_init_286 : decode cX12_init 286 = .ok (.iconst (-1), 1) := by decide +kernel
theorem dX12_init_287 : decode cX12_init 287 = .ok (.iastore, 1) := by decide +kernel
theorem dX12_init_288 : decode cX12_init 288 = .ok (.iinc 1 1, 3) := by decide +kernel
theorem dX12_init_291 : decode cX12_init 291 = .ok (.goto (-19), 3) := by decide +kernel
theorem dX12_init_294 : decode cX12_init 294 = .ok (.iconst 0, 1) := by decide +kernel
theorem dX12_init_295 : decode cX12_init 295 = .ok (.istore_n 1, 1) := by decide +kernel
theorem dX12_init_296 : decode cX12_init 296 = .ok (.iload_n 1, 1) := by decide +kernel
theorem dX12_init_297 : decode cX12_init 297 = .ok (.bipush 8, 2) := by decide +kernel
theorem dX12_init_299 : decode cX12_init 299 = .ok (.if_icmp .ge 16, 3) := by decide +kernel
theorem dX12_init_302 : decode cX12_init 302 = .ok (.aload_n 0, 1) := by decide +kernel
theorem dX12_init_303 : decode cX12_init 303 = .ok (.getfield 19, 3) := by decide +kernel
theorem dX12_init_306 : decode cX12_init 306 = .ok (.iload_n 1, 1) := by decide +kernel
theorem dX12_init_307 : decode cX12_init 307 = .ok (.iconst (-1), 1) := by decide +kernel
theorem dX12_init_308 : decode cX12_init 308 = .ok (.iastore, 1) := by decide +kernel
theorem dX12_init_309 : decode cX12_init 309 = .ok (.iinc 1 1, 3) := by decide +kernel
theorem dX12_init_312 : decode cX12_init 312 = .ok (.goto (-16), 3) := by decide +kernel
theorem dX12_init_315 : decode cX12_init 315 = .ok (.return_, 1) := by decide +kernel
theorem dX12_in_0 : decode cX12_in 0 = .ok (.iload_n 0, 1) := by decide +kernel
theorem dX12_in_1 : decode cX12_in 1 = .ok (.iload_n 1, 1) := by decide +kernel
theorem dX12_in_2 : decode cX12_in 2 = .ok (.if_icmp .lt 12, 3) := by decide +kernel
theorem dX12_in_5 : decode cX12_in 5 = .ok (.iload_n 0, 1) := by decide +kernel
theorem dX12_in_6 : decode cX12_in 6 = .ok (.iload_n 2, 1) := by decide +kernel
theorem dX12_in_7 : decode cX12_in 7 = .ok (.if_icmp .gt 7, 3) := by decide +kernel
theorem dX12_in_10 : decode cX12_in 10 = .ok (.iconst 1, 1) := by decide +kernel
theorem dX12_in_11 : decode cX12_in 11 = .ok (.goto 4, 3) := by decide +kernel
theorem dX12_in_14 : decode cX12_in 14 = .ok (.iconst 0, 1) := by decide +kernel
theorem dX12_in_15 : decode cX12_in 15 = .ok (.ireturn, 1) := by decide +kernel
theorem dX12_copies_0 : decode cX12_copies 0 = .ok (.iconst 0, 1) := by decide +kernel
theorem dX12_copies_1 : decode cX12_copies 1 = .ok (.istore_n 2, 1) := by decide +kernel
theorem dX12_copies_2 : decode cX12_copies 2 = .ok (.iload_n 2, 1) := by decide +kernel
theorem dX12_copies_3 : decode cX12_copies 3 = .ok (.sipush 130, 3) := by decide +kernel
theorem dX12_copies_6 : decode cX12_copies 6 = .ok (.if_icmp .ge 15, 3) := by decide +kernel
theorem dX12_copies_9 : decode cX12_copies 9 = .ok (.aload_n 1, 1) := by decide +kernel
theorem dX12_copies_10 : decode cX12_copies 10 = .ok (.iload_n 2, 1) := by decide +kernel
theorem dX12_copies_11 : decode cX12_copies 11 = .ok (.aload_n 0, 1) := by decide +kernel
theorem dX12_copies_12 : decode cX12_copies 12 = .ok (.iload_n 2, 1) := by decide +kernel
theorem dX12_copies_13 : decode cX12_copies 13 = .ok (.iaload, 1) := by decide +kernel
theorem dX12_copies_14 : decode cX12_copies 14 = .ok (.iastore, 1) := by decide +kernel
theorem dX12_copies_15 : decode cX12_copies 15 = .ok (.iinc 2 1, 3) := by decide +kernel
theorem dX12_copies_18 : decode cX12_copies 18 = .ok (.goto (-16), 3) := by decide +kernel
theorem dX12_copies_21 : decode cX12_copies 21 = .ok (.return_, 1) := by decide +kernel
theorem dX12_isPlace_0 : decode cX12_isPlace 0 = .ok (.iload_n 0, 1) := by decide +kernel
theorem dX12_isPlace_1 : decode cX12_isPlace 1 = .ok (.iconst 0, 1) := by decide +kernel
theorem dX12_isPlace_2 : decode cX12_isPlace 2 = .ok (.sipush 383, 3) := by decide +kernel
theorem dX12_isPlace_5 : decode cX12_isPlace 5 = .ok (.invokestatic 105, 3) := by decide +kernel
theorem dX12_isPlace_8 : decode cX12_isPlace 8 = .ok (.ireturn, 1) := by decide +kernel
theorem dX12_isTold_0 : decode cX12_isTold 0 = .ok (.iload_n 1, 1) := by decide +kernel
theorem dX12_isTold_1 : decode cX12_isTold 1 = .ok (.iconst 0, 1) := by decide +kernel
theorem dX12_isTold_2 : decode cX12_isTold 2 = .ok (.bipush 7, 2) := by decide +kernel
theorem dX12_isTold_4 : decode cX12_isTold 4 = .ok (.invokestatic 105, 3) := by decide +kernel
theorem dX12_isTold_7 : decode cX12_isTold 7 = .ok (.ifCond .eq 19, 3) := by decide +kernel
theorem dX12_isTold_10 : decode cX12_isTold 10 = .ok (.aload_n 0, 1) := by decide +kernel
theorem dX12_isTold_11 : decode cX12_isTold 11 = .ok (.getfield 7, 3) := by decide +kernel
theorem dX12_isTold_14 : decode cX12_isTold 14 = .ok (.iconst 0, 1) := by decide +kernel
theorem dX12_isTold_15 : decode cX12_isTold 15 = .ok (.iload_n 1, 1) := by decide +kernel
theorem dX12_isTold_16 : decode cX12_isTold 16 = .ok (.iadd, 1) := by decide +kernel
theorem dX12_isTold_17 : decode cX12_isTold 17 = .ok (.iaload, 1) := by decide +kernel
theorem dX12_isTold_18 : decode cX12_isTold 18 = .ok (.iconst 1, 1) := by decide +kernel
theorem dX12_isTold_19 : decode cX12_isTold 19 = .ok (.if_icmp .ne 7, 3) := by decide +kernel
theorem dX12_isTold_22 : decode cX12_isTold 22 = .ok (.iconst 1, 1) := by decide +kernel
theorem dX12_isTold_23 : decode cX12_isTold 23 = .ok (.goto 4, 3) := by decide +kernel
theorem dX12_isTold_26 : decode cX12_isTold 26 = .ok (.iconst 0, 1) := by decide +kernel
theorem dX12_isTold_27 : decode cX12_isTold 27 = .ok (.ireturn, 1) := by decide +kernel
theorem dX12_isStamp_0 : decode cX12_isStamp 0 = .ok (.iload_n 1, 1) := by decide +kernel
theorem dX12_isStamp_1 : decode cX12_isStamp 1 = .ok (.iconst 0, 1) := by decide +kernel
theorem dX12_isStamp_2 : decode cX12_isStamp 2 = .ok (.aload_n 0, 1) := by decide +kernel
theorem dX12_isStamp_3 : decode cX12_isStamp 3 = .ok (.getfield 109, 3) := by decide +kernel
theorem dX12_isStamp_6 : decode cX12_isStamp 6 = .ok (.iconst 1, 1) := by decide +kernel
theorem dX12_isStamp_7 : decode cX12_isStamp 7 = .ok (.isub, 1) := by decide +kernel
theorem dX12_isStamp_8 : decode cX12_isStamp 8 = .ok (.invokestatic 105, 3) := by decide +kernel
theorem dX12_isStamp_11 : decode cX12_isStamp 11 = .ok (.ireturn, 1) := by decide +kernel
theorem dX12_mint_0 : decode cX12_mint 0 = .ok (.iload_n 1, 1) := by decide +kernel
theorem dX12_mint_1 : decode cX12_mint 1 = .ok (.iconst 0, 1) := by decide +kernel
theorem dX12_mint_2 : decode cX12_mint 2 = .ok (.bipush 7, 2) := by decide +kernel
theorem dX12_mint_4 : decode cX12_mint 4 = .ok (.invokestatic 105, 3) := by decide +kernel
theorem dX12_mint_7 : decode cX12_mint 7 = .ok (.ifCond .eq 23, 3) := by decide +kernel
theorem dX12_mint_10 : decode cX12_mint 10 = .ok (.iload_n 2, 1) := by decide +kernel
theorem dX12_mint_11 : decode cX12_mint 11 = .ok (.iconst 0, 1) := by decide +kernel
theorem dX12_mint_12 : decode cX12_mint 12 = .ok (.bipush 23, 2) := by decide +kernel
theorem dX12_mint_14 : decode cX12_mint 14 = .ok (.invokestatic 105, 3) := by decide +kernel
theorem dX12_mint_17 : decode cX12_mint 17 = .ok (.ifCond .eq 13, 3) := by decide +kernel
theorem dX12_mint_20 : decode cX12_mint 20 = .ok (.iload_n 3, 1) := by decide +kernel
theorem dX12_mint_21 : decode cX12_mint 21 = .ok (.iconst 0, 1) := by decide +kernel
theorem dX12_mint_22 : decode cX12_mint 22 = .ok (.bipush 15, 2) := by decide +kernel
theorem dX12_mint_24 : decode cX12_mint 24 = .ok (.invokestatic 105, 3) := by decide +kernel
theorem dX12_mint_27 : decode cX12_mint 27 = .ok (.ifCond .ne 5, 3) := by decide +kernel
theorem dX12_mint_30 : decode cX12_mint 30 = .ok (.iconst 0, 1) := by decide +kernel
theorem dX12_mint_31 : decode cX12_mint 31 = .ok (.ireturn, 1) := by decide +kernel
theorem dX12_mint_32 : decode cX12_mint 32 = .ok (.aload_n 0, 1) := by decide +kernel
theorem dX12_mint_33 : decode cX12_mint 33 = .ok (.getfield 19, 3) := by decide +kernel
theorem dX12_mint_36 : decode cX12_mint 36 = .ok (.iload_n 1, 1) := by decide +kernel
theorem dX12_mint_37 : decode cX12_mint 37 = .ok (.bipush 24, 2) := by decide +kernel
theorem dX12_mint_39 : decode cX12_mint 39 = .ok (.iload_n 3, 1) := by decide +kernel
theorem dX12_mint_40 : decode cX12_mint 40 = .ok (.imul, 1) := by decide +kernel
theorem dX12_mint_41 : decode cX12_mint 41 = .ok (.iload_n 2, 1) := by decide +kernel
theorem dX12_mint_42 : decode cX12_mint 42 = .ok (.iadd, 1) := by decide +kernel
theorem dX12_mint_43 : decode cX12_mint 43 = .ok (.iastore, 1) := by decide +kernel
theorem dX12_mint_44 : decode cX12_mint 44 = .ok (.iconst 1, 1) := by decide +kernel
theorem dX12_mint_45 : decode cX12_mint 45 = .ok (.ireturn, 1) := by decide +kernel
theorem dX12_types_0 : decode cX12_types 0 = .ok (.iconst 3, 1) := by decide +kernel
theorem dX12_types_1 : decode cX12_types 1 = .ok (.istore_n 2, 1) := by decide +kernel
theorem dX12_types_2 : decode cX12_types 2 = .ok (.iload_n 2, 1) := by decide +kernel
theorem dX12_types_3 : decode cX12_types 3 = .ok (.ifCond .lt 35, 3) := by decide +kernel
theorem dX12_types_6 : decode cX12_types 6 = .ok (.aload_n 0, 1) := by decide +kernel
theorem dX12_types_7 : decode cX12_types 7 = .ok (.getfield 35, 3) := by decide +kernel
theorem dX12_types_10 : decode cX12_types 10 = .ok (.aload_n 0, 1) := by decide +kernel
theorem dX12_types_11 : decode cX12_types 11 = .ok (.getfield 117, 3) := by decide +kernel
theorem dX12_types_14 : decode cX12_types 14 = .ok (.iload_n 1, 1) := by decide +kernel
theorem dX12_types_15 : decode cX12_types 15 = .ok (.bipush 8, 2) := by decide +kernel
theorem dX12_types_17 : decode cX12_types 17 = .ok (.iload_n 2, 1) := by decide +kernel
theorem dX12_types_18 : decode cX12_types 18 = .ok (.imul, 1) := by decide +kernel
theorem dX12_types_19 : decode cX12_types 19 = .ok (.ishr, 1) := by decide +kernel
theorem dX12_types_20 : decode cX12_types 20 = .ok (.i2b, 1) := by decide +kernel
theorem dX12_types_21 : decode cX12_types 21 = .ok (.bastore, 1) := by decide +kernel
theorem dX12_types_22 : decode cX12_types 22 = .ok (.aload_n 0, 1) := by decide +kernel
theorem dX12_types_23 : decode cX12_types 23 = .ok (.aload_n 0, 1) := by decide +kernel
theorem dX12_types_24 : decode cX12_types 24 = .ok (.getfield 117, 3) := by decide +kernel
theorem dX12_types_27 : decode cX12_types 27 = .ok (.iconst 1, 1) := by decide +kernel
theorem dX12_types_28 : decode cX12_types 28 = .ok (.iadd, 1) := by decide +kernel
theorem dX12_types_29 : decode cX12_types 29 = .ok (.putfield 117, 3) := by decide +kernel
theorem dX12_types_32 : decode cX12_types 32 = .ok (.iinc 2 (-1), 3) := by decide +kernel
theorem dX12_types_35 : decode cX12_types 35 = .ok (.goto (-33), 3) := by decide +kernel
theorem dX12_types_38 : decode cX12_types 38 = .ok (.return_, 1) := by decide +kernel
theorem dX12_feed_0 : decode cX12_feed 0 = .ok (.aload_n 0, 1) := by decide +kernel
theorem dX12_feed_1 : decode cX12_feed 1 = .ok (.getfield 117, 3) := by decide +kernel
theorem dX12_feed_4 : decode cX12_feed 4 = .ok (.bipush 20, 2) := by decide +kernel
theorem dX12_feed_6 : decode cX12_feed 6 = .ok (.iadd, 1) := by decide +kernel
theorem dX12_feed_7 : decode cX12_feed 7 = .ok (.sipush 260, 3) := by decide +kernel
theorem dX12_feed_10 : decode cX12_feed 10 = .ok (.if_icmp .le 5, 3) := by decide +kernel
theorem dX12_feed_13 : decode cX12_feed 13 = .ok (.iconst (-1), 1) := by decide +kernel
theorem dX12_feed_14 : decode cX12_feed 14 = .ok (.ireturn, 1) := by decide +kernel
theorem dX12_feed_15 : decode cX12_feed 15 = .ok (.aload_n 0, 1) := by decide +kernel
theorem dX12_feed_16 : decode cX12_feed 16 = .ok (.iload_n 1, 1) := by decide +kernel
theorem dX12_feed_17 : decode cX12_feed 17 = .ok (.invokevirtual 120, 3) := by decide +kernel
theorem dX12_feed_20 : decode cX12_feed 20 = .ok (.aload_n 0, 1) := by decide +kernel
theorem dX12_feed_21 : decode cX12_feed 21 = .ok (.iload_n 2, 1) := by decide +kernel
theorem dX12_feed_22 : decode cX12_feed 22 = .ok (.invokevirtual 120, 3) := by decide +kernel
theorem dX12_feed_25 : decode cX12_feed 25 = .ok (.aload_n 0, 1) := by decide +kernel
theorem dX12_feed_26 : decode cX12_feed 26 = .ok (.iload_n 3, 1) := by decide +kernel
theorem dX12_feed_27 : decode cX12_feed 27 = .ok (.invokevirtual 120, 3) := by decide +kernel
theorem dX12_feed_30 : decode cX12_feed 30 = .ok (.aload_n 0, 1) := by decide +kernel
theorem dX12_feed_31 : decode cX12_feed 31 = .ok (.iload 4, 2) := by decide +kernel
theorem dX12_feed_33 : decode cX12_feed 33 = .ok (.invokevirtual 120, 3) := by decide +kernel
theorem dX12_feed_36 : decode cX12_feed 36 = .ok (.aload_n 0, 1) := by decide +kernel
theorem dX12_feed_37 : decode cX12_feed 37 = .ok (.iload 5, 2) := by decide +kernel
theorem dX12_feed_39 : decode cX12_feed 39 = .ok (.invokevirtual 120, 3) := by decide +kernel
theorem dX12_feed_42 : decode cX12_feed 42 = .ok (.aload_n 0, 1) := by decide +kernel
theorem dX12_feed_43 : decode cX12_feed 43 = .ok (.getfield 117, 3) := by decide +kernel
theorem dX12_feed_46 : decode cX12_feed 46 = .ok (.ireturn, 1) := by decide +kernel
theorem dX12_law_0 : decode cX12_law 0 = .ok (.iload_n 1, 1) := by decide +kernel
theorem dX12_law_1 : decode cX12_law 1 = .ok (.iconst 1, 1) := by decide +kernel
theorem dX12_law_2 : decode cX12_law 2 = .ok (.sipush 240, 3) := by decide +kernel
theorem dX12_law_5 : decode cX12_law 5 = .ok (.invokestatic 105, 3) := by decide +kernel
theorem dX12_law_8 : decode cX12_law 8 = .ok (.ifCond .eq 11, 3) := by decide +kernel
theorem dX12_law_11 : decode cX12_law 11 = .ok (.iload_n 1, 1) := by decide +kernel
theorem dX12_law_12 : decode cX12_law 12 = .ok (.aload_n 0, 1) := by decide +kernel
theorem dX12_law_13 : decode cX12_law 13 = .ok (.getfield 117, 3) := by decide +kernel
theorem dX12_law_16 : decode cX12_law 16 = .ok (.if_icmp .le 5, 3) := by decide +kernel
theorem dX12_law_19 : decode cX12_law 19 = .ok (.iconst (-1), 1) := by decide +kernel
theorem dX12_law_20 : decode cX12_law 20 = .ok (.ireturn, 1) := by decide +kernel
theorem dX12_law_21 : decode cX12_law 21 = .ok (.aload_n 0, 1) := by decide +kernel
theorem dX12_law_22 : decode cX12_law 22 = .ok (.iload_n 1, 1) := by decide +kernel
theorem dX12_law_23 : decode cX12_law 23 = .ok (.invokevirtual 209, 3) := by decide +kernel
theorem dX12_law_26 : decode cX12_law 26 = .ok (.aload_n 0, 1) := by decide +kernel
theorem dX12_law_27 : decode cX12_law 27 = .ok (.invokevirtual 212, 3) := by decide +kernel
theorem dX12_law_30 : decode cX12_law 30 = .ok (.istore_n 2, 1) := by decide +kernel
theorem dX12_law_31 : decode cX12_law 31 = .ok (.iload_n 2, 1) := by decide +kernel
theorem dX12_law_32 : decode cX12_law 32 = .ok (.ifCond .eq 39, 3) := by decide +kernel
theorem dX12_law_35 : decode cX12_law 35 = .ok (.aload_n 0, 1) := by decide +kernel
theorem dX12_law_36 : decode cX12_law 36 = .ok (.getfield 124, 3) := by decide +kernel
theorem dX12_law_39 : decode cX12_law 39 = .ok (.aload_n 0, 1) := by decide +kernel
theorem dX12_law_40 : decode cX12_law 40 = .ok (.getfield 127, 3) := by decide +kernel
theorem dX12_law_43 : decode cX12_law 43 = .ok (.if_icmp .ge 28, 3) := by decide +kernel
theorem dX12_law_46 : decode cX12_law 46 = .ok (.aload_n 0, 1) := by decide +kernel
theorem dX12_law_47 : decode cX12_law 47 = .ok (.bipush 59, 2) := by decide +kernel
theorem dX12_law_49 : decode cX12_law 49 = .ok (.invokevirtual 215, 3) := by decide +kernel
theorem dX12_law_52 : decode cX12_law 52 = .ok (.ifCond .eq 14, 3) := by decide +kernel
theorem dX12_law_55 : decode cX12_law 55 = .ok (.aload_n 0, 1) := by decide +kernel
theorem dX12_law_56 : decode cX12_law 56 = .ok (.invokevirtual 212, 3) := by decide +kernel
theorem dX12_law_59 : decode cX12_law 59 = .ok (.ifCond .eq 7, 3) := by decide +kernel
theorem dX12_law_62 : decode cX12_law 62 = .ok (.iconst 1, 1) := by decide +kernel
theorem dX12_law_63 : decode cX12_law 63 = .ok (.goto 4, 3) := by decide +kernel
theorem dX12_law_66 : decode cX12_law 66 = .ok (.iconst 0, 1) := by decide +kernel
theorem dX12_law_67 : decode cX12_law 67 = .ok (.istore_n 2, 1) := by decide +kernel
theorem dX12_law_68 : decode cX12_law 68 = .ok (.goto (-37), 3) := by decide +kernel
theorem dX12_law_71 : decode cX12_law 71 = .ok (.aload_n 0, 1) := by decide +kernel
theorem dX12_law_72 : decode cX12_law 72 = .ok (.iconst 0, 1) := by decide +kernel
theorem dX12_law_73 : decode cX12_law 73 = .ok (.putfield 117, 3) := by decide +kernel
theorem dX12_law_76 : decode cX12_law 76 = .ok (.iload_n 2, 1) := by decide +kernel
theorem dX12_law_77 : decode cX12_law 77 = .ok (.ifCond .ne 8, 3) := by decide +kernel
theorem dX12_law_80 : decode cX12_law 80 = .ok (.aload_n 0, 1) := by decide +kernel
theorem dX12_law_81 : decode cX12_law 81 = .ok (.getfield 134, 3) := by decide +kernel
theorem dX12_law_84 : decode cX12_law 84 = .ok (.ireturn, 1) := by decide +kernel
theorem dX12_law_85 : decode cX12_law 85 = .ok (.aload_n 0, 1) := by decide +kernel
theorem dX12_law_86 : decode cX12_law 86 = .ok (.aload_n 0, 1) := by decide +kernel
theorem dX12_law_87 : decode cX12_law 87 = .ok (.getfield 203, 3) := by decide +kernel
theorem dX12_law_90 : decode cX12_law 90 = .ok (.putfield 218, 3) := by decide +kernel
theorem dX12_law_93 : decode cX12_law 93 = .ok (.iconst 0, 1) := by decide +kernel
theorem dX12_law_94 : decode cX12_law 94 = .ok (.istore_n 3, 1) := by decide +kernel
theorem dX12_law_95 : decode cX12_law 95 = .ok (.iload_n 3, 1) := by decide +kernel
theorem dX12_law_96 : decode cX12_law 96 = .ok (.aload_n 0, 1) := by decide +kernel
theorem dX12_law_97 : decode cX12_law 97 = .ok (.getfield 148, 3) := by decide +kernel
theorem dX12_law_100 : decode cX12_law 100 = .ok (.if_icmp .ge 21, 3) := by decide +kernel
theorem dX12_law_103 : decode cX12_law 103 = .ok (.aload_n 0, 1) := by decide +kernel
theorem dX12_law_104 : decode cX12_law 104 = .ok (.getfield 57, 3) := by decide +kernel
theorem dX12_law_107 : decode cX12_law 107 = .ok (.iload_n 3, 1) := by decide +kernel
theorem dX12_law_108 : decode cX12_law 108 = .ok (.aload_n 0, 1) := by decide +kernel
theorem dX12_law_109 : decode cX12_law 109 = .ok (.getfield 39, 3) := by decide +kernel
theorem dX12_law_112 : decode cX12_law 112 = .ok (.iload_n 3, 1) := by decide +kernel
theorem dX12_law_113 : decode cX12_law 113 = .ok (.iaload, 1) := by decide +kernel
theorem dX12_law_114 : decode cX12_law 114 = .ok (.iastore, 1) := by decide +kernel
theorem dX12_law_115 : decode cX12_law 115 = .ok (.iinc 3 1, 3) := by decide +kernel
theorem dX12_law_118 : decode cX12_law 118 = .ok (.goto (-23), 3) := by decide +kernel
theorem dX12_law_121 : decode cX12_law 121 = .ok (.iconst 0, 1) := by decide +kernel
theorem dX12_law_122 : decode cX12_law 122 = .ok (.istore_n 3, 1) := by decide +kernel
theorem dX12_law_123 : decode cX12_law 123 = .ok (.iload_n 3, 1) := by decide +kernel
theorem dX12_law_124 : decode cX12_law 124 = .ok (.aload_n 0, 1) := by decide +kernel
theorem dX12_law_125 : decode cX12_law 125 = .ok (.getfield 203, 3) := by decide +kernel
theorem dX12_law_128 : decode cX12_law 128 = .ok (.if_icmp .ge 57, 3) := by decide +kernel
theorem dX12_law_131 : decode cX12_law 131 = .ok (.aload_n 0, 1) := by decide +kernel
theorem dX12_law_132 : decode cX12_law 132 = .ok (.getfield 60, 3) := by decide +kernel
theorem dX12_law_135 : decode cX12_law 135 = .ok (.iload_n 3, 1) := by decide +kernel
theorem dX12_law_136 : decode cX12_law 136 = .ok (.aload_n 0, 1) := by decide +kernel
theorem dX12_law_137 : decode cX12_law 137 = .ok (.getfield 45, 3) := by decide +kernel
theorem dX12_law_140 : decode cX12_law 140 = .ok (.iload_n 3, 1) := by decide +kernel
theorem dX12_law_141 : decode cX12_law 141 = .ok (.iaload, 1) := by decide +kernel
theorem dX12_law_142 : decode cX12_law 142 = .ok (.iastore, 1) := by decide +kernel
theorem dX12_law_143 : decode cX12_law 143 = .ok (.aload_n 0, 1) := by decide +kernel
theorem dX12_law_144 : decode cX12_law 144 = .ok (.getfield 63, 3) := by decide +kernel
theorem dX12_law_147 : decode cX12_law 147 = .ok (.iload_n 3, 1) := by decide +kernel
theorem dX12_law_148 : decode cX12_law 148 = .ok (.aload_n 0, 1) := by decide +kernel
theorem dX12_law_149 : decode cX12_law 149 = .ok (.getfield 48, 3) := by decide +kernel
theorem dX12_law_152 : decode cX12_law 152 = .ok (.iload_n 3, 1) := by decide +kernel
theorem dX12_law_153 : decode cX12_law 153 = .ok (.iaload, 1) := by decide +kernel
theorem dX12_law_154 : decode cX12_law 154 = .ok (.iastore, 1) := by decide +kernel
theorem dX12_law_155 : decode cX12_law 155 = .ok (.aload_n 0, 1) := by decide +kernel
theorem dX12_law_156 : decode cX12_law 156 = .ok (.getfield 66, 3) := by decide +kernel
theorem dX12_law_159 : decode cX12_law 159 = .ok (.iload_n 3, 1) := by decide +kernel
theorem dX12_law_160 : decode cX12_law 160 = .ok (.aload_n 0, 1) := by decide +kernel
theorem dX12_law_161 : decode cX12_law 161 = .ok (.getfield 51, 3) := by decide +kernel
theorem dX12_law_164 : decode cX12_law 164 = .ok (.iload_n 3, 1) := by decide +kernel
theorem dX12_law_165 : decode cX12_law 165 = .ok (.iaload, 1) := by decide +kernel
theorem dX12_law_166 : decode cX12_law 166 = .ok (.iastore, 1) := by decide +kernel
theorem dX12_law_167 : decode cX12_law 167 = .ok (.aload_n 0, 1) := by decide +kernel
theorem dX12_law_168 : decode cX12_law 168 = .ok (.getfield 69, 3) := by decide +kernel
theorem dX12_law_171 : decode cX12_law 171 = .ok (.iload_n 3, 1) := by decide +kernel
theorem dX12_law_172 : decode cX12_law 172 = .ok (.aload_n 0, 1) := by decide +kernel
theorem dX12_law_173 : decode cX12_law 173 = .ok (.getfield 54, 3) := by decide +kernel
theorem dX12_law_176 : decode cX12_law 176 = .ok (.iload_n 3, 1) := by decide +kernel
theorem dX12_law_177 : decode cX12_law 177 = .ok (.iaload, 1) := by decide +kernel
theorem dX12_law_178 : decode cX12_law 178 = .ok (.iastore, 1) := by decide +kernel
theorem dX12_law_179 : decode cX12_law 179 = .ok (.iinc 3 1, 3) := by decide +kernel
theorem dX12_law_182 : decode cX12_law 182 = .ok (.goto (-59), 3) := by decide +kernel
theorem dX12_law_185 : decode cX12_law 185 = .ok (.aload_n 0, 1) := by decide +kernel
theorem dX12_law_186 : decode cX12_law 186 = .ok (.getfield 203, 3) := by decide +kernel
theorem dX12_law_189 : decode cX12_law 189 = .ok (.ireturn, 1) := by decide +kernel
theorem dX12_sheet_0 : decode cX12_sheet 0 = .ok (.iload_n 1, 1) := by decide +kernel
theorem dX12_sheet_1 : decode cX12_sheet 1 = .ok (.iconst 1, 1) := by decide +kernel
theorem dX12_sheet_2 : decode cX12_sheet 2 = .ok (.bipush 60, 2) := by decide +kernel
theorem dX12_sheet_4 : decode cX12_sheet 4 = .ok (.invokestatic 105, 3) := by decide +kernel
theorem dX12_sheet_7 : decode cX12_sheet 7 = .ok (.ifCond .eq 11, 3) := by decide +kernel
theorem dX12_sheet_10 : decode cX12_sheet 10 = .ok (.iload_n 1, 1) := by decide +kernel
theorem dX12_sheet_11 : decode cX12_sheet 11 = .ok (.aload_n 0, 1) := by decide +kernel
theorem dX12_sheet_12 : decode cX12_sheet 12 = .ok (.getfield 117, 3) := by decide +kernel
theorem dX12_sheet_15 : decode cX12_sheet 15 = .ok (.if_icmp .le 5, 3) := by decide +kernel
theorem dX12_sheet_18 : decode cX12_sheet 18 = .ok (.iconst (-1), 1) := by decide +kernel
theorem dX12_sheet_19 : decode cX12_sheet 19 = .ok (.ireturn, 1) := by decide +kernel
theorem dX12_sheet_20 : decode cX12_sheet 20 = .ok (.aload_n 0, 1) := by decide +kernel
theorem dX12_sheet_21 : decode cX12_sheet 21 = .ok (.iload_n 1, 1) := by decide +kernel
theorem dX12_sheet_22 : decode cX12_sheet 22 = .ok (.invokevirtual 209, 3) := by decide +kernel
theorem dX12_sheet_25 : decode cX12_sheet 25 = .ok (.aload_n 0, 1) := by decide +kernel
theorem dX12_sheet_26 : decode cX12_sheet 26 = .ok (.iconst 0, 1) := by decide +kernel
theorem dX12_sheet_27 : decode cX12_sheet 27 = .ok (.putfield 235, 3) := by decide +kernel
theorem dX12_sheet_30 : decode cX12_sheet 30 = .ok (.aload_n 0, 1) := by decide +kernel
theorem dX12_sheet_31 : decode cX12_sheet 31 = .ok (.iconst 0, 1) := by decide +kernel
theorem dX12_sheet_32 : decode cX12_sheet 32 = .ok (.putfield 241, 3) := by decide +kernel
theorem dX12_sheet_35 : decode cX12_sheet 35 = .ok (.aload_n 0, 1) := by decide +kernel
theorem dX12_sheet_36 : decode cX12_sheet 36 = .ok (.invokevirtual 247, 3) := by decide +kernel
theorem dX12_sheet_39 : decode cX12_sheet 39 = .ok (.istore_n 2, 1) := by decide +kernel
theorem dX12_sheet_40 : decode cX12_sheet 40 = .ok (.iload_n 2, 1) := by decide +kernel
theorem dX12_sheet_41 : decode cX12_sheet 41 = .ok (.ifCond .eq 29, 3) := by decide +kernel
theorem dX12_sheet_44 : decode cX12_sheet 44 = .ok (.aload_n 0, 1) := by decide +kernel
theorem dX12_sheet_45 : decode cX12_sheet 45 = .ok (.getfield 124, 3) := by decide +kernel
theorem dX12_sheet_48 : decode cX12_sheet 48 = .ok (.aload_n 0, 1) := by decide +kernel
theorem dX12_sheet_49 : decode cX12_sheet 49 = .ok (.getfield 127, 3) := by decide +kernel
theorem dX12_sheet_52 : decode cX12_sheet 52 = .ok (.if_icmp .lt 10, 3) := by decide +kernel
theorem dX12_sheet_55 : decode cX12_sheet 55 = .ok (.aload_n 0, 1) := by decide +kernel
theorem dX12_sheet_56 : decode cX12_sheet 56 = .ok (.getfield 241, 3) := by decide +kernel
theorem dX12_sheet_59 : decode cX12_sheet 59 = .ok (.ifCond .le 11, 3) := by decide +kernel
theorem dX12_sheet_62 : decode cX12_sheet 62 = .ok (.aload_n 0, 1) := by decide +kernel
theorem dX12_sheet_63 : decode cX12_sheet 63 = .ok (.invokevirtual 247, 3) := by decide +kernel
theorem dX12_sheet_66 : decode cX12_sheet 66 = .ok (.istore_n 2, 1) := by decide +kernel
theorem dX12_sheet_67 : decode cX12_sheet 67 = .ok (.goto (-27), 3) := by decide +kernel
theorem dX12_sheet_70 : decode cX12_sheet 70 = .ok (.aload_n 0, 1) := by decide +kernel
theorem dX12_sheet_71 : decode cX12_sheet 71 = .ok (.iconst 0, 1) := by decide +kernel
theorem dX12_sheet_72 : decode cX12_sheet 72 = .ok (.putfield 117, 3) := by decide +kernel
theorem dX12_sheet_75 : decode cX12_sheet 75 = .ok (.iload_n 2, 1) := by decide +kernel
theorem dX12_sheet_76 : decode cX12_sheet 76 = .ok (.ifCond .ne 8, 3) := by decide +kernel
theorem dX12_sheet_79 : decode cX12_sheet 79 = .ok (.aload_n 0, 1) := by decide +kernel
theorem dX12_sheet_80 : decode cX12_sheet 80 = .ok (.getfield 134, 3) := by decide +kernel
theorem dX12_sheet_83 : decode cX12_sheet 83 = .ok (.ireturn, 1) := by decide +kernel
theorem dX12_sheet_84 : decode cX12_sheet 84 = .ok (.aload_n 0, 1) := by decide +kernel
theorem dX12_sheet_85 : decode cX12_sheet 85 = .ok (.aload_n 0, 1) := by decide +kernel
theorem dX12_sheet_86 : decode cX12_sheet 86 = .ok (.getfield 235, 3) := by decide +kernel
theorem dX12_sheet_89 : decode cX12_sheet 89 = .ok (.putfield 109, 3) := by decide +kernel
theorem dX12_sheet_92 : decode cX12_sheet 92 = .ok (.iconst 0, 1) := by decide +kernel
theorem dX12_sheet_93 : decode cX12_sheet 93 = .ok (.istore_n 3, 1) := by decide +kernel
theorem dX12_sheet_94 : decode cX12_sheet 94 = .ok (.iload_n 3, 1) := by decide +kernel
theorem dX12_sheet_95 : decode cX12_sheet 95 = .ok (.bipush 48, 2) := by decide +kernel
theorem dX12_sheet_97 : decode cX12_sheet 97 = .ok (.if_icmp .ge 57, 3) := by decide +kernel
theorem dX12_sheet_100 : decode cX12_sheet 100 = .ok (.aload_n 0, 1) := by decide +kernel
theorem dX12_sheet_101 : decode cX12_sheet 101 = .ok (.getfield 7, 3) := by decide +kernel
theorem dX12_sheet_104 : decode cX12_sheet 104 = .ok (.bipush 32, 2) := by decide +kernel
theorem dX12_sheet_106 : decode cX12_sheet 106 = .ok (.iload_n 3, 1) := by decide +kernel
theorem dX12_sheet_107 : decode cX12_sheet 107 = .ok (.iadd, 1) := by decide +kernel
theorem dX12_sheet_108 : decode cX12_sheet 108 = .ok (.iconst (-1), 1) := by decide +kernel
theorem dX12_sheet_109 : decode cX12_sheet 109 = .ok (.iastore, 1) := by decide +kernel
theorem dX12_sheet_110 : decode cX12_sheet 110 = .ok (.aload_n 0, 1) := by decide +kernel
theorem dX12_sheet_111 : decode cX12_sheet 111 = .ok (.getfield 7, 3) := by decide +kernel
theorem dX12_sheet_114 : decode cX12_sheet 114 = .ok (.bipush 80, 2) := by decide +kernel
theorem dX12_sheet_116 : decode cX12_sheet 116 = .ok (.iload_n 3, 1) := by decide +kernel
theorem dX12_sheet_117 : decode cX12_sheet 117 = .ok (.iadd, 1) := by decide +kernel
theorem dX12_sheet_118 : decode cX12_sheet 118 = .ok (.iconst 0, 1) := by decide +kernel
theorem dX12_sheet_119 : decode cX12_sheet 119 = .ok (.iastore, 1) := by decide +kernel
theorem dX12_sheet_120 : decode cX12_sheet 120 = .ok (.aload_n 0, 1) := by decide +kernel
theorem dX12_sheet_121 : decode cX12_sheet 121 = .ok (.getfield 22, 3) := by decide +kernel
theorem dX12_sheet_124 : decode cX12_sheet 124 = .ok (.iload_n 3, 1) := by decide +kernel
theorem dX12_sheet_125 : decode cX12_sheet 125 = .ok (.aload_n 0, 1) := by decide +kernel
theorem dX12_sheet_126 : decode cX12_sheet 126 = .ok (.getfield 78, 3) := by decide +kernel
theorem dX12_sheet_129 : decode cX12_sheet 129 = .ok (.iload_n 3, 1) := by decide +kernel
theorem dX12_sheet_130 : decode cX12_sheet 130 = .ok (.iaload, 1) := by decide +kernel
theorem dX12_sheet_131 : decode cX12_sheet 131 = .ok (.iconst 3, 1) := by decide +kernel
theorem dX12_sheet_132 : decode cX12_sheet 132 = .ok (.idiv, 1) := by decide +kernel
theorem dX12_sheet_133 : decode cX12_sheet 133 = .ok (.iastore, 1) := by decide +kernel
theorem dX12_sheet_134 : decode cX12_sheet 134 = .ok (.aload_n 0, 1) := by decide +kernel
theorem dX12_sheet_135 : decode cX12_sheet 135 = .ok (.getfield 25, 3) := by decide +kernel
theorem dX12_sheet_138 : decode cX12_sheet 138 = .ok (.iload_n 3, 1) := by decide +kernel
theorem dX12_sheet_139 : decode cX12_sheet 139 = .ok (.aload_n 0, 1) := by decide +kernel
theorem dX12_sheet_140 : decode cX12_sheet 140 = .ok (.getfield 78, 3) := by decide +kernel
theorem dX12_sheet_143 : decode cX12_sheet 143 = .ok (.iload_n 3, 1) := by decide +kernel
theorem dX12_sheet_144 : decode cX12_sheet 144 = .ok (.iaload, 1) := by decide +kernel
theorem dX12_sheet_145 : decode cX12_sheet 145 = .ok (.iconst 3, 1) := by decide +kernel
theorem dX12_sheet_146 : decode cX12_sheet 146 = .ok (.irem, 1) := by decide +kernel
theorem dX12_sheet_147 : decode cX12_sheet 147 = .ok (.iastore, 1) := by decide +kernel
theorem dX12_sheet_148 : decode cX12_sheet 148 = .ok (.iinc 3 1, 3) := by decide +kernel
theorem dX12_sheet_151 : decode cX12_sheet 151 = .ok (.goto (-57), 3) := by decide +kernel
theorem dX12_sheet_154 : decode cX12_sheet 154 = .ok (.aload_n 0, 1) := by decide +kernel
theorem dX12_sheet_155 : decode cX12_sheet 155 = .ok (.getfield 235, 3) := by decide +kernel
theorem dX12_sheet_158 : decode cX12_sheet 158 = .ok (.ireturn, 1) := by decide +kernel
theorem dX12_post_0 : decode cX12_post 0 = .ok (.iload_n 1, 1) := by decide +kernel
theorem dX12_post_1 : decode cX12_post 1 = .ok (.iconst 1, 1) := by decide +kernel
theorem dX12_post_2 : decode cX12_post 2 = .ok (.bipush 120, 2) := by decide +kernel
theorem dX12_post_4 : decode cX12_post 4 = .ok (.invokestatic 105, 3) := by decide +kernel
theorem dX12_post_7 : decode cX12_post 7 = .ok (.ifCond .eq 11, 3) := by decide +kernel
theorem dX12_post_10 : decode cX12_post 10 = .ok (.iload_n 1, 1) := by decide +kernel
theorem dX12_post_11 : decode cX12_post 11 = .ok (.aload_n 0, 1) := by decide +kernel
theorem dX12_post_12 : decode cX12_post 12 = .ok (.getfield 117, 3) := by decide +kernel
theorem dX12_post_15 : decode cX12_post 15 = .ok (.if_icmp .le 5, 3) := by decide +kernel
theorem dX12_post_18 : decode cX12_post 18 = .ok (.iconst (-1), 1) := by decide +kernel
theorem dX12_post_19 : decode cX12_post 19 = .ok (.ireturn, 1) := by decide +kernel
theorem dX12_post_20 : decode cX12_post 20 = .ok (.aload_n 0, 1) := by decide +kernel
theorem dX12_post_21 : decode cX12_post 21 = .ok (.iload_n 1, 1) := by decide +kernel
theorem dX12_post_22 : decode cX12_post 22 = .ok (.invokevirtual 209, 3) := by decide +kernel
theorem dX12_post_25 : decode cX12_post 25 = .ok (.aload_n 0, 1) := by decide +kernel
theorem dX12_post_26 : decode cX12_post 26 = .ok (.iconst 0, 1) := by decide +kernel
theorem dX12_post_27 : decode cX12_post 27 = .ok (.putfield 262, 3) := by decide +kernel
theorem dX12_post_30 : decode cX12_post 30 = .ok (.aload_n 0, 1) := by decide +kernel
theorem dX12_post_31 : decode cX12_post 31 = .ok (.getfield 7, 3) := by decide +kernel
theorem dX12_post_34 : decode cX12_post 34 = .ok (.aload_n 0, 1) := by decide +kernel
theorem dX12_post_35 : decode cX12_post 35 = .ok (.getfield 13, 3) := by decide +kernel
theorem dX12_post_38 : decode cX12_post 38 = .ok (.invokestatic 271, 3) := by decide +kernel
theorem dX12_post_41 : decode cX12_post 41 = .ok (.iconst 0, 1) := by decide +kernel
theorem dX12_post_42 : decode cX12_post 42 = .ok (.istore_n 2, 1) := by decide +kernel
theorem dX12_post_43 : decode cX12_post 43 = .ok (.iload_n 2, 1) := by decide +kernel
theorem dX12_post_44 : decode cX12_post 44 = .ok (.sipush 384, 3) := by decide +kernel
theorem dX12_post_47 : decode cX12_post 47 = .ok (.if_icmp .ge 21, 3) := by decide +kernel
theorem dX12_post_50 : decode cX12_post 50 = .ok (.aload_n 0, 1) := by decide +kernel
theorem dX12_post_51 : decode cX12_post 51 = .ok (.getfield 32, 3) := by decide +kernel
theorem dX12_post_54 : decode cX12_post 54 = .ok (.iload_n 2, 1) := by decide +kernel
theorem dX12_post_55 : decode cX12_post 55 = .ok (.aload_n 0, 1) := by decide +kernel
theorem dX12_post_56 : decode cX12_post 56 = .ok (.getfield 28, 3) := by decide +kernel
theorem dX12_post_59 : decode cX12_post 59 = .ok (.iload_n 2, 1) := by decide +kernel
theorem dX12_post_60 : decode cX12_post 60 = .ok (.baload, 1) := by decide +kernel
theorem dX12_post_61 : decode cX12_post 61 = .ok (.bastore, 1) := by decide +kernel
theorem dX12_post_62 : decode cX12_post 62 = .ok (.iinc 2 1, 3) := by decide +kernel
theorem dX12_post_65 : decode cX12_post 65 = .ok (.goto (-22), 3) := by decide +kernel
theorem dX12_post_68 : decode cX12_post 68 = .ok (.aload_n 0, 1) := by decide +kernel
theorem dX12_post_69 : decode cX12_post 69 = .ok (.invokevirtual 275, 3) := by decide +kernel
theorem dX12_post_72 : decode cX12_post 72 = .ok (.istore_n 2, 1) := by decide +kernel
theorem dX12_post_73 : decode cX12_post 73 = .ok (.iload_n 2, 1) := by decide +kernel
theorem dX12_post_74 : decode cX12_post 74 = .ok (.ifCond .eq 39, 3) := by decide +kernel
theorem dX12_post_77 : decode cX12_post 77 = .ok (.aload_n 0, 1) := by decide +kernel
theorem dX12_post_78 : decode cX12_post 78 = .ok (.getfield 124, 3) := by decide +kernel
theorem dX12_post_81 : decode cX12_post 81 = .ok (.aload_n 0, 1) := by decide +kernel
theorem dX12_post_82 : decode cX12_post 82 = .ok (.getfield 127, 3) := by decide +kernel
theorem dX12_post_85 : decode cX12_post 85 = .ok (.if_icmp .ge 28, 3) := by decide +kernel
theorem dX12_post_88 : decode cX12_post 88 = .ok (.aload_n 0, 1) := by decide +kernel
theorem dX12_post_89 : decode cX12_post 89 = .ok (.bipush 59, 2) := by decide +kernel
theorem dX12_post_91 : decode cX12_post 91 = .ok (.invokevirtual 215, 3) := by decide +kernel
theorem dX12_post_94 : decode cX12_post 94 = .ok (.ifCond .eq 14, 3) := by decide +kernel
theorem dX12_post_97 : decode cX12_post 97 = .ok (.aload_n 0, 1) := by decide +kernel
theorem dX12_post_98 : decode cX12_post 98 = .ok (.invokevirtual 275, 3) := by decide +kernel
theorem dX12_post_101 : decode cX12_post 101 = .ok (.ifCond .eq 7, 3) := by decide +kernel
theorem dX12_post_104 : decode cX12_post 104 = .ok (.iconst 1, 1) := by decide +kernel
theorem dX12_post_105 : decode cX12_post 105 = .ok (.goto 4, 3) := by decide +kernel
theorem dX12_post_108 : decode cX12_post 108 = .ok (.iconst 0, 1) := by decide +kernel
theorem dX12_post_109 : decode cX12_post 109 = .ok (.istore_n 2, 1) := by decide +kernel
theorem dX12_post_110 : decode cX12_post 110 = .ok (.goto (-37), 3) := by decide +kernel
theorem dX12_post_113 : decode cX12_post 113 = .ok (.aload_n 0, 1) := by decide +kernel
theorem dX12_post_114 : decode cX12_post 114 = .ok (.iconst 0, 1) := by decide +kernel
theorem dX12_post_115 : decode cX12_post 115 = .ok (.putfield 117, 3) := by decide +kernel
theorem dX12_post_118 : decode cX12_post 118 = .ok (.iload_n 2, 1) := by decide +kernel
theorem dX12_post_119 : decode cX12_post 119 = .ok (.ifCond .eq 8, 3) := by decide +kernel
theorem dX12_post_122 : decode cX12_post 122 = .ok (.aload_n 0, 1) := by decide +kernel
theorem dX12_post_123 : decode cX12_post 123 = .ok (.getfield 262, 3) := by decide +kernel
theorem dX12_post_126 : decode cX12_post 126 = .ok (.ireturn, 1) := by decide +kernel
theorem dX12_post_127 : decode cX12_post 127 = .ok (.aload_n 0, 1) := by decide +kernel
theorem dX12_post_128 : decode cX12_post 128 = .ok (.getfield 13, 3) := by decide +kernel
theorem dX12_post_131 : decode cX12_post 131 = .ok (.aload_n 0, 1) := by decide +kernel
theorem dX12_post_132 : decode cX12_post 132 = .ok (.getfield 7, 3) := by decide +kernel
theorem dX12_post_135 : decode cX12_post 135 = .ok (.invokestatic 271, 3) := by decide +kernel
theorem dX12_post_138 : decode cX12_post 138 = .ok (.iconst 0, 1) := by decide +kernel
theorem dX12_post_139 : decode cX12_post 139 = .ok (.istore_n 3, 1) := by decide +kernel
theorem dX12_post_140 : decode cX12_post 140 = .ok (.iload_n 3, 1) := by decide +kernel
theorem dX12_post_141 : decode cX12_post 141 = .ok (.sipush 384, 3) := by decide +kernel
theorem dX12_post_144 : decode cX12_post 144 = .ok (.if_icmp .ge 21, 3) := by decide +kernel
theorem dX12_post_147 : decode cX12_post 147 = .ok (.aload_n 0, 1) := by decide +kernel
theorem dX12_post_148 : decode cX12_post 148 = .ok (.getfield 28, 3) := by decide +kernel
theorem dX12_post_151 : decode cX12_post 151 = .ok (.iload_n 3, 1) := by decide +kernel
theorem dX12_post_152 : decode cX12_post 152 = .ok (.aload_n 0, 1) := by decide +kernel
theorem dX12_post_153 : decode cX12_post 153 = .ok (.getfield 32, 3) := by decide +kernel
theorem dX12_post_156 : decode cX12_post 156 = .ok (.iload_n 3, 1) := by decide +kernel
theorem dX12_post_157 : decode cX12_post 157 = .ok (.baload, 1) := by decide +kernel
theorem dX12_post_158 : decode cX12_post 158 = .ok (.bastore, 1) := by decide +kernel
theorem dX12_post_159 : decode cX12_post 159 = .ok (.iinc 3 1, 3) := by decide +kernel
theorem dX12_post_162 : decode cX12_post 162 = .ok (.goto (-22), 3) := by decide +kernel
theorem dX12_post_165 : decode cX12_post 165 = .ok (.aload_n 0, 1) := by decide +kernel
theorem dX12_post_166 : decode cX12_post 166 = .ok (.getfield 134, 3) := by decide +kernel
theorem dX12_post_169 : decode cX12_post 169 = .ok (.ireturn, 1) := by decide +kernel
theorem dX12_daysGo_0 : decode cX12_daysGo 0 = .ok (.aload_n 0, 1) := by decide +kernel
theorem dX12_daysGo_1 : decode cX12_daysGo 1 = .ok (.iconst 0, 1) := by decide +kernel
theorem dX12_daysGo_2 : decode cX12_daysGo 2 = .ok (.putfield 326, 3) := by decide +kernel
theorem dX12_daysGo_5 : decode cX12_daysGo 5 = .ok (.aload_n 0, 1) := by decide +kernel
theorem dX12_daysGo_6 : decode cX12_daysGo 6 = .ok (.iconst 0, 1) := by decide +kernel
theorem dX12_daysGo_7 : decode cX12_daysGo 7 = .ok (.putfield 300, 3) := by decide +kernel
theorem dX12_daysGo_10 : decode cX12_daysGo 10 = .ok (.iconst 0, 1) := by decide +kernel
theorem dX12_daysGo_11 : decode cX12_daysGo 11 = .ok (.istore_n 2, 1) := by decide +kernel
theorem dX12_daysGo_12 : decode cX12_daysGo 12 = .ok (.iload_n 2, 1) := by decide +kernel
theorem dX12_daysGo_13 : decode cX12_daysGo 13 = .ok (.iload_n 1, 1) := by decide +kernel
theorem dX12_daysGo_14 : decode cX12_daysGo 14 = .ok (.if_icmp .ge 27, 3) := by decide +kernel
theorem dX12_daysGo_17 : decode cX12_daysGo 17 = .ok (.aload_n 0, 1) := by decide +kernel
theorem dX12_daysGo_18 : decode cX12_daysGo 18 = .ok (.getfield 7, 3) := by decide +kernel
theorem dX12_daysGo_21 : decode cX12_daysGo 21 = .ok (.sipush 128, 3) := by decide +kernel
theorem dX12_daysGo_24 : decode cX12_daysGo 24 = .ok (.iaload, 1) := by decide +kernel
theorem dX12_daysGo_25 : decode cX12_daysGo 25 = .ok (.sipush 9999, 3) := by decide +kernel
theorem dX12_daysGo_28 : decode cX12_daysGo 28 = .ok (.if_icmp .ge 13, 3) := by decide +kernel
theorem dX12_daysGo_31 : decode cX12_daysGo 31 = .ok (.aload_n 0, 1) := by decide +kernel
theorem dX12_daysGo_32 : decode cX12_daysGo 32 = .ok (.invokevirtual 335, 3) := by decide +kernel
theorem dX12_daysGo_35 : decode cX12_daysGo 35 = .ok (.iinc 2 1, 3) := by decide +kernel
theorem dX12_daysGo_38 : decode cX12_daysGo 38 = .ok (.goto (-26), 3) := by decide +kernel
theorem dX12_daysGo_41 : decode cX12_daysGo 41 = .ok (.return_, 1) := by decide +kernel
theorem dX12_dayGoes_0 : decode cX12_dayGoes 0 = .ok (.iconst 0, 1) := by decide +kernel
theorem dX12_dayGoes_1 : decode cX12_dayGoes 1 = .ok (.istore_n 1, 1) := by decide +kernel
theorem dX12_dayGoes_2 : decode cX12_dayGoes 2 = .ok (.iload_n 1, 1) := by decide +kernel
theorem dX12_dayGoes_3 : decode cX12_dayGoes 3 = .ok (.bipush 8, 2) := by decide +kernel
theorem dX12_dayGoes_5 : decode cX12_dayGoes 5 = .ok (.if_icmp .ge 22, 3) := by decide +kernel
theorem dX12_dayGoes_8 : decode cX12_dayGoes 8 = .ok (.aload_n 0, 1) := by decide +kernel
theorem dX12_dayGoes_9 : decode cX12_dayGoes 9 = .ok (.iload_n 1, 1) := by decide +kernel
theorem dX12_dayGoes_10 : decode cX12_dayGoes 10 = .ok (.invokevirtual 259, 3) := by decide +kernel
theorem dX12_dayGoes_13 : decode cX12_dayGoes 13 = .ok (.ifCond .eq 8, 3) := by decide +kernel
theorem dX12_dayGoes_16 : decode cX12_dayGoes 16 = .ok (.aload_n 0, 1) := by decide +kernel
theorem dX12_dayGoes_17 : decode cX12_dayGoes 17 = .ok (.iload_n 1, 1) := by decide +kernel
theorem dX12_dayGoes_18 : decode cX12_dayGoes 18 = .ok (.invokevirtual 332, 3) := by decide +kernel
theorem dX12_dayGoes_21 : decode cX12_dayGoes 21 = .ok (.iinc 1 1, 3) := by decide +kernel
theorem dX12_dayGoes_24 : decode cX12_dayGoes 24 = .ok (.goto (-22), 3) := by decide +kernel
theorem dX12_dayGoes_27 : decode cX12_dayGoes 27 = .ok (.aload_n 0, 1) := by decide +kernel
theorem dX12_dayGoes_28 : decode cX12_dayGoes 28 = .ok (.getfield 7, 3) := by decide +kernel
theorem dX12_dayGoes_31 : decode cX12_dayGoes 31 = .ok (.sipush 128, 3) := by decide +kernel
theorem dX12_dayGoes_34 : decode cX12_dayGoes 34 = .ok (.aload_n 0, 1) := by decide +kernel
theorem dX12_dayGoes_35 : decode cX12_dayGoes 35 = .ok (.getfield 7, 3) := by decide +kernel
theorem dX12_dayGoes_38 : decode cX12_dayGoes 38 = .ok (.sipush 128, 3) := by decide +kernel
theorem dX12_dayGoes_41 : decode cX12_dayGoes 41 = .ok (.iaload, 1) := by decide +kernel
theorem dX12_dayGoes_42 : decode cX12_dayGoes 42 = .ok (.iconst 1, 1) := by decide +kernel
theorem dX12_dayGoes_43 : decode cX12_dayGoes 43 = .ok (.iadd, 1) := by decide +kernel
theorem dX12_dayGoes_44 : decode cX12_dayGoes 44 = .ok (.iastore, 1) := by decide +kernel
theorem dX12_dayGoes_45 : decode cX12_dayGoes 45 = .ok (.return_, 1) := by decide +kernel
theorem dX12_days_0 : decode cX12_days 0 = .ok (.iload_n 1, 1) := by decide +kernel
theorem dX12_days_1 : decode cX12_days 1 = .ok (.iconst 1, 1) := by decide +kernel
theorem dX12_days_2 : decode cX12_days 2 = .ok (.bipush 100, 2) := by decide +kernel
theorem dX12_days_4 : decode cX12_days 4 = .ok (.invokestatic 105, 3) := by decide +kernel
theorem dX12_days_7 : decode cX12_days 7 = .ok (.ifCond .ne 5, 3) := by decide +kernel
theorem dX12_days_10 : decode cX12_days 10 = .ok (.iconst (-1), 1) := by decide +kernel
theorem dX12_days_11 : decode cX12_days 11 = .ok (.ireturn, 1) := by decide +kernel
theorem dX12_days_12 : decode cX12_days 12 = .ok (.aload_n 0, 1) := by decide +kernel
theorem dX12_days_13 : decode cX12_days 13 = .ok (.iload_n 1, 1) := by decide +kernel
theorem dX12_days_14 : decode cX12_days 14 = .ok (.invokevirtual 338, 3) := by decide +kernel
theorem dX12_days_17 : decode cX12_days 17 = .ok (.aload_n 0, 1) := by decide +kernel
theorem dX12_days_18 : decode cX12_days 18 = .ok (.getfield 326, 3) := by decide +kernel
theorem dX12_days_21 : decode cX12_days 21 = .ok (.ireturn, 1) := by decide +kernel
theorem dX12_walledSet_0 : decode cX12_walledSet 0 = .ok (.iconst 0, 1) := by decide +kernel
theorem dX12_walledSet_1 : decode cX12_walledSet 1 = .ok (.istore_n 1, 1) := by decide +kernel
theorem dX12_walledSet_2 : decode cX12_walledSet 2 = .ok (.iconst 0, 1) := by decide +kernel
theorem dX12_walledSet_3 : decode cX12_walledSet 3 = .ok (.istore_n 2, 1) := by decide +kernel
theorem dX12_walledSet_4 : decode cX12_walledSet 4 = .ok (.iload_n 2, 1) := by decide +kernel
theorem dX12_walledSet_5 : decode cX12_walledSet 5 = .ok (.bipush 8, 2) := by decide +kernel
theorem dX12_walledSet_7 : decode cX12_walledSet 7 = .ok (.if_icmp .ge 36, 3) := by decide +kernel
theorem dX12_walledSet_10 : decode cX12_walledSet 10 = .ok (.aload_n 0, 1) := by decide +kernel
theorem dX12_walledSet_11 : decode cX12_walledSet 11 = .ok (.iload_n 2, 1) := by decide +kernel
theorem dX12_walledSet_12 : decode cX12_walledSet 12 = .ok (.invokevirtual 259, 3) := by decide +kernel
theorem dX12_walledSet_15 : decode cX12_walledSet 15 = .ok (.ifCond .eq 22, 3) := by decide +kernel
theorem dX12_walledSet_18 : decode cX12_walledSet 18 = .ok (.aload_n 0, 1) := by decide +kernel
theorem dX12_walledSet_19 : decode cX12_walledSet 19 = .ok (.getfield 7, 3) := by decide +kernel
theorem dX12_walledSet_22 : decode cX12_walledSet 22 = .ok (.bipush 24, 2) := by decide +kernel
theorem dX12_walledSet_24 : decode cX12_walledSet 24 = .ok (.iload_n 2, 1) := by decide +kernel
theorem dX12_walledSet_25 : decode cX12_walledSet 25 = .ok (.iadd, 1) := by decide +kernel
theorem dX12_walledSet_26 : decode cX12_walledSet 26 = .ok (.iaload, 1) := by decide +kernel
theorem dX12_walledSet_27 : decode cX12_walledSet 27 = .ok (.iconst 1, 1) := by decide +kernel
theorem dX12_walledSet_28 : decode cX12_walledSet 28 = .ok (.if_icmp .ne 9, 3) := by decide +kernel
theorem dX12_walledSet_31 : decode cX12_walledSet 31 = .ok (.iload_n 1, 1) := by decide +kernel
theorem dX12_walledSet_32 : decode cX12_walledSet 32 = .ok (.iconst 1, 1) := by decide +kernel
theorem dX12_walledSet_33 : decode cX12_walledSet 33 = .ok (.iload_n 2, 1) := by decide +kernel
theorem dX12_walledSet_34 : decode cX12_walledSet 34 = .ok (.ishl, 1) := by decide +kernel
theorem dX12_walledSet_35 : decode cX12_walledSet 35 = .ok (.ior, 1) := by decide +kernel
theorem dX12_walledSet_36 : decode cX12_walledSet 36 = .ok (.istore_n 1, 1) := by decide +kernel
theorem dX12_walledSet_37 : decode cX12_walledSet 37 = .ok (.iinc 2 1, 3) := by decide +kernel
theorem dX12_walledSet_40 : decode cX12_walledSet 40 = .ok (.goto (-36), 3) := by decide +kernel
theorem dX12_walledSet_43 : decode cX12_walledSet 43 = .ok (.iload_n 1, 1) := by decide +kernel
theorem dX12_walledSet_44 : decode cX12_walledSet 44 = .ok (.ireturn, 1) := by decide +kernel
theorem dX12_canTry_0 : decode cX12_canTry 0 = .ok (.iload_n 1, 1) := by decide +kernel
theorem dX12_canTry_1 : decode cX12_canTry 1 = .ok (.iconst 0, 1) := by decide +kernel
theorem dX12_canTry_2 : decode cX12_canTry 2 = .ok (.iconst 2, 1) := by decide +kernel
theorem dX12_canTry_3 : decode cX12_canTry 3 = .ok (.invokestatic 105, 3) := by decide +kernel
theorem dX12_canTry_6 : decode cX12_canTry 6 = .ok (.ifCond .ne 36, 3) := by decide +kernel
theorem dX12_canTry_9 : decode cX12_canTry 9 = .ok (.aload_n 0, 1) := by decide +kernel
theorem dX12_canTry_10 : decode cX12_canTry 10 = .ok (.iload_n 1, 1) := by decide +kernel
theorem dX12_canTry_11 : decode cX12_canTry 11 = .ok (.bipush 10, 2) := by decide +kernel
theorem dX12_canTry_13 : decode cX12_canTry 13 = .ok (.isub, 1) := by decide +kernel
theorem dX12_canTry_14 : decode cX12_canTry 14 = .ok (.invokevirtual 259, 3) := by decide +kernel
theorem dX12_canTry_17 : decode cX12_canTry 17 = .ok (.ifCond .ne 25, 3) := by decide +kernel
theorem dX12_canTry_20 : decode cX12_canTry 20 = .ok (.aload_n 0, 1) := by decide +kernel
theorem dX12_canTry_21 : decode cX12_canTry 21 = .ok (.iload_n 1, 1) := by decide +kernel
theorem dX12_canTry_22 : decode cX12_canTry 22 = .ok (.bipush 20, 2) := by decide +kernel
theorem dX12_canTry_24 : decode cX12_canTry 24 = .ok (.isub, 1) := by decide +kernel
theorem dX12_canTry_25 : decode cX12_canTry 25 = .ok (.invokevirtual 259, 3) := by decide +kernel
theorem dX12_canTry_28 : decode cX12_canTry 28 = .ok (.ifCond .ne 14, 3) := by decide +kernel
theorem dX12_canTry_31 : decode cX12_canTry 31 = .ok (.aload_n 0, 1) := by decide +kernel
theorem dX12_canTry_32 : decode cX12_canTry 32 = .ok (.iload_n 1, 1) := by decide +kernel
theorem dX12_canTry_33 : decode cX12_canTry 33 = .ok (.bipush 100, 2) := by decide +kernel
theorem dX12_canTry_35 : decode cX12_canTry 35 = .ok (.isub, 1) := by decide +kernel
theorem dX12_canTry_36 : decode cX12_canTry 36 = .ok (.invokevirtual 113, 3) := by decide +kernel
theorem dX12_canTry_39 : decode cX12_canTry 39 = .ok (.ifCond .eq 7, 3) := by decide +kernel
theorem dX12_canTry_42 : decode cX12_canTry 42 = .ok (.iconst 1, 1) := by decide +kernel
theorem dX12_canTry_43 : decode cX12_canTry 43 = .ok (.goto 4, 3) := by decide +kernel
theorem dX12_canTry_46 : decode cX12_canTry 46 = .ok (.iconst 0, 1) := by decide +kernel
theorem dX12_canTry_47 : decode cX12_canTry 47 = .ok (.ireturn, 1) := by decide +kernel
theorem dX12_tried_0 : decode cX12_tried 0 = .ok (.iload_n 1, 1) := by decide +kernel
theorem dX12_tried_1 : decode cX12_tried 1 = .ok (.iconst 1, 1) := by decide +kernel
theorem dX12_tried_2 : decode cX12_tried 2 = .ok (.bipush 100, 2) := by decide +kernel
theorem dX12_tried_4 : decode cX12_tried 4 = .ok (.invokestatic 105, 3) := by decide +kernel
theorem dX12_tried_7 : decode cX12_tried 7 = .ok (.ifCond .eq 11, 3) := by decide +kernel
theorem dX12_tried_10 : decode cX12_tried 10 = .ok (.aload_n 0, 1) := by decide +kernel
theorem dX12_tried_11 : decode cX12_tried 11 = .ok (.iload_n 2, 1) := by decide +kernel
theorem dX12_tried_12 : decode cX12_tried 12 = .ok (.invokevirtual 341, 3) := by decide +kernel
theorem dX12_tried_15 : decode cX12_tried 15 = .ok (.ifCond .ne 5, 3) := by decide +kernel
theorem dX12_tried_18 : decode cX12_tried 18 = .ok (.iconst (-1), 1) := by decide +kernel
theorem dX12_tried_19 : decode cX12_tried 19 = .ok (.ireturn, 1) := by decide +kernel
theorem dX12_tried_20 : decode cX12_tried 20 = .ok (.aload_n 0, 1) := by decide +kernel
theorem dX12_tried_21 : decode cX12_tried 21 = .ok (.getfield 7, 3) := by decide +kernel
theorem dX12_tried_24 : decode cX12_tried 24 = .ok (.aload_n 0, 1) := by decide +kernel
theorem dX12_tried_25 : decode cX12_tried 25 = .ok (.getfield 13, 3) := by decide +kernel
theorem dX12_tried_28 : decode cX12_tried 28 = .ok (.invokestatic 271, 3) := by decide +kernel
theorem dX12_tried_31 : decode cX12_tried 31 = .ok (.aload_n 0, 1) := by decide +kernel
theorem dX12_tried_32 : decode cX12_tried 32 = .ok (.iload_n 1, 1) := by decide +kernel
theorem dX12_tried_33 : decode cX12_tried 33 = .ok (.invokevirtual 338, 3) := by decide +kernel
theorem dX12_tried_36 : decode cX12_tried 36 = .ok (.iload_n 2, 1) := by decide +kernel
theorem dX12_tried_37 : decode cX12_tried 37 = .ok (.tableswitch 51 0 2 #[27, 35, 43], 27) := by decide +kernel
theorem dX12_tried_64 : decode cX12_tried 64 = .ok (.aload_n 0, 1) := by decide +kernel
theorem dX12_tried_65 : decode cX12_tried 65 = .ok (.getfield 326, 3) := by decide +kernel
theorem dX12_tried_68 : decode cX12_tried 68 = .ok (.istore_n 3, 1) := by decide +kernel
theorem dX12_tried_69 : decode cX12_tried 69 = .ok (.goto 70, 3) := by decide +kernel
theorem dX12_tried_72 : decode cX12_tried 72 = .ok (.aload_n 0, 1) := by decide +kernel
theorem dX12_tried_73 : decode cX12_tried 73 = .ok (.getfield 300, 3) := by decide +kernel
theorem dX12_tried_76 : decode cX12_tried 76 = .ok (.istore_n 3, 1) := by decide +kernel
theorem dX12_tried_77 : decode cX12_tried 77 = .ok (.goto 62, 3) := by decide +kernel
theorem dX12_tried_80 : decode cX12_tried 80 = .ok (.aload_n 0, 1) := by decide +kernel
theorem dX12_tried_81 : decode cX12_tried 81 = .ok (.invokevirtual 344, 3) := by decide +kernel
theorem dX12_tried_84 : decode cX12_tried 84 = .ok (.istore_n 3, 1) := by decide +kernel
theorem dX12_tried_85 : decode cX12_tried 85 = .ok (.goto 54, 3) := by decide +kernel
theorem dX12_tried_88 : decode cX12_tried 88 = .ok (.iload_n 2, 1) := by decide +kernel
theorem dX12_tried_89 : decode cX12_tried 89 = .ok (.bipush 20, 2) := by decide +kernel
theorem dX12_tried_91 : decode cX12_tried 91 = .ok (.if_icmp .ge 18, 3) := by decide +kernel
theorem dX12_tried_94 : decode cX12_tried 94 = .ok (.aload_n 0, 1) := by decide +kernel
theorem dX12_tried_95 : decode cX12_tried 95 = .ok (.getfield 7, 3) := by decide +kernel
theorem dX12_tried_98 : decode cX12_tried 98 = .ok (.bipush 8, 2) := by decide +kernel
theorem dX12_tried_100 : decode cX12_tried 100 = .ok (.iload_n 2, 1) := by decide +kernel
theorem dX12_tried_101 : decode cX12_tried 101 = .ok (.iadd, 1) := by decide +kernel
theorem dX12_tried_102 : decode cX12_tried 102 = .ok (.bipush 10, 2) := by decide +kernel
theorem dX12_tried_104 : decode cX12_tried 104 = .ok (.isub, 1) := by decide +kernel
theorem dX12_tried_105 : decode cX12_tried 105 = .ok (.iaload, 1) := by decide +kernel
theorem dX12_tried_106 : decode cX12_tried 106 = .ok (.goto 32, 3) := by decide +kernel
theorem dX12_tried_109 : decode cX12_tried 109 = .ok (.iload_n 2, 1) := by decide +kernel
theorem dX12_tried_110 : decode cX12_tried 110 = .ok (.bipush 100, 2) := by decide +kernel
theorem dX12_tried_112 : decode cX12_tried 112 = .ok (.if_icmp .ge 14, 3) := by decide +kernel
theorem dX12_tried_115 : decode cX12_tried 115 = .ok (.aload_n 0, 1) := by decide +kernel
theorem dX12_tried_116 : decode cX12_tried 116 = .ok (.iload_n 2, 1) := by decide +kernel
theorem dX12_tried_117 : decode cX12_tried 117 = .ok (.bipush 20, 2) := by decide +kernel
theorem dX12_tried_119 : decode cX12_tried 119 = .ok (.isub, 1) := by decide +kernel
theorem dX12_tried_120 : decode cX12_tried 120 = .ok (.invokevirtual 290, 3) := by decide +kernel
theorem dX12_tried_123 : decode cX12_tried 123 = .ok (.goto 15, 3) := by decide +kernel
theorem dX12_tried_126 : decode cX12_tried 126 = .ok (.aload_n 0, 1) := by decide +kernel
theorem dX12_tried_127 : decode cX12_tried 127 = .ok (.getfield 7, 3) := by decide +kernel
theorem dX12_tried_130 : decode cX12_tried 130 = .ok (.bipush 80, 2) := by decide +kernel
theorem dX12_tried_132 : decode cX12_tried 132 = .ok (.iload_n 2, 1) := by decide +kernel
theorem dX12_tried_133 : decode cX12_tried 133 = .ok (.iadd, 1) := by decide +kernel
theorem dX12_tried_134 : decode cX12_tried 134 = .ok (.bipush 100, 2) := by decide +kernel
theorem dX12_tried_136 : decode cX12_tried 136 = .ok (.isub, 1) := by decide +kernel
theorem dX12_tried_137 : decode cX12_tried 137 = .ok (.iaload, 1) := by decide +kernel
theorem dX12_tried_138 : decode cX12_tried 138 = .ok (.istore_n 3, 1) := by decide +kernel
theorem dX12_tried_139 : decode cX12_tried 139 = .ok (.aload_n 0, 1) := by decide +kernel
theorem dX12_tried_140 : decode cX12_tried 140 = .ok (.getfield 13, 3) := by decide +kernel
theorem dX12_tried_143 : decode cX12_tried 143 = .ok (.aload_n 0, 1) := by decide +kernel
theorem dX12_tried_144 : decode cX12_tried 144 = .ok (.getfield 7, 3) := by decide +kernel
theorem dX12_tried_147 : decode cX12_tried 147 = .ok (.invokestatic 271, 3) := by decide +kernel
theorem dX12_tried_150 : decode cX12_tried 150 = .ok (.iload_n 3, 1) := by decide +kernel
theorem dX12_tried_151 : decode cX12_tried 151 = .ok (.ireturn, 1) := by decide +kernel
theorem dX12_letterIs_0 : decode cX12_letterIs 0 = .ok (.aload_n 0, 1) := by decide +kernel
theorem dX12_letterIs_1 : decode cX12_letterIs 1 = .ok (.iload_n 1, 1) := by decide +kernel
theorem dX12_letterIs_2 : decode cX12_letterIs 2 = .ok (.invokevirtual 259, 3) := by decide +kernel
theorem dX12_letterIs_5 : decode cX12_letterIs 5 = .ok (.ifCond .ne 7, 3) := by decide +kernel
theorem dX12_letterIs_8 : decode cX12_letterIs 8 = .ok (.sipush (-1000), 3) := by decide +kernel
theorem dX12_letterIs_11 : decode cX12_letterIs 11 = .ok (.ireturn, 1) := by decide +kernel
theorem dX12_letterIs_12 : decode cX12_letterIs 12 = .ok (.iload_n 2, 1) := by decide +kernel
theorem dX12_letterIs_13 : decode cX12_letterIs 13 = .ok (.tableswitch 99 0 6 #[43, 53, 63, 73, 79, 85, 92], 43) := by decide +kernel
theorem dX12_letterIs_56 : decode cX12_letterIs 56 = .ok (.aload_n 0, 1) := by decide +kernel
theorem dX12_letterIs_57 : decode cX12_letterIs 57 = .ok (.getfield 7, 3) := by decide +kernel
theorem dX12_letterIs_60 : decode cX12_letterIs 60 = .ok (.bipush 8, 2) := by decide +kernel
theorem dX12_letterIs_62 : decode cX12_letterIs 62 = .ok (.iload_n 1, 1) := by decide +kernel
theorem dX12_letterIs_63 : decode cX12_letterIs 63 = .ok (.iadd, 1) := by decide +kernel
theorem dX12_letterIs_64 : decode cX12_letterIs 64 = .ok (.iaload, 1) := by decide +kernel
theorem dX12_letterIs_65 : decode cX12_letterIs 65 = .ok (.ireturn, 1) := by decide +kernel
theorem dX12_letterIs_66 : decode cX12_letterIs 66 = .ok (.aload_n 0, 1) := by decide +kernel
theorem dX12_letterIs_67 : decode cX12_letterIs 67 = .ok (.getfield 7, 3) := by decide +kernel
theorem dX12_letterIs_70 : decode cX12_letterIs 70 = .ok (.bipush 16, 2) := by decide +kernel
theorem dX12_letterIs_72 : decode cX12_letterIs 72 = .ok (.iload_n 1, 1) := by decide +kernel
theorem dX12_letterIs_73 : decode cX12_letterIs 73 = .ok (.iadd, 1) := by decide +kernel
theorem dX12_letterIs_74 : decode cX12_letterIs 74 = .ok (.iaload, 1) := by decide +kernel
theorem dX12_letterIs_75 : decode cX12_letterIs 75 = .ok (.ireturn, 1) := by decide +kernel
theorem dX12_letterIs_76 : decode cX12_letterIs 76 = .ok (.aload_n 0, 1) := by decide +kernel
theorem dX12_letterIs_77 : decode cX12_letterIs 77 = .ok (.getfield 7, 3) := by decide +kernel
theorem dX12_letterIs_80 : decode cX12_letterIs 80 = .ok (.bipush 24, 2) := by decide +kernel
theorem dX12_letterIs_82 : decode cX12_letterIs 82 = .ok (.iload_n 1, 1) := by decide +kernel
theorem dX12_letterIs_83 : decode cX12_letterIs 83 = .ok (.iadd, 1) := by decide +kernel
theorem dX12_letterIs_84 : decode cX12_letterIs 84 = .ok (.iaload, 1) := by decide +kernel
theorem dX12_letterIs_85 : decode cX12_letterIs 85 = .ok (.ireturn, 1) := by decide +kernel
theorem dX12_letterIs_86 : decode cX12_letterIs 86 = .ok (.aload_n 0, 1) := by decide +kernel
theorem dX12_letterIs_87 : decode cX12_letterIs 87 = .ok (.iload_n 1, 1) := by decide +kernel
theorem dX12_letterIs_88 : decode cX12_letterIs 88 = .ok (.invokevirtual 290, 3) := by decide +kernel
theorem dX12_letterIs_91 : decode cX12_letterIs 91 = .ok (.ireturn, 1) := by decide +kernel
theorem dX12_letterIs_92 : decode cX12_letterIs 92 = .ok (.aload_n 0, 1) := by decide +kernel
theorem dX12_letterIs_93 : decode cX12_letterIs 93 = .ok (.iload_n 1, 1) := by decide +kernel
theorem dX12_letterIs_94 : decode cX12_letterIs 94 = .ok (.invokevirtual 347, 3) := by decide +kernel
theorem dX12_letterIs_97 : decode cX12_letterIs 97 = .ok (.ireturn, 1) := by decide +kernel
theorem dX12_letterIs_98 : decode cX12_letterIs 98 = .ok (.aload_n 0, 1) := by decide +kernel
theorem dX12_letterIs_99 : decode cX12_letterIs 99 = .ok (.iload_n 1, 1) := by decide +kernel
theorem dX12_letterIs_100 : decode cX12_letterIs 100 = .ok (.iconst 1, 1) := by decide +kernel
theorem dX12_letterIs_101 : decode cX12_letterIs 101 = .ok (.invokevirtual 350, 3) := by decide +kernel
theorem dX12_letterIs_104 : decode cX12_letterIs 104 = .ok (.ireturn, 1) := by decide +kernel
theorem dX12_letterIs_105 : decode cX12_letterIs 105 = .ok (.aload_n 0, 1) := by decide +kernel
theorem dX12_letterIs_106 : decode cX12_letterIs 106 = .ok (.iload_n 1, 1) := by decide +kernel
theorem dX12_letterIs_107 : decode cX12_letterIs 107 = .ok (.iconst 0, 1) := by decide +kernel
theorem dX12_letterIs_108 : decode cX12_letterIs 108 = .ok (.invokevirtual 350, 3) := by decide +kernel
theorem dX12_letterIs_111 : decode cX12_letterIs 111 = .ok (.ireturn, 1) := by decide +kernel
theorem dX12_letterIs_112 : decode cX12_letterIs 112 = .ok (.sipush (-1000), 3) := by decide +kernel
theorem dX12_letterIs_115 : decode cX12_letterIs 115 = .ok (.ireturn, 1) := by decide +kernel
theorem dX12_stampIs_0 : decode cX12_stampIs 0 = .ok (.aload_n 0, 1) := by decide +kernel
theorem dX12_stampIs_1 : decode cX12_stampIs 1 = .ok (.iload_n 1, 1) := by decide +kernel
theorem dX12_stampIs_2 : decode cX12_stampIs 2 = .ok (.invokevirtual 113, 3) := by decide +kernel
theorem dX12_stampIs_5 : decode cX12_stampIs 5 = .ok (.ifCond .ne 5, 3) := by decide +kernel
theorem dX12_stampIs_8 : decode cX12_stampIs 8 = .ok (.iconst (-1), 1) := by decide +kernel
theorem dX12_stampIs_9 : decode cX12_stampIs 9 = .ok (.ireturn, 1) := by decide +kernel
theorem dX12_stampIs_10 : decode cX12_stampIs 10 = .ok (.iload_n 2, 1) := by decide +kernel
theorem dX12_stampIs_11 : decode cX12_stampIs 11 = .ok (.tableswitch 59 0 3 #[29, 36, 43, 53], 29) := by decide +kernel
theorem dX12_stampIs_40 : decode cX12_stampIs 40 = .ok (.aload_n 0, 1) := by decide +kernel
theorem dX12_stampIs_41 : decode cX12_stampIs 41 = .ok (.getfield 22, 3) := by decide +kernel
theorem dX12_stampIs_44 : decode cX12_stampIs 44 = .ok (.iload_n 1, 1) := by decide +kernel
theorem dX12_stampIs_45 : decode cX12_stampIs 45 = .ok (.iaload, 1) := by decide +kernel
theorem dX12_stampIs_46 : decode cX12_stampIs 46 = .ok (.ireturn, 1) := by decide +kernel
theorem dX12_stampIs_47 : decode cX12_stampIs 47 = .ok (.aload_n 0, 1) := by decide +kernel
theorem dX12_stampIs_48 : decode cX12_stampIs 48 = .ok (.getfield 25, 3) := by decide +kernel
theorem dX12_stampIs_51 : decode cX12_stampIs 51 = .ok (.iload_n 1, 1) := by decide +kernel
theorem dX12_stampIs_52 : decode cX12_stampIs 52 = .ok (.iaload, 1) := by decide +kernel
theorem dX12_stampIs_53 : decode cX12_stampIs 53 = .ok (.ireturn, 1) := by decide +kernel
theorem dX12_stampIs_54 : decode cX12_stampIs 54 = .ok (.aload_n 0, 1) := by decide +kernel
theorem dX12_stampIs_55 : decode cX12_stampIs 55 = .ok (.getfield 7, 3) := by decide +kernel
theorem dX12_stampIs_58 : decode cX12_stampIs 58 = .ok (.bipush 80, 2) := by decide +kernel
theorem dX12_stampIs_60 : decode cX12_stampIs 60 = .ok (.iload_n 1, 1) := by decide +kernel
theorem dX12_stampIs_61 : decode cX12_stampIs 61 = .ok (.iadd, 1) := by decide +kernel
theorem dX12_stampIs_62 : decode cX12_stampIs 62 = .ok (.iaload, 1) := by decide +kernel
theorem dX12_stampIs_63 : decode cX12_stampIs 63 = .ok (.ireturn, 1) := by decide +kernel
theorem dX12_stampIs_64 : decode cX12_stampIs 64 = .ok (.aload_n 0, 1) := by decide +kernel
theorem dX12_stampIs_65 : decode cX12_stampIs 65 = .ok (.iload_n 1, 1) := by decide +kernel
theorem dX12_stampIs_66 : decode cX12_stampIs 66 = .ok (.invokevirtual 354, 3) := by decide +kernel
theorem dX12_stampIs_69 : decode cX12_stampIs 69 = .ok (.ireturn, 1) := by decide +kernel
theorem dX12_stampIs_70 : decode cX12_stampIs 70 = .ok (.iconst (-1), 1) := by decide +kernel
theorem dX12_stampIs_71 : decode cX12_stampIs 71 = .ok (.ireturn, 1) := by decide +kernel
theorem dX12_comes_0 : decode cX12_comes 0 = .ok (.aload_n 0, 1) := by decide +kernel
theorem dX12_comes_1 : decode cX12_comes 1 = .ok (.iload_n 1, 1) := by decide +kernel
theorem dX12_comes_2 : decode cX12_comes 2 = .ok (.invokevirtual 259, 3) := by decide +kernel
theorem dX12_comes_5 : decode cX12_comes 5 = .ok (.ifCond .eq 20, 3) := by decide +kernel
theorem dX12_comes_8 : decode cX12_comes 8 = .ok (.iload_n 2, 1) := by decide +kernel
theorem dX12_comes_9 : decode cX12_comes 9 = .ok (.invokestatic 357, 3) := by decide +kernel
theorem dX12_comes_12 : decode cX12_comes 12 = .ok (.ifCond .eq 13, 3) := by decide +kernel
theorem dX12_comes_15 : decode cX12_comes 15 = .ok (.iload_n 3, 1) := by decide +kernel
theorem dX12_comes_16 : decode cX12_comes 16 = .ok (.iconst 1, 1) := by decide +kernel
theorem dX12_comes_17 : decode cX12_comes 17 = .ok (.bipush 100, 2) := by decide +kernel
theorem dX12_comes_19 : decode cX12_comes 19 = .ok (.invokestatic 105, 3) := by decide +kernel
theorem dX12_comes_22 : decode cX12_comes 22 = .ok (.ifCond .ne 5, 3) := by decide +kernel
theorem dX12_comes_25 : decode cX12_comes 25 = .ok (.iconst (-1), 1) := by decide +kernel
theorem dX12_comes_26 : decode cX12_comes 26 = .ok (.ireturn, 1) := by decide +kernel
theorem dX12_comes_27 : decode cX12_comes 27 = .ok (.aload_n 0, 1) := by decide +kernel
theorem dX12_comes_28 : decode cX12_comes 28 = .ok (.getfield 7, 3) := by decide +kernel
theorem dX12_comes_31 : decode cX12_comes 31 = .ok (.aload_n 0, 1) := by decide +kernel
theorem dX12_comes_32 : decode cX12_comes 32 = .ok (.getfield 13, 3) := by decide +kernel
theorem dX12_comes_35 : decode cX12_comes 35 = .ok (.invokestatic 271, 3) := by decide +kernel
theorem dX12_comes_38 : decode cX12_comes 38 = .ok (.iconst 0, 1) := by decide +kernel
theorem dX12_comes_39 : decode cX12_comes 39 = .ok (.istore 4, 2) := by decide +kernel
theorem dX12_comes_41 : decode cX12_comes 41 = .ok (.aload_n 0, 1) := by decide +kernel
theorem dX12_comes_42 : decode cX12_comes 42 = .ok (.getfield 7, 3) := by decide +kernel
theorem dX12_comes_45 : decode cX12_comes 45 = .ok (.bipush 8, 2) := by decide +kernel
theorem dX12_comes_47 : decode cX12_comes 47 = .ok (.iload_n 1, 1) := by decide +kernel
theorem dX12_comes_48 : decode cX12_comes 48 = .ok (.iadd, 1) := by decide +kernel
theorem dX12_comes_49 : decode cX12_comes 49 = .ok (.iaload, 1) := by decide +kernel
theorem dX12_comes_50 : decode cX12_comes 50 = .ok (.iload_n 2, 1) := by decide +kernel
theorem dX12_comes_51 : decode cX12_comes 51 = .ok (.if_icmp .eq 36, 3) := by decide +kernel
theorem dX12_comes_54 : decode cX12_comes 54 = .ok (.iload 4, 2) := by decide +kernel
theorem dX12_comes_56 : decode cX12_comes 56 = .ok (.iload_n 3, 1) := by decide +kernel
theorem dX12_comes_57 : decode cX12_comes 57 = .ok (.if_icmp .ge 30, 3) := by decide +kernel
theorem dX12_comes_60 : decode cX12_comes 60 = .ok (.aload_n 0, 1) := by decide +kernel
theorem dX12_comes_61 : decode cX12_comes 61 = .ok (.getfield 7, 3) := by decide +kernel
theorem dX12_comes_64 : decode cX12_comes 64 = .ok (.sipush 128, 3) := by decide +kernel
theorem dX12_comes_67 : decode cX12_comes 67 = .ok (.iaload, 1) := by decide +kernel
theorem dX12_comes_68 : decode cX12_comes 68 = .ok (.sipush 9999, 3) := by decide +kernel
theorem dX12_comes_71 : decode cX12_comes 71 = .ok (.if_icmp .ge 16, 3) := by decide +kernel
theorem dX12_comes_74 : decode cX12_comes 74 = .ok (.aload_n 0, 1) := by decide +kernel
theorem dX12_comes_75 : decode cX12_comes 75 = .ok (.invokevirtual 335, 3) := by decide +kernel
theorem dX12_comes_78 : decode cX12_comes 78 = .ok (.iload 4, 2) := by decide +kernel
theorem dX12_comes_80 : decode cX12_comes 80 = .ok (.iconst 1, 1) := by decide +kernel
theorem dX12_comes_81 : decode cX12_comes 81 = .ok (.iadd, 1) := by decide +kernel
theorem dX12_comes_82 : decode cX12_comes 82 = .ok (.istore 4, 2) := by decide +kernel
theorem dX12_comes_84 : decode cX12_comes 84 = .ok (.goto (-43), 3) := by decide +kernel
theorem dX12_comes_87 : decode cX12_comes 87 = .ok (.aload_n 0, 1) := by decide +kernel
theorem dX12_comes_88 : decode cX12_comes 88 = .ok (.getfield 7, 3) := by decide +kernel
theorem dX12_comes_91 : decode cX12_comes 91 = .ok (.bipush 8, 2) := by decide +kernel
theorem dX12_comes_93 : decode cX12_comes 93 = .ok (.iload_n 1, 1) := by decide +kernel
theorem dX12_comes_94 : decode cX12_comes 94 = .ok (.iadd, 1) := by decide +kernel
theorem dX12_comes_95 : decode cX12_comes 95 = .ok (.iaload, 1) := by decide +kernel
theorem dX12_comes_96 : decode cX12_comes 96 = .ok (.iload_n 2, 1) := by decide +kernel
theorem dX12_comes_97 : decode cX12_comes 97 = .ok (.if_icmp .ne 7, 3) := by decide +kernel
theorem dX12_comes_100 : decode cX12_comes 100 = .ok (.iconst 1, 1) := by decide +kernel
theorem dX12_comes_101 : decode cX12_comes 101 = .ok (.goto 4, 3) := by decide +kernel
theorem dX12_comes_104 : decode cX12_comes 104 = .ok (.iconst 0, 1) := by decide +kernel
theorem dX12_comes_105 : decode cX12_comes 105 = .ok (.istore 5, 2) := by decide +kernel
theorem dX12_comes_107 : decode cX12_comes 107 = .ok (.aload_n 0, 1) := by decide +kernel
theorem dX12_comes_108 : decode cX12_comes 108 = .ok (.getfield 13, 3) := by decide +kernel
theorem dX12_comes_111 : decode cX12_comes 111 = .ok (.aload_n 0, 1) := by decide +kernel
theorem dX12_comes_112 : decode cX12_comes 112 = .ok (.getfield 7, 3) := by decide +kernel
theorem dX12_comes_115 : decode cX12_comes 115 = .ok (.invokestatic 271, 3) := by decide +kernel
theorem dX12_comes_118 : decode cX12_comes 118 = .ok (.iload 5, 2) := by decide +kernel
theorem dX12_comes_120 : decode cX12_comes 120 = .ok (.ifCond .eq 8, 3) := by decide +kernel
theorem dX12_comes_123 : decode cX12_comes 123 = .ok (.iload 4, 2) := by decide +kernel
theorem dX12_comes_125 : decode cX12_comes 125 = .ok (.goto 5, 3) := by decide +kernel
theorem dX12_comes_128 : decode cX12_comes 128 = .ok (.bipush (-2), 2) := by decide +kernel
theorem dX12_comes_130 : decode cX12_comes 130 = .ok (.ireturn, 1) := by decide +kernel
theorem dX12_atRest_0 : decode cX12_atRest 0 = .ok (.aload_n 0, 1) := by decide +kernel
theorem dX12_atRest_1 : decode cX12_atRest 1 = .ok (.iload_n 1, 1) := by decide +kernel
theorem dX12_atRest_2 : decode cX12_atRest 2 = .ok (.invokevirtual 259, 3) := by decide +kernel
theorem dX12_atRest_5 : decode cX12_atRest 5 = .ok (.ifCond .eq 13, 3) := by decide +kernel
theorem dX12_atRest_8 : decode cX12_atRest 8 = .ok (.iload_n 2, 1) := by decide +kernel
theorem dX12_atRest_9 : decode cX12_atRest 9 = .ok (.iconst 1, 1) := by decide +kernel
theorem dX12_atRest_10 : decode cX12_atRest 10 = .ok (.bipush 100, 2) := by decide +kernel
theorem dX12_atRest_12 : decode cX12_atRest 12 = .ok (.invokestatic 105, 3) := by decide +kernel
theorem dX12_atRest_15 : decode cX12_atRest 15 = .ok (.ifCond .ne 5, 3) := by decide +kernel
theorem dX12_atRest_18 : decode cX12_atRest 18 = .ok (.iconst (-1), 1) := by decide +kernel
theorem dX12_atRest_19 : decode cX12_atRest 19 = .ok (.ireturn, 1) := by decide +kernel
theorem dX12_atRest_20 : decode cX12_atRest 20 = .ok (.aload_n 0, 1) := by decide +kernel
theorem dX12_atRest_21 : decode cX12_atRest 21 = .ok (.getfield 7, 3) := by decide +kernel
theorem dX12_atRest_24 : decode cX12_atRest 24 = .ok (.aload_n 0, 1) := by decide +kernel
theorem dX12_atRest_25 : decode cX12_atRest 25 = .ok (.getfield 13, 3) := by decide +kernel
theorem dX12_atRest_28 : decode cX12_atRest 28 = .ok (.invokestatic 271, 3) := by decide +kernel
theorem dX12_atRest_31 : decode cX12_atRest 31 = .ok (.iconst 0, 1) := by decide +kernel
theorem dX12_atRest_32 : decode cX12_atRest 32 = .ok (.istore_n 3, 1) := by decide +kernel
theorem dX12_atRest_33 : decode cX12_atRest 33 = .ok (.iconst 1, 1) := by decide +kernel
theorem dX12_atRest_34 : decode cX12_atRest 34 = .ok (.istore 4, 2) := by decide +kernel
theorem dX12_atRest_36 : decode cX12_atRest 36 = .ok (.iload 4, 2) := by decide +kernel
theorem dX12_atRest_38 : decode cX12_atRest 38 = .ok (.iload_n 2, 1) := by decide +kernel
theorem dX12_atRest_39 : decode cX12_atRest 39 = .ok (.if_icmp .gt 55, 3) := by decide +kernel
theorem dX12_atRest_42 : decode cX12_atRest 42 = .ok (.aload_n 0, 1) := by decide +kernel
theorem dX12_atRest_43 : decode cX12_atRest 43 = .ok (.getfield 7, 3) := by decide +kernel
theorem dX12_atRest_46 : decode cX12_atRest 46 = .ok (.sipush 128, 3) := by decide +kernel
theorem dX12_atRest_49 : decode cX12_atRest 49 = .ok (.iaload, 1) := by decide +kernel
theorem dX12_atRest_50 : decode cX12_atRest 50 = .ok (.sipush 9999, 3) := by decide +kernel
theorem dX12_atRest_53 : decode cX12_atRest 53 = .ok (.if_icmp .ge 41, 3) := by decide +kernel
theorem dX12_atRest_56 : decode cX12_atRest 56 = .ok (.aload_n 0, 1) := by decide +kernel
theorem dX12_atRest_57 : decode cX12_atRest 57 = .ok (.getfield 7, 3) := by decide +kernel
theorem dX12_atRest_60 : decode cX12_atRest 60 = .ok (.bipush 8, 2) := by decide +kernel
theorem dX12_atRest_62 : decode cX12_atRest 62 = .ok (.iload_n 1, 1) := by decide +kernel
theorem dX12_atRest_63 : decode cX12_atRest 63 = .ok (.iadd, 1) := by decide +kernel
theorem dX12_atRest_64 : decode cX12_atRest 64 = .ok (.iaload, 1) := by decide +kernel
theorem dX12_atRest_65 : decode cX12_atRest 65 = .ok (.istore 5, 2) := by decide +kernel
theorem dX12_atRest_67 : decode cX12_atRest 67 = .ok (.aload_n 0, 1) := by decide +kernel
theorem dX12_atRest_68 : decode cX12_atRest 68 = .ok (.invokevirtual 335, 3) := by decide +kernel
theorem dX12_atRest_71 : decode cX12_atRest 71 = .ok (.aload_n 0, 1) := by decide +kernel
theorem dX12_atRest_72 : decode cX12_atRest 72 = .ok (.getfield 7, 3) := by decide +kernel
theorem dX12_atRest_75 : decode cX12_atRest 75 = .ok (.bipush 8, 2) := by decide +kernel
theorem dX12_atRest_77 : decode cX12_atRest 77 = .ok (.iload_n 1, 1) := by decide +kernel
theorem dX12_atRest_78 : decode cX12_atRest 78 = .ok (.iadd, 1) := by decide +kernel
theorem dX12_atRest_79 : decode cX12_atRest 79 = .ok (.iaload, 1) := by decide +kernel
theorem dX12_atRest_80 : decode cX12_atRest 80 = .ok (.iload 5, 2) := by decide +kernel
theorem dX12_atRest_82 : decode cX12_atRest 82 = .ok (.if_icmp .eq 6, 3) := by decide +kernel
theorem dX12_atRest_85 : decode cX12_atRest 85 = .ok (.iload 4, 2) := by decide +kernel
theorem dX12_atRest_87 : decode cX12_atRest 87 = .ok (.istore_n 3, 1) := by decide +kernel
theorem dX12_atRest_88 : decode cX12_atRest 88 = .ok (.iinc 4 1, 3) := by decide +kernel
theorem dX12_atRest_91 : decode cX12_atRest 91 = .ok (.goto (-55), 3) := by decide +kernel
theorem dX12_atRest_94 : decode cX12_atRest 94 = .ok (.aload_n 0, 1) := by decide +kernel
theorem dX12_atRest_95 : decode cX12_atRest 95 = .ok (.getfield 13, 3) := by decide +kernel
theorem dX12_atRest_98 : decode cX12_atRest 98 = .ok (.aload_n 0, 1) := by decide +kernel
theorem dX12_atRest_99 : decode cX12_atRest 99 = .ok (.getfield 7, 3) := by decide +kernel
theorem dX12_atRest_102 : decode cX12_atRest 102 = .ok (.invokestatic 271, 3) := by decide +kernel
theorem dX12_atRest_105 : decode cX12_atRest 105 = .ok (.iload_n 3, 1) := by decide +kernel
theorem dX12_atRest_106 : decode cX12_atRest 106 = .ok (.ireturn, 1) := by decide +kernel
theorem dX12_meet_0 : decode cX12_meet 0 = .ok (.aload_n 0, 1) := by decide +kernel
theorem dX12_meet_1 : decode cX12_meet 1 = .ok (.iload_n 1, 1) := by decide +kernel
theorem dX12_meet_2 : decode cX12_meet 2 = .ok (.invokevirtual 259, 3) := by decide +kernel
theorem dX12_meet_5 : decode cX12_meet 5 = .ok (.ifCond .eq 26, 3) := by decide +kernel
theorem dX12_meet_8 : decode cX12_meet 8 = .ok (.aload_n 0, 1) := by decide +kernel
theorem dX12_meet_9 : decode cX12_meet 9 = .ok (.iload_n 2, 1) := by decide +kernel
theorem dX12_meet_10 : decode cX12_meet 10 = .ok (.invokevirtual 259, 3) := by decide +kernel
theorem dX12_meet_13 : decode cX12_meet 13 = .ok (.ifCond .eq 18, 3) := by decide +kernel
theorem dX12_meet_16 : decode cX12_meet 16 = .ok (.iload_n 1, 1) := by decide +kernel
theorem dX12_meet_17 : decode cX12_meet 17 = .ok (.iload_n 2, 1) := by decide +kernel
theorem dX12_meet_18 : decode cX12_meet 18 = .ok (.if_icmp .eq 13, 3) := by decide +kernel
theorem dX12_meet_21 : decode cX12_meet 21 = .ok (.iload_n 3, 1) := by decide +kernel
theorem dX12_meet_22 : decode cX12_meet 22 = .ok (.iconst 1, 1) := by decide +kernel
theorem dX12_meet_23 : decode cX12_meet 23 = .ok (.bipush 100, 2) := by decide +kernel
theorem dX12_meet_25 : decode cX12_meet 25 = .ok (.invokestatic 105, 3) := by decide +kernel
theorem dX12_meet_28 : decode cX12_meet 28 = .ok (.ifCond .ne 5, 3) := by decide +kernel
theorem dX12_meet_31 : decode cX12_meet 31 = .ok (.iconst (-1), 1) := by decide +kernel
theorem dX12_meet_32 : decode cX12_meet 32 = .ok (.ireturn, 1) := by decide +kernel
theorem dX12_meet_33 : decode cX12_meet 33 = .ok (.aload_n 0, 1) := by decide +kernel
theorem dX12_meet_34 : decode cX12_meet 34 = .ok (.getfield 7, 3) := by decide +kernel
theorem dX12_meet_37 : decode cX12_meet 37 = .ok (.aload_n 0, 1) := by decide +kernel
theorem dX12_meet_38 : decode cX12_meet 38 = .ok (.getfield 13, 3) := by decide +kernel
theorem dX12_meet_41 : decode cX12_meet 41 = .ok (.invokestatic 271, 3) := by decide +kernel
theorem dX12_meet_44 : decode cX12_meet 44 = .ok (.iconst 0, 1) := by decide +kernel
theorem dX12_meet_45 : decode cX12_meet 45 = .ok (.istore 4, 2) := by decide +kernel
theorem dX12_meet_47 : decode cX12_meet 47 = .ok (.aload_n 0, 1) := by decide +kernel
theorem dX12_meet_48 : decode cX12_meet 48 = .ok (.getfield 7, 3) := by decide +kernel
theorem dX12_meet_51 : decode cX12_meet 51 = .ok (.bipush 8, 2) := by decide +kernel
theorem dX12_meet_53 : decode cX12_meet 53 = .ok (.iload_n 1, 1) := by decide +kernel
theorem dX12_meet_54 : decode cX12_meet 54 = .ok (.iadd, 1) := by decide +kernel
theorem dX12_meet_55 : decode cX12_meet 55 = .ok (.iaload, 1) := by decide +kernel
theorem dX12_meet_56 : decode cX12_meet 56 = .ok (.aload_n 0, 1) := by decide +kernel
theorem dX12_meet_57 : decode cX12_meet 57 = .ok (.getfield 7, 3) := by decide +kernel
theorem dX12_meet_60 : decode cX12_meet 60 = .ok (.bipush 8, 2) := by decide +kernel
theorem dX12_meet_62 : decode cX12_meet 62 = .ok (.iload_n 2, 1) := by decide +kernel
theorem dX12_meet_63 : decode cX12_meet 63 = .ok (.iadd, 1) := by decide +kernel
theorem dX12_meet_64 : decode cX12_meet 64 = .ok (.iaload, 1) := by decide +kernel
theorem dX12_meet_65 : decode cX12_meet 65 = .ok (.if_icmp .eq 36, 3) := by decide +kernel
theorem dX12_meet_68 : decode cX12_meet 68 = .ok (.iload 4, 2) := by decide +kernel
theorem dX12_meet_70 : decode cX12_meet 70 = .ok (.iload_n 3, 1) := by decide +kernel
theorem dX12_meet_71 : decode cX12_meet 71 = .ok (.if_icmp .ge 30, 3) := by decide +kernel
theorem dX12_meet_74 : decode cX12_meet 74 = .ok (.aload_n 0, 1) := by decide +kernel
theorem dX12_meet_75 : decode cX12_meet 75 = .ok (.getfield 7, 3) := by decide +kernel
theorem dX12_meet_78 : decode cX12_meet 78 = .ok (.sipush 128, 3) := by decide +kernel
theorem dX12_meet_81 : decode cX12_meet 81 = .ok (.iaload, 1) := by decide +kernel
theorem dX12_meet_82 : decode cX12_meet 82 = .ok (.sipush 9999, 3) := by decide +kernel
theorem dX12_meet_85 : decode cX12_meet 85 = .ok (.if_icmp .ge 16, 3) := by decide +kernel
theorem dX12_meet_88 : decode cX12_meet 88 = .ok (.aload_n 0, 1) := by decide +kernel
theorem dX12_meet_89 : decode cX12_meet 89 = .ok (.invokevirtual 335, 3) := by decide +kernel
theorem dX12_meet_92 : decode cX12_meet 92 = .ok (.iload 4, 2) := by decide +kernel
theorem dX12_meet_94 : decode cX12_meet 94 = .ok (.iconst 1, 1) := by decide +kernel
theorem dX12_meet_95 : decode cX12_meet 95 = .ok (.iadd, 1) := by decide +kernel
theorem dX12_meet_96 : decode cX12_meet 96 = .ok (.istore 4, 2) := by decide +kernel
theorem dX12_meet_98 : decode cX12_meet 98 = .ok (.goto (-51), 3) := by decide +kernel
theorem dX12_meet_101 : decode cX12_meet 101 = .ok (.aload_n 0, 1) := by decide +kernel
theorem dX12_meet_102 : decode cX12_meet 102 = .ok (.getfield 7, 3) := by decide +kernel
theorem dX12_meet_105 : decode cX12_meet 105 = .ok (.bipush 8, 2) := by decide +kernel
theorem dX12_meet_107 : decode cX12_meet 107 = .ok (.iload_n 1, 1) := by decide +kernel
theorem dX12_meet_108 : decode cX12_meet 108 = .ok (.iadd, 1) := by decide +kernel
theorem dX12_meet_109 : decode cX12_meet 109 = .ok (.iaload, 1) := by decide +kernel
theorem dX12_meet_110 : decode cX12_meet 110 = .ok (.aload_n 0, 1) := by decide +kernel
theorem dX12_meet_111 : decode cX12_meet 111 = .ok (.getfield 7, 3) := by decide +kernel
theorem dX12_meet_114 : decode cX12_meet 114 = .ok (.bipush 8, 2) := by decide +kernel
theorem dX12_meet_116 : decode cX12_meet 116 = .ok (.iload_n 2, 1) := by decide +kernel
theorem dX12_meet_117 : decode cX12_meet 117 = .ok (.iadd, 1) := by decide +kernel
theorem dX12_meet_118 : decode cX12_meet 118 = .ok (.iaload, 1) := by decide +kernel
theorem dX12_meet_119 : decode cX12_meet 119 = .ok (.if_icmp .ne 7, 3) := by decide +kernel
theorem dX12_meet_122 : decode cX12_meet 122 = .ok (.iconst 1, 1) := by decide +kernel
theorem dX12_meet_123 : decode cX12_meet 123 = .ok (.goto 4, 3) := by decide +kernel
theorem dX12_meet_126 : decode cX12_meet 126 = .ok (.iconst 0, 1) := by decide +kernel
theorem dX12_meet_127 : decode cX12_meet 127 = .ok (.istore 5, 2) := by decide +kernel
theorem dX12_meet_129 : decode cX12_meet 129 = .ok (.aload_n 0, 1) := by decide +kernel
theorem dX12_meet_130 : decode cX12_meet 130 = .ok (.getfield 13, 3) := by decide +kernel
theorem dX12_meet_133 : decode cX12_meet 133 = .ok (.aload_n 0, 1) := by decide +kernel
theorem dX12_meet_134 : decode cX12_meet 134 = .ok (.getfield 7, 3) := by decide +kernel
theorem dX12_meet_137 : decode cX12_meet 137 = .ok (.invokestatic 271, 3) := by decide +kernel
theorem dX12_meet_140 : decode cX12_meet 140 = .ok (.iload 5, 2) := by decide +kernel
theorem dX12_meet_142 : decode cX12_meet 142 = .ok (.ifCond .eq 8, 3) := by decide +kernel
theorem dX12_meet_145 : decode cX12_meet 145 = .ok (.iload 4, 2) := by decide +kernel
theorem dX12_meet_147 : decode cX12_meet 147 = .ok (.goto 5, 3) := by decide +kernel
theorem dX12_meet_150 : decode cX12_meet 150 = .ok (.bipush (-2), 2) := by decide +kernel
theorem dX12_meet_152 : decode cX12_meet 152 = .ok (.ireturn, 1) := by decide +kernel
theorem dX12_again_0 : decode cX12_again 0 = .ok (.aload_n 0, 1) := by decide +kernel
theorem dX12_again_1 : decode cX12_again 1 = .ok (.iload_n 1, 1) := by decide +kernel
theorem dX12_again_2 : decode cX12_again 2 = .ok (.invokevirtual 259, 3) := by decide +kernel
theorem dX12_again_5 : decode cX12_again 5 = .ok (.ifCond .eq 13, 3) := by decide +kernel
theorem dX12_again_8 : decode cX12_again 8 = .ok (.iload_n 2, 1) := by decide +kernel
theorem dX12_again_9 : decode cX12_again 9 = .ok (.iconst 1, 1) := by decide +kernel
theorem dX12_again_10 : decode cX12_again 10 = .ok (.bipush 100, 2) := by decide +kernel
theorem dX12_again_12 : decode cX12_again 12 = .ok (.invokestatic 105, 3) := by decide +kernel
theorem dX12_again_15 : decode cX12_again 15 = .ok (.ifCond .ne 5, 3) := by decide +kernel
theorem dX12_again_18 : decode cX12_again 18 = .ok (.iconst (-1), 1) := by decide +kernel
theorem dX12_again_19 : decode cX12_again 19 = .ok (.ireturn, 1) := by decide +kernel
theorem dX12_again_20 : decode cX12_again 20 = .ok (.aload_n 0, 1) := by decide +kernel
theorem dX12_again_21 : decode cX12_again 21 = .ok (.getfield 7, 3) := by decide +kernel
theorem dX12_again_24 : decode cX12_again 24 = .ok (.aload_n 0, 1) := by decide +kernel
theorem dX12_again_25 : decode cX12_again 25 = .ok (.getfield 13, 3) := by decide +kernel
theorem dX12_again_28 : decode cX12_again 28 = .ok (.invokestatic 271, 3) := by decide +kernel
theorem dX12_again_31 : decode cX12_again 31 = .ok (.iconst 0, 1) := by decide +kernel
theorem dX12_again_32 : decode cX12_again 32 = .ok (.istore_n 3, 1) := by decide +kernel
theorem dX12_again_33 : decode cX12_again 33 = .ok (.iload_n 3, 1) := by decide +kernel
theorem dX12_again_34 : decode cX12_again 34 = .ok (.sipush 384, 3) := by decide +kernel
theorem dX12_again_37 : decode cX12_again 37 = .ok (.if_icmp .ge 16, 3) := by decide +kernel
theorem dX12_again_40 : decode cX12_again 40 = .ok (.aload_n 0, 1) := by decide +kernel
theorem dX12_again_41 : decode cX12_again 41 = .ok (.getfield 93, 3) := by decide +kernel
theorem dX12_again_44 : decode cX12_again 44 = .ok (.iload_n 3, 1) := by decide +kernel
theorem dX12_again_45 : decode cX12_again 45 = .ok (.iconst 0, 1) := by decide +kernel
theorem dX12_again_46 : decode cX12_again 46 = .ok (.bastore, 1) := by decide +kernel
theorem dX12_again_47 : decode cX12_again 47 = .ok (.iinc 3 1, 3) := by decide +kernel
theorem dX12_again_50 : decode cX12_again 50 = .ok (.goto (-17), 3) := by decide +kernel
theorem dX12_again_53 : decode cX12_again 53 = .ok (.aload_n 0, 1) := by decide +kernel
theorem dX12_again_54 : decode cX12_again 54 = .ok (.getfield 93, 3) := by decide +kernel
theorem dX12_again_57 : decode cX12_again 57 = .ok (.aload_n 0, 1) := by decide +kernel
theorem dX12_again_58 : decode cX12_again 58 = .ok (.getfield 7, 3) := by decide +kernel
theorem dX12_again_61 : decode cX12_again 61 = .ok (.bipush 8, 2) := by decide +kernel
theorem dX12_again_63 : decode cX12_again 63 = .ok (.iload_n 1, 1) := by decide +kernel
theorem dX12_again_64 : decode cX12_again 64 = .ok (.iadd, 1) := by decide +kernel
theorem dX12_again_65 : decode cX12_again 65 = .ok (.iaload, 1) := by decide +kernel
theorem dX12_again_66 : decode cX12_again 66 = .ok (.iconst 1, 1) := by decide +kernel
theorem dX12_again_67 : decode cX12_again 67 = .ok (.bastore, 1) := by decide +kernel
theorem dX12_again_68 : decode cX12_again 68 = .ok (.bipush (-2), 2) := by decide +kernel
theorem dX12_again_70 : decode cX12_again 70 = .ok (.istore_n 3, 1) := by decide +kernel
theorem dX12_again_71 : decode cX12_again 71 = .ok (.iconst 1, 1) := by decide +kernel
theorem dX12_again_72 : decode cX12_again 72 = .ok (.istore 4, 2) := by decide +kernel
theorem dX12_again_74 : decode cX12_again 74 = .ok (.iload 4, 2) := by decide +kernel
theorem dX12_again_76 : decode cX12_again 76 = .ok (.iload_n 2, 1) := by decide +kernel
theorem dX12_again_77 : decode cX12_again 77 = .ok (.if_icmp .gt 93, 3) := by decide +kernel
theorem dX12_again_80 : decode cX12_again 80 = .ok (.aload_n 0, 1) := by decide +kernel
theorem dX12_again_81 : decode cX12_again 81 = .ok (.getfield 7, 3) := by decide +kernel
theorem dX12_again_84 : decode cX12_again 84 = .ok (.sipush 128, 3) := by decide +kernel
theorem dX12_again_87 : decode cX12_again 87 = .ok (.iaload, 1) := by decide +kernel
theorem dX12_again_88 : decode cX12_again 88 = .ok (.sipush 9999, 3) := by decide +kernel
theorem dX12_again_91 : decode cX12_again 91 = .ok (.if_icmp .ge 79, 3) := by decide +kernel
theorem dX12_again_94 : decode cX12_again 94 = .ok (.iload_n 3, 1) := by decide +kernel
theorem dX12_again_95 : decode cX12_again 95 = .ok (.bipush (-2), 2) := by decide +kernel
theorem dX12_again_97 : decode cX12_again 97 = .ok (.if_icmp .ne 73, 3) := by decide +kernel
theorem dX12_again_100 : decode cX12_again 100 = .ok (.aload_n 0, 1) := by decide +kernel
theorem dX12_again_101 : decode cX12_again 101 = .ok (.getfield 7, 3) := by decide +kernel
theorem dX12_again_104 : decode cX12_again 104 = .ok (.bipush 8, 2) := by decide +kernel
theorem dX12_again_106 : decode cX12_again 106 = .ok (.iload_n 1, 1) := by decide +kernel
theorem dX12_again_107 : decode cX12_again 107 = .ok (.iadd, 1) := by decide +kernel
theorem dX12_again_108 : decode cX12_again 108 = .ok (.iaload, 1) := by decide +kernel
theorem dX12_again_109 : decode cX12_again 109 = .ok (.istore 5, 2) := by decide +kernel
theorem dX12_again_111 : decode cX12_again 111 = .ok (.aload_n 0, 1) := by decide +kernel
theorem dX12_again_112 : decode cX12_again 112 = .ok (.invokevirtual 335, 3) := by decide +kernel
theorem dX12_again_115 : decode cX12_again 115 = .ok (.aload_n 0, 1) := by decide +kernel
theorem dX12_again_116 : decode cX12_again 116 = .ok (.getfield 7, 3) := by decide +kernel
theorem dX12_again_119 : decode cX12_again 119 = .ok (.bipush 8, 2) := by decide +kernel
theorem dX12_again_121 : decode cX12_again 121 = .ok (.iload_n 1, 1) := by decide +kernel
theorem dX12_again_122 : decode cX12_again 122 = .ok (.iadd, 1) := by decide +kernel
theorem dX12_again_123 : decode cX12_again 123 = .ok (.iaload, 1) := by decide +kernel
theorem dX12_again_124 : decode cX12_again 124 = .ok (.iload 5, 2) := by decide +kernel
theorem dX12_again_126 : decode cX12_again 126 = .ok (.if_icmp .eq 23, 3) := by decide +kernel
theorem dX12_again_129 : decode cX12_again 129 = .ok (.aload_n 0, 1) := by decide +kernel
theorem dX12_again_130 : decode cX12_again 130 = .ok (.getfield 93, 3) := by decide +kernel
theorem dX12_again_133 : decode cX12_again 133 = .ok (.aload_n 0, 1) := by decide +kernel
theorem dX12_again_134 : decode cX12_again 134 = .ok (.getfield 7, 3) := by decide +kernel
theorem dX12_again_137 : decode cX12_again 137 = .ok (.bipush 8, 2) := by decide +kernel
theorem dX12_again_139 : decode cX12_again 139 = .ok (.iload_n 1, 1) := by decide +kernel
theorem dX12_again_140 : decode cX12_again 140 = .ok (.iadd, 1) := by decide +kernel
theorem dX12_again_141 : decode cX12_again 141 = .ok (.iaload, 1) := by decide +kernel
theorem dX12_again_142 : decode cX12_again 142 = .ok (.baload, 1) := by decide +kernel
theorem dX12_again_143 : decode cX12_again 143 = .ok (.ifCond .eq 6, 3) := by decide +kernel
theorem dX12_again_146 : decode cX12_again 146 = .ok (.iload 4, 2) := by decide +kernel
theorem dX12_again_148 : decode cX12_again 148 = .ok (.istore_n 3, 1) := by decide +kernel
theorem dX12_again_149 : decode cX12_again 149 = .ok (.aload_n 0, 1) := by decide +kernel
theorem dX12_again_150 : decode cX12_again 150 = .ok (.getfield 93, 3) := by decide +kernel
theorem dX12_again_153 : decode cX12_again 153 = .ok (.aload_n 0, 1) := by decide +kernel
theorem dX12_again_154 : decode cX12_again 154 = .ok (.getfield 7, 3) := by decide +kernel
theorem dX12_again_157 : decode cX12_again 157 = .ok (.bipush 8, 2) := by decide +kernel
theorem dX12_again_159 : decode cX12_again 159 = .ok (.iload_n 1, 1) := by decide +kernel
theorem dX12_again_160 : decode cX12_again 160 = .ok (.iadd, 1) := by decide +kernel
theorem dX12_again_161 : decode cX12_again 161 = .ok (.iaload, 1) := by decide +kernel
theorem dX12_again_162 : decode cX12_again 162 = .ok (.iconst 1, 1) := by decide +kernel
theorem dX12_again_163 : decode cX12_again 163 = .ok (.bastore, 1) := by decide +kernel
theorem dX12_again_164 : decode cX12_again 164 = .ok (.iinc 4 1, 3) := by decide +kernel
theorem dX12_again_167 : decode cX12_again 167 = .ok (.goto (-93), 3) := by decide +kernel
theorem dX12_again_170 : decode cX12_again 170 = .ok (.aload_n 0, 1) := by decide +kernel
theorem dX12_again_171 : decode cX12_again 171 = .ok (.getfield 13, 3) := by decide +kernel
theorem dX12_again_174 : decode cX12_again 174 = .ok (.aload_n 0, 1) := by decide +kernel
theorem dX12_again_175 : decode cX12_again 175 = .ok (.getfield 7, 3) := by decide +kernel
theorem dX12_again_178 : decode cX12_again 178 = .ok (.invokestatic 271, 3) := by decide +kernel
theorem dX12_again_181 : decode cX12_again 181 = .ok (.iload_n 3, 1) := by decide +kernel
theorem dX12_again_182 : decode cX12_again 182 = .ok (.ireturn, 1) := by decide +kernel
theorem dX12_home_0 : decode cX12_home 0 = .ok (.aload_n 0, 1) := by decide +kernel
theorem dX12_home_1 : decode cX12_home 1 = .ok (.iload_n 1, 1) := by decide +kernel
theorem dX12_home_2 : decode cX12_home 2 = .ok (.invokevirtual 259, 3) := by decide +kernel
theorem dX12_home_5 : decode cX12_home 5 = .ok (.ifCond .eq 12, 3) := by decide +kernel
theorem dX12_home_8 : decode cX12_home 8 = .ok (.iload_n 2, 1) := by decide +kernel
theorem dX12_home_9 : decode cX12_home 9 = .ok (.iconst 0, 1) := by decide +kernel
theorem dX12_home_10 : decode cX12_home 10 = .ok (.iconst 1, 1) := by decide +kernel
theorem dX12_home_11 : decode cX12_home 11 = .ok (.invokestatic 105, 3) := by decide +kernel
theorem dX12_home_14 : decode cX12_home 14 = .ok (.ifCond .ne 5, 3) := by decide +kernel
theorem dX12_home_17 : decode cX12_home 17 = .ok (.iconst (-1), 1) := by decide +kernel
theorem dX12_home_18 : decode cX12_home 18 = .ok (.ireturn, 1) := by decide +kernel
theorem dX12_home_19 : decode cX12_home 19 = .ok (.bipush (-2), 2) := by decide +kernel
theorem dX12_home_21 : decode cX12_home 21 = .ok (.istore_n 3, 1) := by decide +kernel
theorem dX12_home_22 : decode cX12_home 22 = .ok (.iconst 0, 1) := by decide +kernel
theorem dX12_home_23 : decode cX12_home 23 = .ok (.istore 4, 2) := by decide +kernel
theorem dX12_home_25 : decode cX12_home 25 = .ok (.iconst 0, 1) := by decide +kernel
theorem dX12_home_26 : decode cX12_home 26 = .ok (.istore 5, 2) := by decide +kernel
theorem dX12_home_28 : decode cX12_home 28 = .ok (.iload 5, 2) := by decide +kernel
theorem dX12_home_30 : decode cX12_home 30 = .ok (.bipush 8, 2) := by decide +kernel
theorem dX12_home_32 : decode cX12_home 32 = .ok (.if_icmp .ge 79, 3) := by decide +kernel
theorem dX12_home_35 : decode cX12_home 35 = .ok (.iconst 0, 1) := by decide +kernel
theorem dX12_home_36 : decode cX12_home 36 = .ok (.istore 6, 2) := by decide +kernel
theorem dX12_home_38 : decode cX12_home 38 = .ok (.iconst 0, 1) := by decide +kernel
theorem dX12_home_39 : decode cX12_home 39 = .ok (.istore 7, 2) := by decide +kernel
theorem dX12_home_41 : decode cX12_home 41 = .ok (.iload 7, 2) := by decide +kernel
theorem dX12_home_43 : decode cX12_home 43 = .ok (.bipush 48, 2) := by decide +kernel
theorem dX12_home_45 : decode cX12_home 45 = .ok (.if_icmp .ge 43, 3) := by decide +kernel
theorem dX12_home_48 : decode cX12_home 48 = .ok (.aload_n 0, 1) := by decide +kernel
theorem dX12_home_49 : decode cX12_home 49 = .ok (.iload 7, 2) := by decide +kernel
theorem dX12_home_51 : decode cX12_home 51 = .ok (.iload_n 1, 1) := by decide +kernel
theorem dX12_home_52 : decode cX12_home 52 = .ok (.invokevirtual 287, 3) := by decide +kernel
theorem dX12_home_55 : decode cX12_home 55 = .ok (.ifCond .eq 27, 3) := by decide +kernel
theorem dX12_home_58 : decode cX12_home 58 = .ok (.aload_n 0, 1) := by decide +kernel
theorem dX12_home_59 : decode cX12_home 59 = .ok (.getfield 22, 3) := by decide +kernel
theorem dX12_home_62 : decode cX12_home 62 = .ok (.iload 7, 2) := by decide +kernel
theorem dX12_home_64 : decode cX12_home 64 = .ok (.iaload, 1) := by decide +kernel
theorem dX12_home_65 : decode cX12_home 65 = .ok (.iload 5, 2) := by decide +kernel
theorem dX12_home_67 : decode cX12_home 67 = .ok (.if_icmp .ne 15, 3) := by decide +kernel
theorem dX12_home_70 : decode cX12_home 70 = .ok (.iload 6, 2) := by decide +kernel
theorem dX12_home_72 : decode cX12_home 72 = .ok (.aload_n 0, 1) := by decide +kernel
theorem dX12_home_73 : decode cX12_home 73 = .ok (.getfield 25, 3) := by decide +kernel
theorem dX12_home_76 : decode cX12_home 76 = .ok (.iload 7, 2) := by decide +kernel
theorem dX12_home_78 : decode cX12_home 78 = .ok (.iaload, 1) := by decide +kernel
theorem dX12_home_79 : decode cX12_home 79 = .ok (.iadd, 1) := by decide +kernel
theorem dX12_home_80 : decode cX12_home 80 = .ok (.istore 6, 2) := by decide +kernel
theorem dX12_home_82 : decode cX12_home 82 = .ok (.iinc 7 1, 3) := by decide +kernel
theorem dX12_home_85 : decode cX12_home 85 = .ok (.goto (-44), 3) := by decide +kernel
theorem dX12_home_88 : decode cX12_home 88 = .ok (.iload 6, 2) := by decide +kernel
theorem dX12_home_90 : decode cX12_home 90 = .ok (.iload 4, 2) := by decide +kernel
theorem dX12_home_92 : decode cX12_home 92 = .ok (.if_icmp .gt 6, 3) := by decide +kernel
theorem dX12_home_95 : decode cX12_home 95 = .ok (.goto 10, 3) := by decide +kernel
theorem dX12_home_98 : decode cX12_home 98 = .ok (.iload 6, 2) := by decide +kernel
theorem dX12_home_100 : decode cX12_home 100 = .ok (.istore 4, 2) := by decide +kernel
theorem dX12_home_102 : decode cX12_home 102 = .ok (.iload 5, 2) := by decide +kernel
theorem dX12_home_104 : decode cX12_home 104 = .ok (.istore_n 3, 1) := by decide +kernel
theorem dX12_home_105 : decode cX12_home 105 = .ok (.iinc 5 1, 3) := by decide +kernel
theorem dX12_home_108 : decode cX12_home 108 = .ok (.goto (-80), 3) := by decide +kernel
theorem dX12_home_111 : decode cX12_home 111 = .ok (.iload_n 2, 1) := by decide +kernel
theorem dX12_home_112 : decode cX12_home 112 = .ok (.ifCond .ne 7, 3) := by decide +kernel
theorem dX12_home_115 : decode cX12_home 115 = .ok (.iload_n 3, 1) := by decide +kernel
theorem dX12_home_116 : decode cX12_home 116 = .ok (.goto 5, 3) := by decide +kernel
theorem dX12_home_119 : decode cX12_home 119 = .ok (.iload 4, 2) := by decide +kernel
theorem dX12_home_121 : decode cX12_home 121 = .ok (.ireturn, 1) := by decide +kernel
theorem dX12_lying_0 : decode cX12_lying 0 = .ok (.iload_n 1, 1) := by decide +kernel
theorem dX12_lying_1 : decode cX12_lying 1 = .ok (.invokestatic 357, 3) := by decide +kernel
theorem dX12_lying_4 : decode cX12_lying 4 = .ok (.ifCond .ne 5, 3) := by decide +kernel
theorem dX12_lying_7 : decode cX12_lying 7 = .ok (.iconst (-1), 1) := by decide +kernel
theorem dX12_lying_8 : decode cX12_lying 8 = .ok (.ireturn, 1) := by decide +kernel
theorem dX12_lying_9 : decode cX12_lying 9 = .ok (.iconst 0, 1) := by decide +kernel
theorem dX12_lying_10 : decode cX12_lying 10 = .ok (.istore_n 2, 1) := by decide +kernel
theorem dX12_lying_11 : decode cX12_lying 11 = .ok (.iconst 0, 1) := by decide +kernel
theorem dX12_lying_12 : decode cX12_lying 12 = .ok (.istore_n 3, 1) := by decide +kernel
theorem dX12_lying_13 : decode cX12_lying 13 = .ok (.iload_n 3, 1) := by decide +kernel
theorem dX12_lying_14 : decode cX12_lying 14 = .ok (.bipush 8, 2) := by decide +kernel
theorem dX12_lying_16 : decode cX12_lying 16 = .ok (.if_icmp .ge 36, 3) := by decide +kernel
theorem dX12_lying_19 : decode cX12_lying 19 = .ok (.aload_n 0, 1) := by decide +kernel
theorem dX12_lying_20 : decode cX12_lying 20 = .ok (.iload_n 3, 1) := by decide +kernel
theorem dX12_lying_21 : decode cX12_lying 21 = .ok (.invokevirtual 259, 3) := by decide +kernel
theorem dX12_lying_24 : decode cX12_lying 24 = .ok (.ifCond .eq 22, 3) := by decide +kernel
theorem dX12_lying_27 : decode cX12_lying 27 = .ok (.aload_n 0, 1) := by decide +kernel
theorem dX12_lying_28 : decode cX12_lying 28 = .ok (.getfield 7, 3) := by decide +kernel
theorem dX12_lying_31 : decode cX12_lying 31 = .ok (.bipush 8, 2) := by decide +kernel
theorem dX12_lying_33 : decode cX12_lying 33 = .ok (.iload_n 3, 1) := by decide +kernel
theorem dX12_lying_34 : decode cX12_lying 34 = .ok (.iadd, 1) := by decide +kernel
theorem dX12_lying_35 : decode cX12_lying 35 = .ok (.iaload, 1) := by decide +kernel
theorem dX12_lying_36 : decode cX12_lying 36 = .ok (.iload_n 1, 1) := by decide +kernel
theorem dX12_lying_37 : decode cX12_lying 37 = .ok (.if_icmp .ne 9, 3) := by decide +kernel
theorem dX12_lying_40 : decode cX12_lying 40 = .ok (.iload_n 2, 1) := by decide +kernel
theorem dX12_lying_41 : decode cX12_lying 41 = .ok (.iconst 1, 1) := by decide +kernel
theorem dX12_lying_42 : decode cX12_lying 42 = .ok (.iload_n 3, 1) := by decide +kernel
theorem dX12_lying_43 : decode cX12_lying 43 = .ok (.ishl, 1) := by decide +kernel
theorem dX12_lying_44 : decode cX12_lying 44 = .ok (.ior, 1) := by decide +kernel
theorem dX12_lying_45 : decode cX12_lying 45 = .ok (.istore_n 2, 1) := by decide +kernel
theorem dX12_lying_46 : decode cX12_lying 46 = .ok (.iinc 3 1, 3) := by decide +kernel
theorem dX12_lying_49 : decode cX12_lying 49 = .ok (.goto (-36), 3) := by decide +kernel
theorem dX12_lying_52 : decode cX12_lying 52 = .ok (.iload_n 2, 1) := by decide +kernel
theorem dX12_lying_53 : decode cX12_lying 53 = .ok (.ireturn, 1) := by decide +kernel
theorem dX12_stamped_0 : decode cX12_stamped 0 = .ok (.iload_n 1, 1) := by decide +kernel
theorem dX12_stamped_1 : decode cX12_stamped 1 = .ok (.iconst 1, 1) := by decide +kernel
theorem dX12_stamped_2 : decode cX12_stamped 2 = .ok (.bipush 9, 2) := by decide +kernel
theorem dX12_stamped_4 : decode cX12_stamped 4 = .ok (.invokestatic 105, 3) := by decide +kernel
theorem dX12_stamped_7 : decode cX12_stamped 7 = .ok (.ifCond .eq 46, 3) := by decide +kernel
theorem dX12_stamped_10 : decode cX12_stamped 10 = .ok (.iload_n 2, 1) := by decide +kernel
theorem dX12_stamped_11 : decode cX12_stamped 11 = .ok (.invokestatic 357, 3) := by decide +kernel
theorem dX12_stamped_14 : decode cX12_stamped 14 = .ok (.ifCond .eq 39, 3) := by decide +kernel
theorem dX12_stamped_17 : decode cX12_stamped 17 = .ok (.iload_n 3, 1) := by decide +kernel
theorem dX12_stamped_18 : decode cX12_stamped 18 = .ok (.invokestatic 357, 3) := by decide +kernel
theorem dX12_stamped_21 : decode cX12_stamped 21 = .ok (.ifCond .eq 32, 3) := by decide +kernel
theorem dX12_stamped_24 : decode cX12_stamped 24 = .ok (.iload 4, 2) := by decide +kernel
theorem dX12_stamped_26 : decode cX12_stamped 26 = .ok (.iconst 0, 1) := by decide +kernel
theorem dX12_stamped_27 : decode cX12_stamped 27 = .ok (.bipush 60, 2) := by decide +kernel
theorem dX12_stamped_29 : decode cX12_stamped 29 = .ok (.invokestatic 105, 3) := by decide +kernel
theorem dX12_stamped_32 : decode cX12_stamped 32 = .ok (.ifCond .eq 21, 3) := by decide +kernel
theorem dX12_stamped_35 : decode cX12_stamped 35 = .ok (.iload 5, 2) := by decide +kernel
theorem dX12_stamped_37 : decode cX12_stamped 37 = .ok (.iconst 0, 1) := by decide +kernel
theorem dX12_stamped_38 : decode cX12_stamped 38 = .ok (.iconst 1, 1) := by decide +kernel
theorem dX12_stamped_39 : decode cX12_stamped 39 = .ok (.invokestatic 105, 3) := by decide +kernel
theorem dX12_stamped_42 : decode cX12_stamped 42 = .ok (.ifCond .eq 11, 3) := by decide +kernel
theorem dX12_stamped_45 : decode cX12_stamped 45 = .ok (.iload_n 1, 1) := by decide +kernel
theorem dX12_stamped_46 : decode cX12_stamped 46 = .ok (.aload_n 0, 1) := by decide +kernel
theorem dX12_stamped_47 : decode cX12_stamped 47 = .ok (.getfield 117, 3) := by decide +kernel
theorem dX12_stamped_50 : decode cX12_stamped 50 = .ok (.if_icmp .le 5, 3) := by decide +kernel
theorem dX12_stamped_53 : decode cX12_stamped 53 = .ok (.iconst (-1), 1) := by decide +kernel
theorem dX12_stamped_54 : decode cX12_stamped 54 = .ok (.ireturn, 1) := by decide +kernel
theorem dX12_stamped_55 : decode cX12_stamped 55 = .ok (.aload_n 0, 1) := by decide +kernel
theorem dX12_stamped_56 : decode cX12_stamped 56 = .ok (.iload_n 1, 1) := by decide +kernel
theorem dX12_stamped_57 : decode cX12_stamped 57 = .ok (.invokevirtual 376, 3) := by decide +kernel
theorem dX12_stamped_60 : decode cX12_stamped 60 = .ok (.ifCond .ne 6, 3) := by decide +kernel
theorem dX12_stamped_63 : decode cX12_stamped 63 = .ok (.bipush (-3), 2) := by decide +kernel
theorem dX12_stamped_65 : decode cX12_stamped 65 = .ok (.ireturn, 1) := by decide +kernel
theorem dX12_stamped_66 : decode cX12_stamped 66 = .ok (.bipush (-2), 2) := by decide +kernel
theorem dX12_stamped_68 : decode cX12_stamped 68 = .ok (.istore 6, 2) := by decide +kernel
theorem dX12_stamped_70 : decode cX12_stamped 70 = .ok (.iconst 0, 1) := by decide +kernel
theorem dX12_stamped_71 : decode cX12_stamped 71 = .ok (.istore 7, 2) := by decide +kernel
theorem dX12_stamped_73 : decode cX12_stamped 73 = .ok (.iload 7, 2) := by decide +kernel
theorem dX12_stamped_75 : decode cX12_stamped 75 = .ok (.iconst 1, 1) := by decide +kernel
theorem dX12_stamped_76 : decode cX12_stamped 76 = .ok (.iload_n 1, 1) := by decide +kernel
theorem dX12_stamped_77 : decode cX12_stamped 77 = .ok (.ishl, 1) := by decide +kernel
theorem dX12_stamped_78 : decode cX12_stamped 78 = .ok (.if_icmp .ge 37, 3) := by decide +kernel
theorem dX12_stamped_81 : decode cX12_stamped 81 = .ok (.iload 7, 2) := by decide +kernel
theorem dX12_stamped_83 : decode cX12_stamped 83 = .ok (.iload 6, 2) := by decide +kernel
theorem dX12_stamped_85 : decode cX12_stamped 85 = .ok (.invokestatic 379, 3) := by decide +kernel
theorem dX12_stamped_88 : decode cX12_stamped 88 = .ok (.ifCond .eq 21, 3) := by decide +kernel
theorem dX12_stamped_91 : decode cX12_stamped 91 = .ok (.aload_n 0, 1) := by decide +kernel
theorem dX12_stamped_92 : decode cX12_stamped 92 = .ok (.iload 7, 2) := by decide +kernel
theorem dX12_stamped_94 : decode cX12_stamped 94 = .ok (.iload_n 1, 1) := by decide +kernel
theorem dX12_stamped_95 : decode cX12_stamped 95 = .ok (.iload_n 2, 1) := by decide +kernel
theorem dX12_stamped_96 : decode cX12_stamped 96 = .ok (.iload_n 3, 1) := by decide +kernel
theorem dX12_stamped_97 : decode cX12_stamped 97 = .ok (.iload 4, 2) := by decide +kernel
theorem dX12_stamped_99 : decode cX12_stamped 99 = .ok (.invokevirtual 382, 3) := by decide +kernel
theorem dX12_stamped_102 : decode cX12_stamped 102 = .ok (.ifCond .eq 7, 3) := by decide +kernel
theorem dX12_stamped_105 : decode cX12_stamped 105 = .ok (.iload 7, 2) := by decide +kernel
theorem dX12_stamped_107 : decode cX12_stamped 107 = .ok (.istore 6, 2) := by decide +kernel
theorem dX12_stamped_109 : decode cX12_stamped 109 = .ok (.iinc 7 1, 3) := by decide +kernel
theorem dX12_stamped_112 : decode cX12_stamped 112 = .ok (.goto (-39), 3) := by decide +kernel
theorem dX12_stamped_115 : decode cX12_stamped 115 = .ok (.iload 5, 2) := by decide +kernel
theorem dX12_stamped_117 : decode cX12_stamped 117 = .ok (.iconst 1, 1) := by decide +kernel
theorem dX12_stamped_118 : decode cX12_stamped 118 = .ok (.if_icmp .eq 10, 3) := by decide +kernel
theorem dX12_stamped_121 : decode cX12_stamped 121 = .ok (.iload 6, 2) := by decide +kernel
theorem dX12_stamped_123 : decode cX12_stamped 123 = .ok (.bipush (-2), 2) := by decide +kernel
theorem dX12_stamped_125 : decode cX12_stamped 125 = .ok (.if_icmp .ne 8, 3) := by decide +kernel
theorem dX12_stamped_128 : decode cX12_stamped 128 = .ok (.iload 6, 2) := by decide +kernel
theorem dX12_stamped_130 : decode cX12_stamped 130 = .ok (.goto 8, 3) := by decide +kernel
theorem dX12_stamped_133 : decode cX12_stamped 133 = .ok (.iload 6, 2) := by decide +kernel
theorem dX12_stamped_135 : decode cX12_stamped 135 = .ok (.invokestatic 373, 3) := by decide +kernel
theorem dX12_stamped_138 : decode cX12_stamped 138 = .ok (.ireturn, 1) := by decide +kernel
theorem dX12_hang_0 : decode cX12_hang 0 = .ok (.iload_n 1, 1) := by decide +kernel
theorem dX12_hang_1 : decode cX12_hang 1 = .ok (.iconst 1, 1) := by decide +kernel
theorem dX12_hang_2 : decode cX12_hang 2 = .ok (.bipush 9, 2) := by decide +kernel
theorem dX12_hang_4 : decode cX12_hang 4 = .ok (.invokestatic 105, 3) := by decide +kernel
theorem dX12_hang_7 : decode cX12_hang 7 = .ok (.ifCond .eq 27, 3) := by decide +kernel
theorem dX12_hang_10 : decode cX12_hang 10 = .ok (.iload_n 2, 1) := by decide +kernel
theorem dX12_hang_11 : decode cX12_hang 11 = .ok (.invokestatic 357, 3) := by decide +kernel
theorem dX12_hang_14 : decode cX12_hang 14 = .ok (.ifCond .eq 20, 3) := by decide +kernel
theorem dX12_hang_17 : decode cX12_hang 17 = .ok (.iload_n 3, 1) := by decide +kernel
theorem dX12_hang_18 : decode cX12_hang 18 = .ok (.iconst 0, 1) := by decide +kernel
theorem dX12_hang_19 : decode cX12_hang 19 = .ok (.iconst 1, 1) := by decide +kernel
theorem dX12_hang_20 : decode cX12_hang 20 = .ok (.invokestatic 105, 3) := by decide +kernel
theorem dX12_hang_23 : decode cX12_hang 23 = .ok (.ifCond .eq 11, 3) := by decide +kernel
theorem dX12_hang_26 : decode cX12_hang 26 = .ok (.iload_n 1, 1) := by decide +kernel
theorem dX12_hang_27 : decode cX12_hang 27 = .ok (.aload_n 0, 1) := by decide +kernel
theorem dX12_hang_28 : decode cX12_hang 28 = .ok (.getfield 117, 3) := by decide +kernel
theorem dX12_hang_31 : decode cX12_hang 31 = .ok (.if_icmp .le 5, 3) := by decide +kernel
theorem dX12_hang_34 : decode cX12_hang 34 = .ok (.iconst (-1), 1) := by decide +kernel
theorem dX12_hang_35 : decode cX12_hang 35 = .ok (.ireturn, 1) := by decide +kernel
theorem dX12_hang_36 : decode cX12_hang 36 = .ok (.aload_n 0, 1) := by decide +kernel
theorem dX12_hang_37 : decode cX12_hang 37 = .ok (.iload_n 1, 1) := by decide +kernel
theorem dX12_hang_38 : decode cX12_hang 38 = .ok (.invokevirtual 376, 3) := by decide +kernel
theorem dX12_hang_41 : decode cX12_hang 41 = .ok (.ifCond .ne 6, 3) := by decide +kernel
theorem dX12_hang_44 : decode cX12_hang 44 = .ok (.bipush (-3), 2) := by decide +kernel
theorem dX12_hang_46 : decode cX12_hang 46 = .ok (.ireturn, 1) := by decide +kernel
theorem dX12_hang_47 : decode cX12_hang 47 = .ok (.iconst 0, 1) := by decide +kernel
theorem dX12_hang_48 : decode cX12_hang 48 = .ok (.istore 4, 2) := by decide +kernel
theorem dX12_hang_50 : decode cX12_hang 50 = .ok (.bipush (-2), 2) := by decide +kernel
theorem dX12_hang_52 : decode cX12_hang 52 = .ok (.istore 5, 2) := by decide +kernel
theorem dX12_hang_54 : decode cX12_hang 54 = .ok (.iconst 1, 1) := by decide +kernel
theorem dX12_hang_55 : decode cX12_hang 55 = .ok (.istore 6, 2) := by decide +kernel
theorem dX12_hang_57 : decode cX12_hang 57 = .ok (.iload 6, 2) := by decide +kernel
theorem dX12_hang_59 : decode cX12_hang 59 = .ok (.iconst 1, 1) := by decide +kernel
theorem dX12_hang_60 : decode cX12_hang 60 = .ok (.iload_n 1, 1) := by decide +kernel
theorem dX12_hang_61 : decode cX12_hang 61 = .ok (.ishl, 1) := by decide +kernel
theorem dX12_hang_62 : decode cX12_hang 62 = .ok (.if_icmp .ge 56, 3) := by decide +kernel
theorem dX12_hang_65 : decode cX12_hang 65 = .ok (.aload_n 0, 1) := by decide +kernel
theorem dX12_hang_66 : decode cX12_hang 66 = .ok (.iload 6, 2) := by decide +kernel
theorem dX12_hang_68 : decode cX12_hang 68 = .ok (.iload_n 1, 1) := by decide +kernel
theorem dX12_hang_69 : decode cX12_hang 69 = .ok (.iload_n 2, 1) := by decide +kernel
theorem dX12_hang_70 : decode cX12_hang 70 = .ok (.iconst 1, 1) := by decide +kernel
theorem dX12_hang_71 : decode cX12_hang 71 = .ok (.invokevirtual 366, 3) := by decide +kernel
theorem dX12_hang_74 : decode cX12_hang 74 = .ok (.ifCond .ne 38, 3) := by decide +kernel
theorem dX12_hang_77 : decode cX12_hang 77 = .ok (.aload_n 0, 1) := by decide +kernel
theorem dX12_hang_78 : decode cX12_hang 78 = .ok (.iload 6, 2) := by decide +kernel
theorem dX12_hang_80 : decode cX12_hang 80 = .ok (.iload_n 1, 1) := by decide +kernel
theorem dX12_hang_81 : decode cX12_hang 81 = .ok (.iload_n 2, 1) := by decide +kernel
theorem dX12_hang_82 : decode cX12_hang 82 = .ok (.iconst 0, 1) := by decide +kernel
theorem dX12_hang_83 : decode cX12_hang 83 = .ok (.invokevirtual 366, 3) := by decide +kernel
theorem dX12_hang_86 : decode cX12_hang 86 = .ok (.ifCond .eq 6, 3) := by decide +kernel
theorem dX12_hang_89 : decode cX12_hang 89 = .ok (.goto 23, 3) := by decide +kernel
theorem dX12_hang_92 : decode cX12_hang 92 = .ok (.iload 4, 2) := by decide +kernel
theorem dX12_hang_94 : decode cX12_hang 94 = .ok (.iconst 1, 1) := by decide +kernel
theorem dX12_hang_95 : decode cX12_hang 95 = .ok (.iadd, 1) := by decide +kernel
theorem dX12_hang_96 : decode cX12_hang 96 = .ok (.istore 4, 2) := by decide +kernel
theorem dX12_hang_98 : decode cX12_hang 98 = .ok (.iload 6, 2) := by decide +kernel
theorem dX12_hang_100 : decode cX12_hang 100 = .ok (.iload 5, 2) := by decide +kernel
theorem dX12_hang_102 : decode cX12_hang 102 = .ok (.invokestatic 379, 3) := by decide +kernel
theorem dX12_hang_105 : decode cX12_hang 105 = .ok (.ifCond .eq 7, 3) := by decide +kernel
theorem dX12_hang_108 : decode cX12_hang 108 = .ok (.iload 6, 2) := by decide +kernel
theorem dX12_hang_110 : decode cX12_hang 110 = .ok (.istore 5, 2) := by decide +kernel
theorem dX12_hang_112 : decode cX12_hang 112 = .ok (.iinc 6 1, 3) := by decide +kernel
theorem dX12_hang_115 : decode cX12_hang 115 = .ok (.goto (-58), 3) := by decide +kernel
theorem dX12_hang_118 : decode cX12_hang 118 = .ok (.iload_n 3, 1) := by decide +kernel
theorem dX12_hang_119 : decode cX12_hang 119 = .ok (.ifCond .ne 8, 3) := by decide +kernel
theorem dX12_hang_122 : decode cX12_hang 122 = .ok (.iload 4, 2) := by decide +kernel
theorem dX12_hang_124 : decode cX12_hang 124 = .ok (.goto 5, 3) := by decide +kernel
theorem dX12_hang_127 : decode cX12_hang 127 = .ok (.iload 5, 2) := by decide +kernel
theorem dX12_hang_129 : decode cX12_hang 129 = .ok (.ireturn, 1) := by decide +kernel
theorem dX12_falseOnes_0 : decode cX12_falseOnes 0 = .ok (.iload_n 1, 1) := by decide +kernel
theorem dX12_falseOnes_1 : decode cX12_falseOnes 1 = .ok (.iconst 1, 1) := by decide +kernel
theorem dX12_falseOnes_2 : decode cX12_falseOnes 2 = .ok (.bipush 9, 2) := by decide +kernel
theorem dX12_falseOnes_4 : decode cX12_falseOnes 4 = .ok (.invokestatic 105, 3) := by decide +kernel
theorem dX12_falseOnes_7 : decode cX12_falseOnes 7 = .ok (.ifCond .eq 47, 3) := by decide +kernel
theorem dX12_falseOnes_10 : decode cX12_falseOnes 10 = .ok (.iload_n 2, 1) := by decide +kernel
theorem dX12_falseOnes_11 : decode cX12_falseOnes 11 = .ok (.invokestatic 357, 3) := by decide +kernel
theorem dX12_falseOnes_14 : decode cX12_falseOnes 14 = .ok (.ifCond .eq 40, 3) := by decide +kernel
theorem dX12_falseOnes_17 : decode cX12_falseOnes 17 = .ok (.iload_n 3, 1) := by decide +kernel
theorem dX12_falseOnes_18 : decode cX12_falseOnes 18 = .ok (.iconst (-1), 1) := by decide +kernel
theorem dX12_falseOnes_19 : decode cX12_falseOnes 19 = .ok (.iconst 1, 1) := by decide +kernel
theorem dX12_falseOnes_20 : decode cX12_falseOnes 20 = .ok (.invokestatic 105, 3) := by decide +kernel
theorem dX12_falseOnes_23 : decode cX12_falseOnes 23 = .ok (.ifCond .eq 31, 3) := by decide +kernel
theorem dX12_falseOnes_26 : decode cX12_falseOnes 26 = .ok (.iload 4, 2) := by decide +kernel
theorem dX12_falseOnes_28 : decode cX12_falseOnes 28 = .ok (.iconst (-1), 1) := by decide +kernel
theorem dX12_falseOnes_29 : decode cX12_falseOnes 29 = .ok (.iconst 1, 1) := by decide +kernel
theorem dX12_falseOnes_30 : decode cX12_falseOnes 30 = .ok (.invokestatic 105, 3) := by decide +kernel
theorem dX12_falseOnes_33 : decode cX12_falseOnes 33 = .ok (.ifCond .eq 21, 3) := by decide +kernel
theorem dX12_falseOnes_36 : decode cX12_falseOnes 36 = .ok (.iload 5, 2) := by decide +kernel
theorem dX12_falseOnes_38 : decode cX12_falseOnes 38 = .ok (.iconst 0, 1) := by decide +kernel
theorem dX12_falseOnes_39 : decode cX12_falseOnes 39 = .ok (.iconst 1, 1) := by decide +kernel
theorem dX12_falseOnes_40 : decode cX12_falseOnes 40 = .ok (.invokestatic 105, 3) := by decide +kernel
theorem dX12_falseOnes_43 : decode cX12_falseOnes 43 = .ok (.ifCond .eq 11, 3) := by decide +kernel
theorem dX12_falseOnes_46 : decode cX12_falseOnes 46 = .ok (.iload_n 1, 1) := by decide +kernel
theorem dX12_falseOnes_47 : decode cX12_falseOnes 47 = .ok (.aload_n 0, 1) := by decide +kernel
theorem dX12_falseOnes_48 : decode cX12_falseOnes 48 = .ok (.getfield 117, 3) := by decide +kernel
theorem dX12_falseOnes_51 : decode cX12_falseOnes 51 = .ok (.if_icmp .le 5, 3) := by decide +kernel
theorem dX12_falseOnes_54 : decode cX12_falseOnes 54 = .ok (.iconst (-1), 1) := by decide +kernel
theorem dX12_falseOnes_55 : decode cX12_falseOnes 55 = .ok (.ireturn, 1) := by decide +kernel
theorem dX12_falseOnes_56 : decode cX12_falseOnes 56 = .ok (.aload_n 0, 1) := by decide +kernel
theorem dX12_falseOnes_57 : decode cX12_falseOnes 57 = .ok (.iload_n 1, 1) := by decide +kernel
theorem dX12_falseOnes_58 : decode cX12_falseOnes 58 = .ok (.invokevirtual 376, 3) := by decide +kernel
theorem dX12_falseOnes_61 : decode cX12_falseOnes 61 = .ok (.ifCond .ne 6, 3) := by decide +kernel
theorem dX12_falseOnes_64 : decode cX12_falseOnes 64 = .ok (.bipush (-3), 2) := by decide +kernel
theorem dX12_falseOnes_66 : decode cX12_falseOnes 66 = .ok (.ireturn, 1) := by decide +kernel
theorem dX12_falseOnes_67 : decode cX12_falseOnes 67 = .ok (.iconst 0, 1) := by decide +kernel
theorem dX12_falseOnes_68 : decode cX12_falseOnes 68 = .ok (.istore 6, 2) := by decide +kernel
theorem dX12_falseOnes_70 : decode cX12_falseOnes 70 = .ok (.iconst 0, 1) := by decide +kernel
theorem dX12_falseOnes_71 : decode cX12_falseOnes 71 = .ok (.istore 7, 2) := by decide +kernel
theorem dX12_falseOnes_73 : decode cX12_falseOnes 73 = .ok (.iload 7, 2) := by decide +kernel
theorem dX12_falseOnes_75 : decode cX12_falseOnes 75 = .ok (.iload_n 1, 1) := by decide +kernel
theorem dX12_falseOnes_76 : decode cX12_falseOnes 76 = .ok (.if_icmp .ge 33, 3) := by decide +kernel
theorem dX12_falseOnes_79 : decode cX12_falseOnes 79 = .ok (.aload_n 0, 1) := by decide +kernel
theorem dX12_falseOnes_80 : decode cX12_falseOnes 80 = .ok (.getfield 25, 3) := by decide +kernel
theorem dX12_falseOnes_83 : decode cX12_falseOnes 83 = .ok (.aload_n 0, 1) := by decide +kernel
theorem dX12_falseOnes_84 : decode cX12_falseOnes 84 = .ok (.getfield 96, 3) := by decide +kernel
theorem dX12_falseOnes_87 : decode cX12_falseOnes 87 = .ok (.iload 7, 2) := by decide +kernel
theorem dX12_falseOnes_89 : decode cX12_falseOnes 89 = .ok (.iaload, 1) := by decide +kernel
theorem dX12_falseOnes_90 : decode cX12_falseOnes 90 = .ok (.iaload, 1) := by decide +kernel
theorem dX12_falseOnes_91 : decode cX12_falseOnes 91 = .ok (.ifCond .ne 12, 3) := by decide +kernel
theorem dX12_falseOnes_94 : decode cX12_falseOnes 94 = .ok (.iload 6, 2) := by decide +kernel
theorem dX12_falseOnes_96 : decode cX12_falseOnes 96 = .ok (.iconst 1, 1) := by decide +kernel
theorem dX12_falseOnes_97 : decode cX12_falseOnes 97 = .ok (.iload 7, 2) := by decide +kernel
theorem dX12_falseOnes_99 : decode cX12_falseOnes 99 = .ok (.ishl, 1) := by decide +kernel
theorem dX12_falseOnes_100 : decode cX12_falseOnes 100 = .ok (.ior, 1) := by decide +kernel
theorem dX12_falseOnes_101 : decode cX12_falseOnes 101 = .ok (.istore 6, 2) := by decide +kernel
theorem dX12_falseOnes_103 : decode cX12_falseOnes 103 = .ok (.iinc 7 1, 3) := by decide +kernel
theorem dX12_falseOnes_106 : decode cX12_falseOnes 106 = .ok (.goto (-33), 3) := by decide +kernel
theorem dX12_falseOnes_109 : decode cX12_falseOnes 109 = .ok (.bipush (-2), 2) := by decide +kernel
theorem dX12_falseOnes_111 : decode cX12_falseOnes 111 = .ok (.istore 7, 2) := by decide +kernel
theorem dX12_falseOnes_113 : decode cX12_falseOnes 113 = .ok (.iconst 0, 1) := by decide +kernel
theorem dX12_falseOnes_114 : decode cX12_falseOnes 114 = .ok (.istore 8, 2) := by decide +kernel
theorem dX12_falseOnes_116 : decode cX12_falseOnes 116 = .ok (.iload 8, 2) := by decide +kernel
theorem dX12_falseOnes_118 : decode cX12_falseOnes 118 = .ok (.iconst 1, 1) := by decide +kernel
theorem dX12_falseOnes_119 : decode cX12_falseOnes 119 = .ok (.iload_n 1, 1) := by decide +kernel
theorem dX12_falseOnes_120 : decode cX12_falseOnes 120 = .ok (.ishl, 1) := by decide +kernel
theorem dX12_falseOnes_121 : decode cX12_falseOnes 121 = .ok (.if_icmp .ge 130, 3) := by decide +kernel
theorem dX12_falseOnes_124 : decode cX12_falseOnes 124 = .ok (.iload 8, 2) := by decide +kernel
theorem dX12_falseOnes_126 : decode cX12_falseOnes 126 = .ok (.iload 6, 2) := by decide +kernel
theorem dX12_falseOnes_128 : decode cX12_falseOnes 128 = .ok (.iand, 1) := by decide +kernel
theorem dX12_falseOnes_129 : decode cX12_falseOnes 129 = .ok (.ifCond .ne 116, 3) := by decide +kernel
theorem dX12_falseOnes_132 : decode cX12_falseOnes 132 = .ok (.iload 8, 2) := by decide +kernel
theorem dX12_falseOnes_134 : decode cX12_falseOnes 134 = .ok (.iload 7, 2) := by decide +kernel
theorem dX12_falseOnes_136 : decode cX12_falseOnes 136 = .ok (.invokestatic 379, 3) := by decide +kernel
theorem dX12_falseOnes_139 : decode cX12_falseOnes 139 = .ok (.ifCond .ne 6, 3) := by decide +kernel
theorem dX12_falseOnes_142 : decode cX12_falseOnes 142 = .ok (.goto 103, 3) := by decide +kernel
theorem dX12_falseOnes_145 : decode cX12_falseOnes 145 = .ok (.aload_n 0, 1) := by decide +kernel
theorem dX12_falseOnes_146 : decode cX12_falseOnes 146 = .ok (.iload 8, 2) := by decide +kernel
theorem dX12_falseOnes_148 : decode cX12_falseOnes 148 = .ok (.iconst (-1), 1) := by decide +kernel
theorem dX12_falseOnes_149 : decode cX12_falseOnes 149 = .ok (.ixor, 1) := by decide +kernel
theorem dX12_falseOnes_150 : decode cX12_falseOnes 150 = .ok (.iload_n 1, 1) := by decide +kernel
theorem dX12_falseOnes_151 : decode cX12_falseOnes 151 = .ok (.iload_n 2, 1) := by decide +kernel
theorem dX12_falseOnes_152 : decode cX12_falseOnes 152 = .ok (.iconst 1, 1) := by decide +kernel
theorem dX12_falseOnes_153 : decode cX12_falseOnes 153 = .ok (.invokevirtual 366, 3) := by decide +kernel
theorem dX12_falseOnes_156 : decode cX12_falseOnes 156 = .ok (.istore 9, 2) := by decide +kernel
theorem dX12_falseOnes_158 : decode cX12_falseOnes 158 = .ok (.aload_n 0, 1) := by decide +kernel
theorem dX12_falseOnes_159 : decode cX12_falseOnes 159 = .ok (.iload 8, 2) := by decide +kernel
theorem dX12_falseOnes_161 : decode cX12_falseOnes 161 = .ok (.iconst (-1), 1) := by decide +kernel
theorem dX12_falseOnes_162 : decode cX12_falseOnes 162 = .ok (.ixor, 1) := by decide +kernel
theorem dX12_falseOnes_163 : decode cX12_falseOnes 163 = .ok (.iload_n 1, 1) := by decide +kernel
theorem dX12_falseOnes_164 : decode cX12_falseOnes 164 = .ok (.iload_n 2, 1) := by decide +kernel
theorem dX12_falseOnes_165 : decode cX12_falseOnes 165 = .ok (.iconst 0, 1) := by decide +kernel
theorem dX12_falseOnes_166 : decode cX12_falseOnes 166 = .ok (.invokevirtual 366, 3) := by decide +kernel
theorem dX12_falseOnes_169 : decode cX12_falseOnes 169 = .ok (.istore 10, 2) := by decide +kernel
theorem dX12_falseOnes_171 : decode cX12_falseOnes 171 = .ok (.iload 9, 2) := by decide +kernel
theorem dX12_falseOnes_173 : decode cX12_falseOnes 173 = .ok (.ifCond .eq 20, 3) := by decide +kernel
theorem dX12_falseOnes_176 : decode cX12_falseOnes 176 = .ok (.iload 9, 2) := by decide +kernel
theorem dX12_falseOnes_178 : decode cX12_falseOnes 178 = .ok (.invokestatic 281, 3) := by decide +kernel
theorem dX12_falseOnes_181 : decode cX12_falseOnes 181 = .ok (.iload 10, 2) := by decide +kernel
theorem dX12_falseOnes_183 : decode cX12_falseOnes 183 = .ok (.invokestatic 281, 3) := by decide +kernel
theorem dX12_falseOnes_186 : decode cX12_falseOnes 186 = .ok (.if_icmp .lt 7, 3) := by decide +kernel
theorem dX12_falseOnes_189 : decode cX12_falseOnes 189 = .ok (.iconst 1, 1) := by decide +kernel
theorem dX12_falseOnes_190 : decode cX12_falseOnes 190 = .ok (.goto 4, 3) := by decide +kernel
theorem dX12_falseOnes_193 : decode cX12_falseOnes 193 = .ok (.iconst 0, 1) := by decide +kernel
theorem dX12_falseOnes_194 : decode cX12_falseOnes 194 = .ok (.istore 11, 2) := by decide +kernel
theorem dX12_falseOnes_196 : decode cX12_falseOnes 196 = .ok (.iload 11, 2) := by decide +kernel
theorem dX12_falseOnes_198 : decode cX12_falseOnes 198 = .ok (.ifCond .eq 11, 3) := by decide +kernel
theorem dX12_falseOnes_201 : decode cX12_falseOnes 201 = .ok (.iload 9, 2) := by decide +kernel
theorem dX12_falseOnes_203 : decode cX12_falseOnes 203 = .ok (.invokestatic 278, 3) := by decide +kernel
theorem dX12_falseOnes_206 : decode cX12_falseOnes 206 = .ok (.goto 4, 3) := by decide +kernel
theorem dX12_falseOnes_209 : decode cX12_falseOnes 209 = .ok (.iconst 0, 1) := by decide +kernel
theorem dX12_falseOnes_210 : decode cX12_falseOnes 210 = .ok (.istore 12, 2) := by decide +kernel
theorem dX12_falseOnes_212 : decode cX12_falseOnes 212 = .ok (.iload 11, 2) := by decide +kernel
theorem dX12_falseOnes_214 : decode cX12_falseOnes 214 = .ok (.ifCond .eq 7, 3) := by decide +kernel
theorem dX12_falseOnes_217 : decode cX12_falseOnes 217 = .ok (.iconst 0, 1) := by decide +kernel
theorem dX12_falseOnes_218 : decode cX12_falseOnes 218 = .ok (.goto 8, 3) := by decide +kernel
theorem dX12_falseOnes_221 : decode cX12_falseOnes 221 = .ok (.iload 10, 2) := by decide +kernel
theorem dX12_falseOnes_223 : decode cX12_falseOnes 223 = .ok (.invokestatic 278, 3) := by decide +kernel
theorem dX12_falseOnes_226 : decode cX12_falseOnes 226 = .ok (.istore 13, 2) := by decide +kernel
theorem dX12_falseOnes_228 : decode cX12_falseOnes 228 = .ok (.iload 12, 2) := by decide +kernel
theorem dX12_falseOnes_230 : decode cX12_falseOnes 230 = .ok (.iload_n 3, 1) := by decide +kernel
theorem dX12_falseOnes_231 : decode cX12_falseOnes 231 = .ok (.if_icmp .ne 14, 3) := by decide +kernel
theorem dX12_falseOnes_234 : decode cX12_falseOnes 234 = .ok (.iload 13, 2) := by decide +kernel
theorem dX12_falseOnes_236 : decode cX12_falseOnes 236 = .ok (.iload 4, 2) := by decide +kernel
theorem dX12_falseOnes_238 : decode cX12_falseOnes 238 = .ok (.if_icmp .ne 7, 3) := by decide +kernel
theorem dX12_falseOnes_241 : decode cX12_falseOnes 241 = .ok (.iload 8, 2) := by decide +kernel
theorem dX12_falseOnes_243 : decode cX12_falseOnes 243 = .ok (.istore 7, 2) := by decide +kernel
theorem dX12_falseOnes_245 : decode cX12_falseOnes 245 = .ok (.iinc 8 1, 3) := by decide +kernel
theorem dX12_falseOnes_248 : decode cX12_falseOnes 248 = .ok (.goto (-132), 3) := by decide +kernel
theorem dX12_falseOnes_251 : decode cX12_falseOnes 251 = .ok (.iload 5, 2) := by decide +kernel
theorem dX12_falseOnes_253 : decode cX12_falseOnes 253 = .ok (.iconst 1, 1) := by decide +kernel
theorem dX12_falseOnes_254 : decode cX12_falseOnes 254 = .ok (.if_icmp .eq 10, 3) := by decide +kernel
theorem dX12_falseOnes_257 : decode cX12_falseOnes 257 = .ok (.iload 7, 2) := by decide +kernel
theorem dX12_falseOnes_259 : decode cX12_falseOnes 259 = .ok (.bipush (-2), 2) := by decide +kernel
theorem dX12_falseOnes_261 : decode cX12_falseOnes 261 = .ok (.if_icmp .ne 8, 3) := by decide +kernel
theorem dX12_falseOnes_264 : decode cX12_falseOnes 264 = .ok (.iload 7, 2) := by decide +kernel
theorem dX12_falseOnes_266 : decode cX12_falseOnes 266 = .ok (.goto 8, 3) := by decide +kernel
theorem dX12_falseOnes_269 : decode cX12_falseOnes 269 = .ok (.iload 7, 2) := by decide +kernel
theorem dX12_falseOnes_271 : decode cX12_falseOnes 271 = .ok (.invokestatic 373, 3) := by decide +kernel
theorem dX12_falseOnes_274 : decode cX12_falseOnes 274 = .ok (.ireturn, 1) := by decide +kernel
theorem dX12_printed_0 : decode cX12_printed 0 = .ok (.iload_n 1, 1) := by decide +kernel
theorem dX12_printed_1 : decode cX12_printed 1 = .ok (.iconst 1, 1) := by decide +kernel
theorem dX12_printed_2 : decode cX12_printed 2 = .ok (.bipush 10, 2) := by decide +kernel
theorem dX12_printed_4 : decode cX12_printed 4 = .ok (.invokestatic 105, 3) := by decide +kernel
theorem dX12_printed_7 : decode cX12_printed 7 = .ok (.ifCond .eq 13, 3) := by decide +kernel
theorem dX12_printed_10 : decode cX12_printed 10 = .ok (.iconst 3, 1) := by decide +kernel
theorem dX12_printed_11 : decode cX12_printed 11 = .ok (.iload_n 1, 1) := by decide +kernel
theorem dX12_printed_12 : decode cX12_printed 12 = .ok (.imul, 1) := by decide +kernel
theorem dX12_printed_13 : decode cX12_printed 13 = .ok (.aload_n 0, 1) := by decide +kernel
theorem dX12_printed_14 : decode cX12_printed 14 = .ok (.getfield 117, 3) := by decide +kernel
theorem dX12_printed_17 : decode cX12_printed 17 = .ok (.if_icmp .le 5, 3) := by decide +kernel
theorem dX12_printed_20 : decode cX12_printed 20 = .ok (.iconst (-1), 1) := by decide +kernel
theorem dX12_printed_21 : decode cX12_printed 21 = .ok (.ireturn, 1) := by decide +kernel
theorem dX12_printed_22 : decode cX12_printed 22 = .ok (.aload_n 0, 1) := by decide +kernel
theorem dX12_printed_23 : decode cX12_printed 23 = .ok (.iconst 0, 1) := by decide +kernel
theorem dX12_printed_24 : decode cX12_printed 24 = .ok (.putfield 117, 3) := by decide +kernel
theorem dX12_printed_27 : decode cX12_printed 27 = .ok (.iconst 0, 1) := by decide +kernel
theorem dX12_printed_28 : decode cX12_printed 28 = .ok (.istore_n 2, 1) := by decide +kernel
theorem dX12_printed_29 : decode cX12_printed 29 = .ok (.iconst 0, 1) := by decide +kernel
theorem dX12_printed_30 : decode cX12_printed 30 = .ok (.istore_n 3, 1) := by decide +kernel
theorem dX12_printed_31 : decode cX12_printed 31 = .ok (.iload_n 3, 1) := by decide +kernel
theorem dX12_printed_32 : decode cX12_printed 32 = .ok (.bipush 8, 2) := by decide +kernel
theorem dX12_printed_34 : decode cX12_printed 34 = .ok (.if_icmp .ge 71, 3) := by decide +kernel
theorem dX12_printed_37 : decode cX12_printed 37 = .ok (.aload_n 0, 1) := by decide +kernel
theorem dX12_printed_38 : decode cX12_printed 38 = .ok (.getfield 19, 3) := by decide +kernel
theorem dX12_printed_41 : decode cX12_printed 41 = .ok (.iload_n 3, 1) := by decide +kernel
theorem dX12_printed_42 : decode cX12_printed 42 = .ok (.iaload, 1) := by decide +kernel
theorem dX12_printed_43 : decode cX12_printed 43 = .ok (.iconst (-1), 1) := by decide +kernel
theorem dX12_printed_44 : decode cX12_printed 44 = .ok (.if_icmp .eq 7, 3) := by decide +kernel
theorem dX12_printed_47 : decode cX12_printed 47 = .ok (.iconst 1, 1) := by decide +kernel
theorem dX12_printed_48 : decode cX12_printed 48 = .ok (.goto 4, 3) := by decide +kernel
theorem dX12_printed_51 : decode cX12_printed 51 = .ok (.iconst 0, 1) := by decide +kernel
theorem dX12_printed_52 : decode cX12_printed 52 = .ok (.istore 4, 2) := by decide +kernel
theorem dX12_printed_54 : decode cX12_printed 54 = .ok (.iconst 0, 1) := by decide +kernel
theorem dX12_printed_55 : decode cX12_printed 55 = .ok (.istore 5, 2) := by decide +kernel
theorem dX12_printed_57 : decode cX12_printed 57 = .ok (.iload 5, 2) := by decide +kernel
theorem dX12_printed_59 : decode cX12_printed 59 = .ok (.iload_n 1, 1) := by decide +kernel
theorem dX12_printed_60 : decode cX12_printed 60 = .ok (.if_icmp .ge 28, 3) := by decide +kernel
theorem dX12_printed_63 : decode cX12_printed 63 = .ok (.iload 4, 2) := by decide +kernel
theorem dX12_printed_65 : decode cX12_printed 65 = .ok (.ifCond .eq 23, 3) := by decide +kernel
theorem dX12_printed_68 : decode cX12_printed 68 = .ok (.aload_n 0, 1) := by decide +kernel
theorem dX12_printed_69 : decode cX12_printed 69 = .ok (.aload_n 0, 1) := by decide +kernel
theorem dX12_printed_70 : decode cX12_printed 70 = .ok (.getfield 19, 3) := by decide +kernel
theorem dX12_printed_73 : decode cX12_printed 73 = .ok (.iload_n 3, 1) := by decide +kernel
theorem dX12_printed_74 : decode cX12_printed 74 = .ok (.iaload, 1) := by decide +kernel
theorem dX12_printed_75 : decode cX12_printed 75 = .ok (.iload 5, 2) := by decide +kernel
theorem dX12_printed_77 : decode cX12_printed 77 = .ok (.invokevirtual 386, 3) := by decide +kernel
theorem dX12_printed_80 : decode cX12_printed 80 = .ok (.istore 4, 2) := by decide +kernel
theorem dX12_printed_82 : decode cX12_printed 82 = .ok (.iinc 5 1, 3) := by decide +kernel
theorem dX12_printed_85 : decode cX12_printed 85 = .ok (.goto (-28), 3) := by decide +kernel
theorem dX12_printed_88 : decode cX12_printed 88 = .ok (.iload 4, 2) := by decide +kernel
theorem dX12_printed_90 : decode cX12_printed 90 = .ok (.ifCond .eq 9, 3) := by decide +kernel
theorem dX12_printed_93 : decode cX12_printed 93 = .ok (.iload_n 2, 1) := by decide +kernel
theorem dX12_printed_94 : decode cX12_printed 94 = .ok (.iconst 1, 1) := by decide +kernel
theorem dX12_printed_95 : decode cX12_printed 95 = .ok (.iload_n 3, 1) := by decide +kernel
theorem dX12_printed_96 : decode cX12_printed 96 = .ok (.ishl, 1) := by decide +kernel
theorem dX12_printed_97 : decode cX12_printed 97 = .ok (.ior, 1) := by decide +kernel
theorem dX12_printed_98 : decode cX12_printed 98 = .ok (.istore_n 2, 1) := by decide +kernel
theorem dX12_printed_99 : decode cX12_printed 99 = .ok (.iinc 3 1, 3) := by decide +kernel
theorem dX12_printed_102 : decode cX12_printed 102 = .ok (.goto (-71), 3) := by decide +kernel
theorem dX12_printed_105 : decode cX12_printed 105 = .ok (.iload_n 2, 1) := by decide +kernel
theorem dX12_printed_106 : decode cX12_printed 106 = .ok (.ireturn, 1) := by decide +kernel
theorem dX12_ship_0 : decode cX12_ship 0 = .ok (.iload_n 1, 1) := by decide +kernel
theorem dX12_ship_1 : decode cX12_ship 1 = .ok (.iconst 1, 1) := by decide +kernel
theorem dX12_ship_2 : decode cX12_ship 2 = .ok (.bipush 10, 2) := by decide +kernel
theorem dX12_ship_4 : decode cX12_ship 4 = .ok (.invokestatic 105, 3) := by decide +kernel
theorem dX12_ship_7 : decode cX12_ship 7 = .ok (.ifCond .eq 20, 3) := by decide +kernel
theorem dX12_ship_10 : decode cX12_ship 10 = .ok (.iload_n 2, 1) := by decide +kernel
theorem dX12_ship_11 : decode cX12_ship 11 = .ok (.iconst 0, 1) := by decide +kernel
theorem dX12_ship_12 : decode cX12_ship 12 = .ok (.iconst 1, 1) := by decide +kernel
theorem dX12_ship_13 : decode cX12_ship 13 = .ok (.invokestatic 105, 3) := by decide +kernel
theorem dX12_ship_16 : decode cX12_ship 16 = .ok (.ifCond .eq 11, 3) := by decide +kernel
theorem dX12_ship_19 : decode cX12_ship 19 = .ok (.iload_n 1, 1) := by decide +kernel
theorem dX12_ship_20 : decode cX12_ship 20 = .ok (.aload_n 0, 1) := by decide +kernel
theorem dX12_ship_21 : decode cX12_ship 21 = .ok (.getfield 117, 3) := by decide +kernel
theorem dX12_ship_24 : decode cX12_ship 24 = .ok (.if_icmp .le 5, 3) := by decide +kernel
theorem dX12_ship_27 : decode cX12_ship 27 = .ok (.iconst (-1), 1) := by decide +kernel
theorem dX12_ship_28 : decode cX12_ship 28 = .ok (.ireturn, 1) := by decide +kernel
theorem dX12_ship_29 : decode cX12_ship 29 = .ok (.aload_n 0, 1) := by decide +kernel
theorem dX12_ship_30 : decode cX12_ship 30 = .ok (.iconst 0, 1) := by decide +kernel
theorem dX12_ship_31 : decode cX12_ship 31 = .ok (.putfield 117, 3) := by decide +kernel
theorem dX12_ship_34 : decode cX12_ship 34 = .ok (.aload_n 0, 1) := by decide +kernel
theorem dX12_ship_35 : decode cX12_ship 35 = .ok (.iconst 1, 1) := by decide +kernel
theorem dX12_ship_36 : decode cX12_ship 36 = .ok (.iload_n 1, 1) := by decide +kernel
theorem dX12_ship_37 : decode cX12_ship 37 = .ok (.ishl, 1) := by decide +kernel
theorem dX12_ship_38 : decode cX12_ship 38 = .ok (.iconst 1, 1) := by decide +kernel
theorem dX12_ship_39 : decode cX12_ship 39 = .ok (.isub, 1) := by decide +kernel
theorem dX12_ship_40 : decode cX12_ship 40 = .ok (.iload_n 1, 1) := by decide +kernel
theorem dX12_ship_41 : decode cX12_ship 41 = .ok (.invokevirtual 389, 3) := by decide +kernel
theorem dX12_ship_44 : decode cX12_ship 44 = .ok (.istore_n 3, 1) := by decide +kernel
theorem dX12_ship_45 : decode cX12_ship 45 = .ok (.ldc_w 392, 3) := by decide +kernel
theorem dX12_ship_48 : decode cX12_ship 48 = .ok (.istore 4, 2) := by decide +kernel
theorem dX12_ship_50 : decode cX12_ship 50 = .ok (.iconst 0, 1) := by decide +kernel
theorem dX12_ship_51 : decode cX12_ship 51 = .ok (.istore 5, 2) := by decide +kernel
theorem dX12_ship_53 : decode cX12_ship 53 = .ok (.iconst 1, 1) := by decide +kernel
theorem dX12_ship_54 : decode cX12_ship 54 = .ok (.istore 6, 2) := by decide +kernel
theorem dX12_ship_56 : decode cX12_ship 56 = .ok (.iload 6, 2) := by decide +kernel
theorem dX12_ship_58 : decode cX12_ship 58 = .ok (.iconst 1, 1) := by decide +kernel
theorem dX12_ship_59 : decode cX12_ship 59 = .ok (.iload_n 1, 1) := by decide +kernel
theorem dX12_ship_60 : decode cX12_ship 60 = .ok (.ishl, 1) := by decide +kernel
theorem dX12_ship_61 : decode cX12_ship 61 = .ok (.if_icmp .ge 46, 3) := by decide +kernel
theorem dX12_ship_64 : decode cX12_ship 64 = .ok (.iload_n 3, 1) := by decide +kernel
theorem dX12_ship_65 : decode cX12_ship 65 = .ok (.iconst 2, 1) := by decide +kernel
theorem dX12_ship_66 : decode cX12_ship 66 = .ok (.aload_n 0, 1) := by decide +kernel
theorem dX12_ship_67 : decode cX12_ship 67 = .ok (.iload 6, 2) := by decide +kernel
theorem dX12_ship_69 : decode cX12_ship 69 = .ok (.iload_n 1, 1) := by decide +kernel
theorem dX12_ship_70 : decode cX12_ship 70 = .ok (.invokevirtual 389, 3) := by decide +kernel
theorem dX12_ship_73 : decode cX12_ship 73 = .ok (.imul, 1) := by decide +kernel
theorem dX12_ship_74 : decode cX12_ship 74 = .ok (.isub, 1) := by decide +kernel
theorem dX12_ship_75 : decode cX12_ship 75 = .ok (.invokestatic 281, 3) := by decide +kernel
theorem dX12_ship_78 : decode cX12_ship 78 = .ok (.istore 7, 2) := by decide +kernel
theorem dX12_ship_80 : decode cX12_ship 80 = .ok (.iload 7, 2) := by decide +kernel
theorem dX12_ship_82 : decode cX12_ship 82 = .ok (.iload 4, 2) := by decide +kernel
theorem dX12_ship_84 : decode cX12_ship 84 = .ok (.if_icmp .lt 6, 3) := by decide +kernel
theorem dX12_ship_87 : decode cX12_ship 87 = .ok (.goto 11, 3) := by decide +kernel
theorem dX12_ship_90 : decode cX12_ship 90 = .ok (.iload 7, 2) := by decide +kernel
theorem dX12_ship_92 : decode cX12_ship 92 = .ok (.istore 4, 2) := by decide +kernel
theorem dX12_ship_94 : decode cX12_ship 94 = .ok (.iload 6, 2) := by decide +kernel
theorem dX12_ship_96 : decode cX12_ship 96 = .ok (.istore 5, 2) := by decide +kernel
theorem dX12_ship_98 : decode cX12_ship 98 = .ok (.iload 6, 2) := by decide +kernel
theorem dX12_ship_100 : decode cX12_ship 100 = .ok (.iconst 2, 1) := by decide +kernel
theorem dX12_ship_101 : decode cX12_ship 101 = .ok (.iadd, 1) := by decide +kernel
theorem dX12_ship_102 : decode cX12_ship 102 = .ok (.istore 6, 2) := by decide +kernel
theorem dX12_ship_104 : decode cX12_ship 104 = .ok (.goto (-48), 3) := by decide +kernel
theorem dX12_ship_107 : decode cX12_ship 107 = .ok (.iload_n 2, 1) := by decide +kernel
theorem dX12_ship_108 : decode cX12_ship 108 = .ok (.ifCond .ne 8, 3) := by decide +kernel
theorem dX12_ship_111 : decode cX12_ship 111 = .ok (.iload 4, 2) := by decide +kernel
theorem dX12_ship_113 : decode cX12_ship 113 = .ok (.goto 5, 3) := by decide +kernel
theorem dX12_ship_116 : decode cX12_ship 116 = .ok (.iload 5, 2) := by decide +kernel
theorem dX12_ship_118 : decode cX12_ship 118 = .ok (.ireturn, 1) := by decide +kernel
theorem dX12_mule_0 : decode cX12_mule 0 = .ok (.iload_n 1, 1) := by decide +kernel
theorem dX12_mule_1 : decode cX12_mule 1 = .ok (.iconst 1, 1) := by decide +kernel
theorem dX12_mule_2 : decode cX12_mule 2 = .ok (.bipush 12, 2) := by decide +kernel
theorem dX12_mule_4 : decode cX12_mule 4 = .ok (.invokestatic 105, 3) := by decide +kernel
theorem dX12_mule_7 : decode cX12_mule 7 = .ok (.ifCond .eq 31, 3) := by decide +kernel
theorem dX12_mule_10 : decode cX12_mule 10 = .ok (.iload_n 2, 1) := by decide +kernel
theorem dX12_mule_11 : decode cX12_mule 11 = .ok (.iconst 0, 1) := by decide +kernel
theorem dX12_mule_12 : decode cX12_mule 12 = .ok (.sipush 3060, 3) := by decide +kernel
theorem dX12_mule_15 : decode cX12_mule 15 = .ok (.invokestatic 105, 3) := by decide +kernel
theorem dX12_mule_18 : decode cX12_mule 18 = .ok (.ifCond .eq 20, 3) := by decide +kernel
theorem dX12_mule_21 : decode cX12_mule 21 = .ok (.iload_n 3, 1) := by decide +kernel
theorem dX12_mule_22 : decode cX12_mule 22 = .ok (.iconst 0, 1) := by decide +kernel
theorem dX12_mule_23 : decode cX12_mule 23 = .ok (.iconst 2, 1) := by decide +kernel
theorem dX12_mule_24 : decode cX12_mule 24 = .ok (.invokestatic 105, 3) := by decide +kernel
theorem dX12_mule_27 : decode cX12_mule 27 = .ok (.ifCond .eq 11, 3) := by decide +kernel
theorem dX12_mule_30 : decode cX12_mule 30 = .ok (.iload_n 1, 1) := by decide +kernel
theorem dX12_mule_31 : decode cX12_mule 31 = .ok (.aload_n 0, 1) := by decide +kernel
theorem dX12_mule_32 : decode cX12_mule 32 = .ok (.getfield 117, 3) := by decide +kernel
theorem dX12_mule_35 : decode cX12_mule 35 = .ok (.if_icmp .le 5, 3) := by decide +kernel
theorem dX12_mule_38 : decode cX12_mule 38 = .ok (.iconst (-1), 1) := by decide +kernel
theorem dX12_mule_39 : decode cX12_mule 39 = .ok (.ireturn, 1) := by decide +kernel
theorem dX12_mule_40 : decode cX12_mule 40 = .ok (.aload_n 0, 1) := by decide +kernel
theorem dX12_mule_41 : decode cX12_mule 41 = .ok (.iconst 0, 1) := by decide +kernel
theorem dX12_mule_42 : decode cX12_mule 42 = .ok (.putfield 117, 3) := by decide +kernel
theorem dX12_mule_45 : decode cX12_mule 45 = .ok (.bipush (-2), 2) := by decide +kernel
theorem dX12_mule_47 : decode cX12_mule 47 = .ok (.istore 4, 2) := by decide +kernel
theorem dX12_mule_49 : decode cX12_mule 49 = .ok (.iconst 0, 1) := by decide +kernel
theorem dX12_mule_50 : decode cX12_mule 50 = .ok (.istore 5, 2) := by decide +kernel
theorem dX12_mule_52 : decode cX12_mule 52 = .ok (.iconst 0, 1) := by decide +kernel
theorem dX12_mule_53 : decode cX12_mule 53 = .ok (.istore 6, 2) := by decide +kernel
theorem dX12_mule_55 : decode cX12_mule 55 = .ok (.iload 6, 2) := by decide +kernel
theorem dX12_mule_57 : decode cX12_mule 57 = .ok (.iconst 1, 1) := by decide +kernel
theorem dX12_mule_58 : decode cX12_mule 58 = .ok (.iload_n 1, 1) := by decide +kernel
theorem dX12_mule_59 : decode cX12_mule 59 = .ok (.ishl, 1) := by decide +kernel
theorem dX12_mule_60 : decode cX12_mule 60 = .ok (.if_icmp .ge 75, 3) := by decide +kernel
theorem dX12_mule_63 : decode cX12_mule 63 = .ok (.aload_n 0, 1) := by decide +kernel
theorem dX12_mule_64 : decode cX12_mule 64 = .ok (.iload 6, 2) := by decide +kernel
theorem dX12_mule_66 : decode cX12_mule 66 = .ok (.iload_n 1, 1) := by decide +kernel
theorem dX12_mule_67 : decode cX12_mule 67 = .ok (.invokevirtual 389, 3) := by decide +kernel
theorem dX12_mule_70 : decode cX12_mule 70 = .ok (.istore 7, 2) := by decide +kernel
theorem dX12_mule_72 : decode cX12_mule 72 = .ok (.iload 7, 2) := by decide +kernel
theorem dX12_mule_74 : decode cX12_mule 74 = .ok (.iload_n 2, 1) := by decide +kernel
theorem dX12_mule_75 : decode cX12_mule 75 = .ok (.if_icmp .lt 54, 3) := by decide +kernel
theorem dX12_mule_78 : decode cX12_mule 78 = .ok (.iload 4, 2) := by decide +kernel
theorem dX12_mule_80 : decode cX12_mule 80 = .ok (.bipush (-2), 2) := by decide +kernel
theorem dX12_mule_82 : decode cX12_mule 82 = .ok (.if_icmp .eq 39, 3) := by decide +kernel
theorem dX12_mule_85 : decode cX12_mule 85 = .ok (.iload 6, 2) := by decide +kernel
theorem dX12_mule_87 : decode cX12_mule 87 = .ok (.invokestatic 373, 3) := by decide +kernel
theorem dX12_mule_90 : decode cX12_mule 90 = .ok (.iload 4, 2) := by decide +kernel
theorem dX12_mule_92 : decode cX12_mule 92 = .ok (.invokestatic 373, 3) := by decide +kernel
theorem dX12_mule_95 : decode cX12_mule 95 = .ok (.if_icmp .gt 34, 3) := by decide +kernel
theorem dX12_mule_98 : decode cX12_mule 98 = .ok (.iload 6, 2) := by decide +kernel
theorem dX12_mule_100 : decode cX12_mule 100 = .ok (.invokestatic 373, 3) := by decide +kernel
theorem dX12_mule_103 : decode cX12_mule 103 = .ok (.iload 4, 2) := by decide +kernel
theorem dX12_mule_105 : decode cX12_mule 105 = .ok (.invokestatic 373, 3) := by decide +kernel
theorem dX12_mule_108 : decode cX12_mule 108 = .ok (.if_icmp .ne 13, 3) := by decide +kernel
theorem dX12_mule_111 : decode cX12_mule 111 = .ok (.iload 7, 2) := by decide +kernel
theorem dX12_mule_113 : decode cX12_mule 113 = .ok (.iload 5, 2) := by decide +kernel
theorem dX12_mule_115 : decode cX12_mule 115 = .ok (.if_icmp .lt 6, 3) := by decide +kernel
theorem dX12_mule_118 : decode cX12_mule 118 = .ok (.goto 11, 3) := by decide +kernel
theorem dX12_mule_121 : decode cX12_mule 121 = .ok (.iload 6, 2) := by decide +kernel
theorem dX12_mule_123 : decode cX12_mule 123 = .ok (.istore 4, 2) := by decide +kernel
theorem dX12_mule_125 : decode cX12_mule 125 = .ok (.iload 7, 2) := by decide +kernel
theorem dX12_mule_127 : decode cX12_mule 127 = .ok (.istore 5, 2) := by decide +kernel
theorem dX12_mule_129 : decode cX12_mule 129 = .ok (.iinc 6 1, 3) := by decide +kernel
theorem dX12_mule_132 : decode cX12_mule 132 = .ok (.goto (-77), 3) := by decide +kernel
theorem dX12_mule_135 : decode cX12_mule 135 = .ok (.iload 4, 2) := by decide +kernel
theorem dX12_mule_137 : decode cX12_mule 137 = .ok (.bipush (-2), 2) := by decide +kernel
theorem dX12_mule_139 : decode cX12_mule 139 = .ok (.if_icmp .ne 6, 3) := by decide +kernel
theorem dX12_mule_142 : decode cX12_mule 142 = .ok (.bipush (-2), 2) := by decide +kernel
theorem dX12_mule_144 : decode cX12_mule 144 = .ok (.ireturn, 1) := by decide +kernel
theorem dX12_mule_145 : decode cX12_mule 145 = .ok (.iload_n 3, 1) := by decide +kernel
theorem dX12_mule_146 : decode cX12_mule 146 = .ok (.ifCond .ne 11, 3) := by decide +kernel
theorem dX12_mule_149 : decode cX12_mule 149 = .ok (.iload 4, 2) := by decide +kernel
theorem dX12_mule_151 : decode cX12_mule 151 = .ok (.invokestatic 373, 3) := by decide +kernel
theorem dX12_mule_154 : decode cX12_mule 154 = .ok (.goto 15, 3) := by decide +kernel
theorem dX12_mule_157 : decode cX12_mule 157 = .ok (.iload_n 3, 1) := by decide +kernel
theorem dX12_mule_158 : decode cX12_mule 158 = .ok (.iconst 1, 1) := by decide +kernel
theorem dX12_mule_159 : decode cX12_mule 159 = .ok (.if_icmp .ne 8, 3) := by decide +kernel
theorem dX12_mule_162 : decode cX12_mule 162 = .ok (.iload 4, 2) := by decide +kernel
theorem dX12_mule_164 : decode cX12_mule 164 = .ok (.goto 5, 3) := by decide +kernel
theorem dX12_mule_167 : decode cX12_mule 167 = .ok (.iload 5, 2) := by decide +kernel
theorem dX12_mule_169 : decode cX12_mule 169 = .ok (.ireturn, 1) := by decide +kernel
theorem dX12_marks_0 : decode cX12_marks 0 = .ok (.iload_n 1, 1) := by decide +kernel
theorem dX12_marks_1 : decode cX12_marks 1 = .ok (.iconst 1, 1) := by decide +kernel
theorem dX12_marks_2 : decode cX12_marks 2 = .ok (.iconst 5, 1) := by decide +kernel
theorem dX12_marks_3 : decode cX12_marks 3 = .ok (.invokestatic 105, 3) := by decide +kernel
theorem dX12_marks_6 : decode cX12_marks 6 = .ok (.ifCond .eq 21, 3) := by decide +kernel
theorem dX12_marks_9 : decode cX12_marks 9 = .ok (.iload_n 2, 1) := by decide +kernel
theorem dX12_marks_10 : decode cX12_marks 10 = .ok (.iconst 1, 1) := by decide +kernel
theorem dX12_marks_11 : decode cX12_marks 11 = .ok (.bipush 6, 2) := by decide +kernel
theorem dX12_marks_13 : decode cX12_marks 13 = .ok (.invokestatic 105, 3) := by decide +kernel
theorem dX12_marks_16 : decode cX12_marks 16 = .ok (.ifCond .eq 11, 3) := by decide +kernel
theorem dX12_marks_19 : decode cX12_marks 19 = .ok (.iload_n 1, 1) := by decide +kernel
theorem dX12_marks_20 : decode cX12_marks 20 = .ok (.aload_n 0, 1) := by decide +kernel
theorem dX12_marks_21 : decode cX12_marks 21 = .ok (.getfield 117, 3) := by decide +kernel
theorem dX12_marks_24 : decode cX12_marks 24 = .ok (.if_icmp .le 5, 3) := by decide +kernel
theorem dX12_marks_27 : decode cX12_marks 27 = .ok (.iconst (-1), 1) := by decide +kernel
theorem dX12_marks_28 : decode cX12_marks 28 = .ok (.ireturn, 1) := by decide +kernel
theorem dX12_marks_29 : decode cX12_marks 29 = .ok (.aload_n 0, 1) := by decide +kernel
theorem dX12_marks_30 : decode cX12_marks 30 = .ok (.iload_n 1, 1) := by decide +kernel
theorem dX12_marks_31 : decode cX12_marks 31 = .ok (.invokevirtual 393, 3) := by decide +kernel
theorem dX12_marks_34 : decode cX12_marks 34 = .ok (.ifCond .ne 6, 3) := by decide +kernel
theorem dX12_marks_37 : decode cX12_marks 37 = .ok (.bipush (-2), 2) := by decide +kernel
theorem dX12_marks_39 : decode cX12_marks 39 = .ok (.ireturn, 1) := by decide +kernel
theorem dX12_marks_40 : decode cX12_marks 40 = .ok (.iconst 0, 1) := by decide +kernel
theorem dX12_marks_41 : decode cX12_marks 41 = .ok (.istore_n 3, 1) := by decide +kernel
theorem dX12_marks_42 : decode cX12_marks 42 = .ok (.iload_n 3, 1) := by decide +kernel
theorem dX12_marks_43 : decode cX12_marks 43 = .ok (.sipush 600, 3) := by decide +kernel
theorem dX12_marks_46 : decode cX12_marks 46 = .ok (.if_icmp .ge 22, 3) := by decide +kernel
theorem dX12_marks_49 : decode cX12_marks 49 = .ok (.aload_n 0, 1) := by decide +kernel
theorem dX12_marks_50 : decode cX12_marks 50 = .ok (.getfield 99, 3) := by decide +kernel
theorem dX12_marks_53 : decode cX12_marks 53 = .ok (.iload_n 3, 1) := by decide +kernel
theorem dX12_marks_54 : decode cX12_marks 54 = .ok (.iconst 1, 1) := by decide +kernel
theorem dX12_marks_55 : decode cX12_marks 55 = .ok (.iadd, 1) := by decide +kernel
theorem dX12_marks_56 : decode cX12_marks 56 = .ok (.iaload, 1) := by decide +kernel
theorem dX12_marks_57 : decode cX12_marks 57 = .ok (.iload_n 2, 1) := by decide +kernel
theorem dX12_marks_58 : decode cX12_marks 58 = .ok (.if_icmp .gt 10, 3) := by decide +kernel
theorem dX12_marks_61 : decode cX12_marks 61 = .ok (.iload_n 3, 1) := by decide +kernel
theorem dX12_marks_62 : decode cX12_marks 62 = .ok (.iconst 1, 1) := by decide +kernel
theorem dX12_marks_63 : decode cX12_marks 63 = .ok (.iadd, 1) := by decide +kernel
theorem dX12_marks_64 : decode cX12_marks 64 = .ok (.istore_n 3, 1) := by decide +kernel
theorem dX12_marks_65 : decode cX12_marks 65 = .ok (.goto (-23), 3) := by decide +kernel
theorem dX12_marks_68 : decode cX12_marks 68 = .ok (.iload_n 3, 1) := by decide +kernel
theorem dX12_marks_69 : decode cX12_marks 69 = .ok (.ireturn, 1) := by decide +kernel
theorem dX12_franked_0 : decode cX12_franked 0 = .ok (.iload_n 1, 1) := by decide +kernel
theorem dX12_franked_1 : decode cX12_franked 1 = .ok (.iconst 1, 1) := by decide +kernel
theorem dX12_franked_2 : decode cX12_franked 2 = .ok (.iconst 5, 1) := by decide +kernel
theorem dX12_franked_3 : decode cX12_franked 3 = .ok (.invokestatic 105, 3) := by decide +kernel
theorem dX12_franked_6 : decode cX12_franked 6 = .ok (.ifCond .eq 22, 3) := by decide +kernel
theorem dX12_franked_9 : decode cX12_franked 9 = .ok (.iload_n 2, 1) := by decide +kernel
theorem dX12_franked_10 : decode cX12_franked 10 = .ok (.iconst 1, 1) := by decide +kernel
theorem dX12_franked_11 : decode cX12_franked 11 = .ok (.sipush 600, 3) := by decide +kernel
theorem dX12_franked_14 : decode cX12_franked 14 = .ok (.invokestatic 105, 3) := by decide +kernel
theorem dX12_franked_17 : decode cX12_franked 17 = .ok (.ifCond .eq 11, 3) := by decide +kernel
theorem dX12_franked_20 : decode cX12_franked 20 = .ok (.iload_n 1, 1) := by decide +kernel
theorem dX12_franked_21 : decode cX12_franked 21 = .ok (.aload_n 0, 1) := by decide +kernel
theorem dX12_franked_22 : decode cX12_franked 22 = .ok (.getfield 117, 3) := by decide +kernel
theorem dX12_franked_25 : decode cX12_franked 25 = .ok (.if_icmp .le 5, 3) := by decide +kernel
theorem dX12_franked_28 : decode cX12_franked 28 = .ok (.iconst (-1), 1) := by decide +kernel
theorem dX12_franked_29 : decode cX12_franked 29 = .ok (.ireturn, 1) := by decide +kernel
theorem dX12_franked_30 : decode cX12_franked 30 = .ok (.aload_n 0, 1) := by decide +kernel
theorem dX12_franked_31 : decode cX12_franked 31 = .ok (.iload_n 1, 1) := by decide +kernel
theorem dX12_franked_32 : decode cX12_franked 32 = .ok (.invokevirtual 393, 3) := by decide +kernel
theorem dX12_franked_35 : decode cX12_franked 35 = .ok (.ifCond .ne 6, 3) := by decide +kernel
theorem dX12_franked_38 : decode cX12_franked 38 = .ok (.bipush (-2), 2) := by decide +kernel
theorem dX12_franked_40 : decode cX12_franked 40 = .ok (.ireturn, 1) := by decide +kernel
theorem dX12_franked_41 : decode cX12_franked 41 = .ok (.aload_n 0, 1) := by decide +kernel
theorem dX12_franked_42 : decode cX12_franked 42 = .ok (.getfield 99, 3) := by decide +kernel
theorem dX12_franked_45 : decode cX12_franked 45 = .ok (.iload_n 2, 1) := by decide +kernel
theorem dX12_franked_46 : decode cX12_franked 46 = .ok (.iaload, 1) := by decide +kernel
theorem dX12_franked_47 : decode cX12_franked 47 = .ok (.ldc_w 392, 3) := by decide +kernel
theorem dX12_franked_50 : decode cX12_franked 50 = .ok (.if_icmp .lt 8, 3) := by decide +kernel
theorem dX12_franked_53 : decode cX12_franked 53 = .ok (.bipush (-3), 2) := by decide +kernel
theorem dX12_franked_55 : decode cX12_franked 55 = .ok (.goto 9, 3) := by decide +kernel
theorem dX12_franked_58 : decode cX12_franked 58 = .ok (.aload_n 0, 1) := by decide +kernel
theorem dX12_franked_59 : decode cX12_franked 59 = .ok (.getfield 99, 3) := by decide +kernel
theorem dX12_franked_62 : decode cX12_franked 62 = .ok (.iload_n 2, 1) := by decide +kernel
theorem dX12_franked_63 : decode cX12_franked 63 = .ok (.iaload, 1) := by decide +kernel
theorem dX12_franked_64 : decode cX12_franked 64 = .ok (.ireturn, 1) := by decide +kernel
theorem dX12_exchange_0 : decode cX12_exchange 0 = .ok (.iload_n 1, 1) := by decide +kernel
theorem dX12_exchange_1 : decode cX12_exchange 1 = .ok (.iconst 2, 1) := by decide +kernel
theorem dX12_exchange_2 : decode cX12_exchange 2 = .ok (.bipush 6, 2) := by decide +kernel
theorem dX12_exchange_4 : decode cX12_exchange 4 = .ok (.invokestatic 105, 3) := by decide +kernel
theorem dX12_exchange_7 : decode cX12_exchange 7 = .ok (.ifCond .eq 24, 3) := by decide +kernel
theorem dX12_exchange_10 : decode cX12_exchange 10 = .ok (.iload_n 2, 1) := by decide +kernel
theorem dX12_exchange_11 : decode cX12_exchange 11 = .ok (.iconst 0, 1) := by decide +kernel
theorem dX12_exchange_12 : decode cX12_exchange 12 = .ok (.iload_n 1, 1) := by decide +kernel
theorem dX12_exchange_13 : decode cX12_exchange 13 = .ok (.iconst 1, 1) := by decide +kernel
theorem dX12_exchange_14 : decode cX12_exchange 14 = .ok (.isub, 1) := by decide +kernel
theorem dX12_exchange_15 : decode cX12_exchange 15 = .ok (.invokestatic 105, 3) := by decide +kernel
theorem dX12_exchange_18 : decode cX12_exchange 18 = .ok (.ifCond .eq 13, 3) := by decide +kernel
theorem dX12_exchange_21 : decode cX12_exchange 21 = .ok (.iload_n 1, 1) := by decide +kernel
theorem dX12_exchange_22 : decode cX12_exchange 22 = .ok (.iload_n 1, 1) := by decide +kernel
theorem dX12_exchange_23 : decode cX12_exchange 23 = .ok (.imul, 1) := by decide +kernel
theorem dX12_exchange_24 : decode cX12_exchange 24 = .ok (.aload_n 0, 1) := by decide +kernel
theorem dX12_exchange_25 : decode cX12_exchange 25 = .ok (.getfield 117, 3) := by decide +kernel
theorem dX12_exchange_28 : decode cX12_exchange 28 = .ok (.if_icmp .le 5, 3) := by decide +kernel
theorem dX12_exchange_31 : decode cX12_exchange 31 = .ok (.iconst (-1), 1) := by decide +kernel
theorem dX12_exchange_32 : decode cX12_exchange 32 = .ok (.ireturn, 1) := by decide +kernel
theorem dX12_exchange_33 : decode cX12_exchange 33 = .ok (.aload_n 0, 1) := by decide +kernel
theorem dX12_exchange_34 : decode cX12_exchange 34 = .ok (.iconst 0, 1) := by decide +kernel
theorem dX12_exchange_35 : decode cX12_exchange 35 = .ok (.putfield 117, 3) := by decide +kernel
theorem dX12_exchange_38 : decode cX12_exchange 38 = .ok (.aload_n 0, 1) := by decide +kernel
theorem dX12_exchange_39 : decode cX12_exchange 39 = .ok (.iload_n 1, 1) := by decide +kernel
theorem dX12_exchange_40 : decode cX12_exchange 40 = .ok (.invokevirtual 399, 3) := by decide +kernel
theorem dX12_exchange_43 : decode cX12_exchange 43 = .ok (.ifCond .ne 6, 3) := by decide +kernel
theorem dX12_exchange_46 : decode cX12_exchange 46 = .ok (.bipush (-2), 2) := by decide +kernel
theorem dX12_exchange_48 : decode cX12_exchange 48 = .ok (.ireturn, 1) := by decide +kernel
theorem dX12_exchange_49 : decode cX12_exchange 49 = .ok (.iconst 1, 1) := by decide +kernel
theorem dX12_exchange_50 : decode cX12_exchange 50 = .ok (.iload_n 1, 1) := by decide +kernel
theorem dX12_exchange_51 : decode cX12_exchange 51 = .ok (.ishl, 1) := by decide +kernel
theorem dX12_exchange_52 : decode cX12_exchange 52 = .ok (.iconst 1, 1) := by decide +kernel
theorem dX12_exchange_53 : decode cX12_exchange 53 = .ok (.isub, 1) := by decide +kernel
theorem dX12_exchange_54 : decode cX12_exchange 54 = .ok (.istore_n 3, 1) := by decide +kernel
theorem dX12_exchange_55 : decode cX12_exchange 55 = .ok (.iload_n 3, 1) := by decide +kernel
theorem dX12_exchange_56 : decode cX12_exchange 56 = .ok (.ifCond .eq 13, 3) := by decide +kernel
theorem dX12_exchange_59 : decode cX12_exchange 59 = .ok (.aload_n 0, 1) := by decide +kernel
theorem dX12_exchange_60 : decode cX12_exchange 60 = .ok (.iload_n 3, 1) := by decide +kernel
theorem dX12_exchange_61 : decode cX12_exchange 61 = .ok (.iload_n 1, 1) := by decide +kernel
theorem dX12_exchange_62 : decode cX12_exchange 62 = .ok (.invokevirtual 402, 3) := by decide +kernel
theorem dX12_exchange_65 : decode cX12_exchange 65 = .ok (.istore_n 3, 1) := by decide +kernel
theorem dX12_exchange_66 : decode cX12_exchange 66 = .ok (.goto (-11), 3) := by decide +kernel
theorem dX12_exchange_69 : decode cX12_exchange 69 = .ok (.aload_n 0, 1) := by decide +kernel
theorem dX12_exchange_70 : decode cX12_exchange 70 = .ok (.getfield 102, 3) := by decide +kernel
theorem dX12_exchange_73 : decode cX12_exchange 73 = .ok (.iload_n 2, 1) := by decide +kernel
theorem dX12_exchange_74 : decode cX12_exchange 74 = .ok (.iaload, 1) := by decide +kernel
theorem dX12_exchange_75 : decode cX12_exchange 75 = .ok (.ireturn, 1) := by decide +kernel
theorem dX12_seed_0 : decode cX12_seed 0 = .ok (.iload_n 1, 1) := by decide +kernel
theorem dX12_seed_1 : decode cX12_seed 1 = .ok (.iconst 0, 1) := by decide +kernel
theorem dX12_seed_2 : decode cX12_seed 2 = .ok (.ldc_w 405, 3) := by decide +kernel
theorem dX12_seed_5 : decode cX12_seed 5 = .ok (.invokestatic 105, 3) := by decide +kernel
theorem dX12_seed_8 : decode cX12_seed 8 = .ok (.ifCond .ne 5, 3) := by decide +kernel
theorem dX12_seed_11 : decode cX12_seed 11 = .ok (.iconst 0, 1) := by decide +kernel
theorem dX12_seed_12 : decode cX12_seed 12 = .ok (.ireturn, 1) := by decide +kernel
theorem dX12_seed_13 : decode cX12_seed 13 = .ok (.aload_n 0, 1) := by decide +kernel
theorem dX12_seed_14 : decode cX12_seed 14 = .ok (.getfield 7, 3) := by decide +kernel
theorem dX12_seed_17 : decode cX12_seed 17 = .ok (.sipush 129, 3) := by decide +kernel
theorem dX12_seed_20 : decode cX12_seed 20 = .ok (.iload_n 1, 1) := by decide +kernel
theorem dX12_seed_21 : decode cX12_seed 21 = .ok (.iastore, 1) := by decide +kernel
theorem dX12_seed_22 : decode cX12_seed 22 = .ok (.iconst 1, 1) := by decide +kernel
theorem dX12_seed_23 : decode cX12_seed 23 = .ok (.ireturn, 1) := by decide +kernel
theorem dX12_keep_0 : decode cX12_keep 0 = .ok (.aload_n 0, 1) := by decide +kernel
theorem dX12_keep_1 : decode cX12_keep 1 = .ok (.iconst 1, 1) := by decide +kernel
theorem dX12_keep_2 : decode cX12_keep 2 = .ok (.putfield 406, 3) := by decide +kernel
theorem dX12_keep_5 : decode cX12_keep 5 = .ok (.aload_n 0, 1) := by decide +kernel
theorem dX12_keep_6 : decode cX12_keep 6 = .ok (.getfield 7, 3) := by decide +kernel
theorem dX12_keep_9 : decode cX12_keep 9 = .ok (.aload_n 0, 1) := by decide +kernel
theorem dX12_keep_10 : decode cX12_keep 10 = .ok (.getfield 16, 3) := by decide +kernel
theorem dX12_keep_13 : decode cX12_keep 13 = .ok (.invokestatic 271, 3) := by decide +kernel
theorem dX12_keep_16 : decode cX12_keep 16 = .ok (.aload_n 0, 1) := by decide +kernel
theorem dX12_keep_17 : decode cX12_keep 17 = .ok (.getfield 109, 3) := by decide +kernel
theorem dX12_keep_20 : decode cX12_keep 20 = .ok (.istore_n 1, 1) := by decide +kernel
theorem dX12_keep_21 : decode cX12_keep 21 = .ok (.iload_n 1, 1) := by decide +kernel
theorem dX12_keep_22 : decode cX12_keep 22 = .ok (.bipush 48, 2) := by decide +kernel
theorem dX12_keep_24 : decode cX12_keep 24 = .ok (.if_icmp .ge 19, 3) := by decide +kernel
theorem dX12_keep_27 : decode cX12_keep 27 = .ok (.aload_n 0, 1) := by decide +kernel
theorem dX12_keep_28 : decode cX12_keep 28 = .ok (.getfield 16, 3) := by decide +kernel
theorem dX12_keep_31 : decode cX12_keep 31 = .ok (.bipush 32, 2) := by decide +kernel
theorem dX12_keep_33 : decode cX12_keep 33 = .ok (.iload_n 1, 1) := by decide +kernel
theorem dX12_keep_34 : decode cX12_keep 34 = .ok (.iadd, 1) := by decide +kernel
theorem dX12_keep_35 : decode cX12_keep 35 = .ok (.iconst (-1), 1) := by decide +kernel
theorem dX12_keep_36 : decode cX12_keep 36 = .ok (.iastore, 1) := by decide +kernel
theorem dX12_keep_37 : decode cX12_keep 37 = .ok (.iinc 1 1, 3) := by decide +kernel
theorem dX12_keep_40 : decode cX12_keep 40 = .ok (.goto (-19), 3) := by decide +kernel
theorem dX12_keep_43 : decode cX12_keep 43 = .ok (.aload_n 0, 1) := by decide +kernel
theorem dX12_keep_44 : decode cX12_keep 44 = .ok (.getfield 7, 3) := by decide +kernel
theorem dX12_keep_47 : decode cX12_keep 47 = .ok (.sipush 128, 3) := by decide +kernel
theorem dX12_keep_50 : decode cX12_keep 50 = .ok (.iaload, 1) := by decide +kernel
theorem dX12_keep_51 : decode cX12_keep 51 = .ok (.ireturn, 1) := by decide +kernel
theorem dX12_undo_0 : decode cX12_undo 0 = .ok (.aload_n 0, 1) := by decide +kernel
theorem dX12_undo_1 : decode cX12_undo 1 = .ok (.getfield 406, 3) := by decide +kernel
theorem dX12_undo_4 : decode cX12_undo 4 = .ok (.ifCond .ne 5, 3) := by decide +kernel
theorem dX12_undo_7 : decode cX12_undo 7 = .ok (.iconst 0, 1) := by decide +kernel
theorem dX12_undo_8 : decode cX12_undo 8 = .ok (.ireturn, 1) := by decide +kernel
theorem dX12_undo_9 : decode cX12_undo 9 = .ok (.aload_n 0, 1) := by decide +kernel
theorem dX12_undo_10 : decode cX12_undo 10 = .ok (.getfield 16, 3) := by decide +kernel
theorem dX12_undo_13 : decode cX12_undo 13 = .ok (.aload_n 0, 1) := by decide +kernel
theorem dX12_undo_14 : decode cX12_undo 14 = .ok (.getfield 7, 3) := by decide +kernel
theorem dX12_undo_17 : decode cX12_undo 17 = .ok (.invokestatic 271, 3) := by decide +kernel
theorem dX12_undo_20 : decode cX12_undo 20 = .ok (.iconst 1, 1) := by decide +kernel
theorem dX12_undo_21 : decode cX12_undo 21 = .ok (.ireturn, 1) := by decide +kernel
theorem dX12_check_0 : decode cX12_check 0 = .ok (.iload_n 1, 1) := by decide +kernel
theorem dX12_check_1 : decode cX12_check 1 = .ok (.iconst 0, 1) := by decide +kernel
theorem dX12_check_2 : decode cX12_check 2 = .ok (.bipush 8, 2) := by decide +kernel
theorem dX12_check_4 : decode cX12_check 4 = .ok (.invokestatic 105, 3) := by decide +kernel
theorem dX12_check_7 : decode cX12_check 7 = .ok (.ifCond .eq 11, 3) := by decide +kernel
theorem dX12_check_10 : decode cX12_check 10 = .ok (.iload_n 1, 1) := by decide +kernel
theorem dX12_check_11 : decode cX12_check 11 = .ok (.aload_n 0, 1) := by decide +kernel
theorem dX12_check_12 : decode cX12_check 12 = .ok (.getfield 117, 3) := by decide +kernel
theorem dX12_check_15 : decode cX12_check 15 = .ok (.if_icmp .le 6, 3) := by decide +kernel
theorem dX12_check_18 : decode cX12_check 18 = .ok (.bipush (-2), 2) := by decide +kernel
theorem dX12_check_20 : decode cX12_check 20 = .ok (.ireturn, 1) := by decide +kernel
theorem dX12_check_21 : decode cX12_check 21 = .ok (.aload_n 0, 1) := by decide +kernel
theorem dX12_check_22 : decode cX12_check 22 = .ok (.iconst 0, 1) := by decide +kernel
theorem dX12_check_23 : decode cX12_check 23 = .ok (.putfield 117, 3) := by decide +kernel
theorem dX12_check_26 : decode cX12_check 26 = .ok (.iconst 0, 1) := by decide +kernel
theorem dX12_check_27 : decode cX12_check 27 = .ok (.istore_n 2, 1) := by decide +kernel
theorem dX12_check_28 : decode cX12_check 28 = .ok (.iload_n 2, 1) := by decide +kernel
theorem dX12_check_29 : decode cX12_check 29 = .ok (.iload_n 1, 1) := by decide +kernel
theorem dX12_check_30 : decode cX12_check 30 = .ok (.if_icmp .ge 45, 3) := by decide +kernel
theorem dX12_check_33 : decode cX12_check 33 = .ok (.aload_n 0, 1) := by decide +kernel
theorem dX12_check_34 : decode cX12_check 34 = .ok (.iload_n 2, 1) := by decide +kernel
theorem dX12_check_35 : decode cX12_check 35 = .ok (.invokevirtual 360, 3) := by decide +kernel
theorem dX12_check_38 : decode cX12_check 38 = .ok (.aload_n 0, 1) := by decide +kernel
theorem dX12_check_39 : decode cX12_check 39 = .ok (.iload_n 2, 1) := by decide +kernel
theorem dX12_check_40 : decode cX12_check 40 = .ok (.invokevirtual 259, 3) := by decide +kernel
theorem dX12_check_43 : decode cX12_check 43 = .ok (.ifCond .eq 18, 3) := by decide +kernel
theorem dX12_check_46 : decode cX12_check 46 = .ok (.aload_n 0, 1) := by decide +kernel
theorem dX12_check_47 : decode cX12_check 47 = .ok (.getfield 7, 3) := by decide +kernel
theorem dX12_check_50 : decode cX12_check 50 = .ok (.bipush 8, 2) := by decide +kernel
theorem dX12_check_52 : decode cX12_check 52 = .ok (.iload_n 2, 1) := by decide +kernel
theorem dX12_check_53 : decode cX12_check 53 = .ok (.iadd, 1) := by decide +kernel
theorem dX12_check_54 : decode cX12_check 54 = .ok (.iaload, 1) := by decide +kernel
theorem dX12_check_55 : decode cX12_check 55 = .ok (.bipush 24, 2) := by decide +kernel
theorem dX12_check_57 : decode cX12_check 57 = .ok (.irem, 1) := by decide +kernel
theorem dX12_check_58 : decode cX12_check 58 = .ok (.goto 6, 3) := by decide +kernel
theorem dX12_check_61 : decode cX12_check 61 = .ok (.sipush 255, 3) := by decide +kernel
theorem dX12_check_64 : decode cX12_check 64 = .ok (.if_icmp .eq 5, 3) := by decide +kernel
theorem dX12_check_67 : decode cX12_check 67 = .ok (.iload_n 2, 1) := by decide +kernel
theorem dX12_check_68 : decode cX12_check 68 = .ok (.ireturn, 1) := by decide +kernel
theorem dX12_check_69 : decode cX12_check 69 = .ok (.iinc 2 1, 3) := by decide +kernel
theorem dX12_check_72 : decode cX12_check 72 = .ok (.goto (-44), 3) := by decide +kernel
theorem dX12_check_75 : decode cX12_check 75 = .ok (.iconst (-1), 1) := by decide +kernel
theorem dX12_check_76 : decode cX12_check 76 = .ok (.ireturn, 1) := by decide +kernel
theorem dX12_octet_0 : decode cX12_octet 0 = .ok (.aload_n 0, 1) := by decide +kernel
theorem dX12_octet_1 : decode cX12_octet 1 = .ok (.getfield 35, 3) := by decide +kernel
theorem dX12_octet_4 : decode cX12_octet 4 = .ok (.iload_n 1, 1) := by decide +kernel
theorem dX12_octet_5 : decode cX12_octet 5 = .ok (.baload, 1) := by decide +kernel
theorem dX12_octet_6 : decode cX12_octet 6 = .ok (.sipush 255, 3) := by decide +kernel
theorem dX12_octet_9 : decode cX12_octet 9 = .ok (.iand, 1) := by decide +kernel
theorem dX12_octet_10 : decode cX12_octet 10 = .ok (.ireturn, 1) := by decide +kernel
theorem dX12_toldMints_0 : decode cX12_toldMints 0 = .ok (.iconst 0, 1) := by decide +kernel
theorem dX12_toldMints_1 : decode cX12_toldMints 1 = .ok (.istore_n 1, 1) := by decide +kernel
theorem dX12_toldMints_2 : decode cX12_toldMints 2 = .ok (.iconst 0, 1) := by decide +kernel
theorem dX12_toldMints_3 : decode cX12_toldMints 3 = .ok (.istore_n 2, 1) := by decide +kernel
theorem dX12_toldMints_4 : decode cX12_toldMints 4 = .ok (.iload_n 2, 1) := by decide +kernel
theorem dX12_toldMints_5 : decode cX12_toldMints 5 = .ok (.bipush 8, 2) := by decide +kernel
theorem dX12_toldMints_7 : decode cX12_toldMints 7 = .ok (.if_icmp .ge 25, 3) := by decide +kernel
theorem dX12_toldMints_10 : decode cX12_toldMints 10 = .ok (.aload_n 0, 1) := by decide +kernel
theorem dX12_toldMints_11 : decode cX12_toldMints 11 = .ok (.getfield 19, 3) := by decide +kernel
theorem dX12_toldMints_14 : decode cX12_toldMints 14 = .ok (.iload_n 2, 1) := by decide +kernel
theorem dX12_toldMints_15 : decode cX12_toldMints 15 = .ok (.iaload, 1) := by decide +kernel
theorem dX12_toldMints_16 : decode cX12_toldMints 16 = .ok (.iconst (-1), 1) := by decide +kernel
theorem dX12_toldMints_17 : decode cX12_toldMints 17 = .ok (.if_icmp .eq 9, 3) := by decide +kernel
theorem dX12_toldMints_20 : decode cX12_toldMints 20 = .ok (.iload_n 1, 1) := by decide +kernel
theorem dX12_toldMints_21 : decode cX12_toldMints 21 = .ok (.iconst 1, 1) := by decide +kernel
theorem dX12_toldMints_22 : decode cX12_toldMints 22 = .ok (.iload_n 2, 1) := by decide +kernel
theorem dX12_toldMints_23 : decode cX12_toldMints 23 = .ok (.ishl, 1) := by decide +kernel
theorem dX12_toldMints_24 : decode cX12_toldMints 24 = .ok (.ior, 1) := by decide +kernel
theorem dX12_toldMints_25 : decode cX12_toldMints 25 = .ok (.istore_n 1, 1) := by decide +kernel
theorem dX12_toldMints_26 : decode cX12_toldMints 26 = .ok (.iinc 2 1, 3) := by decide +kernel
theorem dX12_toldMints_29 : decode cX12_toldMints 29 = .ok (.goto (-25), 3) := by decide +kernel
theorem dX12_toldMints_32 : decode cX12_toldMints 32 = .ok (.iload_n 1, 1) := by decide +kernel
theorem dX12_toldMints_33 : decode cX12_toldMints 33 = .ok (.ireturn, 1) := by decide +kernel
theorem dX12_toldLetters_0 : decode cX12_toldLetters 0 = .ok (.iconst 0, 1) := by decide +kernel
theorem dX12_toldLetters_1 : decode cX12_toldLetters 1 = .ok (.istore_n 1, 1) := by decide +kernel
theorem dX12_toldLetters_2 : decode cX12_toldLetters 2 = .ok (.iconst 0, 1) := by decide +kernel
theorem dX12_toldLetters_3 : decode cX12_toldLetters 3 = .ok (.istore_n 2, 1) := by decide +kernel
theorem dX12_toldLetters_4 : decode cX12_toldLetters 4 = .ok (.iload_n 2, 1) := by decide +kernel
theorem dX12_toldLetters_5 : decode cX12_toldLetters 5 = .ok (.bipush 8, 2) := by decide +kernel
theorem dX12_toldLetters_7 : decode cX12_toldLetters 7 = .ok (.if_icmp .ge 23, 3) := by decide +kernel
theorem dX12_toldLetters_10 : decode cX12_toldLetters 10 = .ok (.aload_n 0, 1) := by decide +kernel
theorem dX12_toldLetters_11 : decode cX12_toldLetters 11 = .ok (.iload_n 2, 1) := by decide +kernel
theorem dX12_toldLetters_12 : decode cX12_toldLetters 12 = .ok (.invokevirtual 259, 3) := by decide +kernel
theorem dX12_toldLetters_15 : decode cX12_toldLetters 15 = .ok (.ifCond .eq 9, 3) := by decide +kernel
theorem dX12_toldLetters_18 : decode cX12_toldLetters 18 = .ok (.iload_n 1, 1) := by decide +kernel
theorem dX12_toldLetters_19 : decode cX12_toldLetters 19 = .ok (.iconst 1, 1) := by decide +kernel
theorem dX12_toldLetters_20 : decode cX12_toldLetters 20 = .ok (.iload_n 2, 1) := by decide +kernel
theorem dX12_toldLetters_21 : decode cX12_toldLetters 21 = .ok (.ishl, 1) := by decide +kernel
theorem dX12_toldLetters_22 : decode cX12_toldLetters 22 = .ok (.ior, 1) := by decide +kernel
theorem dX12_toldLetters_23 : decode cX12_toldLetters 23 = .ok (.istore_n 1, 1) := by decide +kernel
theorem dX12_toldLetters_24 : decode cX12_toldLetters 24 = .ok (.iinc 2 1, 3) := by decide +kernel
theorem dX12_toldLetters_27 : decode cX12_toldLetters 27 = .ok (.goto (-23), 3) := by decide +kernel
theorem dX12_toldLetters_30 : decode cX12_toldLetters 30 = .ok (.iload_n 1, 1) := by decide +kernel
theorem dX12_toldLetters_31 : decode cX12_toldLetters 31 = .ok (.ireturn, 1) := by decide +kernel
theorem dX12_count_0 : decode cX12_count 0 = .ok (.iconst 0, 1) := by decide +kernel
theorem dX12_count_1 : decode cX12_count 1 = .ok (.istore_n 2, 1) := by decide +kernel
theorem dX12_count_2 : decode cX12_count 2 = .ok (.iload_n 1, 1) := by decide +kernel
theorem dX12_count_3 : decode cX12_count 3 = .ok (.tableswitch 157 0 8 #[49, 58, 63, 68, 73, 108, 138, 143, 148], 49) := by decide +kernel
theorem dX12_count_52 : decode cX12_count 52 = .ok (.aload_n 0, 1) := by decide +kernel
theorem dX12_count_53 : decode cX12_count 53 = .ok (.getfield 7, 3) := by decide +kernel
theorem dX12_count_56 : decode cX12_count 56 = .ok (.sipush 128, 3) := by decide +kernel
theorem dX12_count_59 : decode cX12_count 59 = .ok (.iaload, 1) := by decide +kernel
theorem dX12_count_60 : decode cX12_count 60 = .ok (.ireturn, 1) := by decide +kernel
theorem dX12_count_61 : decode cX12_count 61 = .ok (.aload_n 0, 1) := by decide +kernel
theorem dX12_count_62 : decode cX12_count 62 = .ok (.invokevirtual 410, 3) := by decide +kernel
theorem dX12_count_65 : decode cX12_count 65 = .ok (.ireturn, 1) := by decide +kernel
theorem dX12_count_66 : decode cX12_count 66 = .ok (.aload_n 0, 1) := by decide +kernel
theorem dX12_count_67 : decode cX12_count 67 = .ok (.invokevirtual 413, 3) := by decide +kernel
theorem dX12_count_70 : decode cX12_count 70 = .ok (.ireturn, 1) := by decide +kernel
theorem dX12_count_71 : decode cX12_count 71 = .ok (.aload_n 0, 1) := by decide +kernel
theorem dX12_count_72 : decode cX12_count 72 = .ok (.getfield 109, 3) := by decide +kernel
theorem dX12_count_75 : decode cX12_count 75 = .ok (.ireturn, 1) := by decide +kernel
theorem dX12_count_76 : decode cX12_count 76 = .ok (.iconst 0, 1) := by decide +kernel
theorem dX12_count_77 : decode cX12_count 77 = .ok (.istore_n 3, 1) := by decide +kernel
theorem dX12_count_78 : decode cX12_count 78 = .ok (.iload_n 3, 1) := by decide +kernel
theorem dX12_count_79 : decode cX12_count 79 = .ok (.aload_n 0, 1) := by decide +kernel
theorem dX12_count_80 : decode cX12_count 80 = .ok (.getfield 109, 3) := by decide +kernel
theorem dX12_count_83 : decode cX12_count 83 = .ok (.if_icmp .ge 26, 3) := by decide +kernel
theorem dX12_count_86 : decode cX12_count 86 = .ok (.aload_n 0, 1) := by decide +kernel
theorem dX12_count_87 : decode cX12_count 87 = .ok (.getfield 7, 3) := by decide +kernel
theorem dX12_count_90 : decode cX12_count 90 = .ok (.bipush 32, 2) := by decide +kernel
theorem dX12_count_92 : decode cX12_count 92 = .ok (.iload_n 3, 1) := by decide +kernel
theorem dX12_count_93 : decode cX12_count 93 = .ok (.iadd, 1) := by decide +kernel
theorem dX12_count_94 : decode cX12_count 94 = .ok (.iaload, 1) := by decide +kernel
theorem dX12_count_95 : decode cX12_count 95 = .ok (.iconst (-1), 1) := by decide +kernel
theorem dX12_count_96 : decode cX12_count 96 = .ok (.if_icmp .eq 7, 3) := by decide +kernel
theorem dX12_count_99 : decode cX12_count 99 = .ok (.iload_n 2, 1) := by decide +kernel
theorem dX12_count_100 : decode cX12_count 100 = .ok (.iconst 1, 1) := by decide +kernel
theorem dX12_count_101 : decode cX12_count 101 = .ok (.iadd, 1) := by decide +kernel
theorem dX12_count_102 : decode cX12_count 102 = .ok (.istore_n 2, 1) := by decide +kernel
theorem dX12_count_103 : decode cX12_count 103 = .ok (.iinc 3 1, 3) := by decide +kernel
theorem dX12_count_106 : decode cX12_count 106 = .ok (.goto (-28), 3) := by decide +kernel
theorem dX12_count_109 : decode cX12_count 109 = .ok (.iload_n 2, 1) := by decide +kernel
theorem dX12_count_110 : decode cX12_count 110 = .ok (.ireturn, 1) := by decide +kernel
theorem dX12_count_111 : decode cX12_count 111 = .ok (.iconst 0, 1) := by decide +kernel
theorem dX12_count_112 : decode cX12_count 112 = .ok (.istore_n 3, 1) := by decide +kernel
theorem dX12_count_113 : decode cX12_count 113 = .ok (.iload_n 3, 1) := by decide +kernel
theorem dX12_count_114 : decode cX12_count 114 = .ok (.sipush 384, 3) := by decide +kernel
theorem dX12_count_117 : decode cX12_count 117 = .ok (.if_icmp .ge 22, 3) := by decide +kernel
theorem dX12_count_120 : decode cX12_count 120 = .ok (.aload_n 0, 1) := by decide +kernel
theorem dX12_count_121 : decode cX12_count 121 = .ok (.getfield 28, 3) := by decide +kernel
theorem dX12_count_124 : decode cX12_count 124 = .ok (.iload_n 3, 1) := by decide +kernel
theorem dX12_count_125 : decode cX12_count 125 = .ok (.baload, 1) := by decide +kernel
theorem dX12_count_126 : decode cX12_count 126 = .ok (.ifCond .eq 7, 3) := by decide +kernel
theorem dX12_count_129 : decode cX12_count 129 = .ok (.iload_n 2, 1) := by decide +kernel
theorem dX12_count_130 : decode cX12_count 130 = .ok (.iconst 1, 1) := by decide +kernel
theorem dX12_count_131 : decode cX12_count 131 = .ok (.iadd, 1) := by decide +kernel
theorem dX12_count_132 : decode cX12_count 132 = .ok (.istore_n 2, 1) := by decide +kernel
theorem dX12_count_133 : decode cX12_count 133 = .ok (.iinc 3 1, 3) := by decide +kernel
theorem dX12_count_136 : decode cX12_count 136 = .ok (.goto (-23), 3) := by decide +kernel
theorem dX12_count_139 : decode cX12_count 139 = .ok (.iload_n 2, 1) := by decide +kernel
theorem dX12_count_140 : decode cX12_count 140 = .ok (.ireturn, 1) := by decide +kernel
theorem dX12_count_141 : decode cX12_count 141 = .ok (.aload_n 0, 1) := by decide +kernel
theorem dX12_count_142 : decode cX12_count 142 = .ok (.getfield 218, 3) := by decide +kernel
theorem dX12_count_145 : decode cX12_count 145 = .ok (.ireturn, 1) := by decide +kernel
theorem dX12_count_146 : decode cX12_count 146 = .ok (.aload_n 0, 1) := by decide +kernel
theorem dX12_count_147 : decode cX12_count 147 = .ok (.getfield 117, 3) := by decide +kernel
theorem dX12_count_150 : decode cX12_count 150 = .ok (.ireturn, 1) := by decide +kernel
theorem dX12_count_151 : decode cX12_count 151 = .ok (.aload_n 0, 1) := by decide +kernel
theorem dX12_count_152 : decode cX12_count 152 = .ok (.getfield 7, 3) := by decide +kernel
theorem dX12_count_155 : decode cX12_count 155 = .ok (.sipush 129, 3) := by decide +kernel
theorem dX12_count_158 : decode cX12_count 158 = .ok (.iaload, 1) := by decide +kernel
theorem dX12_count_159 : decode cX12_count 159 = .ok (.ireturn, 1) := by decide +kernel
theorem dX12_count_160 : decode cX12_count 160 = .ok (.iconst (-1), 1) := by decide +kernel
theorem dX12_count_161 : decode cX12_count 161 = .ok (.ireturn, 1) := by decide +kernel
