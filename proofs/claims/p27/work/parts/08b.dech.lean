theorem dX11_init_0 : decode cX11_init 0 = .ok (.aload_n 0, 1) := by decide +kernel
theorem dX11_init_1 : decode cX11_init 1 = .ok (.invokespecial 3, 3) := by decide +kernel
theorem dX11_init_4 : decode cX11_init 4 = .ok (.aload_n 0, 1) := by decide +kernel
theorem dX11_init_5 : decode cX11_init 5 = .ok (.new 9, 3) := by decide +kernel
theorem dX11_init_8 : decode cX11_init 8 = .ok (.dup, 1) := by decide +kernel
theorem dX11_init_9 : decode cX11_init 9 = .ok (.invokespecial 11, 3) := by decide +kernel
theorem dX11_init_12 : decode cX11_init 12 = .ok (.putfield 12, 3) := by decide +kernel
theorem dX11_init_15 : decode cX11_init 15 = .ok (.aload_n 0, 1) := by decide +kernel
theorem dX11_init_16 : decode cX11_init 16 = .ok (.new 16, 3) := by decide +kernel
theorem dX11_init_19 : decode cX11_init 19 = .ok (.dup, 1) := by decide +kernel
theorem dX11_init_20 : decode cX11_init 20 = .ok (.invokespecial 18, 3) := by decide +kernel
theorem dX11_init_23 : decode cX11_init 23 = .ok (.putfield 19, 3) := by decide +kernel
theorem dX11_init_26 : decode cX11_init 26 = .ok (.aload_n 0, 1) := by decide +kernel
theorem dX11_init_27 : decode cX11_init 27 = .ok (.new 23, 3) := by decide +kernel
theorem dX11_init_30 : decode cX11_init 30 = .ok (.dup, 1) := by decide +kernel
theorem dX11_init_31 : decode cX11_init 31 = .ok (.invokespecial 25, 3) := by decide +kernel
theorem dX11_init_34 : decode cX11_init 34 = .ok (.putfield 26, 3) := by decide +kernel
theorem dX11_init_37 : decode cX11_init 37 = .ok (.aload_n 0, 1) := by decide +kernel
theorem dX11_init_38 : decode cX11_init 38 = .ok (.new 23, 3) := by decide +kernel
theorem dX11_init_41 : decode cX11_init 41 = .ok (.dup, 1) := by decide +kernel
theorem dX11_init_42 : decode cX11_init 42 = .ok (.invokespecial 25, 3) := by decide +kernel
theorem dX11_init_45 : decode cX11_init 45 = .ok (.putfield 30, 3) := by decide +kernel
theorem dX11_init_48 : decode cX11_init 48 = .ok (.aload_n 0, 1) := by decide +kernel
theorem dX11_init_49 : decode cX11_init 49 = .ok (.new 23, 3) := by decide +kernel
theorem dX11_init_52 : decode cX11_init 52 = .ok (.dup, 1) := by decide +kernel
theorem dX11_init_53 : decode cX11_init 53 = .ok (.invokespecial 25, 3) := by decide +kernel
theorem dX11_init_56 : decode cX11_init 56 = .ok (.putfield 33, 3) := by decide +kernel
theorem dX11_init_59 : decode cX11_init 59 = .ok (.aload_n 0, 1) := by decide +kernel
theorem dX11_init_60 : decode cX11_init 60 = .ok (.new 36, 3) := by decide +kernel
theorem dX11_init_63 : decode cX11_init 63 = .ok (.dup, 1) := by decide +kernel
theorem dX11_init_64 : decode cX11_init 64 = .ok (.aload_n 0, 1) := by decide +kernel
theorem dX11_init_65 : decode cX11_init 65 = .ok (.getfield 19, 3) := by decide +kernel
theorem dX11_init_68 : decode cX11_init 68 = .ok (.invokespecial 38, 3) := by decide +kernel
theorem dX11_init_71 : decode cX11_init 71 = .ok (.putfield 41, 3) := by decide +kernel
theorem dX11_init_74 : decode cX11_init 74 = .ok (.aload_n 0, 1) := by decide +kernel
theorem dX11_init_75 : decode cX11_init 75 = .ok (.new 45, 3) := by decide +kernel
theorem dX11_init_78 : decode cX11_init 78 = .ok (.dup, 1) := by decide +kernel
theorem dX11_init_79 : decode cX11_init 79 = .ok (.aload_n 0, 1) := by decide +kernel
theorem dX11_init_80 : decode cX11_init 80 = .ok (.getfield 19, 3) := by decide +kernel
theorem dX11_init_83 : decode cX11_init 83 = .ok (.invokespecial 47, 3) := by decide +kernel
theorem dX11_init_86 : decode cX11_init 86 = .ok (.putfield 48, 3) := by decide +kernel
theorem dX11_init_89 : decode cX11_init 89 = .ok (.aload_n 0, 1) := by decide +kernel
theorem dX11_init_90 : decode cX11_init 90 = .ok (.new 52, 3) := by decide +kernel
theorem dX11_init_93 : decode cX11_init 93 = .ok (.dup, 1) := by decide +kernel
theorem dX11_init_94 : decode cX11_init 94 = .ok (.aload_n 0, 1) := by decide +kernel
theorem dX11_init_95 : decode cX11_init 95 = .ok (.getfield 12, 3) := by decide +kernel
theorem dX11_init_98 : decode cX11_init 98 = .ok (.invokespecial 54, 3) := by decide +kernel
theorem dX11_init_101 : decode cX11_init 101 = .ok (.putfield 57, 3) := by decide +kernel
theorem dX11_init_104 : decode cX11_init 104 = .ok (.aload_n 0, 1) := by decide +kernel
theorem dX11_init_105 : decode cX11_init 105 = .ok (.new 61, 3) := by decide +kernel
theorem dX11_init_108 : decode cX11_init 108 = .ok (.dup, 1) := by decide +kernel
theorem dX11_init_109 : decode cX11_init 109 = .ok (.aload_n 0, 1) := by decide +kernel
theorem dX11_init_110 : decode cX11_init 110 = .ok (.getfield 12, 3) := by decide +kernel
theorem dX11_init_113 : decode cX11_init 113 = .ok (.invokespecial 63, 3) := by decide +kernel
theorem dX11_init_116 : decode cX11_init 116 = .ok (.putfield 64, 3) := by decide +kernel
theorem dX11_init_119 : decode cX11_init 119 = .ok (.aload_n 0, 1) := by decide +kernel
theorem dX11_init_120 : decode cX11_init 120 = .ok (.new 68, 3) := by decide +kernel
theorem dX11_init_123 : decode cX11_init 123 = .ok (.dup, 1) := by decide +kernel
theorem dX11_init_124 : decode cX11_init 124 = .ok (.aload_n 0, 1) := by decide +kernel
theorem dX11_init_125 : decode cX11_init 125 = .ok (.getfield 12, 3) := by decide +kernel
theorem dX11_init_128 : decode cX11_init 128 = .ok (.invokespecial 70, 3) := by decide +kernel
theorem dX11_init_131 : decode cX11_init 131 = .ok (.putfield 71, 3) := by decide +kernel
theorem dX11_init_134 : decode cX11_init 134 = .ok (.aload_n 0, 1) := by decide +kernel
theorem dX11_init_135 : decode cX11_init 135 = .ok (.sipush 384, 3) := by decide +kernel
theorem dX11_init_138 : decode cX11_init 138 = .ok (.newarray .int, 2) := by decide +kernel
theorem dX11_init_140 : decode cX11_init 140 = .ok (.putfield 75, 3) := by decide +kernel
theorem dX11_init_143 : decode cX11_init 143 = .ok (.aload_n 0, 1) := by decide +kernel
theorem dX11_init_144 : decode cX11_init 144 = .ok (.new 79, 3) := by decide +kernel
theorem dX11_init_147 : decode cX11_init 147 = .ok (.dup, 1) := by decide +kernel
theorem dX11_init_148 : decode cX11_init 148 = .ok (.invokespecial 81, 3) := by decide +kernel
theorem dX11_init_151 : decode cX11_init 151 = .ok (.putfield 82, 3) := by decide +kernel
theorem dX11_init_154 : decode cX11_init 154 = .ok (.aload_n 0, 1) := by decide +kernel
theorem dX11_init_155 : decode cX11_init 155 = .ok (.new 79, 3) := by decide +kernel
theorem dX11_init_158 : decode cX11_init 158 = .ok (.dup, 1) := by decide +kernel
theorem dX11_init_159 : decode cX11_init 159 = .ok (.invokespecial 81, 3) := by decide +kernel
theorem dX11_init_162 : decode cX11_init 162 = .ok (.putfield 86, 3) := by decide +kernel
theorem dX11_init_165 : decode cX11_init 165 = .ok (.aload_n 0, 1) := by decide +kernel
theorem dX11_init_166 : decode cX11_init 166 = .ok (.new 89, 3) := by decide +kernel
theorem dX11_init_169 : decode cX11_init 169 = .ok (.dup, 1) := by decide +kernel
theorem dX11_init_170 : decode cX11_init 170 = .ok (.aload_n 0, 1) := by decide +kernel
theorem dX11_init_171 : decode cX11_init 171 = .ok (.getfield 12, 3) := by decide +kernel
theorem dX11_init_174 : decode cX11_init 174 = .ok (.aload_n 0, 1) := by decide +kernel
theorem dX11_init_175 : decode cX11_init 175 = .ok (.getfield 86, 3) := by decide +kernel
theorem dX11_init_178 : decode cX11_init 178 = .ok (.invokespecial 91, 3) := by decide +kernel
theorem dX11_init_181 : decode cX11_init 181 = .ok (.putfield 94, 3) := by decide +kernel
theorem dX11_init_184 : decode cX11_init 184 = .ok (.aload_n 0, 1) := by decide +kernel
theorem dX11_init_185 : decode cX11_init 185 = .ok (.iconst 0, 1) := by decide +kernel
theorem dX11_init_186 : decode cX11_init 186 = .ok (.putfield 98, 3) := by decide +kernel
theorem dX11_init_189 : decode cX11_init 189 = .ok (.return_, 1) := by decide +kernel
theorem dX11_mint_0 : decode cX11_mint 0 = .ok (.iload_n 1, 1) := by decide +kernel
theorem dX11_mint_1 : decode cX11_mint 1 = .ok (.iconst 0, 1) := by decide +kernel
theorem dX11_mint_2 : decode cX11_mint 2 = .ok (.bipush 7, 2) := by decide +kernel
theorem dX11_mint_4 : decode cX11_mint 4 = .ok (.invokestatic 102, 3) := by decide +kernel
theorem dX11_mint_7 : decode cX11_mint 7 = .ok (.ifCond .eq 23, 3) := by decide +kernel
theorem dX11_mint_10 : decode cX11_mint 10 = .ok (.iload_n 2, 1) := by decide +kernel
theorem dX11_mint_11 : decode cX11_mint 11 = .ok (.iconst 0, 1) := by decide +kernel
theorem dX11_mint_12 : decode cX11_mint 12 = .ok (.bipush 23, 2) := by decide +kernel
theorem dX11_mint_14 : decode cX11_mint 14 = .ok (.invokestatic 102, 3) := by decide +kernel
theorem dX11_mint_17 : decode cX11_mint 17 = .ok (.ifCond .eq 13, 3) := by decide +kernel
theorem dX11_mint_20 : decode cX11_mint 20 = .ok (.iload_n 3, 1) := by decide +kernel
theorem dX11_mint_21 : decode cX11_mint 21 = .ok (.iconst 0, 1) := by decide +kernel
theorem dX11_mint_22 : decode cX11_mint 22 = .ok (.bipush 15, 2) := by decide +kernel
theorem dX11_mint_24 : decode cX11_mint 24 = .ok (.invokestatic 102, 3) := by decide +kernel
theorem dX11_mint_27 : decode cX11_mint 27 = .ok (.ifCond .ne 5, 3) := by decide +kernel
theorem dX11_mint_30 : decode cX11_mint 30 = .ok (.iconst 0, 1) := by decide +kernel
theorem dX11_mint_31 : decode cX11_mint 31 = .ok (.ireturn, 1) := by decide +kernel
theorem dX11_mint_32 : decode cX11_mint 32 = .ok (.aload_n 0, 1) := by decide +kernel
theorem dX11_mint_33 : decode cX11_mint 33 = .ok (.getfield 19, 3) := by decide +kernel
theorem dX11_mint_36 : decode cX11_mint 36 = .ok (.iload_n 1, 1) := by decide +kernel
theorem dX11_mint_37 : decode cX11_mint 37 = .ok (.iload_n 2, 1) := by decide +kernel
theorem dX11_mint_38 : decode cX11_mint 38 = .ok (.iload_n 3, 1) := by decide +kernel
theorem dX11_mint_39 : decode cX11_mint 39 = .ok (.invokevirtual 106, 3) := by decide +kernel
theorem dX11_mint_42 : decode cX11_mint 42 = .ok (.iconst 1, 1) := by decide +kernel
theorem dX11_mint_43 : decode cX11_mint 43 = .ok (.ireturn, 1) := by decide +kernel
theorem dX11_feed_0 : decode cX11_feed 0 = .ok (.aload_n 0, 1) := by decide +kernel
theorem dX11_feed_1 : decode cX11_feed 1 = .ok (.getfield 12, 3) := by decide +kernel
theorem dX11_feed_4 : decode cX11_feed 4 = .ok (.bipush 20, 2) := by decide +kernel
theorem dX11_feed_6 : decode cX11_feed 6 = .ok (.invokevirtual 110, 3) := by decide +kernel
theorem dX11_feed_9 : decode cX11_feed 9 = .ok (.ifCond .ne 5, 3) := by decide +kernel
theorem dX11_feed_12 : decode cX11_feed 12 = .ok (.iconst (-1), 1) := by decide +kernel
theorem dX11_feed_13 : decode cX11_feed 13 = .ok (.ireturn, 1) := by decide +kernel
theorem dX11_feed_14 : decode cX11_feed 14 = .ok (.aload_n 0, 1) := by decide +kernel
theorem dX11_feed_15 : decode cX11_feed 15 = .ok (.getfield 12, 3) := by decide +kernel
theorem dX11_feed_18 : decode cX11_feed 18 = .ok (.iload_n 1, 1) := by decide +kernel
theorem dX11_feed_19 : decode cX11_feed 19 = .ok (.invokevirtual 114, 3) := by decide +kernel
theorem dX11_feed_22 : decode cX11_feed 22 = .ok (.aload_n 0, 1) := by decide +kernel
theorem dX11_feed_23 : decode cX11_feed 23 = .ok (.getfield 12, 3) := by decide +kernel
theorem dX11_feed_26 : decode cX11_feed 26 = .ok (.iload_n 2, 1) := by decide +kernel
theorem dX11_feed_27 : decode cX11_feed 27 = .ok (.invokevirtual 114, 3) := by decide +kernel
theorem dX11_feed_30 : decode cX11_feed 30 = .ok (.aload_n 0, 1) := by decide +kernel
theorem dX11_feed_31 : decode cX11_feed 31 = .ok (.getfield 12, 3) := by decide +kernel
theorem dX11_feed_34 : decode cX11_feed 34 = .ok (.iload_n 3, 1) := by decide +kernel
theorem dX11_feed_35 : decode cX11_feed 35 = .ok (.invokevirtual 114, 3) := by decide +kernel
theorem dX11_feed_38 : decode cX11_feed 38 = .ok (.aload_n 0, 1) := by decide +kernel
theorem dX11_feed_39 : decode cX11_feed 39 = .ok (.getfield 12, 3) := by decide +kernel
theorem dX11_feed_42 : decode cX11_feed 42 = .ok (.iload 4, 2) := by decide +kernel
theorem dX11_feed_44 : decode cX11_feed 44 = .ok (.invokevirtual 114, 3) := by decide +kernel
theorem dX11_feed_47 : decode cX11_feed 47 = .ok (.aload_n 0, 1) := by decide +kernel
theorem dX11_feed_48 : decode cX11_feed 48 = .ok (.getfield 12, 3) := by decide +kernel
theorem dX11_feed_51 : decode cX11_feed 51 = .ok (.iload 5, 2) := by decide +kernel
theorem dX11_feed_53 : decode cX11_feed 53 = .ok (.invokevirtual 114, 3) := by decide +kernel
theorem dX11_feed_56 : decode cX11_feed 56 = .ok (.aload_n 0, 1) := by decide +kernel
theorem dX11_feed_57 : decode cX11_feed 57 = .ok (.getfield 12, 3) := by decide +kernel
theorem dX11_feed_60 : decode cX11_feed 60 = .ok (.invokevirtual 118, 3) := by decide +kernel
theorem dX11_feed_63 : decode cX11_feed 63 = .ok (.ireturn, 1) := by decide +kernel
theorem dX11_law_0 : decode cX11_law 0 = .ok (.aload_n 0, 1) := by decide +kernel
theorem dX11_law_1 : decode cX11_law 1 = .ok (.getfield 12, 3) := by decide +kernel
theorem dX11_law_4 : decode cX11_law 4 = .ok (.iload_n 1, 1) := by decide +kernel
theorem dX11_law_5 : decode cX11_law 5 = .ok (.iconst 1, 1) := by decide +kernel
theorem dX11_law_6 : decode cX11_law 6 = .ok (.sipush 240, 3) := by decide +kernel
theorem dX11_law_9 : decode cX11_law 9 = .ok (.invokevirtual 122, 3) := by decide +kernel
theorem dX11_law_12 : decode cX11_law 12 = .ok (.ifCond .ne 5, 3) := by decide +kernel
theorem dX11_law_15 : decode cX11_law 15 = .ok (.iconst (-1), 1) := by decide +kernel
theorem dX11_law_16 : decode cX11_law 16 = .ok (.ireturn, 1) := by decide +kernel
theorem dX11_law_17 : decode cX11_law 17 = .ok (.aload_n 0, 1) := by decide +kernel
theorem dX11_law_18 : decode cX11_law 18 = .ok (.getfield 94, 3) := by decide +kernel
theorem dX11_law_21 : decode cX11_law 21 = .ok (.iload_n 1, 1) := by decide +kernel
theorem dX11_law_22 : decode cX11_law 22 = .ok (.aload_n 0, 1) := by decide +kernel
theorem dX11_law_23 : decode cX11_law 23 = .ok (.getfield 86, 3) := by decide +kernel
theorem dX11_law_26 : decode cX11_law 26 = .ok (.invokevirtual 125, 3) := by decide +kernel
theorem dX11_law_29 : decode cX11_law 29 = .ok (.istore_n 2, 1) := by decide +kernel
theorem dX11_law_30 : decode cX11_law 30 = .ok (.aload_n 0, 1) := by decide +kernel
theorem dX11_law_31 : decode cX11_law 31 = .ok (.getfield 12, 3) := by decide +kernel
theorem dX11_law_34 : decode cX11_law 34 = .ok (.invokevirtual 129, 3) := by decide +kernel
theorem dX11_law_37 : decode cX11_law 37 = .ok (.iload_n 2, 1) := by decide +kernel
theorem dX11_law_38 : decode cX11_law 38 = .ok (.ifCond .lt 21, 3) := by decide +kernel
theorem dX11_law_41 : decode cX11_law 41 = .ok (.aload_n 0, 1) := by decide +kernel
theorem dX11_law_42 : decode cX11_law 42 = .ok (.getfield 82, 3) := by decide +kernel
theorem dX11_law_45 : decode cX11_law 45 = .ok (.astore_n 3, 1) := by decide +kernel
theorem dX11_law_46 : decode cX11_law 46 = .ok (.aload_n 0, 1) := by decide +kernel
theorem dX11_law_47 : decode cX11_law 47 = .ok (.aload_n 0, 1) := by decide +kernel
theorem dX11_law_48 : decode cX11_law 48 = .ok (.getfield 86, 3) := by decide +kernel
theorem dX11_law_51 : decode cX11_law 51 = .ok (.putfield 82, 3) := by decide +kernel
theorem dX11_law_54 : decode cX11_law 54 = .ok (.aload_n 0, 1) := by decide +kernel
theorem dX11_law_55 : decode cX11_law 55 = .ok (.aload_n 3, 1) := by decide +kernel
theorem dX11_law_56 : decode cX11_law 56 = .ok (.putfield 86, 3) := by decide +kernel
theorem dX11_law_59 : decode cX11_law 59 = .ok (.iload_n 2, 1) := by decide +kernel
theorem dX11_law_60 : decode cX11_law 60 = .ok (.ireturn, 1) := by decide +kernel
theorem dX11_sheet_0 : decode cX11_sheet 0 = .ok (.aload_n 0, 1) := by decide +kernel
theorem dX11_sheet_1 : decode cX11_sheet 1 = .ok (.getfield 12, 3) := by decide +kernel
theorem dX11_sheet_4 : decode cX11_sheet 4 = .ok (.iload_n 1, 1) := by decide +kernel
theorem dX11_sheet_5 : decode cX11_sheet 5 = .ok (.iconst 1, 1) := by decide +kernel
theorem dX11_sheet_6 : decode cX11_sheet 6 = .ok (.bipush 60, 2) := by decide +kernel
theorem dX11_sheet_8 : decode cX11_sheet 8 = .ok (.invokevirtual 122, 3) := by decide +kernel
theorem dX11_sheet_11 : decode cX11_sheet 11 = .ok (.ifCond .ne 5, 3) := by decide +kernel
theorem dX11_sheet_14 : decode cX11_sheet 14 = .ok (.iconst (-1), 1) := by decide +kernel
theorem dX11_sheet_15 : decode cX11_sheet 15 = .ok (.ireturn, 1) := by decide +kernel
theorem dX11_sheet_16 : decode cX11_sheet 16 = .ok (.aload_n 0, 1) := by decide +kernel
theorem dX11_sheet_17 : decode cX11_sheet 17 = .ok (.getfield 64, 3) := by decide +kernel
theorem dX11_sheet_20 : decode cX11_sheet 20 = .ok (.iload_n 1, 1) := by decide +kernel
theorem dX11_sheet_21 : decode cX11_sheet 21 = .ok (.invokevirtual 132, 3) := by decide +kernel
theorem dX11_sheet_24 : decode cX11_sheet 24 = .ok (.istore_n 2, 1) := by decide +kernel
theorem dX11_sheet_25 : decode cX11_sheet 25 = .ok (.aload_n 0, 1) := by decide +kernel
theorem dX11_sheet_26 : decode cX11_sheet 26 = .ok (.getfield 12, 3) := by decide +kernel
theorem dX11_sheet_29 : decode cX11_sheet 29 = .ok (.invokevirtual 129, 3) := by decide +kernel
theorem dX11_sheet_32 : decode cX11_sheet 32 = .ok (.iload_n 2, 1) := by decide +kernel
theorem dX11_sheet_33 : decode cX11_sheet 33 = .ok (.ifCond .lt 22, 3) := by decide +kernel
theorem dX11_sheet_36 : decode cX11_sheet 36 = .ok (.aload_n 0, 1) := by decide +kernel
theorem dX11_sheet_37 : decode cX11_sheet 37 = .ok (.getfield 64, 3) := by decide +kernel
theorem dX11_sheet_40 : decode cX11_sheet 40 = .ok (.aload_n 0, 1) := by decide +kernel
theorem dX11_sheet_41 : decode cX11_sheet 41 = .ok (.getfield 19, 3) := by decide +kernel
theorem dX11_sheet_44 : decode cX11_sheet 44 = .ok (.invokevirtual 135, 3) := by decide +kernel
theorem dX11_sheet_47 : decode cX11_sheet 47 = .ok (.aload_n 0, 1) := by decide +kernel
theorem dX11_sheet_48 : decode cX11_sheet 48 = .ok (.getfield 26, 3) := by decide +kernel
theorem dX11_sheet_51 : decode cX11_sheet 51 = .ok (.iconst 0, 1) := by decide +kernel
theorem dX11_sheet_52 : decode cX11_sheet 52 = .ok (.invokevirtual 138, 3) := by decide +kernel
theorem dX11_sheet_55 : decode cX11_sheet 55 = .ok (.iload_n 2, 1) := by decide +kernel
theorem dX11_sheet_56 : decode cX11_sheet 56 = .ok (.ireturn, 1) := by decide +kernel
theorem dX11_post_0 : decode cX11_post 0 = .ok (.aload_n 0, 1) := by decide +kernel
theorem dX11_post_1 : decode cX11_post 1 = .ok (.getfield 12, 3) := by decide +kernel
theorem dX11_post_4 : decode cX11_post 4 = .ok (.iload_n 1, 1) := by decide +kernel
theorem dX11_post_5 : decode cX11_post 5 = .ok (.iconst 1, 1) := by decide +kernel
theorem dX11_post_6 : decode cX11_post 6 = .ok (.bipush 120, 2) := by decide +kernel
theorem dX11_post_8 : decode cX11_post 8 = .ok (.invokevirtual 122, 3) := by decide +kernel
theorem dX11_post_11 : decode cX11_post 11 = .ok (.ifCond .ne 5, 3) := by decide +kernel
theorem dX11_post_14 : decode cX11_post 14 = .ok (.iconst (-1), 1) := by decide +kernel
theorem dX11_post_15 : decode cX11_post 15 = .ok (.ireturn, 1) := by decide +kernel
theorem dX11_post_16 : decode cX11_post 16 = .ok (.aload_n 0, 1) := by decide +kernel
theorem dX11_post_17 : decode cX11_post 17 = .ok (.getfield 71, 3) := by decide +kernel
theorem dX11_post_20 : decode cX11_post 20 = .ok (.iload_n 1, 1) := by decide +kernel
theorem dX11_post_21 : decode cX11_post 21 = .ok (.aload_n 0, 1) := by decide +kernel
theorem dX11_post_22 : decode cX11_post 22 = .ok (.getfield 26, 3) := by decide +kernel
theorem dX11_post_25 : decode cX11_post 25 = .ok (.invokevirtual 141, 3) := by decide +kernel
theorem dX11_post_28 : decode cX11_post 28 = .ok (.aload_n 0, 1) := by decide +kernel
theorem dX11_post_29 : decode cX11_post 29 = .ok (.getfield 19, 3) := by decide +kernel
theorem dX11_post_32 : decode cX11_post 32 = .ok (.invokevirtual 144, 3) := by decide +kernel
theorem dX11_post_35 : decode cX11_post 35 = .ok (.invokevirtual 147, 3) := by decide +kernel
theorem dX11_post_38 : decode cX11_post 38 = .ok (.istore_n 2, 1) := by decide +kernel
theorem dX11_post_39 : decode cX11_post 39 = .ok (.aload_n 0, 1) := by decide +kernel
theorem dX11_post_40 : decode cX11_post 40 = .ok (.getfield 12, 3) := by decide +kernel
theorem dX11_post_43 : decode cX11_post 43 = .ok (.invokevirtual 129, 3) := by decide +kernel
theorem dX11_post_46 : decode cX11_post 46 = .ok (.iload_n 2, 1) := by decide +kernel
theorem dX11_post_47 : decode cX11_post 47 = .ok (.ifCond .lt 18, 3) := by decide +kernel
theorem dX11_post_50 : decode cX11_post 50 = .ok (.aload_n 0, 1) := by decide +kernel
theorem dX11_post_51 : decode cX11_post 51 = .ok (.getfield 71, 3) := by decide +kernel
theorem dX11_post_54 : decode cX11_post 54 = .ok (.aload_n 0, 1) := by decide +kernel
theorem dX11_post_55 : decode cX11_post 55 = .ok (.getfield 26, 3) := by decide +kernel
theorem dX11_post_58 : decode cX11_post 58 = .ok (.aload_n 0, 1) := by decide +kernel
theorem dX11_post_59 : decode cX11_post 59 = .ok (.getfield 19, 3) := by decide +kernel
theorem dX11_post_62 : decode cX11_post 62 = .ok (.invokevirtual 150, 3) := by decide +kernel
theorem dX11_post_65 : decode cX11_post 65 = .ok (.iload_n 2, 1) := by decide +kernel
theorem dX11_post_66 : decode cX11_post 66 = .ok (.ireturn, 1) := by decide +kernel
theorem dX11_days_0 : decode cX11_days 0 = .ok (.iload_n 1, 1) := by decide +kernel
theorem dX11_days_1 : decode cX11_days 1 = .ok (.iconst 1, 1) := by decide +kernel
theorem dX11_days_2 : decode cX11_days 2 = .ok (.bipush 100, 2) := by decide +kernel
theorem dX11_days_4 : decode cX11_days 4 = .ok (.invokestatic 102, 3) := by decide +kernel
theorem dX11_days_7 : decode cX11_days 7 = .ok (.ifCond .ne 5, 3) := by decide +kernel
theorem dX11_days_10 : decode cX11_days 10 = .ok (.iconst (-1), 1) := by decide +kernel
theorem dX11_days_11 : decode cX11_days 11 = .ok (.ireturn, 1) := by decide +kernel
theorem dX11_days_12 : decode cX11_days 12 = .ok (.aload_n 0, 1) := by decide +kernel
theorem dX11_days_13 : decode cX11_days 13 = .ok (.getfield 41, 3) := by decide +kernel
theorem dX11_days_16 : decode cX11_days 16 = .ok (.aload_n 0, 1) := by decide +kernel
theorem dX11_days_17 : decode cX11_days 17 = .ok (.getfield 82, 3) := by decide +kernel
theorem dX11_days_20 : decode cX11_days 20 = .ok (.aload_n 0, 1) := by decide +kernel
theorem dX11_days_21 : decode cX11_days 21 = .ok (.getfield 26, 3) := by decide +kernel
theorem dX11_days_24 : decode cX11_days 24 = .ok (.iload_n 1, 1) := by decide +kernel
theorem dX11_days_25 : decode cX11_days 25 = .ok (.invokevirtual 154, 3) := by decide +kernel
theorem dX11_days_28 : decode cX11_days 28 = .ok (.ireturn, 1) := by decide +kernel
theorem dX11_tried_0 : decode cX11_tried 0 = .ok (.iload_n 1, 1) := by decide +kernel
theorem dX11_tried_1 : decode cX11_tried 1 = .ok (.iconst 1, 1) := by decide +kernel
theorem dX11_tried_2 : decode cX11_tried 2 = .ok (.bipush 100, 2) := by decide +kernel
theorem dX11_tried_4 : decode cX11_tried 4 = .ok (.invokestatic 102, 3) := by decide +kernel
theorem dX11_tried_7 : decode cX11_tried 7 = .ok (.ifCond .eq 11, 3) := by decide +kernel
theorem dX11_tried_10 : decode cX11_tried 10 = .ok (.aload_n 0, 1) := by decide +kernel
theorem dX11_tried_11 : decode cX11_tried 11 = .ok (.iload_n 2, 1) := by decide +kernel
theorem dX11_tried_12 : decode cX11_tried 12 = .ok (.invokevirtual 158, 3) := by decide +kernel
theorem dX11_tried_15 : decode cX11_tried 15 = .ok (.ifCond .ne 5, 3) := by decide +kernel
theorem dX11_tried_18 : decode cX11_tried 18 = .ok (.iconst (-1), 1) := by decide +kernel
theorem dX11_tried_19 : decode cX11_tried 19 = .ok (.ireturn, 1) := by decide +kernel
theorem dX11_tried_20 : decode cX11_tried 20 = .ok (.aload_n 0, 1) := by decide +kernel
theorem dX11_tried_21 : decode cX11_tried 21 = .ok (.getfield 33, 3) := by decide +kernel
theorem dX11_tried_24 : decode cX11_tried 24 = .ok (.aload_n 0, 1) := by decide +kernel
theorem dX11_tried_25 : decode cX11_tried 25 = .ok (.getfield 26, 3) := by decide +kernel
theorem dX11_tried_28 : decode cX11_tried 28 = .ok (.invokevirtual 161, 3) := by decide +kernel
theorem dX11_tried_31 : decode cX11_tried 31 = .ok (.aload_n 0, 1) := by decide +kernel
theorem dX11_tried_32 : decode cX11_tried 32 = .ok (.getfield 41, 3) := by decide +kernel
theorem dX11_tried_35 : decode cX11_tried 35 = .ok (.aload_n 0, 1) := by decide +kernel
theorem dX11_tried_36 : decode cX11_tried 36 = .ok (.getfield 82, 3) := by decide +kernel
theorem dX11_tried_39 : decode cX11_tried 39 = .ok (.aload_n 0, 1) := by decide +kernel
theorem dX11_tried_40 : decode cX11_tried 40 = .ok (.getfield 33, 3) := by decide +kernel
theorem dX11_tried_43 : decode cX11_tried 43 = .ok (.iload_n 1, 1) := by decide +kernel
theorem dX11_tried_44 : decode cX11_tried 44 = .ok (.invokevirtual 154, 3) := by decide +kernel
theorem dX11_tried_47 : decode cX11_tried 47 = .ok (.istore_n 3, 1) := by decide +kernel
theorem dX11_tried_48 : decode cX11_tried 48 = .ok (.iload_n 2, 1) := by decide +kernel
theorem dX11_tried_49 : decode cX11_tried 49 = .ok (.ifCond .ne 5, 3) := by decide +kernel
theorem dX11_tried_52 : decode cX11_tried 52 = .ok (.iload_n 3, 1) := by decide +kernel
theorem dX11_tried_53 : decode cX11_tried 53 = .ok (.ireturn, 1) := by decide +kernel
theorem dX11_tried_54 : decode cX11_tried 54 = .ok (.iload_n 2, 1) := by decide +kernel
theorem dX11_tried_55 : decode cX11_tried 55 = .ok (.iconst 1, 1) := by decide +kernel
theorem dX11_tried_56 : decode cX11_tried 56 = .ok (.if_icmp .ne 11, 3) := by decide +kernel
theorem dX11_tried_59 : decode cX11_tried 59 = .ok (.aload_n 0, 1) := by decide +kernel
theorem dX11_tried_60 : decode cX11_tried 60 = .ok (.getfield 41, 3) := by decide +kernel
theorem dX11_tried_63 : decode cX11_tried 63 = .ok (.invokevirtual 165, 3) := by decide +kernel
theorem dX11_tried_66 : decode cX11_tried 66 = .ok (.ireturn, 1) := by decide +kernel
theorem dX11_tried_67 : decode cX11_tried 67 = .ok (.iload_n 2, 1) := by decide +kernel
theorem dX11_tried_68 : decode cX11_tried 68 = .ok (.iconst 2, 1) := by decide +kernel
theorem dX11_tried_69 : decode cX11_tried 69 = .ok (.if_icmp .ne 11, 3) := by decide +kernel
theorem dX11_tried_72 : decode cX11_tried 72 = .ok (.aload_n 0, 1) := by decide +kernel
theorem dX11_tried_73 : decode cX11_tried 73 = .ok (.getfield 33, 3) := by decide +kernel
theorem dX11_tried_76 : decode cX11_tried 76 = .ok (.invokevirtual 168, 3) := by decide +kernel
theorem dX11_tried_79 : decode cX11_tried 79 = .ok (.ireturn, 1) := by decide +kernel
theorem dX11_tried_80 : decode cX11_tried 80 = .ok (.iload_n 2, 1) := by decide +kernel
theorem dX11_tried_81 : decode cX11_tried 81 = .ok (.bipush 100, 2) := by decide +kernel
theorem dX11_tried_83 : decode cX11_tried 83 = .ok (.if_icmp .lt 15, 3) := by decide +kernel
theorem dX11_tried_86 : decode cX11_tried 86 = .ok (.aload_n 0, 1) := by decide +kernel
theorem dX11_tried_87 : decode cX11_tried 87 = .ok (.getfield 33, 3) := by decide +kernel
theorem dX11_tried_90 : decode cX11_tried 90 = .ok (.iload_n 2, 1) := by decide +kernel
theorem dX11_tried_91 : decode cX11_tried 91 = .ok (.bipush 100, 2) := by decide +kernel
theorem dX11_tried_93 : decode cX11_tried 93 = .ok (.isub, 1) := by decide +kernel
theorem dX11_tried_94 : decode cX11_tried 94 = .ok (.invokevirtual 171, 3) := by decide +kernel
theorem dX11_tried_97 : decode cX11_tried 97 = .ok (.ireturn, 1) := by decide +kernel
theorem dX11_tried_98 : decode cX11_tried 98 = .ok (.iload_n 2, 1) := by decide +kernel
theorem dX11_tried_99 : decode cX11_tried 99 = .ok (.bipush 20, 2) := by decide +kernel
theorem dX11_tried_101 : decode cX11_tried 101 = .ok (.if_icmp .lt 17, 3) := by decide +kernel
theorem dX11_tried_104 : decode cX11_tried 104 = .ok (.aload_n 0, 1) := by decide +kernel
theorem dX11_tried_105 : decode cX11_tried 105 = .ok (.getfield 33, 3) := by decide +kernel
theorem dX11_tried_108 : decode cX11_tried 108 = .ok (.iload_n 2, 1) := by decide +kernel
theorem dX11_tried_109 : decode cX11_tried 109 = .ok (.bipush 20, 2) := by decide +kernel
theorem dX11_tried_111 : decode cX11_tried 111 = .ok (.isub, 1) := by decide +kernel
theorem dX11_tried_112 : decode cX11_tried 112 = .ok (.invokevirtual 174, 3) := by decide +kernel
theorem dX11_tried_115 : decode cX11_tried 115 = .ok (.goto 14, 3) := by decide +kernel
theorem dX11_tried_118 : decode cX11_tried 118 = .ok (.aload_n 0, 1) := by decide +kernel
theorem dX11_tried_119 : decode cX11_tried 119 = .ok (.getfield 33, 3) := by decide +kernel
theorem dX11_tried_122 : decode cX11_tried 122 = .ok (.iload_n 2, 1) := by decide +kernel
theorem dX11_tried_123 : decode cX11_tried 123 = .ok (.bipush 10, 2) := by decide +kernel
theorem dX11_tried_125 : decode cX11_tried 125 = .ok (.isub, 1) := by decide +kernel
theorem dX11_tried_126 : decode cX11_tried 126 = .ok (.invokevirtual 177, 3) := by decide +kernel
theorem dX11_tried_129 : decode cX11_tried 129 = .ok (.ireturn, 1) := by decide +kernel
theorem dX11_canBeTried_0 : decode cX11_canBeTried 0 = .ok (.iload_n 1, 1) := by decide +kernel
theorem dX11_canBeTried_1 : decode cX11_canBeTried 1 = .ok (.bipush 10, 2) := by decide +kernel
theorem dX11_canBeTried_3 : decode cX11_canBeTried 3 = .ok (.bipush 17, 2) := by decide +kernel
theorem dX11_canBeTried_5 : decode cX11_canBeTried 5 = .ok (.invokestatic 102, 3) := by decide +kernel
theorem dX11_canBeTried_8 : decode cX11_canBeTried 8 = .ok (.ifCond .eq 15, 3) := by decide +kernel
theorem dX11_canBeTried_11 : decode cX11_canBeTried 11 = .ok (.aload_n 0, 1) := by decide +kernel
theorem dX11_canBeTried_12 : decode cX11_canBeTried 12 = .ok (.getfield 26, 3) := by decide +kernel
theorem dX11_canBeTried_15 : decode cX11_canBeTried 15 = .ok (.iload_n 1, 1) := by decide +kernel
theorem dX11_canBeTried_16 : decode cX11_canBeTried 16 = .ok (.bipush 10, 2) := by decide +kernel
theorem dX11_canBeTried_18 : decode cX11_canBeTried 18 = .ok (.isub, 1) := by decide +kernel
theorem dX11_canBeTried_19 : decode cX11_canBeTried 19 = .ok (.invokevirtual 180, 3) := by decide +kernel
theorem dX11_canBeTried_22 : decode cX11_canBeTried 22 = .ok (.ireturn, 1) := by decide +kernel
theorem dX11_canBeTried_23 : decode cX11_canBeTried 23 = .ok (.iload_n 1, 1) := by decide +kernel
theorem dX11_canBeTried_24 : decode cX11_canBeTried 24 = .ok (.bipush 20, 2) := by decide +kernel
theorem dX11_canBeTried_26 : decode cX11_canBeTried 26 = .ok (.bipush 27, 2) := by decide +kernel
theorem dX11_canBeTried_28 : decode cX11_canBeTried 28 = .ok (.invokestatic 102, 3) := by decide +kernel
theorem dX11_canBeTried_31 : decode cX11_canBeTried 31 = .ok (.ifCond .eq 15, 3) := by decide +kernel
theorem dX11_canBeTried_34 : decode cX11_canBeTried 34 = .ok (.aload_n 0, 1) := by decide +kernel
theorem dX11_canBeTried_35 : decode cX11_canBeTried 35 = .ok (.getfield 26, 3) := by decide +kernel
theorem dX11_canBeTried_38 : decode cX11_canBeTried 38 = .ok (.iload_n 1, 1) := by decide +kernel
theorem dX11_canBeTried_39 : decode cX11_canBeTried 39 = .ok (.bipush 20, 2) := by decide +kernel
theorem dX11_canBeTried_41 : decode cX11_canBeTried 41 = .ok (.isub, 1) := by decide +kernel
theorem dX11_canBeTried_42 : decode cX11_canBeTried 42 = .ok (.invokevirtual 180, 3) := by decide +kernel
theorem dX11_canBeTried_45 : decode cX11_canBeTried 45 = .ok (.ireturn, 1) := by decide +kernel
theorem dX11_canBeTried_46 : decode cX11_canBeTried 46 = .ok (.iload_n 1, 1) := by decide +kernel
theorem dX11_canBeTried_47 : decode cX11_canBeTried 47 = .ok (.iconst 0, 1) := by decide +kernel
theorem dX11_canBeTried_48 : decode cX11_canBeTried 48 = .ok (.iconst 2, 1) := by decide +kernel
theorem dX11_canBeTried_49 : decode cX11_canBeTried 49 = .ok (.invokestatic 102, 3) := by decide +kernel
theorem dX11_canBeTried_52 : decode cX11_canBeTried 52 = .ok (.ifCond .ne 24, 3) := by decide +kernel
theorem dX11_canBeTried_55 : decode cX11_canBeTried 55 = .ok (.iload_n 1, 1) := by decide +kernel
theorem dX11_canBeTried_56 : decode cX11_canBeTried 56 = .ok (.bipush 100, 2) := by decide +kernel
theorem dX11_canBeTried_58 : decode cX11_canBeTried 58 = .ok (.bipush 100, 2) := by decide +kernel
theorem dX11_canBeTried_60 : decode cX11_canBeTried 60 = .ok (.aload_n 0, 1) := by decide +kernel
theorem dX11_canBeTried_61 : decode cX11_canBeTried 61 = .ok (.getfield 19, 3) := by decide +kernel
theorem dX11_canBeTried_64 : decode cX11_canBeTried 64 = .ok (.invokevirtual 144, 3) := by decide +kernel
theorem dX11_canBeTried_67 : decode cX11_canBeTried 67 = .ok (.iadd, 1) := by decide +kernel
theorem dX11_canBeTried_68 : decode cX11_canBeTried 68 = .ok (.iconst 1, 1) := by decide +kernel
theorem dX11_canBeTried_69 : decode cX11_canBeTried 69 = .ok (.isub, 1) := by decide +kernel
theorem dX11_canBeTried_70 : decode cX11_canBeTried 70 = .ok (.invokestatic 102, 3) := by decide +kernel
theorem dX11_canBeTried_73 : decode cX11_canBeTried 73 = .ok (.ifCond .eq 7, 3) := by decide +kernel
theorem dX11_canBeTried_76 : decode cX11_canBeTried 76 = .ok (.iconst 1, 1) := by decide +kernel
theorem dX11_canBeTried_77 : decode cX11_canBeTried 77 = .ok (.goto 4, 3) := by decide +kernel
theorem dX11_canBeTried_80 : decode cX11_canBeTried 80 = .ok (.iconst 0, 1) := by decide +kernel
theorem dX11_canBeTried_81 : decode cX11_canBeTried 81 = .ok (.ireturn, 1) := by decide +kernel
theorem dX11_letterIs_0 : decode cX11_letterIs 0 = .ok (.aload_n 0, 1) := by decide +kernel
theorem dX11_letterIs_1 : decode cX11_letterIs 1 = .ok (.getfield 26, 3) := by decide +kernel
theorem dX11_letterIs_4 : decode cX11_letterIs 4 = .ok (.iload_n 1, 1) := by decide +kernel
theorem dX11_letterIs_5 : decode cX11_letterIs 5 = .ok (.invokevirtual 180, 3) := by decide +kernel
theorem dX11_letterIs_8 : decode cX11_letterIs 8 = .ok (.ifCond .ne 7, 3) := by decide +kernel
theorem dX11_letterIs_11 : decode cX11_letterIs 11 = .ok (.sipush (-1000), 3) := by decide +kernel
theorem dX11_letterIs_14 : decode cX11_letterIs 14 = .ok (.ireturn, 1) := by decide +kernel
theorem dX11_letterIs_15 : decode cX11_letterIs 15 = .ok (.iload_n 2, 1) := by decide +kernel
theorem dX11_letterIs_16 : decode cX11_letterIs 16 = .ok (.tableswitch 111 0 6 #[44, 53, 62, 79, 88, 97, 104], 44) := by decide +kernel
theorem dX11_letterIs_60 : decode cX11_letterIs 60 = .ok (.aload_n 0, 1) := by decide +kernel
theorem dX11_letterIs_61 : decode cX11_letterIs 61 = .ok (.getfield 26, 3) := by decide +kernel
theorem dX11_letterIs_64 : decode cX11_letterIs 64 = .ok (.iload_n 1, 1) := by decide +kernel
theorem dX11_letterIs_65 : decode cX11_letterIs 65 = .ok (.invokevirtual 177, 3) := by decide +kernel
theorem dX11_letterIs_68 : decode cX11_letterIs 68 = .ok (.ireturn, 1) := by decide +kernel
theorem dX11_letterIs_69 : decode cX11_letterIs 69 = .ok (.aload_n 0, 1) := by decide +kernel
theorem dX11_letterIs_70 : decode cX11_letterIs 70 = .ok (.getfield 26, 3) := by decide +kernel
theorem dX11_letterIs_73 : decode cX11_letterIs 73 = .ok (.iload_n 1, 1) := by decide +kernel
theorem dX11_letterIs_74 : decode cX11_letterIs 74 = .ok (.invokevirtual 183, 3) := by decide +kernel
theorem dX11_letterIs_77 : decode cX11_letterIs 77 = .ok (.ireturn, 1) := by decide +kernel
theorem dX11_letterIs_78 : decode cX11_letterIs 78 = .ok (.aload_n 0, 1) := by decide +kernel
theorem dX11_letterIs_79 : decode cX11_letterIs 79 = .ok (.getfield 26, 3) := by decide +kernel
theorem dX11_letterIs_82 : decode cX11_letterIs 82 = .ok (.iload_n 1, 1) := by decide +kernel
theorem dX11_letterIs_83 : decode cX11_letterIs 83 = .ok (.invokevirtual 186, 3) := by decide +kernel
theorem dX11_letterIs_86 : decode cX11_letterIs 86 = .ok (.ifCond .eq 7, 3) := by decide +kernel
theorem dX11_letterIs_89 : decode cX11_letterIs 89 = .ok (.iconst 1, 1) := by decide +kernel
theorem dX11_letterIs_90 : decode cX11_letterIs 90 = .ok (.goto 4, 3) := by decide +kernel
theorem dX11_letterIs_93 : decode cX11_letterIs 93 = .ok (.iconst 0, 1) := by decide +kernel
theorem dX11_letterIs_94 : decode cX11_letterIs 94 = .ok (.ireturn, 1) := by decide +kernel
theorem dX11_letterIs_95 : decode cX11_letterIs 95 = .ok (.aload_n 0, 1) := by decide +kernel
theorem dX11_letterIs_96 : decode cX11_letterIs 96 = .ok (.getfield 26, 3) := by decide +kernel
theorem dX11_letterIs_99 : decode cX11_letterIs 99 = .ok (.iload_n 1, 1) := by decide +kernel
theorem dX11_letterIs_100 : decode cX11_letterIs 100 = .ok (.invokevirtual 174, 3) := by decide +kernel
theorem dX11_letterIs_103 : decode cX11_letterIs 103 = .ok (.ireturn, 1) := by decide +kernel
theorem dX11_letterIs_104 : decode cX11_letterIs 104 = .ok (.aload_n 0, 1) := by decide +kernel
theorem dX11_letterIs_105 : decode cX11_letterIs 105 = .ok (.getfield 26, 3) := by decide +kernel
theorem dX11_letterIs_108 : decode cX11_letterIs 108 = .ok (.iload_n 1, 1) := by decide +kernel
theorem dX11_letterIs_109 : decode cX11_letterIs 109 = .ok (.invokevirtual 189, 3) := by decide +kernel
theorem dX11_letterIs_112 : decode cX11_letterIs 112 = .ok (.ireturn, 1) := by decide +kernel
theorem dX11_letterIs_113 : decode cX11_letterIs 113 = .ok (.aload_n 0, 1) := by decide +kernel
theorem dX11_letterIs_114 : decode cX11_letterIs 114 = .ok (.iload_n 1, 1) := by decide +kernel
theorem dX11_letterIs_115 : decode cX11_letterIs 115 = .ok (.iconst 1, 1) := by decide +kernel
theorem dX11_letterIs_116 : decode cX11_letterIs 116 = .ok (.invokevirtual 192, 3) := by decide +kernel
theorem dX11_letterIs_119 : decode cX11_letterIs 119 = .ok (.ireturn, 1) := by decide +kernel
theorem dX11_letterIs_120 : decode cX11_letterIs 120 = .ok (.aload_n 0, 1) := by decide +kernel
theorem dX11_letterIs_121 : decode cX11_letterIs 121 = .ok (.iload_n 1, 1) := by decide +kernel
theorem dX11_letterIs_122 : decode cX11_letterIs 122 = .ok (.iconst 0, 1) := by decide +kernel
theorem dX11_letterIs_123 : decode cX11_letterIs 123 = .ok (.invokevirtual 192, 3) := by decide +kernel
theorem dX11_letterIs_126 : decode cX11_letterIs 126 = .ok (.ireturn, 1) := by decide +kernel
theorem dX11_letterIs_127 : decode cX11_letterIs 127 = .ok (.sipush (-1000), 3) := by decide +kernel
theorem dX11_letterIs_130 : decode cX11_letterIs 130 = .ok (.ireturn, 1) := by decide +kernel
theorem dX11_plainPull_0 : decode cX11_plainPull 0 = .ok (.aload_n 0, 1) := by decide +kernel
theorem dX11_plainPull_1 : decode cX11_plainPull 1 = .ok (.getfield 26, 3) := by decide +kernel
theorem dX11_plainPull_4 : decode cX11_plainPull 4 = .ok (.iload_n 1, 1) := by decide +kernel
theorem dX11_plainPull_5 : decode cX11_plainPull 5 = .ok (.invokevirtual 177, 3) := by decide +kernel
theorem dX11_plainPull_8 : decode cX11_plainPull 8 = .ok (.istore_n 3, 1) := by decide +kernel
theorem dX11_plainPull_9 : decode cX11_plainPull 9 = .ok (.iconst 0, 1) := by decide +kernel
theorem dX11_plainPull_10 : decode cX11_plainPull 10 = .ok (.istore 4, 2) := by decide +kernel
theorem dX11_plainPull_12 : decode cX11_plainPull 12 = .ok (.iconst 0, 1) := by decide +kernel
theorem dX11_plainPull_13 : decode cX11_plainPull 13 = .ok (.istore 5, 2) := by decide +kernel
theorem dX11_plainPull_15 : decode cX11_plainPull 15 = .ok (.iload 5, 2) := by decide +kernel
theorem dX11_plainPull_17 : decode cX11_plainPull 17 = .ok (.bipush 48, 2) := by decide +kernel
theorem dX11_plainPull_19 : decode cX11_plainPull 19 = .ok (.if_icmp .ge 76, 3) := by decide +kernel
theorem dX11_plainPull_22 : decode cX11_plainPull 22 = .ok (.aload_n 0, 1) := by decide +kernel
theorem dX11_plainPull_23 : decode cX11_plainPull 23 = .ok (.getfield 26, 3) := by decide +kernel
theorem dX11_plainPull_26 : decode cX11_plainPull 26 = .ok (.iload 5, 2) := by decide +kernel
theorem dX11_plainPull_28 : decode cX11_plainPull 28 = .ok (.iload_n 1, 1) := by decide +kernel
theorem dX11_plainPull_29 : decode cX11_plainPull 29 = .ok (.invokevirtual 196, 3) := by decide +kernel
theorem dX11_plainPull_32 : decode cX11_plainPull 32 = .ok (.ifCond .eq 57, 3) := by decide +kernel
theorem dX11_plainPull_35 : decode cX11_plainPull 35 = .ok (.aload_n 0, 1) := by decide +kernel
theorem dX11_plainPull_36 : decode cX11_plainPull 36 = .ok (.getfield 19, 3) := by decide +kernel
theorem dX11_plainPull_39 : decode cX11_plainPull 39 = .ok (.iload 5, 2) := by decide +kernel
theorem dX11_plainPull_41 : decode cX11_plainPull 41 = .ok (.invokevirtual 200, 3) := by decide +kernel
theorem dX11_plainPull_44 : decode cX11_plainPull 44 = .ok (.ifCond .eq 45, 3) := by decide +kernel
theorem dX11_plainPull_47 : decode cX11_plainPull 47 = .ok (.iload 4, 2) := by decide +kernel
theorem dX11_plainPull_49 : decode cX11_plainPull 49 = .ok (.aload_n 0, 1) := by decide +kernel
theorem dX11_plainPull_50 : decode cX11_plainPull 50 = .ok (.getfield 19, 3) := by decide +kernel
theorem dX11_plainPull_53 : decode cX11_plainPull 53 = .ok (.iload 5, 2) := by decide +kernel
theorem dX11_plainPull_55 : decode cX11_plainPull 55 = .ok (.invokevirtual 203, 3) := by decide +kernel
theorem dX11_plainPull_58 : decode cX11_plainPull 58 = .ok (.iload_n 2, 1) := by decide +kernel
theorem dX11_plainPull_59 : decode cX11_plainPull 59 = .ok (.ifCond .eq 16, 3) := by decide +kernel
theorem dX11_plainPull_62 : decode cX11_plainPull 62 = .ok (.aload_n 0, 1) := by decide +kernel
theorem dX11_plainPull_63 : decode cX11_plainPull 63 = .ok (.getfield 19, 3) := by decide +kernel
theorem dX11_plainPull_66 : decode cX11_plainPull 66 = .ok (.iload 5, 2) := by decide +kernel
theorem dX11_plainPull_68 : decode cX11_plainPull 68 = .ok (.iload_n 3, 1) := by decide +kernel
theorem dX11_plainPull_69 : decode cX11_plainPull 69 = .ok (.invokevirtual 206, 3) := by decide +kernel
theorem dX11_plainPull_72 : decode cX11_plainPull 72 = .ok (.goto 13, 3) := by decide +kernel
theorem dX11_plainPull_75 : decode cX11_plainPull 75 = .ok (.aload_n 0, 1) := by decide +kernel
theorem dX11_plainPull_76 : decode cX11_plainPull 76 = .ok (.getfield 19, 3) := by decide +kernel
theorem dX11_plainPull_79 : decode cX11_plainPull 79 = .ok (.iload 5, 2) := by decide +kernel
theorem dX11_plainPull_81 : decode cX11_plainPull 81 = .ok (.iload_n 3, 1) := by decide +kernel
theorem dX11_plainPull_82 : decode cX11_plainPull 82 = .ok (.invokevirtual 210, 3) := by decide +kernel
theorem dX11_plainPull_85 : decode cX11_plainPull 85 = .ok (.imul, 1) := by decide +kernel
theorem dX11_plainPull_86 : decode cX11_plainPull 86 = .ok (.iadd, 1) := by decide +kernel
theorem dX11_plainPull_87 : decode cX11_plainPull 87 = .ok (.istore 4, 2) := by decide +kernel
theorem dX11_plainPull_89 : decode cX11_plainPull 89 = .ok (.iinc 5 1, 3) := by decide +kernel
theorem dX11_plainPull_92 : decode cX11_plainPull 92 = .ok (.goto (-77), 3) := by decide +kernel
theorem dX11_plainPull_95 : decode cX11_plainPull 95 = .ok (.iload 4, 2) := by decide +kernel
theorem dX11_plainPull_97 : decode cX11_plainPull 97 = .ok (.ireturn, 1) := by decide +kernel
theorem dX11_stampIs_0 : decode cX11_stampIs 0 = .ok (.iload_n 1, 1) := by decide +kernel
theorem dX11_stampIs_1 : decode cX11_stampIs 1 = .ok (.iconst 0, 1) := by decide +kernel
theorem dX11_stampIs_2 : decode cX11_stampIs 2 = .ok (.aload_n 0, 1) := by decide +kernel
theorem dX11_stampIs_3 : decode cX11_stampIs 3 = .ok (.getfield 19, 3) := by decide +kernel
theorem dX11_stampIs_6 : decode cX11_stampIs 6 = .ok (.invokevirtual 144, 3) := by decide +kernel
theorem dX11_stampIs_9 : decode cX11_stampIs 9 = .ok (.iconst 1, 1) := by decide +kernel
theorem dX11_stampIs_10 : decode cX11_stampIs 10 = .ok (.isub, 1) := by decide +kernel
theorem dX11_stampIs_11 : decode cX11_stampIs 11 = .ok (.invokestatic 102, 3) := by decide +kernel
theorem dX11_stampIs_14 : decode cX11_stampIs 14 = .ok (.ifCond .ne 5, 3) := by decide +kernel
theorem dX11_stampIs_17 : decode cX11_stampIs 17 = .ok (.iconst (-1), 1) := by decide +kernel
theorem dX11_stampIs_18 : decode cX11_stampIs 18 = .ok (.ireturn, 1) := by decide +kernel
theorem dX11_stampIs_19 : decode cX11_stampIs 19 = .ok (.iload_n 2, 1) := by decide +kernel
theorem dX11_stampIs_20 : decode cX11_stampIs 20 = .ok (.tableswitch 68 0 3 #[32, 41, 50, 59], 32) := by decide +kernel
theorem dX11_stampIs_52 : decode cX11_stampIs 52 = .ok (.aload_n 0, 1) := by decide +kernel
theorem dX11_stampIs_53 : decode cX11_stampIs 53 = .ok (.getfield 19, 3) := by decide +kernel
theorem dX11_stampIs_56 : decode cX11_stampIs 56 = .ok (.iload_n 1, 1) := by decide +kernel
theorem dX11_stampIs_57 : decode cX11_stampIs 57 = .ok (.invokevirtual 213, 3) := by decide +kernel
theorem dX11_stampIs_60 : decode cX11_stampIs 60 = .ok (.ireturn, 1) := by decide +kernel
theorem dX11_stampIs_61 : decode cX11_stampIs 61 = .ok (.aload_n 0, 1) := by decide +kernel
theorem dX11_stampIs_62 : decode cX11_stampIs 62 = .ok (.getfield 19, 3) := by decide +kernel
theorem dX11_stampIs_65 : decode cX11_stampIs 65 = .ok (.iload_n 1, 1) := by decide +kernel
theorem dX11_stampIs_66 : decode cX11_stampIs 66 = .ok (.invokevirtual 203, 3) := by decide +kernel
theorem dX11_stampIs_69 : decode cX11_stampIs 69 = .ok (.ireturn, 1) := by decide +kernel
theorem dX11_stampIs_70 : decode cX11_stampIs 70 = .ok (.aload_n 0, 1) := by decide +kernel
theorem dX11_stampIs_71 : decode cX11_stampIs 71 = .ok (.getfield 26, 3) := by decide +kernel
theorem dX11_stampIs_74 : decode cX11_stampIs 74 = .ok (.iload_n 1, 1) := by decide +kernel
theorem dX11_stampIs_75 : decode cX11_stampIs 75 = .ok (.invokevirtual 171, 3) := by decide +kernel
theorem dX11_stampIs_78 : decode cX11_stampIs 78 = .ok (.ireturn, 1) := by decide +kernel
theorem dX11_stampIs_79 : decode cX11_stampIs 79 = .ok (.aload_n 0, 1) := by decide +kernel
theorem dX11_stampIs_80 : decode cX11_stampIs 80 = .ok (.getfield 26, 3) := by decide +kernel
theorem dX11_stampIs_83 : decode cX11_stampIs 83 = .ok (.iload_n 1, 1) := by decide +kernel
theorem dX11_stampIs_84 : decode cX11_stampIs 84 = .ok (.invokevirtual 216, 3) := by decide +kernel
theorem dX11_stampIs_87 : decode cX11_stampIs 87 = .ok (.ireturn, 1) := by decide +kernel
theorem dX11_stampIs_88 : decode cX11_stampIs 88 = .ok (.iconst (-1), 1) := by decide +kernel
theorem dX11_stampIs_89 : decode cX11_stampIs 89 = .ok (.ireturn, 1) := by decide +kernel
theorem dX11_comes_0 : decode cX11_comes 0 = .ok (.aload_n 0, 1) := by decide +kernel
theorem dX11_comes_1 : decode cX11_comes 1 = .ok (.getfield 26, 3) := by decide +kernel
theorem dX11_comes_4 : decode cX11_comes 4 = .ok (.iload_n 1, 1) := by decide +kernel
theorem dX11_comes_5 : decode cX11_comes 5 = .ok (.invokevirtual 180, 3) := by decide +kernel
theorem dX11_comes_8 : decode cX11_comes 8 = .ok (.ifCond .eq 20, 3) := by decide +kernel
theorem dX11_comes_11 : decode cX11_comes 11 = .ok (.iload_n 2, 1) := by decide +kernel
theorem dX11_comes_12 : decode cX11_comes 12 = .ok (.invokestatic 219, 3) := by decide +kernel
theorem dX11_comes_15 : decode cX11_comes 15 = .ok (.ifCond .eq 13, 3) := by decide +kernel
theorem dX11_comes_18 : decode cX11_comes 18 = .ok (.iload_n 3, 1) := by decide +kernel
theorem dX11_comes_19 : decode cX11_comes 19 = .ok (.iconst 1, 1) := by decide +kernel
theorem dX11_comes_20 : decode cX11_comes 20 = .ok (.bipush 100, 2) := by decide +kernel
theorem dX11_comes_22 : decode cX11_comes 22 = .ok (.invokestatic 102, 3) := by decide +kernel
theorem dX11_comes_25 : decode cX11_comes 25 = .ok (.ifCond .ne 5, 3) := by decide +kernel
theorem dX11_comes_28 : decode cX11_comes 28 = .ok (.iconst (-1), 1) := by decide +kernel
theorem dX11_comes_29 : decode cX11_comes 29 = .ok (.ireturn, 1) := by decide +kernel
theorem dX11_comes_30 : decode cX11_comes 30 = .ok (.aload_n 0, 1) := by decide +kernel
theorem dX11_comes_31 : decode cX11_comes 31 = .ok (.getfield 33, 3) := by decide +kernel
theorem dX11_comes_34 : decode cX11_comes 34 = .ok (.aload_n 0, 1) := by decide +kernel
theorem dX11_comes_35 : decode cX11_comes 35 = .ok (.getfield 26, 3) := by decide +kernel
theorem dX11_comes_38 : decode cX11_comes 38 = .ok (.invokevirtual 161, 3) := by decide +kernel
theorem dX11_comes_41 : decode cX11_comes 41 = .ok (.iconst 0, 1) := by decide +kernel
theorem dX11_comes_42 : decode cX11_comes 42 = .ok (.istore 4, 2) := by decide +kernel
theorem dX11_comes_44 : decode cX11_comes 44 = .ok (.iload 4, 2) := by decide +kernel
theorem dX11_comes_46 : decode cX11_comes 46 = .ok (.iload_n 3, 1) := by decide +kernel
theorem dX11_comes_47 : decode cX11_comes 47 = .ok (.if_icmp .gt 41, 3) := by decide +kernel
theorem dX11_comes_50 : decode cX11_comes 50 = .ok (.aload_n 0, 1) := by decide +kernel
theorem dX11_comes_51 : decode cX11_comes 51 = .ok (.getfield 33, 3) := by decide +kernel
theorem dX11_comes_54 : decode cX11_comes 54 = .ok (.iload_n 1, 1) := by decide +kernel
theorem dX11_comes_55 : decode cX11_comes 55 = .ok (.invokevirtual 177, 3) := by decide +kernel
theorem dX11_comes_58 : decode cX11_comes 58 = .ok (.iload_n 2, 1) := by decide +kernel
theorem dX11_comes_59 : decode cX11_comes 59 = .ok (.if_icmp .ne 6, 3) := by decide +kernel
theorem dX11_comes_62 : decode cX11_comes 62 = .ok (.iload 4, 2) := by decide +kernel
theorem dX11_comes_64 : decode cX11_comes 64 = .ok (.ireturn, 1) := by decide +kernel
theorem dX11_comes_65 : decode cX11_comes 65 = .ok (.aload_n 0, 1) := by decide +kernel
theorem dX11_comes_66 : decode cX11_comes 66 = .ok (.getfield 41, 3) := by decide +kernel
theorem dX11_comes_69 : decode cX11_comes 69 = .ok (.aload_n 0, 1) := by decide +kernel
theorem dX11_comes_70 : decode cX11_comes 70 = .ok (.getfield 82, 3) := by decide +kernel
theorem dX11_comes_73 : decode cX11_comes 73 = .ok (.aload_n 0, 1) := by decide +kernel
theorem dX11_comes_74 : decode cX11_comes 74 = .ok (.getfield 33, 3) := by decide +kernel
theorem dX11_comes_77 : decode cX11_comes 77 = .ok (.iconst 1, 1) := by decide +kernel
theorem dX11_comes_78 : decode cX11_comes 78 = .ok (.invokevirtual 154, 3) := by decide +kernel
theorem dX11_comes_81 : decode cX11_comes 81 = .ok (.pop, 1) := by decide +kernel
theorem dX11_comes_82 : decode cX11_comes 82 = .ok (.iinc 4 1, 3) := by decide +kernel
theorem dX11_comes_85 : decode cX11_comes 85 = .ok (.goto (-41), 3) := by decide +kernel
theorem dX11_comes_88 : decode cX11_comes 88 = .ok (.bipush (-2), 2) := by decide +kernel
theorem dX11_comes_90 : decode cX11_comes 90 = .ok (.ireturn, 1) := by decide +kernel
theorem dX11_atRest_0 : decode cX11_atRest 0 = .ok (.aload_n 0, 1) := by decide +kernel
theorem dX11_atRest_1 : decode cX11_atRest 1 = .ok (.getfield 26, 3) := by decide +kernel
theorem dX11_atRest_4 : decode cX11_atRest 4 = .ok (.iload_n 1, 1) := by decide +kernel
theorem dX11_atRest_5 : decode cX11_atRest 5 = .ok (.invokevirtual 180, 3) := by decide +kernel
theorem dX11_atRest_8 : decode cX11_atRest 8 = .ok (.ifCond .eq 13, 3) := by decide +kernel
theorem dX11_atRest_11 : decode cX11_atRest 11 = .ok (.iload_n 2, 1) := by decide +kernel
theorem dX11_atRest_12 : decode cX11_atRest 12 = .ok (.iconst 1, 1) := by decide +kernel
theorem dX11_atRest_13 : decode cX11_atRest 13 = .ok (.bipush 100, 2) := by decide +kernel
theorem dX11_atRest_15 : decode cX11_atRest 15 = .ok (.invokestatic 102, 3) := by decide +kernel
theorem dX11_atRest_18 : decode cX11_atRest 18 = .ok (.ifCond .ne 5, 3) := by decide +kernel
theorem dX11_atRest_21 : decode cX11_atRest 21 = .ok (.iconst (-1), 1) := by decide +kernel
theorem dX11_atRest_22 : decode cX11_atRest 22 = .ok (.ireturn, 1) := by decide +kernel
theorem dX11_atRest_23 : decode cX11_atRest 23 = .ok (.aload_n 0, 1) := by decide +kernel
theorem dX11_atRest_24 : decode cX11_atRest 24 = .ok (.getfield 33, 3) := by decide +kernel
theorem dX11_atRest_27 : decode cX11_atRest 27 = .ok (.aload_n 0, 1) := by decide +kernel
theorem dX11_atRest_28 : decode cX11_atRest 28 = .ok (.getfield 26, 3) := by decide +kernel
theorem dX11_atRest_31 : decode cX11_atRest 31 = .ok (.invokevirtual 161, 3) := by decide +kernel
theorem dX11_atRest_34 : decode cX11_atRest 34 = .ok (.iconst 0, 1) := by decide +kernel
theorem dX11_atRest_35 : decode cX11_atRest 35 = .ok (.istore_n 3, 1) := by decide +kernel
theorem dX11_atRest_36 : decode cX11_atRest 36 = .ok (.iconst 1, 1) := by decide +kernel
theorem dX11_atRest_37 : decode cX11_atRest 37 = .ok (.istore 4, 2) := by decide +kernel
theorem dX11_atRest_39 : decode cX11_atRest 39 = .ok (.iload 4, 2) := by decide +kernel
theorem dX11_atRest_41 : decode cX11_atRest 41 = .ok (.iload_n 2, 1) := by decide +kernel
theorem dX11_atRest_42 : decode cX11_atRest 42 = .ok (.if_icmp .gt 52, 3) := by decide +kernel
theorem dX11_atRest_45 : decode cX11_atRest 45 = .ok (.aload_n 0, 1) := by decide +kernel
theorem dX11_atRest_46 : decode cX11_atRest 46 = .ok (.getfield 33, 3) := by decide +kernel
theorem dX11_atRest_49 : decode cX11_atRest 49 = .ok (.iload_n 1, 1) := by decide +kernel
theorem dX11_atRest_50 : decode cX11_atRest 50 = .ok (.invokevirtual 177, 3) := by decide +kernel
theorem dX11_atRest_53 : decode cX11_atRest 53 = .ok (.istore 5, 2) := by decide +kernel
theorem dX11_atRest_55 : decode cX11_atRest 55 = .ok (.aload_n 0, 1) := by decide +kernel
theorem dX11_atRest_56 : decode cX11_atRest 56 = .ok (.getfield 41, 3) := by decide +kernel
theorem dX11_atRest_59 : decode cX11_atRest 59 = .ok (.aload_n 0, 1) := by decide +kernel
theorem dX11_atRest_60 : decode cX11_atRest 60 = .ok (.getfield 82, 3) := by decide +kernel
theorem dX11_atRest_63 : decode cX11_atRest 63 = .ok (.aload_n 0, 1) := by decide +kernel
theorem dX11_atRest_64 : decode cX11_atRest 64 = .ok (.getfield 33, 3) := by decide +kernel
theorem dX11_atRest_67 : decode cX11_atRest 67 = .ok (.iconst 1, 1) := by decide +kernel
theorem dX11_atRest_68 : decode cX11_atRest 68 = .ok (.invokevirtual 154, 3) := by decide +kernel
theorem dX11_atRest_71 : decode cX11_atRest 71 = .ok (.pop, 1) := by decide +kernel
theorem dX11_atRest_72 : decode cX11_atRest 72 = .ok (.aload_n 0, 1) := by decide +kernel
theorem dX11_atRest_73 : decode cX11_atRest 73 = .ok (.getfield 33, 3) := by decide +kernel
theorem dX11_atRest_76 : decode cX11_atRest 76 = .ok (.iload_n 1, 1) := by decide +kernel
theorem dX11_atRest_77 : decode cX11_atRest 77 = .ok (.invokevirtual 177, 3) := by decide +kernel
theorem dX11_atRest_80 : decode cX11_atRest 80 = .ok (.iload 5, 2) := by decide +kernel
theorem dX11_atRest_82 : decode cX11_atRest 82 = .ok (.if_icmp .eq 6, 3) := by decide +kernel
theorem dX11_atRest_85 : decode cX11_atRest 85 = .ok (.iload 4, 2) := by decide +kernel
theorem dX11_atRest_87 : decode cX11_atRest 87 = .ok (.istore_n 3, 1) := by decide +kernel
theorem dX11_atRest_88 : decode cX11_atRest 88 = .ok (.iinc 4 1, 3) := by decide +kernel
theorem dX11_atRest_91 : decode cX11_atRest 91 = .ok (.goto (-52), 3) := by decide +kernel
theorem dX11_atRest_94 : decode cX11_atRest 94 = .ok (.iload_n 3, 1) := by decide +kernel
theorem dX11_atRest_95 : decode cX11_atRest 95 = .ok (.ireturn, 1) := by decide +kernel
theorem dX11_meet_0 : decode cX11_meet 0 = .ok (.aload_n 0, 1) := by decide +kernel
theorem dX11_meet_1 : decode cX11_meet 1 = .ok (.getfield 26, 3) := by decide +kernel
theorem dX11_meet_4 : decode cX11_meet 4 = .ok (.iload_n 1, 1) := by decide +kernel
theorem dX11_meet_5 : decode cX11_meet 5 = .ok (.invokevirtual 180, 3) := by decide +kernel
theorem dX11_meet_8 : decode cX11_meet 8 = .ok (.ifCond .eq 29, 3) := by decide +kernel
theorem dX11_meet_11 : decode cX11_meet 11 = .ok (.aload_n 0, 1) := by decide +kernel
theorem dX11_meet_12 : decode cX11_meet 12 = .ok (.getfield 26, 3) := by decide +kernel
theorem dX11_meet_15 : decode cX11_meet 15 = .ok (.iload_n 2, 1) := by decide +kernel
theorem dX11_meet_16 : decode cX11_meet 16 = .ok (.invokevirtual 180, 3) := by decide +kernel
theorem dX11_meet_19 : decode cX11_meet 19 = .ok (.ifCond .eq 18, 3) := by decide +kernel
theorem dX11_meet_22 : decode cX11_meet 22 = .ok (.iload_n 1, 1) := by decide +kernel
theorem dX11_meet_23 : decode cX11_meet 23 = .ok (.iload_n 2, 1) := by decide +kernel
theorem dX11_meet_24 : decode cX11_meet 24 = .ok (.if_icmp .eq 13, 3) := by decide +kernel
theorem dX11_meet_27 : decode cX11_meet 27 = .ok (.iload_n 3, 1) := by decide +kernel
theorem dX11_meet_28 : decode cX11_meet 28 = .ok (.iconst 1, 1) := by decide +kernel
theorem dX11_meet_29 : decode cX11_meet 29 = .ok (.bipush 100, 2) := by decide +kernel
theorem dX11_meet_31 : decode cX11_meet 31 = .ok (.invokestatic 102, 3) := by decide +kernel
theorem dX11_meet_34 : decode cX11_meet 34 = .ok (.ifCond .ne 5, 3) := by decide +kernel
theorem dX11_meet_37 : decode cX11_meet 37 = .ok (.iconst (-1), 1) := by decide +kernel
theorem dX11_meet_38 : decode cX11_meet 38 = .ok (.ireturn, 1) := by decide +kernel
theorem dX11_meet_39 : decode cX11_meet 39 = .ok (.aload_n 0, 1) := by decide +kernel
theorem dX11_meet_40 : decode cX11_meet 40 = .ok (.getfield 33, 3) := by decide +kernel
theorem dX11_meet_43 : decode cX11_meet 43 = .ok (.aload_n 0, 1) := by decide +kernel
theorem dX11_meet_44 : decode cX11_meet 44 = .ok (.getfield 26, 3) := by decide +kernel
theorem dX11_meet_47 : decode cX11_meet 47 = .ok (.invokevirtual 161, 3) := by decide +kernel
theorem dX11_meet_50 : decode cX11_meet 50 = .ok (.iconst 0, 1) := by decide +kernel
theorem dX11_meet_51 : decode cX11_meet 51 = .ok (.istore 4, 2) := by decide +kernel
theorem dX11_meet_53 : decode cX11_meet 53 = .ok (.iload 4, 2) := by decide +kernel
theorem dX11_meet_55 : decode cX11_meet 55 = .ok (.iload_n 3, 1) := by decide +kernel
theorem dX11_meet_56 : decode cX11_meet 56 = .ok (.if_icmp .gt 48, 3) := by decide +kernel
theorem dX11_meet_59 : decode cX11_meet 59 = .ok (.aload_n 0, 1) := by decide +kernel
theorem dX11_meet_60 : decode cX11_meet 60 = .ok (.getfield 33, 3) := by decide +kernel
theorem dX11_meet_63 : decode cX11_meet 63 = .ok (.iload_n 1, 1) := by decide +kernel
theorem dX11_meet_64 : decode cX11_meet 64 = .ok (.invokevirtual 177, 3) := by decide +kernel
theorem dX11_meet_67 : decode cX11_meet 67 = .ok (.aload_n 0, 1) := by decide +kernel
theorem dX11_meet_68 : decode cX11_meet 68 = .ok (.getfield 33, 3) := by decide +kernel
theorem dX11_meet_71 : decode cX11_meet 71 = .ok (.iload_n 2, 1) := by decide +kernel
theorem dX11_meet_72 : decode cX11_meet 72 = .ok (.invokevirtual 177, 3) := by decide +kernel
theorem dX11_meet_75 : decode cX11_meet 75 = .ok (.if_icmp .ne 6, 3) := by decide +kernel
theorem dX11_meet_78 : decode cX11_meet 78 = .ok (.iload 4, 2) := by decide +kernel
theorem dX11_meet_80 : decode cX11_meet 80 = .ok (.ireturn, 1) := by decide +kernel
theorem dX11_meet_81 : decode cX11_meet 81 = .ok (.aload_n 0, 1) := by decide +kernel
theorem dX11_meet_82 : decode cX11_meet 82 = .ok (.getfield 41, 3) := by decide +kernel
theorem dX11_meet_85 : decode cX11_meet 85 = .ok (.aload_n 0, 1) := by decide +kernel
theorem dX11_meet_86 : decode cX11_meet 86 = .ok (.getfield 82, 3) := by decide +kernel
theorem dX11_meet_89 : decode cX11_meet 89 = .ok (.aload_n 0, 1) := by decide +kernel
theorem dX11_meet_90 : decode cX11_meet 90 = .ok (.getfield 33, 3) := by decide +kernel
theorem dX11_meet_93 : decode cX11_meet 93 = .ok (.iconst 1, 1) := by decide +kernel
theorem dX11_meet_94 : decode cX11_meet 94 = .ok (.invokevirtual 154, 3) := by decide +kernel
theorem dX11_meet_97 : decode cX11_meet 97 = .ok (.pop, 1) := by decide +kernel
theorem dX11_meet_98 : decode cX11_meet 98 = .ok (.iinc 4 1, 3) := by decide +kernel
theorem dX11_meet_101 : decode cX11_meet 101 = .ok (.goto (-48), 3) := by decide +kernel
theorem dX11_meet_104 : decode cX11_meet 104 = .ok (.bipush (-2), 2) := by decide +kernel
theorem dX11_meet_106 : decode cX11_meet 106 = .ok (.ireturn, 1) := by decide +kernel
theorem dX11_again_0 : decode cX11_again 0 = .ok (.aload_n 0, 1) := by decide +kernel
theorem dX11_again_1 : decode cX11_again 1 = .ok (.getfield 26, 3) := by decide +kernel
theorem dX11_again_4 : decode cX11_again 4 = .ok (.iload_n 1, 1) := by decide +kernel
theorem dX11_again_5 : decode cX11_again 5 = .ok (.invokevirtual 180, 3) := by decide +kernel
theorem dX11_again_8 : decode cX11_again 8 = .ok (.ifCond .eq 13, 3) := by decide +kernel
theorem dX11_again_11 : decode cX11_again 11 = .ok (.iload_n 2, 1) := by decide +kernel
theorem dX11_again_12 : decode cX11_again 12 = .ok (.iconst 1, 1) := by decide +kernel
theorem dX11_again_13 : decode cX11_again 13 = .ok (.bipush 100, 2) := by decide +kernel
theorem dX11_again_15 : decode cX11_again 15 = .ok (.invokestatic 102, 3) := by decide +kernel
theorem dX11_again_18 : decode cX11_again 18 = .ok (.ifCond .ne 5, 3) := by decide +kernel
theorem dX11_again_21 : decode cX11_again 21 = .ok (.iconst (-1), 1) := by decide +kernel
theorem dX11_again_22 : decode cX11_again 22 = .ok (.ireturn, 1) := by decide +kernel
theorem dX11_again_23 : decode cX11_again 23 = .ok (.aload_n 0, 1) := by decide +kernel
theorem dX11_again_24 : decode cX11_again 24 = .ok (.getfield 33, 3) := by decide +kernel
theorem dX11_again_27 : decode cX11_again 27 = .ok (.aload_n 0, 1) := by decide +kernel
theorem dX11_again_28 : decode cX11_again 28 = .ok (.getfield 26, 3) := by decide +kernel
theorem dX11_again_31 : decode cX11_again 31 = .ok (.invokevirtual 161, 3) := by decide +kernel
theorem dX11_again_34 : decode cX11_again 34 = .ok (.aload_n 0, 1) := by decide +kernel
theorem dX11_again_35 : decode cX11_again 35 = .ok (.getfield 75, 3) := by decide +kernel
theorem dX11_again_38 : decode cX11_again 38 = .ok (.iconst 0, 1) := by decide +kernel
theorem dX11_again_39 : decode cX11_again 39 = .ok (.invokestatic 222, 3) := by decide +kernel
theorem dX11_again_42 : decode cX11_again 42 = .ok (.aload_n 0, 1) := by decide +kernel
theorem dX11_again_43 : decode cX11_again 43 = .ok (.aload_n 0, 1) := by decide +kernel
theorem dX11_again_44 : decode cX11_again 44 = .ok (.getfield 33, 3) := by decide +kernel
theorem dX11_again_47 : decode cX11_again 47 = .ok (.iload_n 1, 1) := by decide +kernel
theorem dX11_again_48 : decode cX11_again 48 = .ok (.invokevirtual 177, 3) := by decide +kernel
theorem dX11_again_51 : decode cX11_again 51 = .ok (.invokevirtual 228, 3) := by decide +kernel
theorem dX11_again_54 : decode cX11_again 54 = .ok (.iconst 1, 1) := by decide +kernel
theorem dX11_again_55 : decode cX11_again 55 = .ok (.istore_n 3, 1) := by decide +kernel
theorem dX11_again_56 : decode cX11_again 56 = .ok (.iload_n 3, 1) := by decide +kernel
theorem dX11_again_57 : decode cX11_again 57 = .ok (.iload_n 2, 1) := by decide +kernel
theorem dX11_again_58 : decode cX11_again 58 = .ok (.if_icmp .gt 70, 3) := by decide +kernel
theorem dX11_again_61 : decode cX11_again 61 = .ok (.aload_n 0, 1) := by decide +kernel
theorem dX11_again_62 : decode cX11_again 62 = .ok (.getfield 33, 3) := by decide +kernel
theorem dX11_again_65 : decode cX11_again 65 = .ok (.iload_n 1, 1) := by decide +kernel
theorem dX11_again_66 : decode cX11_again 66 = .ok (.invokevirtual 177, 3) := by decide +kernel
theorem dX11_again_69 : decode cX11_again 69 = .ok (.istore 4, 2) := by decide +kernel
theorem dX11_again_71 : decode cX11_again 71 = .ok (.aload_n 0, 1) := by decide +kernel
theorem dX11_again_72 : decode cX11_again 72 = .ok (.getfield 41, 3) := by decide +kernel
theorem dX11_again_75 : decode cX11_again 75 = .ok (.aload_n 0, 1) := by decide +kernel
theorem dX11_again_76 : decode cX11_again 76 = .ok (.getfield 82, 3) := by decide +kernel
theorem dX11_again_79 : decode cX11_again 79 = .ok (.aload_n 0, 1) := by decide +kernel
theorem dX11_again_80 : decode cX11_again 80 = .ok (.getfield 33, 3) := by decide +kernel
theorem dX11_again_83 : decode cX11_again 83 = .ok (.iconst 1, 1) := by decide +kernel
theorem dX11_again_84 : decode cX11_again 84 = .ok (.invokevirtual 154, 3) := by decide +kernel
theorem dX11_again_87 : decode cX11_again 87 = .ok (.pop, 1) := by decide +kernel
theorem dX11_again_88 : decode cX11_again 88 = .ok (.aload_n 0, 1) := by decide +kernel
theorem dX11_again_89 : decode cX11_again 89 = .ok (.getfield 33, 3) := by decide +kernel
theorem dX11_again_92 : decode cX11_again 92 = .ok (.iload_n 1, 1) := by decide +kernel
theorem dX11_again_93 : decode cX11_again 93 = .ok (.invokevirtual 177, 3) := by decide +kernel
theorem dX11_again_96 : decode cX11_again 96 = .ok (.istore 5, 2) := by decide +kernel
theorem dX11_again_98 : decode cX11_again 98 = .ok (.iload 5, 2) := by decide +kernel
theorem dX11_again_100 : decode cX11_again 100 = .ok (.iload 4, 2) := by decide +kernel
theorem dX11_again_102 : decode cX11_again 102 = .ok (.if_icmp .eq 14, 3) := by decide +kernel
theorem dX11_again_105 : decode cX11_again 105 = .ok (.aload_n 0, 1) := by decide +kernel
theorem dX11_again_106 : decode cX11_again 106 = .ok (.iload 5, 2) := by decide +kernel
theorem dX11_again_108 : decode cX11_again 108 = .ok (.invokevirtual 231, 3) := by decide +kernel
theorem dX11_again_111 : decode cX11_again 111 = .ok (.ifCond .eq 5, 3) := by decide +kernel
theorem dX11_again_114 : decode cX11_again 114 = .ok (.iload_n 3, 1) := by decide +kernel
theorem dX11_again_115 : decode cX11_again 115 = .ok (.ireturn, 1) := by decide +kernel
theorem dX11_again_116 : decode cX11_again 116 = .ok (.aload_n 0, 1) := by decide +kernel
theorem dX11_again_117 : decode cX11_again 117 = .ok (.iload 5, 2) := by decide +kernel
theorem dX11_again_119 : decode cX11_again 119 = .ok (.invokevirtual 228, 3) := by decide +kernel
theorem dX11_again_122 : decode cX11_again 122 = .ok (.iinc 3 1, 3) := by decide +kernel
theorem dX11_again_125 : decode cX11_again 125 = .ok (.goto (-69), 3) := by decide +kernel
theorem dX11_again_128 : decode cX11_again 128 = .ok (.bipush (-2), 2) := by decide +kernel
theorem dX11_again_130 : decode cX11_again 130 = .ok (.ireturn, 1) := by decide +kernel
theorem dX11_markSeen_0 : decode cX11_markSeen 0 = .ok (.iload_n 1, 1) := by decide +kernel
theorem dX11_markSeen_1 : decode cX11_markSeen 1 = .ok (.invokestatic 219, 3) := by decide +kernel
theorem dX11_markSeen_4 : decode cX11_markSeen 4 = .ok (.ifCond .eq 10, 3) := by decide +kernel
theorem dX11_markSeen_7 : decode cX11_markSeen 7 = .ok (.aload_n 0, 1) := by decide +kernel
theorem dX11_markSeen_8 : decode cX11_markSeen 8 = .ok (.getfield 75, 3) := by decide +kernel
theorem dX11_markSeen_11 : decode cX11_markSeen 11 = .ok (.iload_n 1, 1) := by decide +kernel
theorem dX11_markSeen_12 : decode cX11_markSeen 12 = .ok (.iconst 1, 1) := by decide +kernel
theorem dX11_markSeen_13 : decode cX11_markSeen 13 = .ok (.iastore, 1) := by decide +kernel
theorem dX11_markSeen_14 : decode cX11_markSeen 14 = .ok (.return_, 1) := by decide +kernel
theorem dX11_wasSeen_0 : decode cX11_wasSeen 0 = .ok (.iload_n 1, 1) := by decide +kernel
theorem dX11_wasSeen_1 : decode cX11_wasSeen 1 = .ok (.invokestatic 219, 3) := by decide +kernel
theorem dX11_wasSeen_4 : decode cX11_wasSeen 4 = .ok (.ifCond .eq 17, 3) := by decide +kernel
theorem dX11_wasSeen_7 : decode cX11_wasSeen 7 = .ok (.aload_n 0, 1) := by decide +kernel
theorem dX11_wasSeen_8 : decode cX11_wasSeen 8 = .ok (.getfield 75, 3) := by decide +kernel
theorem dX11_wasSeen_11 : decode cX11_wasSeen 11 = .ok (.iload_n 1, 1) := by decide +kernel
theorem dX11_wasSeen_12 : decode cX11_wasSeen 12 = .ok (.iaload, 1) := by decide +kernel
theorem dX11_wasSeen_13 : decode cX11_wasSeen 13 = .ok (.iconst 1, 1) := by decide +kernel
theorem dX11_wasSeen_14 : decode cX11_wasSeen 14 = .ok (.if_icmp .ne 7, 3) := by decide +kernel
theorem dX11_wasSeen_17 : decode cX11_wasSeen 17 = .ok (.iconst 1, 1) := by decide +kernel
theorem dX11_wasSeen_18 : decode cX11_wasSeen 18 = .ok (.goto 4, 3) := by decide +kernel
theorem dX11_wasSeen_21 : decode cX11_wasSeen 21 = .ok (.iconst 0, 1) := by decide +kernel
theorem dX11_wasSeen_22 : decode cX11_wasSeen 22 = .ok (.ireturn, 1) := by decide +kernel
theorem dX11_home_0 : decode cX11_home 0 = .ok (.aload_n 0, 1) := by decide +kernel
theorem dX11_home_1 : decode cX11_home 1 = .ok (.getfield 26, 3) := by decide +kernel
theorem dX11_home_4 : decode cX11_home 4 = .ok (.iload_n 1, 1) := by decide +kernel
theorem dX11_home_5 : decode cX11_home 5 = .ok (.invokevirtual 180, 3) := by decide +kernel
theorem dX11_home_8 : decode cX11_home 8 = .ok (.ifCond .eq 12, 3) := by decide +kernel
theorem dX11_home_11 : decode cX11_home 11 = .ok (.iload_n 2, 1) := by decide +kernel
theorem dX11_home_12 : decode cX11_home 12 = .ok (.iconst 0, 1) := by decide +kernel
theorem dX11_home_13 : decode cX11_home 13 = .ok (.iconst 1, 1) := by decide +kernel
theorem dX11_home_14 : decode cX11_home 14 = .ok (.invokestatic 102, 3) := by decide +kernel
theorem dX11_home_17 : decode cX11_home 17 = .ok (.ifCond .ne 5, 3) := by decide +kernel
theorem dX11_home_20 : decode cX11_home 20 = .ok (.iconst (-1), 1) := by decide +kernel
theorem dX11_home_21 : decode cX11_home 21 = .ok (.ireturn, 1) := by decide +kernel
theorem dX11_home_22 : decode cX11_home 22 = .ok (.bipush (-2), 2) := by decide +kernel
theorem dX11_home_24 : decode cX11_home 24 = .ok (.istore_n 3, 1) := by decide +kernel
theorem dX11_home_25 : decode cX11_home 25 = .ok (.iconst 0, 1) := by decide +kernel
theorem dX11_home_26 : decode cX11_home 26 = .ok (.istore 4, 2) := by decide +kernel
theorem dX11_home_28 : decode cX11_home 28 = .ok (.iconst 0, 1) := by decide +kernel
theorem dX11_home_29 : decode cX11_home 29 = .ok (.istore 5, 2) := by decide +kernel
theorem dX11_home_31 : decode cX11_home 31 = .ok (.iload 5, 2) := by decide +kernel
theorem dX11_home_33 : decode cX11_home 33 = .ok (.bipush 8, 2) := by decide +kernel
theorem dX11_home_35 : decode cX11_home 35 = .ok (.if_icmp .ge 32, 3) := by decide +kernel
theorem dX11_home_38 : decode cX11_home 38 = .ok (.aload_n 0, 1) := by decide +kernel
theorem dX11_home_39 : decode cX11_home 39 = .ok (.iload_n 1, 1) := by decide +kernel
theorem dX11_home_40 : decode cX11_home 40 = .ok (.iload 5, 2) := by decide +kernel
theorem dX11_home_42 : decode cX11_home 42 = .ok (.invokevirtual 234, 3) := by decide +kernel
theorem dX11_home_45 : decode cX11_home 45 = .ok (.istore 6, 2) := by decide +kernel
theorem dX11_home_47 : decode cX11_home 47 = .ok (.iload 6, 2) := by decide +kernel
theorem dX11_home_49 : decode cX11_home 49 = .ok (.iload 4, 2) := by decide +kernel
theorem dX11_home_51 : decode cX11_home 51 = .ok (.if_icmp .le 10, 3) := by decide +kernel
theorem dX11_home_54 : decode cX11_home 54 = .ok (.iload 6, 2) := by decide +kernel
theorem dX11_home_56 : decode cX11_home 56 = .ok (.istore 4, 2) := by decide +kernel
theorem dX11_home_58 : decode cX11_home 58 = .ok (.iload 5, 2) := by decide +kernel
theorem dX11_home_60 : decode cX11_home 60 = .ok (.istore_n 3, 1) := by decide +kernel
theorem dX11_home_61 : decode cX11_home 61 = .ok (.iinc 5 1, 3) := by decide +kernel
theorem dX11_home_64 : decode cX11_home 64 = .ok (.goto (-33), 3) := by decide +kernel
theorem dX11_home_67 : decode cX11_home 67 = .ok (.iload_n 2, 1) := by decide +kernel
theorem dX11_home_68 : decode cX11_home 68 = .ok (.ifCond .ne 7, 3) := by decide +kernel
theorem dX11_home_71 : decode cX11_home 71 = .ok (.iload_n 3, 1) := by decide +kernel
theorem dX11_home_72 : decode cX11_home 72 = .ok (.goto 5, 3) := by decide +kernel
theorem dX11_home_75 : decode cX11_home 75 = .ok (.iload 4, 2) := by decide +kernel
theorem dX11_home_77 : decode cX11_home 77 = .ok (.ireturn, 1) := by decide +kernel
theorem dX11_grainsFrom_0 : decode cX11_grainsFrom 0 = .ok (.iconst 0, 1) := by decide +kernel
theorem dX11_grainsFrom_1 : decode cX11_grainsFrom 1 = .ok (.istore_n 3, 1) := by decide +kernel
theorem dX11_grainsFrom_2 : decode cX11_grainsFrom 2 = .ok (.iconst 0, 1) := by decide +kernel
theorem dX11_grainsFrom_3 : decode cX11_grainsFrom 3 = .ok (.istore 4, 2) := by decide +kernel
theorem dX11_grainsFrom_5 : decode cX11_grainsFrom 5 = .ok (.iload 4, 2) := by decide +kernel
theorem dX11_grainsFrom_7 : decode cX11_grainsFrom 7 = .ok (.bipush 48, 2) := by decide +kernel
theorem dX11_grainsFrom_9 : decode cX11_grainsFrom 9 = .ok (.if_icmp .ge 47, 3) := by decide +kernel
theorem dX11_grainsFrom_12 : decode cX11_grainsFrom 12 = .ok (.aload_n 0, 1) := by decide +kernel
theorem dX11_grainsFrom_13 : decode cX11_grainsFrom 13 = .ok (.getfield 26, 3) := by decide +kernel
theorem dX11_grainsFrom_16 : decode cX11_grainsFrom 16 = .ok (.iload 4, 2) := by decide +kernel
theorem dX11_grainsFrom_18 : decode cX11_grainsFrom 18 = .ok (.iload_n 1, 1) := by decide +kernel
theorem dX11_grainsFrom_19 : decode cX11_grainsFrom 19 = .ok (.invokevirtual 196, 3) := by decide +kernel
theorem dX11_grainsFrom_22 : decode cX11_grainsFrom 22 = .ok (.ifCond .eq 28, 3) := by decide +kernel
theorem dX11_grainsFrom_25 : decode cX11_grainsFrom 25 = .ok (.aload_n 0, 1) := by decide +kernel
theorem dX11_grainsFrom_26 : decode cX11_grainsFrom 26 = .ok (.getfield 19, 3) := by decide +kernel
theorem dX11_grainsFrom_29 : decode cX11_grainsFrom 29 = .ok (.iload 4, 2) := by decide +kernel
theorem dX11_grainsFrom_31 : decode cX11_grainsFrom 31 = .ok (.invokevirtual 213, 3) := by decide +kernel
theorem dX11_grainsFrom_34 : decode cX11_grainsFrom 34 = .ok (.iload_n 2, 1) := by decide +kernel
theorem dX11_grainsFrom_35 : decode cX11_grainsFrom 35 = .ok (.if_icmp .ne 15, 3) := by decide +kernel
theorem dX11_grainsFrom_38 : decode cX11_grainsFrom 38 = .ok (.iload_n 3, 1) := by decide +kernel
theorem dX11_grainsFrom_39 : decode cX11_grainsFrom 39 = .ok (.aload_n 0, 1) := by decide +kernel
theorem dX11_grainsFrom_40 : decode cX11_grainsFrom 40 = .ok (.getfield 19, 3) := by decide +kernel
theorem dX11_grainsFrom_43 : decode cX11_grainsFrom 43 = .ok (.iload 4, 2) := by decide +kernel
theorem dX11_grainsFrom_45 : decode cX11_grainsFrom 45 = .ok (.invokevirtual 203, 3) := by decide +kernel
theorem dX11_grainsFrom_48 : decode cX11_grainsFrom 48 = .ok (.iadd, 1) := by decide +kernel
theorem dX11_grainsFrom_49 : decode cX11_grainsFrom 49 = .ok (.istore_n 3, 1) := by decide +kernel
theorem dX11_grainsFrom_50 : decode cX11_grainsFrom 50 = .ok (.iinc 4 1, 3) := by decide +kernel
theorem dX11_grainsFrom_53 : decode cX11_grainsFrom 53 = .ok (.goto (-48), 3) := by decide +kernel
theorem dX11_grainsFrom_56 : decode cX11_grainsFrom 56 = .ok (.iload_n 3, 1) := by decide +kernel
theorem dX11_grainsFrom_57 : decode cX11_grainsFrom 57 = .ok (.ireturn, 1) := by decide +kernel
theorem dX11_lying_0 : decode cX11_lying 0 = .ok (.iload_n 1, 1) := by decide +kernel
theorem dX11_lying_1 : decode cX11_lying 1 = .ok (.invokestatic 219, 3) := by decide +kernel
theorem dX11_lying_4 : decode cX11_lying 4 = .ok (.ifCond .ne 5, 3) := by decide +kernel
theorem dX11_lying_7 : decode cX11_lying 7 = .ok (.iconst (-1), 1) := by decide +kernel
theorem dX11_lying_8 : decode cX11_lying 8 = .ok (.ireturn, 1) := by decide +kernel
theorem dX11_lying_9 : decode cX11_lying 9 = .ok (.iconst 0, 1) := by decide +kernel
theorem dX11_lying_10 : decode cX11_lying 10 = .ok (.istore_n 2, 1) := by decide +kernel
theorem dX11_lying_11 : decode cX11_lying 11 = .ok (.iconst 0, 1) := by decide +kernel
theorem dX11_lying_12 : decode cX11_lying 12 = .ok (.istore_n 3, 1) := by decide +kernel
theorem dX11_lying_13 : decode cX11_lying 13 = .ok (.iload_n 3, 1) := by decide +kernel
theorem dX11_lying_14 : decode cX11_lying 14 = .ok (.bipush 8, 2) := by decide +kernel
theorem dX11_lying_16 : decode cX11_lying 16 = .ok (.if_icmp .ge 38, 3) := by decide +kernel
theorem dX11_lying_19 : decode cX11_lying 19 = .ok (.aload_n 0, 1) := by decide +kernel
theorem dX11_lying_20 : decode cX11_lying 20 = .ok (.getfield 26, 3) := by decide +kernel
theorem dX11_lying_23 : decode cX11_lying 23 = .ok (.iload_n 3, 1) := by decide +kernel
theorem dX11_lying_24 : decode cX11_lying 24 = .ok (.invokevirtual 180, 3) := by decide +kernel
theorem dX11_lying_27 : decode cX11_lying 27 = .ok (.ifCond .eq 21, 3) := by decide +kernel
theorem dX11_lying_30 : decode cX11_lying 30 = .ok (.aload_n 0, 1) := by decide +kernel
theorem dX11_lying_31 : decode cX11_lying 31 = .ok (.getfield 26, 3) := by decide +kernel
theorem dX11_lying_34 : decode cX11_lying 34 = .ok (.iload_n 3, 1) := by decide +kernel
theorem dX11_lying_35 : decode cX11_lying 35 = .ok (.invokevirtual 177, 3) := by decide +kernel
theorem dX11_lying_38 : decode cX11_lying 38 = .ok (.iload_n 1, 1) := by decide +kernel
theorem dX11_lying_39 : decode cX11_lying 39 = .ok (.if_icmp .ne 9, 3) := by decide +kernel
theorem dX11_lying_42 : decode cX11_lying 42 = .ok (.iload_n 2, 1) := by decide +kernel
theorem dX11_lying_43 : decode cX11_lying 43 = .ok (.iconst 1, 1) := by decide +kernel
theorem dX11_lying_44 : decode cX11_lying 44 = .ok (.iload_n 3, 1) := by decide +kernel
theorem dX11_lying_45 : decode cX11_lying 45 = .ok (.ishl, 1) := by decide +kernel
theorem dX11_lying_46 : decode cX11_lying 46 = .ok (.ior, 1) := by decide +kernel
theorem dX11_lying_47 : decode cX11_lying 47 = .ok (.istore_n 2, 1) := by decide +kernel
theorem dX11_lying_48 : decode cX11_lying 48 = .ok (.iinc 3 1, 3) := by decide +kernel
theorem dX11_lying_51 : decode cX11_lying 51 = .ok (.goto (-38), 3) := by decide +kernel
theorem dX11_lying_54 : decode cX11_lying 54 = .ok (.iload_n 2, 1) := by decide +kernel
theorem dX11_lying_55 : decode cX11_lying 55 = .ok (.ireturn, 1) := by decide +kernel
theorem dX11_stamped_0 : decode cX11_stamped 0 = .ok (.iload_n 2, 1) := by decide +kernel
theorem dX11_stamped_1 : decode cX11_stamped 1 = .ok (.invokestatic 219, 3) := by decide +kernel
theorem dX11_stamped_4 : decode cX11_stamped 4 = .ok (.ifCond .eq 45, 3) := by decide +kernel
theorem dX11_stamped_7 : decode cX11_stamped 7 = .ok (.iload_n 3, 1) := by decide +kernel
theorem dX11_stamped_8 : decode cX11_stamped 8 = .ok (.invokestatic 219, 3) := by decide +kernel
theorem dX11_stamped_11 : decode cX11_stamped 11 = .ok (.ifCond .eq 38, 3) := by decide +kernel
theorem dX11_stamped_14 : decode cX11_stamped 14 = .ok (.iload 4, 2) := by decide +kernel
theorem dX11_stamped_16 : decode cX11_stamped 16 = .ok (.iconst 0, 1) := by decide +kernel
theorem dX11_stamped_17 : decode cX11_stamped 17 = .ok (.bipush 60, 2) := by decide +kernel
theorem dX11_stamped_19 : decode cX11_stamped 19 = .ok (.invokestatic 102, 3) := by decide +kernel
theorem dX11_stamped_22 : decode cX11_stamped 22 = .ok (.ifCond .eq 27, 3) := by decide +kernel
theorem dX11_stamped_25 : decode cX11_stamped 25 = .ok (.iload 5, 2) := by decide +kernel
theorem dX11_stamped_27 : decode cX11_stamped 27 = .ok (.iconst 0, 1) := by decide +kernel
theorem dX11_stamped_28 : decode cX11_stamped 28 = .ok (.iconst 1, 1) := by decide +kernel
theorem dX11_stamped_29 : decode cX11_stamped 29 = .ok (.invokestatic 102, 3) := by decide +kernel
theorem dX11_stamped_32 : decode cX11_stamped 32 = .ok (.ifCond .eq 17, 3) := by decide +kernel
theorem dX11_stamped_35 : decode cX11_stamped 35 = .ok (.aload_n 0, 1) := by decide +kernel
theorem dX11_stamped_36 : decode cX11_stamped 36 = .ok (.getfield 12, 3) := by decide +kernel
theorem dX11_stamped_39 : decode cX11_stamped 39 = .ok (.iload_n 1, 1) := by decide +kernel
theorem dX11_stamped_40 : decode cX11_stamped 40 = .ok (.iconst 1, 1) := by decide +kernel
theorem dX11_stamped_41 : decode cX11_stamped 41 = .ok (.bipush 9, 2) := by decide +kernel
theorem dX11_stamped_43 : decode cX11_stamped 43 = .ok (.invokevirtual 122, 3) := by decide +kernel
theorem dX11_stamped_46 : decode cX11_stamped 46 = .ok (.ifCond .ne 5, 3) := by decide +kernel
theorem dX11_stamped_49 : decode cX11_stamped 49 = .ok (.iconst (-1), 1) := by decide +kernel
theorem dX11_stamped_50 : decode cX11_stamped 50 = .ok (.ireturn, 1) := by decide +kernel
theorem dX11_stamped_51 : decode cX11_stamped 51 = .ok (.aload_n 0, 1) := by decide +kernel
theorem dX11_stamped_52 : decode cX11_stamped 52 = .ok (.iload_n 1, 1) := by decide +kernel
theorem dX11_stamped_53 : decode cX11_stamped 53 = .ok (.invokevirtual 237, 3) := by decide +kernel
theorem dX11_stamped_56 : decode cX11_stamped 56 = .ok (.ifCond .ne 6, 3) := by decide +kernel
theorem dX11_stamped_59 : decode cX11_stamped 59 = .ok (.bipush (-3), 2) := by decide +kernel
theorem dX11_stamped_61 : decode cX11_stamped 61 = .ok (.ireturn, 1) := by decide +kernel
theorem dX11_stamped_62 : decode cX11_stamped 62 = .ok (.aload_n 0, 1) := by decide +kernel
theorem dX11_stamped_63 : decode cX11_stamped 63 = .ok (.getfield 48, 3) := by decide +kernel
theorem dX11_stamped_66 : decode cX11_stamped 66 = .ok (.iload_n 2, 1) := by decide +kernel
theorem dX11_stamped_67 : decode cX11_stamped 67 = .ok (.iload_n 3, 1) := by decide +kernel
theorem dX11_stamped_68 : decode cX11_stamped 68 = .ok (.iload 4, 2) := by decide +kernel
theorem dX11_stamped_70 : decode cX11_stamped 70 = .ok (.invokevirtual 240, 3) := by decide +kernel
theorem dX11_stamped_73 : decode cX11_stamped 73 = .ok (.iload 5, 2) := by decide +kernel
theorem dX11_stamped_75 : decode cX11_stamped 75 = .ok (.invokestatic 243, 3) := by decide +kernel
theorem dX11_stamped_78 : decode cX11_stamped 78 = .ok (.ireturn, 1) := by decide +kernel
theorem dX11_hang_0 : decode cX11_hang 0 = .ok (.iload_n 2, 1) := by decide +kernel
theorem dX11_hang_1 : decode cX11_hang 1 = .ok (.invokestatic 219, 3) := by decide +kernel
theorem dX11_hang_4 : decode cX11_hang 4 = .ok (.ifCond .eq 26, 3) := by decide +kernel
theorem dX11_hang_7 : decode cX11_hang 7 = .ok (.iload_n 3, 1) := by decide +kernel
theorem dX11_hang_8 : decode cX11_hang 8 = .ok (.iconst 0, 1) := by decide +kernel
theorem dX11_hang_9 : decode cX11_hang 9 = .ok (.iconst 1, 1) := by decide +kernel
theorem dX11_hang_10 : decode cX11_hang 10 = .ok (.invokestatic 102, 3) := by decide +kernel
theorem dX11_hang_13 : decode cX11_hang 13 = .ok (.ifCond .eq 17, 3) := by decide +kernel
theorem dX11_hang_16 : decode cX11_hang 16 = .ok (.aload_n 0, 1) := by decide +kernel
theorem dX11_hang_17 : decode cX11_hang 17 = .ok (.getfield 12, 3) := by decide +kernel
theorem dX11_hang_20 : decode cX11_hang 20 = .ok (.iload_n 1, 1) := by decide +kernel
theorem dX11_hang_21 : decode cX11_hang 21 = .ok (.iconst 1, 1) := by decide +kernel
theorem dX11_hang_22 : decode cX11_hang 22 = .ok (.bipush 9, 2) := by decide +kernel
theorem dX11_hang_24 : decode cX11_hang 24 = .ok (.invokevirtual 122, 3) := by decide +kernel
theorem dX11_hang_27 : decode cX11_hang 27 = .ok (.ifCond .ne 5, 3) := by decide +kernel
theorem dX11_hang_30 : decode cX11_hang 30 = .ok (.iconst (-1), 1) := by decide +kernel
theorem dX11_hang_31 : decode cX11_hang 31 = .ok (.ireturn, 1) := by decide +kernel
theorem dX11_hang_32 : decode cX11_hang 32 = .ok (.aload_n 0, 1) := by decide +kernel
theorem dX11_hang_33 : decode cX11_hang 33 = .ok (.iload_n 1, 1) := by decide +kernel
theorem dX11_hang_34 : decode cX11_hang 34 = .ok (.invokevirtual 237, 3) := by decide +kernel
theorem dX11_hang_37 : decode cX11_hang 37 = .ok (.ifCond .ne 6, 3) := by decide +kernel
theorem dX11_hang_40 : decode cX11_hang 40 = .ok (.bipush (-3), 2) := by decide +kernel
theorem dX11_hang_42 : decode cX11_hang 42 = .ok (.ireturn, 1) := by decide +kernel
theorem dX11_hang_43 : decode cX11_hang 43 = .ok (.iload_n 3, 1) := by decide +kernel
theorem dX11_hang_44 : decode cX11_hang 44 = .ok (.ifCond .ne 14, 3) := by decide +kernel
theorem dX11_hang_47 : decode cX11_hang 47 = .ok (.aload_n 0, 1) := by decide +kernel
theorem dX11_hang_48 : decode cX11_hang 48 = .ok (.getfield 48, 3) := by decide +kernel
theorem dX11_hang_51 : decode cX11_hang 51 = .ok (.iload_n 2, 1) := by decide +kernel
theorem dX11_hang_52 : decode cX11_hang 52 = .ok (.invokevirtual 246, 3) := by decide +kernel
theorem dX11_hang_55 : decode cX11_hang 55 = .ok (.goto 11, 3) := by decide +kernel
theorem dX11_hang_58 : decode cX11_hang 58 = .ok (.aload_n 0, 1) := by decide +kernel
theorem dX11_hang_59 : decode cX11_hang 59 = .ok (.getfield 48, 3) := by decide +kernel
theorem dX11_hang_62 : decode cX11_hang 62 = .ok (.iload_n 2, 1) := by decide +kernel
theorem dX11_hang_63 : decode cX11_hang 63 = .ok (.invokevirtual 249, 3) := by decide +kernel
theorem dX11_hang_66 : decode cX11_hang 66 = .ok (.ireturn, 1) := by decide +kernel
theorem dX11_falseOnes_0 : decode cX11_falseOnes 0 = .ok (.iload_n 2, 1) := by decide +kernel
theorem dX11_falseOnes_1 : decode cX11_falseOnes 1 = .ok (.invokestatic 219, 3) := by decide +kernel
theorem dX11_falseOnes_4 : decode cX11_falseOnes 4 = .ok (.ifCond .eq 46, 3) := by decide +kernel
theorem dX11_falseOnes_7 : decode cX11_falseOnes 7 = .ok (.iload_n 3, 1) := by decide +kernel
theorem dX11_falseOnes_8 : decode cX11_falseOnes 8 = .ok (.iconst (-1), 1) := by decide +kernel
theorem dX11_falseOnes_9 : decode cX11_falseOnes 9 = .ok (.iconst 1, 1) := by decide +kernel
theorem dX11_falseOnes_10 : decode cX11_falseOnes 10 = .ok (.invokestatic 102, 3) := by decide +kernel
theorem dX11_falseOnes_13 : decode cX11_falseOnes 13 = .ok (.ifCond .eq 37, 3) := by decide +kernel
theorem dX11_falseOnes_16 : decode cX11_falseOnes 16 = .ok (.iload 4, 2) := by decide +kernel
theorem dX11_falseOnes_18 : decode cX11_falseOnes 18 = .ok (.iconst (-1), 1) := by decide +kernel
theorem dX11_falseOnes_19 : decode cX11_falseOnes 19 = .ok (.iconst 1, 1) := by decide +kernel
theorem dX11_falseOnes_20 : decode cX11_falseOnes 20 = .ok (.invokestatic 102, 3) := by decide +kernel
theorem dX11_falseOnes_23 : decode cX11_falseOnes 23 = .ok (.ifCond .eq 27, 3) := by decide +kernel
theorem dX11_falseOnes_26 : decode cX11_falseOnes 26 = .ok (.iload 5, 2) := by decide +kernel
theorem dX11_falseOnes_28 : decode cX11_falseOnes 28 = .ok (.iconst 0, 1) := by decide +kernel
theorem dX11_falseOnes_29 : decode cX11_falseOnes 29 = .ok (.iconst 1, 1) := by decide +kernel
theorem dX11_falseOnes_30 : decode cX11_falseOnes 30 = .ok (.invokestatic 102, 3) := by decide +kernel
theorem dX11_falseOnes_33 : decode cX11_falseOnes 33 = .ok (.ifCond .eq 17, 3) := by decide +kernel
theorem dX11_falseOnes_36 : decode cX11_falseOnes 36 = .ok (.aload_n 0, 1) := by decide +kernel
theorem dX11_falseOnes_37 : decode cX11_falseOnes 37 = .ok (.getfield 12, 3) := by decide +kernel
theorem dX11_falseOnes_40 : decode cX11_falseOnes 40 = .ok (.iload_n 1, 1) := by decide +kernel
theorem dX11_falseOnes_41 : decode cX11_falseOnes 41 = .ok (.iconst 1, 1) := by decide +kernel
theorem dX11_falseOnes_42 : decode cX11_falseOnes 42 = .ok (.bipush 9, 2) := by decide +kernel
theorem dX11_falseOnes_44 : decode cX11_falseOnes 44 = .ok (.invokevirtual 122, 3) := by decide +kernel
theorem dX11_falseOnes_47 : decode cX11_falseOnes 47 = .ok (.ifCond .ne 5, 3) := by decide +kernel
theorem dX11_falseOnes_50 : decode cX11_falseOnes 50 = .ok (.iconst (-1), 1) := by decide +kernel
theorem dX11_falseOnes_51 : decode cX11_falseOnes 51 = .ok (.ireturn, 1) := by decide +kernel
theorem dX11_falseOnes_52 : decode cX11_falseOnes 52 = .ok (.aload_n 0, 1) := by decide +kernel
theorem dX11_falseOnes_53 : decode cX11_falseOnes 53 = .ok (.iload_n 1, 1) := by decide +kernel
theorem dX11_falseOnes_54 : decode cX11_falseOnes 54 = .ok (.invokevirtual 237, 3) := by decide +kernel
theorem dX11_falseOnes_57 : decode cX11_falseOnes 57 = .ok (.ifCond .ne 6, 3) := by decide +kernel
theorem dX11_falseOnes_60 : decode cX11_falseOnes 60 = .ok (.bipush (-3), 2) := by decide +kernel
theorem dX11_falseOnes_62 : decode cX11_falseOnes 62 = .ok (.ireturn, 1) := by decide +kernel
theorem dX11_falseOnes_63 : decode cX11_falseOnes 63 = .ok (.iload_n 3, 1) := by decide +kernel
theorem dX11_falseOnes_64 : decode cX11_falseOnes 64 = .ok (.ifCond .eq 11, 3) := by decide +kernel
theorem dX11_falseOnes_67 : decode cX11_falseOnes 67 = .ok (.iload 4, 2) := by decide +kernel
theorem dX11_falseOnes_69 : decode cX11_falseOnes 69 = .ok (.ifCond .eq 6, 3) := by decide +kernel
theorem dX11_falseOnes_72 : decode cX11_falseOnes 72 = .ok (.bipush (-2), 2) := by decide +kernel
theorem dX11_falseOnes_74 : decode cX11_falseOnes 74 = .ok (.ireturn, 1) := by decide +kernel
theorem dX11_falseOnes_75 : decode cX11_falseOnes 75 = .ok (.aload_n 0, 1) := by decide +kernel
theorem dX11_falseOnes_76 : decode cX11_falseOnes 76 = .ok (.getfield 48, 3) := by decide +kernel
theorem dX11_falseOnes_79 : decode cX11_falseOnes 79 = .ok (.iload_n 2, 1) := by decide +kernel
theorem dX11_falseOnes_80 : decode cX11_falseOnes 80 = .ok (.iload_n 3, 1) := by decide +kernel
theorem dX11_falseOnes_81 : decode cX11_falseOnes 81 = .ok (.iload 4, 2) := by decide +kernel
theorem dX11_falseOnes_83 : decode cX11_falseOnes 83 = .ok (.invokestatic 252, 3) := by decide +kernel
theorem dX11_falseOnes_86 : decode cX11_falseOnes 86 = .ok (.invokevirtual 255, 3) := by decide +kernel
theorem dX11_falseOnes_89 : decode cX11_falseOnes 89 = .ok (.iload 5, 2) := by decide +kernel
theorem dX11_falseOnes_91 : decode cX11_falseOnes 91 = .ok (.invokestatic 243, 3) := by decide +kernel
theorem dX11_falseOnes_94 : decode cX11_falseOnes 94 = .ok (.ireturn, 1) := by decide +kernel
theorem dX11_gatherCrew_0 : decode cX11_gatherCrew 0 = .ok (.aload_n 0, 1) := by decide +kernel
theorem dX11_gatherCrew_1 : decode cX11_gatherCrew 1 = .ok (.getfield 48, 3) := by decide +kernel
theorem dX11_gatherCrew_4 : decode cX11_gatherCrew 4 = .ok (.aload_n 0, 1) := by decide +kernel
theorem dX11_gatherCrew_5 : decode cX11_gatherCrew 5 = .ok (.getfield 12, 3) := by decide +kernel
theorem dX11_gatherCrew_8 : decode cX11_gatherCrew 8 = .ok (.iload_n 1, 1) := by decide +kernel
theorem dX11_gatherCrew_9 : decode cX11_gatherCrew 9 = .ok (.invokevirtual 258, 3) := by decide +kernel
theorem dX11_gatherCrew_12 : decode cX11_gatherCrew 12 = .ok (.istore_n 2, 1) := by decide +kernel
theorem dX11_gatherCrew_13 : decode cX11_gatherCrew 13 = .ok (.aload_n 0, 1) := by decide +kernel
theorem dX11_gatherCrew_14 : decode cX11_gatherCrew 14 = .ok (.getfield 12, 3) := by decide +kernel
theorem dX11_gatherCrew_17 : decode cX11_gatherCrew 17 = .ok (.invokevirtual 129, 3) := by decide +kernel
theorem dX11_gatherCrew_20 : decode cX11_gatherCrew 20 = .ok (.iload_n 2, 1) := by decide +kernel
theorem dX11_gatherCrew_21 : decode cX11_gatherCrew 21 = .ok (.ireturn, 1) := by decide +kernel
theorem dX11_sizeOrBits_0 : decode cX11_sizeOrBits 0 = .ok (.iload_n 0, 1) := by decide +kernel
theorem dX11_sizeOrBits_1 : decode cX11_sizeOrBits 1 = .ok (.ifCond .lt 8, 3) := by decide +kernel
theorem dX11_sizeOrBits_4 : decode cX11_sizeOrBits 4 = .ok (.iload_n 1, 1) := by decide +kernel
theorem dX11_sizeOrBits_5 : decode cX11_sizeOrBits 5 = .ok (.iconst 1, 1) := by decide +kernel
theorem dX11_sizeOrBits_6 : decode cX11_sizeOrBits 6 = .ok (.if_icmp .ne 7, 3) := by decide +kernel
theorem dX11_sizeOrBits_9 : decode cX11_sizeOrBits 9 = .ok (.iload_n 0, 1) := by decide +kernel
theorem dX11_sizeOrBits_10 : decode cX11_sizeOrBits 10 = .ok (.goto 7, 3) := by decide +kernel
theorem dX11_sizeOrBits_13 : decode cX11_sizeOrBits 13 = .ok (.iload_n 0, 1) := by decide +kernel
theorem dX11_sizeOrBits_14 : decode cX11_sizeOrBits 14 = .ok (.invokestatic 262, 3) := by decide +kernel
theorem dX11_sizeOrBits_17 : decode cX11_sizeOrBits 17 = .ok (.ireturn, 1) := by decide +kernel
theorem dX11_printed_0 : decode cX11_printed 0 = .ok (.iload_n 1, 1) := by decide +kernel
theorem dX11_printed_1 : decode cX11_printed 1 = .ok (.iconst 1, 1) := by decide +kernel
theorem dX11_printed_2 : decode cX11_printed 2 = .ok (.bipush 10, 2) := by decide +kernel
theorem dX11_printed_4 : decode cX11_printed 4 = .ok (.invokestatic 102, 3) := by decide +kernel
theorem dX11_printed_7 : decode cX11_printed 7 = .ok (.ifCond .eq 19, 3) := by decide +kernel
theorem dX11_printed_10 : decode cX11_printed 10 = .ok (.aload_n 0, 1) := by decide +kernel
theorem dX11_printed_11 : decode cX11_printed 11 = .ok (.getfield 12, 3) := by decide +kernel
theorem dX11_printed_14 : decode cX11_printed 14 = .ok (.iconst 3, 1) := by decide +kernel
theorem dX11_printed_15 : decode cX11_printed 15 = .ok (.iload_n 1, 1) := by decide +kernel
theorem dX11_printed_16 : decode cX11_printed 16 = .ok (.imul, 1) := by decide +kernel
theorem dX11_printed_17 : decode cX11_printed 17 = .ok (.iconst 3, 1) := by decide +kernel
theorem dX11_printed_18 : decode cX11_printed 18 = .ok (.bipush 30, 2) := by decide +kernel
theorem dX11_printed_20 : decode cX11_printed 20 = .ok (.invokevirtual 122, 3) := by decide +kernel
theorem dX11_printed_23 : decode cX11_printed 23 = .ok (.ifCond .ne 5, 3) := by decide +kernel
theorem dX11_printed_26 : decode cX11_printed 26 = .ok (.iconst (-1), 1) := by decide +kernel
theorem dX11_printed_27 : decode cX11_printed 27 = .ok (.ireturn, 1) := by decide +kernel
theorem dX11_printed_28 : decode cX11_printed 28 = .ok (.iconst 0, 1) := by decide +kernel
theorem dX11_printed_29 : decode cX11_printed 29 = .ok (.istore_n 2, 1) := by decide +kernel
theorem dX11_printed_30 : decode cX11_printed 30 = .ok (.iconst 0, 1) := by decide +kernel
theorem dX11_printed_31 : decode cX11_printed 31 = .ok (.istore_n 3, 1) := by decide +kernel
theorem dX11_printed_32 : decode cX11_printed 32 = .ok (.iload_n 3, 1) := by decide +kernel
theorem dX11_printed_33 : decode cX11_printed 33 = .ok (.bipush 8, 2) := by decide +kernel
theorem dX11_printed_35 : decode cX11_printed 35 = .ok (.if_icmp .ge 35, 3) := by decide +kernel
theorem dX11_printed_38 : decode cX11_printed 38 = .ok (.aload_n 0, 1) := by decide +kernel
theorem dX11_printed_39 : decode cX11_printed 39 = .ok (.getfield 19, 3) := by decide +kernel
theorem dX11_printed_42 : decode cX11_printed 42 = .ok (.iload_n 3, 1) := by decide +kernel
theorem dX11_printed_43 : decode cX11_printed 43 = .ok (.invokevirtual 267, 3) := by decide +kernel
theorem dX11_printed_46 : decode cX11_printed 46 = .ok (.ifCond .eq 18, 3) := by decide +kernel
theorem dX11_printed_49 : decode cX11_printed 49 = .ok (.aload_n 0, 1) := by decide +kernel
theorem dX11_printed_50 : decode cX11_printed 50 = .ok (.iload_n 3, 1) := by decide +kernel
theorem dX11_printed_51 : decode cX11_printed 51 = .ok (.iload_n 1, 1) := by decide +kernel
theorem dX11_printed_52 : decode cX11_printed 52 = .ok (.invokevirtual 270, 3) := by decide +kernel
theorem dX11_printed_55 : decode cX11_printed 55 = .ok (.ifCond .eq 9, 3) := by decide +kernel
theorem dX11_printed_58 : decode cX11_printed 58 = .ok (.iload_n 2, 1) := by decide +kernel
theorem dX11_printed_59 : decode cX11_printed 59 = .ok (.iconst 1, 1) := by decide +kernel
theorem dX11_printed_60 : decode cX11_printed 60 = .ok (.iload_n 3, 1) := by decide +kernel
theorem dX11_printed_61 : decode cX11_printed 61 = .ok (.ishl, 1) := by decide +kernel
theorem dX11_printed_62 : decode cX11_printed 62 = .ok (.ior, 1) := by decide +kernel
theorem dX11_printed_63 : decode cX11_printed 63 = .ok (.istore_n 2, 1) := by decide +kernel
theorem dX11_printed_64 : decode cX11_printed 64 = .ok (.iinc 3 1, 3) := by decide +kernel
theorem dX11_printed_67 : decode cX11_printed 67 = .ok (.goto (-35), 3) := by decide +kernel
theorem dX11_printed_70 : decode cX11_printed 70 = .ok (.aload_n 0, 1) := by decide +kernel
theorem dX11_printed_71 : decode cX11_printed 71 = .ok (.getfield 12, 3) := by decide +kernel
theorem dX11_printed_74 : decode cX11_printed 74 = .ok (.invokevirtual 129, 3) := by decide +kernel
theorem dX11_printed_77 : decode cX11_printed 77 = .ok (.iload_n 2, 1) := by decide +kernel
theorem dX11_printed_78 : decode cX11_printed 78 = .ok (.ireturn, 1) := by decide +kernel
theorem dX11_fitsAllPulls_0 : decode cX11_fitsAllPulls 0 = .ok (.iconst 0, 1) := by decide +kernel
theorem dX11_fitsAllPulls_1 : decode cX11_fitsAllPulls 1 = .ok (.istore_n 3, 1) := by decide +kernel
theorem dX11_fitsAllPulls_2 : decode cX11_fitsAllPulls 2 = .ok (.iload_n 3, 1) := by decide +kernel
theorem dX11_fitsAllPulls_3 : decode cX11_fitsAllPulls 3 = .ok (.iload_n 2, 1) := by decide +kernel
theorem dX11_fitsAllPulls_4 : decode cX11_fitsAllPulls 4 = .ok (.if_icmp .ge 56, 3) := by decide +kernel
theorem dX11_fitsAllPulls_7 : decode cX11_fitsAllPulls 7 = .ok (.aload_n 0, 1) := by decide +kernel
theorem dX11_fitsAllPulls_8 : decode cX11_fitsAllPulls 8 = .ok (.getfield 19, 3) := by decide +kernel
theorem dX11_fitsAllPulls_11 : decode cX11_fitsAllPulls 11 = .ok (.iload_n 1, 1) := by decide +kernel
theorem dX11_fitsAllPulls_12 : decode cX11_fitsAllPulls 12 = .ok (.aload_n 0, 1) := by decide +kernel
theorem dX11_fitsAllPulls_13 : decode cX11_fitsAllPulls 13 = .ok (.getfield 12, 3) := by decide +kernel
theorem dX11_fitsAllPulls_16 : decode cX11_fitsAllPulls 16 = .ok (.iconst 3, 1) := by decide +kernel
theorem dX11_fitsAllPulls_17 : decode cX11_fitsAllPulls 17 = .ok (.iload_n 3, 1) := by decide +kernel
theorem dX11_fitsAllPulls_18 : decode cX11_fitsAllPulls 18 = .ok (.imul, 1) := by decide +kernel
theorem dX11_fitsAllPulls_19 : decode cX11_fitsAllPulls 19 = .ok (.invokevirtual 273, 3) := by decide +kernel
theorem dX11_fitsAllPulls_22 : decode cX11_fitsAllPulls 22 = .ok (.aload_n 0, 1) := by decide +kernel
theorem dX11_fitsAllPulls_23 : decode cX11_fitsAllPulls 23 = .ok (.getfield 12, 3) := by decide +kernel
theorem dX11_fitsAllPulls_26 : decode cX11_fitsAllPulls 26 = .ok (.iconst 3, 1) := by decide +kernel
theorem dX11_fitsAllPulls_27 : decode cX11_fitsAllPulls 27 = .ok (.iload_n 3, 1) := by decide +kernel
theorem dX11_fitsAllPulls_28 : decode cX11_fitsAllPulls 28 = .ok (.imul, 1) := by decide +kernel
theorem dX11_fitsAllPulls_29 : decode cX11_fitsAllPulls 29 = .ok (.iconst 1, 1) := by decide +kernel
theorem dX11_fitsAllPulls_30 : decode cX11_fitsAllPulls 30 = .ok (.iadd, 1) := by decide +kernel
theorem dX11_fitsAllPulls_31 : decode cX11_fitsAllPulls 31 = .ok (.invokevirtual 273, 3) := by decide +kernel
theorem dX11_fitsAllPulls_34 : decode cX11_fitsAllPulls 34 = .ok (.invokevirtual 276, 3) := by decide +kernel
theorem dX11_fitsAllPulls_37 : decode cX11_fitsAllPulls 37 = .ok (.aload_n 0, 1) := by decide +kernel
theorem dX11_fitsAllPulls_38 : decode cX11_fitsAllPulls 38 = .ok (.getfield 12, 3) := by decide +kernel
theorem dX11_fitsAllPulls_41 : decode cX11_fitsAllPulls 41 = .ok (.iconst 3, 1) := by decide +kernel
theorem dX11_fitsAllPulls_42 : decode cX11_fitsAllPulls 42 = .ok (.iload_n 3, 1) := by decide +kernel
theorem dX11_fitsAllPulls_43 : decode cX11_fitsAllPulls 43 = .ok (.imul, 1) := by decide +kernel
theorem dX11_fitsAllPulls_44 : decode cX11_fitsAllPulls 44 = .ok (.iconst 2, 1) := by decide +kernel
theorem dX11_fitsAllPulls_45 : decode cX11_fitsAllPulls 45 = .ok (.iadd, 1) := by decide +kernel
theorem dX11_fitsAllPulls_46 : decode cX11_fitsAllPulls 46 = .ok (.invokevirtual 273, 3) := by decide +kernel
theorem dX11_fitsAllPulls_49 : decode cX11_fitsAllPulls 49 = .ok (.if_icmp .eq 5, 3) := by decide +kernel
theorem dX11_fitsAllPulls_52 : decode cX11_fitsAllPulls 52 = .ok (.iconst 0, 1) := by decide +kernel
theorem dX11_fitsAllPulls_53 : decode cX11_fitsAllPulls 53 = .ok (.ireturn, 1) := by decide +kernel
theorem dX11_fitsAllPulls_54 : decode cX11_fitsAllPulls 54 = .ok (.iinc 3 1, 3) := by decide +kernel
theorem dX11_fitsAllPulls_57 : decode cX11_fitsAllPulls 57 = .ok (.goto (-55), 3) := by decide +kernel
theorem dX11_fitsAllPulls_60 : decode cX11_fitsAllPulls 60 = .ok (.iconst 1, 1) := by decide +kernel
theorem dX11_fitsAllPulls_61 : decode cX11_fitsAllPulls 61 = .ok (.ireturn, 1) := by decide +kernel
theorem dX11_ship_0 : decode cX11_ship 0 = .ok (.iload_n 2, 1) := by decide +kernel
theorem dX11_ship_1 : decode cX11_ship 1 = .ok (.iconst 0, 1) := by decide +kernel
theorem dX11_ship_2 : decode cX11_ship 2 = .ok (.iconst 1, 1) := by decide +kernel
theorem dX11_ship_3 : decode cX11_ship 3 = .ok (.invokestatic 102, 3) := by decide +kernel
theorem dX11_ship_6 : decode cX11_ship 6 = .ok (.ifCond .eq 17, 3) := by decide +kernel
theorem dX11_ship_9 : decode cX11_ship 9 = .ok (.aload_n 0, 1) := by decide +kernel
theorem dX11_ship_10 : decode cX11_ship 10 = .ok (.getfield 12, 3) := by decide +kernel
theorem dX11_ship_13 : decode cX11_ship 13 = .ok (.iload_n 1, 1) := by decide +kernel
theorem dX11_ship_14 : decode cX11_ship 14 = .ok (.iconst 1, 1) := by decide +kernel
theorem dX11_ship_15 : decode cX11_ship 15 = .ok (.bipush 10, 2) := by decide +kernel
theorem dX11_ship_17 : decode cX11_ship 17 = .ok (.invokevirtual 122, 3) := by decide +kernel
theorem dX11_ship_20 : decode cX11_ship 20 = .ok (.ifCond .ne 5, 3) := by decide +kernel
theorem dX11_ship_23 : decode cX11_ship 23 = .ok (.iconst (-1), 1) := by decide +kernel
theorem dX11_ship_24 : decode cX11_ship 24 = .ok (.ireturn, 1) := by decide +kernel
theorem dX11_ship_25 : decode cX11_ship 25 = .ok (.aload_n 0, 1) := by decide +kernel
theorem dX11_ship_26 : decode cX11_ship 26 = .ok (.getfield 57, 3) := by decide +kernel
theorem dX11_ship_29 : decode cX11_ship 29 = .ok (.iload_n 1, 1) := by decide +kernel
theorem dX11_ship_30 : decode cX11_ship 30 = .ok (.invokevirtual 279, 3) := by decide +kernel
theorem dX11_ship_33 : decode cX11_ship 33 = .ok (.aload_n 0, 1) := by decide +kernel
theorem dX11_ship_34 : decode cX11_ship 34 = .ok (.getfield 12, 3) := by decide +kernel
theorem dX11_ship_37 : decode cX11_ship 37 = .ok (.invokevirtual 129, 3) := by decide +kernel
theorem dX11_ship_40 : decode cX11_ship 40 = .ok (.iload_n 2, 1) := by decide +kernel
theorem dX11_ship_41 : decode cX11_ship 41 = .ok (.ifCond .ne 13, 3) := by decide +kernel
theorem dX11_ship_44 : decode cX11_ship 44 = .ok (.aload_n 0, 1) := by decide +kernel
theorem dX11_ship_45 : decode cX11_ship 45 = .ok (.getfield 57, 3) := by decide +kernel
theorem dX11_ship_48 : decode cX11_ship 48 = .ok (.invokevirtual 282, 3) := by decide +kernel
theorem dX11_ship_51 : decode cX11_ship 51 = .ok (.goto 10, 3) := by decide +kernel
theorem dX11_ship_54 : decode cX11_ship 54 = .ok (.aload_n 0, 1) := by decide +kernel
theorem dX11_ship_55 : decode cX11_ship 55 = .ok (.getfield 57, 3) := by decide +kernel
theorem dX11_ship_58 : decode cX11_ship 58 = .ok (.invokevirtual 285, 3) := by decide +kernel
theorem dX11_ship_61 : decode cX11_ship 61 = .ok (.ireturn, 1) := by decide +kernel
theorem dX11_mule_0 : decode cX11_mule 0 = .ok (.iload_n 3, 1) := by decide +kernel
theorem dX11_mule_1 : decode cX11_mule 1 = .ok (.iconst 0, 1) := by decide +kernel
theorem dX11_mule_2 : decode cX11_mule 2 = .ok (.iconst 2, 1) := by decide +kernel
theorem dX11_mule_3 : decode cX11_mule 3 = .ok (.invokestatic 102, 3) := by decide +kernel
theorem dX11_mule_6 : decode cX11_mule 6 = .ok (.ifCond .eq 28, 3) := by decide +kernel
theorem dX11_mule_9 : decode cX11_mule 9 = .ok (.iload_n 2, 1) := by decide +kernel
theorem dX11_mule_10 : decode cX11_mule 10 = .ok (.iconst 0, 1) := by decide +kernel
theorem dX11_mule_11 : decode cX11_mule 11 = .ok (.sipush 3060, 3) := by decide +kernel
theorem dX11_mule_14 : decode cX11_mule 14 = .ok (.invokestatic 102, 3) := by decide +kernel
theorem dX11_mule_17 : decode cX11_mule 17 = .ok (.ifCond .eq 17, 3) := by decide +kernel
theorem dX11_mule_20 : decode cX11_mule 20 = .ok (.aload_n 0, 1) := by decide +kernel
theorem dX11_mule_21 : decode cX11_mule 21 = .ok (.getfield 12, 3) := by decide +kernel
theorem dX11_mule_24 : decode cX11_mule 24 = .ok (.iload_n 1, 1) := by decide +kernel
theorem dX11_mule_25 : decode cX11_mule 25 = .ok (.iconst 1, 1) := by decide +kernel
theorem dX11_mule_26 : decode cX11_mule 26 = .ok (.bipush 12, 2) := by decide +kernel
theorem dX11_mule_28 : decode cX11_mule 28 = .ok (.invokevirtual 122, 3) := by decide +kernel
theorem dX11_mule_31 : decode cX11_mule 31 = .ok (.ifCond .ne 5, 3) := by decide +kernel
theorem dX11_mule_34 : decode cX11_mule 34 = .ok (.iconst (-1), 1) := by decide +kernel
theorem dX11_mule_35 : decode cX11_mule 35 = .ok (.ireturn, 1) := by decide +kernel
theorem dX11_mule_36 : decode cX11_mule 36 = .ok (.aload_n 0, 1) := by decide +kernel
theorem dX11_mule_37 : decode cX11_mule 37 = .ok (.getfield 57, 3) := by decide +kernel
theorem dX11_mule_40 : decode cX11_mule 40 = .ok (.iload_n 1, 1) := by decide +kernel
theorem dX11_mule_41 : decode cX11_mule 41 = .ok (.iload_n 2, 1) := by decide +kernel
theorem dX11_mule_42 : decode cX11_mule 42 = .ok (.invokevirtual 288, 3) := by decide +kernel
theorem dX11_mule_45 : decode cX11_mule 45 = .ok (.istore 4, 2) := by decide +kernel
theorem dX11_mule_47 : decode cX11_mule 47 = .ok (.aload_n 0, 1) := by decide +kernel
theorem dX11_mule_48 : decode cX11_mule 48 = .ok (.getfield 12, 3) := by decide +kernel
theorem dX11_mule_51 : decode cX11_mule 51 = .ok (.invokevirtual 129, 3) := by decide +kernel
theorem dX11_mule_54 : decode cX11_mule 54 = .ok (.iload 4, 2) := by decide +kernel
theorem dX11_mule_56 : decode cX11_mule 56 = .ok (.ifCond .ne 6, 3) := by decide +kernel
theorem dX11_mule_59 : decode cX11_mule 59 = .ok (.bipush (-2), 2) := by decide +kernel
theorem dX11_mule_61 : decode cX11_mule 61 = .ok (.ireturn, 1) := by decide +kernel
theorem dX11_mule_62 : decode cX11_mule 62 = .ok (.iload_n 3, 1) := by decide +kernel
theorem dX11_mule_63 : decode cX11_mule 63 = .ok (.iconst 2, 1) := by decide +kernel
theorem dX11_mule_64 : decode cX11_mule 64 = .ok (.if_icmp .ne 11, 3) := by decide +kernel
theorem dX11_mule_67 : decode cX11_mule 67 = .ok (.aload_n 0, 1) := by decide +kernel
theorem dX11_mule_68 : decode cX11_mule 68 = .ok (.getfield 57, 3) := by decide +kernel
theorem dX11_mule_71 : decode cX11_mule 71 = .ok (.invokevirtual 282, 3) := by decide +kernel
theorem dX11_mule_74 : decode cX11_mule 74 = .ok (.ireturn, 1) := by decide +kernel
theorem dX11_mule_75 : decode cX11_mule 75 = .ok (.aload_n 0, 1) := by decide +kernel
theorem dX11_mule_76 : decode cX11_mule 76 = .ok (.getfield 57, 3) := by decide +kernel
theorem dX11_mule_79 : decode cX11_mule 79 = .ok (.invokevirtual 285, 3) := by decide +kernel
theorem dX11_mule_82 : decode cX11_mule 82 = .ok (.iload_n 3, 1) := by decide +kernel
theorem dX11_mule_83 : decode cX11_mule 83 = .ok (.invokestatic 243, 3) := by decide +kernel
theorem dX11_mule_86 : decode cX11_mule 86 = .ok (.ireturn, 1) := by decide +kernel
theorem dX11_marks_0 : decode cX11_marks 0 = .ok (.iload_n 2, 1) := by decide +kernel
theorem dX11_marks_1 : decode cX11_marks 1 = .ok (.iconst 1, 1) := by decide +kernel
theorem dX11_marks_2 : decode cX11_marks 2 = .ok (.bipush 6, 2) := by decide +kernel
theorem dX11_marks_4 : decode cX11_marks 4 = .ok (.invokestatic 102, 3) := by decide +kernel
theorem dX11_marks_7 : decode cX11_marks 7 = .ok (.ifCond .eq 16, 3) := by decide +kernel
theorem dX11_marks_10 : decode cX11_marks 10 = .ok (.aload_n 0, 1) := by decide +kernel
theorem dX11_marks_11 : decode cX11_marks 11 = .ok (.getfield 12, 3) := by decide +kernel
theorem dX11_marks_14 : decode cX11_marks 14 = .ok (.iload_n 1, 1) := by decide +kernel
theorem dX11_marks_15 : decode cX11_marks 15 = .ok (.iconst 1, 1) := by decide +kernel
theorem dX11_marks_16 : decode cX11_marks 16 = .ok (.iconst 5, 1) := by decide +kernel
theorem dX11_marks_17 : decode cX11_marks 17 = .ok (.invokevirtual 122, 3) := by decide +kernel
theorem dX11_marks_20 : decode cX11_marks 20 = .ok (.ifCond .ne 5, 3) := by decide +kernel
theorem dX11_marks_23 : decode cX11_marks 23 = .ok (.iconst (-1), 1) := by decide +kernel
theorem dX11_marks_24 : decode cX11_marks 24 = .ok (.ireturn, 1) := by decide +kernel
theorem dX11_marks_25 : decode cX11_marks 25 = .ok (.aload_n 0, 1) := by decide +kernel
theorem dX11_marks_26 : decode cX11_marks 26 = .ok (.getfield 57, 3) := by decide +kernel
theorem dX11_marks_29 : decode cX11_marks 29 = .ok (.iload_n 1, 1) := by decide +kernel
theorem dX11_marks_30 : decode cX11_marks 30 = .ok (.invokevirtual 291, 3) := by decide +kernel
theorem dX11_marks_33 : decode cX11_marks 33 = .ok (.istore_n 3, 1) := by decide +kernel
theorem dX11_marks_34 : decode cX11_marks 34 = .ok (.aload_n 0, 1) := by decide +kernel
theorem dX11_marks_35 : decode cX11_marks 35 = .ok (.getfield 12, 3) := by decide +kernel
theorem dX11_marks_38 : decode cX11_marks 38 = .ok (.invokevirtual 129, 3) := by decide +kernel
theorem dX11_marks_41 : decode cX11_marks 41 = .ok (.iload_n 3, 1) := by decide +kernel
theorem dX11_marks_42 : decode cX11_marks 42 = .ok (.ifCond .eq 14, 3) := by decide +kernel
theorem dX11_marks_45 : decode cX11_marks 45 = .ok (.aload_n 0, 1) := by decide +kernel
theorem dX11_marks_46 : decode cX11_marks 46 = .ok (.getfield 57, 3) := by decide +kernel
theorem dX11_marks_49 : decode cX11_marks 49 = .ok (.iload_n 2, 1) := by decide +kernel
theorem dX11_marks_50 : decode cX11_marks 50 = .ok (.invokevirtual 294, 3) := by decide +kernel
theorem dX11_marks_53 : decode cX11_marks 53 = .ok (.goto 5, 3) := by decide +kernel
theorem dX11_marks_56 : decode cX11_marks 56 = .ok (.bipush (-2), 2) := by decide +kernel
theorem dX11_marks_58 : decode cX11_marks 58 = .ok (.ireturn, 1) := by decide +kernel
theorem dX11_franked_0 : decode cX11_franked 0 = .ok (.iload_n 2, 1) := by decide +kernel
theorem dX11_franked_1 : decode cX11_franked 1 = .ok (.iconst 1, 1) := by decide +kernel
theorem dX11_franked_2 : decode cX11_franked 2 = .ok (.sipush 600, 3) := by decide +kernel
theorem dX11_franked_5 : decode cX11_franked 5 = .ok (.invokestatic 102, 3) := by decide +kernel
theorem dX11_franked_8 : decode cX11_franked 8 = .ok (.ifCond .eq 16, 3) := by decide +kernel
theorem dX11_franked_11 : decode cX11_franked 11 = .ok (.aload_n 0, 1) := by decide +kernel
theorem dX11_franked_12 : decode cX11_franked 12 = .ok (.getfield 12, 3) := by decide +kernel
theorem dX11_franked_15 : decode cX11_franked 15 = .ok (.iload_n 1, 1) := by decide +kernel
theorem dX11_franked_16 : decode cX11_franked 16 = .ok (.iconst 1, 1) := by decide +kernel
theorem dX11_franked_17 : decode cX11_franked 17 = .ok (.iconst 5, 1) := by decide +kernel
theorem dX11_franked_18 : decode cX11_franked 18 = .ok (.invokevirtual 122, 3) := by decide +kernel
theorem dX11_franked_21 : decode cX11_franked 21 = .ok (.ifCond .ne 5, 3) := by decide +kernel
theorem dX11_franked_24 : decode cX11_franked 24 = .ok (.iconst (-1), 1) := by decide +kernel
theorem dX11_franked_25 : decode cX11_franked 25 = .ok (.ireturn, 1) := by decide +kernel
theorem dX11_franked_26 : decode cX11_franked 26 = .ok (.aload_n 0, 1) := by decide +kernel
theorem dX11_franked_27 : decode cX11_franked 27 = .ok (.getfield 57, 3) := by decide +kernel
theorem dX11_franked_30 : decode cX11_franked 30 = .ok (.iload_n 1, 1) := by decide +kernel
theorem dX11_franked_31 : decode cX11_franked 31 = .ok (.invokevirtual 291, 3) := by decide +kernel
theorem dX11_franked_34 : decode cX11_franked 34 = .ok (.istore_n 3, 1) := by decide +kernel
theorem dX11_franked_35 : decode cX11_franked 35 = .ok (.aload_n 0, 1) := by decide +kernel
theorem dX11_franked_36 : decode cX11_franked 36 = .ok (.getfield 12, 3) := by decide +kernel
theorem dX11_franked_39 : decode cX11_franked 39 = .ok (.invokevirtual 129, 3) := by decide +kernel
theorem dX11_franked_42 : decode cX11_franked 42 = .ok (.iload_n 3, 1) := by decide +kernel
theorem dX11_franked_43 : decode cX11_franked 43 = .ok (.ifCond .eq 14, 3) := by decide +kernel
theorem dX11_franked_46 : decode cX11_franked 46 = .ok (.aload_n 0, 1) := by decide +kernel
theorem dX11_franked_47 : decode cX11_franked 47 = .ok (.getfield 57, 3) := by decide +kernel
theorem dX11_franked_50 : decode cX11_franked 50 = .ok (.iload_n 2, 1) := by decide +kernel
theorem dX11_franked_51 : decode cX11_franked 51 = .ok (.invokevirtual 297, 3) := by decide +kernel
theorem dX11_franked_54 : decode cX11_franked 54 = .ok (.goto 5, 3) := by decide +kernel
theorem dX11_franked_57 : decode cX11_franked 57 = .ok (.bipush (-2), 2) := by decide +kernel
theorem dX11_franked_59 : decode cX11_franked 59 = .ok (.ireturn, 1) := by decide +kernel
theorem dX11_exchange_0 : decode cX11_exchange 0 = .ok (.iload_n 1, 1) := by decide +kernel
theorem dX11_exchange_1 : decode cX11_exchange 1 = .ok (.iconst 2, 1) := by decide +kernel
theorem dX11_exchange_2 : decode cX11_exchange 2 = .ok (.bipush 6, 2) := by decide +kernel
theorem dX11_exchange_4 : decode cX11_exchange 4 = .ok (.invokestatic 102, 3) := by decide +kernel
theorem dX11_exchange_7 : decode cX11_exchange 7 = .ok (.ifCond .eq 30, 3) := by decide +kernel
theorem dX11_exchange_10 : decode cX11_exchange 10 = .ok (.iload_n 2, 1) := by decide +kernel
theorem dX11_exchange_11 : decode cX11_exchange 11 = .ok (.iconst 0, 1) := by decide +kernel
theorem dX11_exchange_12 : decode cX11_exchange 12 = .ok (.iload_n 1, 1) := by decide +kernel
theorem dX11_exchange_13 : decode cX11_exchange 13 = .ok (.iconst 1, 1) := by decide +kernel
theorem dX11_exchange_14 : decode cX11_exchange 14 = .ok (.isub, 1) := by decide +kernel
theorem dX11_exchange_15 : decode cX11_exchange 15 = .ok (.invokestatic 102, 3) := by decide +kernel
theorem dX11_exchange_18 : decode cX11_exchange 18 = .ok (.ifCond .eq 19, 3) := by decide +kernel
theorem dX11_exchange_21 : decode cX11_exchange 21 = .ok (.aload_n 0, 1) := by decide +kernel
theorem dX11_exchange_22 : decode cX11_exchange 22 = .ok (.getfield 12, 3) := by decide +kernel
theorem dX11_exchange_25 : decode cX11_exchange 25 = .ok (.iload_n 1, 1) := by decide +kernel
theorem dX11_exchange_26 : decode cX11_exchange 26 = .ok (.iload_n 1, 1) := by decide +kernel
theorem dX11_exchange_27 : decode cX11_exchange 27 = .ok (.imul, 1) := by decide +kernel
theorem dX11_exchange_28 : decode cX11_exchange 28 = .ok (.iconst 4, 1) := by decide +kernel
theorem dX11_exchange_29 : decode cX11_exchange 29 = .ok (.bipush 36, 2) := by decide +kernel
theorem dX11_exchange_31 : decode cX11_exchange 31 = .ok (.invokevirtual 122, 3) := by decide +kernel
theorem dX11_exchange_34 : decode cX11_exchange 34 = .ok (.ifCond .ne 5, 3) := by decide +kernel
theorem dX11_exchange_37 : decode cX11_exchange 37 = .ok (.iconst (-1), 1) := by decide +kernel
theorem dX11_exchange_38 : decode cX11_exchange 38 = .ok (.ireturn, 1) := by decide +kernel
theorem dX11_exchange_39 : decode cX11_exchange 39 = .ok (.aload_n 0, 1) := by decide +kernel
theorem dX11_exchange_40 : decode cX11_exchange 40 = .ok (.getfield 57, 3) := by decide +kernel
theorem dX11_exchange_43 : decode cX11_exchange 43 = .ok (.iload_n 1, 1) := by decide +kernel
theorem dX11_exchange_44 : decode cX11_exchange 44 = .ok (.invokevirtual 300, 3) := by decide +kernel
theorem dX11_exchange_47 : decode cX11_exchange 47 = .ok (.istore_n 3, 1) := by decide +kernel
theorem dX11_exchange_48 : decode cX11_exchange 48 = .ok (.aload_n 0, 1) := by decide +kernel
theorem dX11_exchange_49 : decode cX11_exchange 49 = .ok (.getfield 12, 3) := by decide +kernel
theorem dX11_exchange_52 : decode cX11_exchange 52 = .ok (.invokevirtual 129, 3) := by decide +kernel
theorem dX11_exchange_55 : decode cX11_exchange 55 = .ok (.iload_n 3, 1) := by decide +kernel
theorem dX11_exchange_56 : decode cX11_exchange 56 = .ok (.ifCond .eq 14, 3) := by decide +kernel
theorem dX11_exchange_59 : decode cX11_exchange 59 = .ok (.aload_n 0, 1) := by decide +kernel
theorem dX11_exchange_60 : decode cX11_exchange 60 = .ok (.getfield 57, 3) := by decide +kernel
theorem dX11_exchange_63 : decode cX11_exchange 63 = .ok (.iload_n 2, 1) := by decide +kernel
theorem dX11_exchange_64 : decode cX11_exchange 64 = .ok (.invokevirtual 303, 3) := by decide +kernel
theorem dX11_exchange_67 : decode cX11_exchange 67 = .ok (.goto 5, 3) := by decide +kernel
theorem dX11_exchange_70 : decode cX11_exchange 70 = .ok (.bipush (-2), 2) := by decide +kernel
theorem dX11_exchange_72 : decode cX11_exchange 72 = .ok (.ireturn, 1) := by decide +kernel
theorem dX11_seed_0 : decode cX11_seed 0 = .ok (.iload_n 1, 1) := by decide +kernel
theorem dX11_seed_1 : decode cX11_seed 1 = .ok (.iconst 0, 1) := by decide +kernel
theorem dX11_seed_2 : decode cX11_seed 2 = .ok (.ldc_w 306, 3) := by decide +kernel
theorem dX11_seed_5 : decode cX11_seed 5 = .ok (.invokestatic 102, 3) := by decide +kernel
theorem dX11_seed_8 : decode cX11_seed 8 = .ok (.ifCond .ne 5, 3) := by decide +kernel
theorem dX11_seed_11 : decode cX11_seed 11 = .ok (.iconst 0, 1) := by decide +kernel
theorem dX11_seed_12 : decode cX11_seed 12 = .ok (.ireturn, 1) := by decide +kernel
theorem dX11_seed_13 : decode cX11_seed 13 = .ok (.aload_n 0, 1) := by decide +kernel
theorem dX11_seed_14 : decode cX11_seed 14 = .ok (.getfield 26, 3) := by decide +kernel
theorem dX11_seed_17 : decode cX11_seed 17 = .ok (.iload_n 1, 1) := by decide +kernel
theorem dX11_seed_18 : decode cX11_seed 18 = .ok (.invokevirtual 307, 3) := by decide +kernel
theorem dX11_seed_21 : decode cX11_seed 21 = .ok (.iconst 1, 1) := by decide +kernel
theorem dX11_seed_22 : decode cX11_seed 22 = .ok (.ireturn, 1) := by decide +kernel
theorem dX11_keep_0 : decode cX11_keep 0 = .ok (.aload_n 0, 1) := by decide +kernel
theorem dX11_keep_1 : decode cX11_keep 1 = .ok (.getfield 30, 3) := by decide +kernel
theorem dX11_keep_4 : decode cX11_keep 4 = .ok (.aload_n 0, 1) := by decide +kernel
theorem dX11_keep_5 : decode cX11_keep 5 = .ok (.getfield 26, 3) := by decide +kernel
theorem dX11_keep_8 : decode cX11_keep 8 = .ok (.invokevirtual 161, 3) := by decide +kernel
theorem dX11_keep_11 : decode cX11_keep 11 = .ok (.aload_n 0, 1) := by decide +kernel
theorem dX11_keep_12 : decode cX11_keep 12 = .ok (.iconst 1, 1) := by decide +kernel
theorem dX11_keep_13 : decode cX11_keep 13 = .ok (.putfield 98, 3) := by decide +kernel
theorem dX11_keep_16 : decode cX11_keep 16 = .ok (.aload_n 0, 1) := by decide +kernel
theorem dX11_keep_17 : decode cX11_keep 17 = .ok (.getfield 26, 3) := by decide +kernel
theorem dX11_keep_20 : decode cX11_keep 20 = .ok (.invokevirtual 310, 3) := by decide +kernel
theorem dX11_keep_23 : decode cX11_keep 23 = .ok (.ireturn, 1) := by decide +kernel
theorem dX11_undo_0 : decode cX11_undo 0 = .ok (.aload_n 0, 1) := by decide +kernel
theorem dX11_undo_1 : decode cX11_undo 1 = .ok (.getfield 98, 3) := by decide +kernel
theorem dX11_undo_4 : decode cX11_undo 4 = .ok (.ifCond .ne 5, 3) := by decide +kernel
theorem dX11_undo_7 : decode cX11_undo 7 = .ok (.iconst 0, 1) := by decide +kernel
theorem dX11_undo_8 : decode cX11_undo 8 = .ok (.ireturn, 1) := by decide +kernel
theorem dX11_undo_9 : decode cX11_undo 9 = .ok (.aload_n 0, 1) := by decide +kernel
theorem dX11_undo_10 : decode cX11_undo 10 = .ok (.getfield 26, 3) := by decide +kernel
theorem dX11_undo_13 : decode cX11_undo 13 = .ok (.aload_n 0, 1) := by decide +kernel
theorem dX11_undo_14 : decode cX11_undo 14 = .ok (.getfield 30, 3) := by decide +kernel
theorem dX11_undo_17 : decode cX11_undo 17 = .ok (.invokevirtual 161, 3) := by decide +kernel
theorem dX11_undo_20 : decode cX11_undo 20 = .ok (.aload_n 0, 1) := by decide +kernel
theorem dX11_undo_21 : decode cX11_undo 21 = .ok (.getfield 26, 3) := by decide +kernel
theorem dX11_undo_24 : decode cX11_undo 24 = .ok (.aload_n 0, 1) := by decide +kernel
theorem dX11_undo_25 : decode cX11_undo 25 = .ok (.getfield 19, 3) := by decide +kernel
theorem dX11_undo_28 : decode cX11_undo 28 = .ok (.invokevirtual 144, 3) := by decide +kernel
theorem dX11_undo_31 : decode cX11_undo 31 = .ok (.invokevirtual 138, 3) := by decide +kernel
theorem dX11_undo_34 : decode cX11_undo 34 = .ok (.iconst 1, 1) := by decide +kernel
theorem dX11_undo_35 : decode cX11_undo 35 = .ok (.ireturn, 1) := by decide +kernel
theorem dX11_check_0 : decode cX11_check 0 = .ok (.aload_n 0, 1) := by decide +kernel
theorem dX11_check_1 : decode cX11_check 1 = .ok (.getfield 12, 3) := by decide +kernel
theorem dX11_check_4 : decode cX11_check 4 = .ok (.iload_n 1, 1) := by decide +kernel
theorem dX11_check_5 : decode cX11_check 5 = .ok (.iconst 0, 1) := by decide +kernel
theorem dX11_check_6 : decode cX11_check 6 = .ok (.bipush 8, 2) := by decide +kernel
theorem dX11_check_8 : decode cX11_check 8 = .ok (.invokevirtual 122, 3) := by decide +kernel
theorem dX11_check_11 : decode cX11_check 11 = .ok (.ifCond .ne 6, 3) := by decide +kernel
theorem dX11_check_14 : decode cX11_check 14 = .ok (.bipush (-2), 2) := by decide +kernel
theorem dX11_check_16 : decode cX11_check 16 = .ok (.ireturn, 1) := by decide +kernel
theorem dX11_check_17 : decode cX11_check 17 = .ok (.iconst (-1), 1) := by decide +kernel
theorem dX11_check_18 : decode cX11_check 18 = .ok (.istore_n 2, 1) := by decide +kernel
theorem dX11_check_19 : decode cX11_check 19 = .ok (.iload_n 1, 1) := by decide +kernel
theorem dX11_check_20 : decode cX11_check 20 = .ok (.iconst 1, 1) := by decide +kernel
theorem dX11_check_21 : decode cX11_check 21 = .ok (.isub, 1) := by decide +kernel
theorem dX11_check_22 : decode cX11_check 22 = .ok (.istore_n 3, 1) := by decide +kernel
theorem dX11_check_23 : decode cX11_check 23 = .ok (.iload_n 3, 1) := by decide +kernel
theorem dX11_check_24 : decode cX11_check 24 = .ok (.ifCond .lt 54, 3) := by decide +kernel
theorem dX11_check_27 : decode cX11_check 27 = .ok (.aload_n 0, 1) := by decide +kernel
theorem dX11_check_28 : decode cX11_check 28 = .ok (.getfield 26, 3) := by decide +kernel
theorem dX11_check_31 : decode cX11_check 31 = .ok (.iload_n 3, 1) := by decide +kernel
theorem dX11_check_32 : decode cX11_check 32 = .ok (.invokevirtual 180, 3) := by decide +kernel
theorem dX11_check_35 : decode cX11_check 35 = .ok (.ifCond .eq 17, 3) := by decide +kernel
theorem dX11_check_38 : decode cX11_check 38 = .ok (.aload_n 0, 1) := by decide +kernel
theorem dX11_check_39 : decode cX11_check 39 = .ok (.getfield 26, 3) := by decide +kernel
theorem dX11_check_42 : decode cX11_check 42 = .ok (.iload_n 3, 1) := by decide +kernel
theorem dX11_check_43 : decode cX11_check 43 = .ok (.invokevirtual 177, 3) := by decide +kernel
theorem dX11_check_46 : decode cX11_check 46 = .ok (.bipush 24, 2) := by decide +kernel
theorem dX11_check_48 : decode cX11_check 48 = .ok (.irem, 1) := by decide +kernel
theorem dX11_check_49 : decode cX11_check 49 = .ok (.goto 6, 3) := by decide +kernel
theorem dX11_check_52 : decode cX11_check 52 = .ok (.sipush 255, 3) := by decide +kernel
theorem dX11_check_55 : decode cX11_check 55 = .ok (.istore 4, 2) := by decide +kernel
theorem dX11_check_57 : decode cX11_check 57 = .ok (.aload_n 0, 1) := by decide +kernel
theorem dX11_check_58 : decode cX11_check 58 = .ok (.getfield 12, 3) := by decide +kernel
theorem dX11_check_61 : decode cX11_check 61 = .ok (.iload_n 3, 1) := by decide +kernel
theorem dX11_check_62 : decode cX11_check 62 = .ok (.invokevirtual 273, 3) := by decide +kernel
theorem dX11_check_65 : decode cX11_check 65 = .ok (.iload 4, 2) := by decide +kernel
theorem dX11_check_67 : decode cX11_check 67 = .ok (.if_icmp .eq 5, 3) := by decide +kernel
theorem dX11_check_70 : decode cX11_check 70 = .ok (.iload_n 3, 1) := by decide +kernel
theorem dX11_check_71 : decode cX11_check 71 = .ok (.istore_n 2, 1) := by decide +kernel
theorem dX11_check_72 : decode cX11_check 72 = .ok (.iinc 3 (-1), 3) := by decide +kernel
theorem dX11_check_75 : decode cX11_check 75 = .ok (.goto (-52), 3) := by decide +kernel
theorem dX11_check_78 : decode cX11_check 78 = .ok (.aload_n 0, 1) := by decide +kernel
theorem dX11_check_79 : decode cX11_check 79 = .ok (.getfield 12, 3) := by decide +kernel
theorem dX11_check_82 : decode cX11_check 82 = .ok (.invokevirtual 129, 3) := by decide +kernel
theorem dX11_check_85 : decode cX11_check 85 = .ok (.iload_n 2, 1) := by decide +kernel
theorem dX11_check_86 : decode cX11_check 86 = .ok (.ireturn, 1) := by decide +kernel
theorem dX11_count_0 : decode cX11_count 0 = .ok (.iload_n 1, 1) := by decide +kernel
theorem dX11_count_1 : decode cX11_count 1 = .ok (.tableswitch 123 0 8 #[51, 59, 67, 75, 83, 91, 99, 107, 115], 51) := by decide +kernel
theorem dX11_count_52 : decode cX11_count 52 = .ok (.aload_n 0, 1) := by decide +kernel
theorem dX11_count_53 : decode cX11_count 53 = .ok (.getfield 26, 3) := by decide +kernel
theorem dX11_count_56 : decode cX11_count 56 = .ok (.invokevirtual 310, 3) := by decide +kernel
theorem dX11_count_59 : decode cX11_count 59 = .ok (.ireturn, 1) := by decide +kernel
theorem dX11_count_60 : decode cX11_count 60 = .ok (.aload_n 0, 1) := by decide +kernel
theorem dX11_count_61 : decode cX11_count 61 = .ok (.getfield 19, 3) := by decide +kernel
theorem dX11_count_64 : decode cX11_count 64 = .ok (.invokevirtual 313, 3) := by decide +kernel
theorem dX11_count_67 : decode cX11_count 67 = .ok (.ireturn, 1) := by decide +kernel
theorem dX11_count_68 : decode cX11_count 68 = .ok (.aload_n 0, 1) := by decide +kernel
theorem dX11_count_69 : decode cX11_count 69 = .ok (.getfield 26, 3) := by decide +kernel
theorem dX11_count_72 : decode cX11_count 72 = .ok (.invokevirtual 141, 3) := by decide +kernel
theorem dX11_count_75 : decode cX11_count 75 = .ok (.ireturn, 1) := by decide +kernel
theorem dX11_count_76 : decode cX11_count 76 = .ok (.aload_n 0, 1) := by decide +kernel
theorem dX11_count_77 : decode cX11_count 77 = .ok (.getfield 19, 3) := by decide +kernel
theorem dX11_count_80 : decode cX11_count 80 = .ok (.invokevirtual 144, 3) := by decide +kernel
theorem dX11_count_83 : decode cX11_count 83 = .ok (.ireturn, 1) := by decide +kernel
theorem dX11_count_84 : decode cX11_count 84 = .ok (.aload_n 0, 1) := by decide +kernel
theorem dX11_count_85 : decode cX11_count 85 = .ok (.getfield 26, 3) := by decide +kernel
theorem dX11_count_88 : decode cX11_count 88 = .ok (.invokevirtual 316, 3) := by decide +kernel
theorem dX11_count_91 : decode cX11_count 91 = .ok (.ireturn, 1) := by decide +kernel
theorem dX11_count_92 : decode cX11_count 92 = .ok (.aload_n 0, 1) := by decide +kernel
theorem dX11_count_93 : decode cX11_count 93 = .ok (.getfield 19, 3) := by decide +kernel
theorem dX11_count_96 : decode cX11_count 96 = .ok (.invokevirtual 319, 3) := by decide +kernel
theorem dX11_count_99 : decode cX11_count 99 = .ok (.ireturn, 1) := by decide +kernel
theorem dX11_count_100 : decode cX11_count 100 = .ok (.aload_n 0, 1) := by decide +kernel
theorem dX11_count_101 : decode cX11_count 101 = .ok (.getfield 82, 3) := by decide +kernel
theorem dX11_count_104 : decode cX11_count 104 = .ok (.invokevirtual 322, 3) := by decide +kernel
theorem dX11_count_107 : decode cX11_count 107 = .ok (.ireturn, 1) := by decide +kernel
theorem dX11_count_108 : decode cX11_count 108 = .ok (.aload_n 0, 1) := by decide +kernel
theorem dX11_count_109 : decode cX11_count 109 = .ok (.getfield 12, 3) := by decide +kernel
theorem dX11_count_112 : decode cX11_count 112 = .ok (.invokevirtual 118, 3) := by decide +kernel
theorem dX11_count_115 : decode cX11_count 115 = .ok (.ireturn, 1) := by decide +kernel
theorem dX11_count_116 : decode cX11_count 116 = .ok (.aload_n 0, 1) := by decide +kernel
theorem dX11_count_117 : decode cX11_count 117 = .ok (.getfield 26, 3) := by decide +kernel
theorem dX11_count_120 : decode cX11_count 120 = .ok (.invokevirtual 323, 3) := by decide +kernel
theorem dX11_count_123 : decode cX11_count 123 = .ok (.ireturn, 1) := by decide +kernel
theorem dX11_count_124 : decode cX11_count 124 = .ok (.iconst (-1), 1) := by decide +kernel
theorem dX11_count_125 : decode cX11_count 125 = .ok (.ireturn, 1) := by decide +kernel
theorem dX11_within_0 : decode cX11_within 0 = .ok (.iload_n 0, 1) := by decide +kernel
theorem dX11_within_1 : decode cX11_within 1 = .ok (.iload_n 1, 1) := by decide +kernel
theorem dX11_within_2 : decode cX11_within 2 = .ok (.if_icmp .lt 12, 3) := by decide +kernel
theorem dX11_within_5 : decode cX11_within 5 = .ok (.iload_n 0, 1) := by decide +kernel
theorem dX11_within_6 : decode cX11_within 6 = .ok (.iload_n 2, 1) := by decide +kernel
theorem dX11_within_7 : decode cX11_within 7 = .ok (.if_icmp .gt 7, 3) := by decide +kernel
theorem dX11_within_10 : decode cX11_within 10 = .ok (.iconst 1, 1) := by decide +kernel
theorem dX11_within_11 : decode cX11_within 11 = .ok (.goto 4, 3) := by decide +kernel
theorem dX11_within_14 : decode cX11_within 14 = .ok (.iconst 0, 1) := by decide +kernel
theorem dX11_within_15 : decode cX11_within 15 = .ok (.ireturn, 1) := by decide +kernel
theorem dX11_isPlace_0 : decode cX11_isPlace 0 = .ok (.iload_n 0, 1) := by decide +kernel
theorem dX11_isPlace_1 : decode cX11_isPlace 1 = .ok (.iconst 0, 1) := by decide +kernel
theorem dX11_isPlace_2 : decode cX11_isPlace 2 = .ok (.sipush 383, 3) := by decide +kernel
theorem dX11_isPlace_5 : decode cX11_isPlace 5 = .ok (.invokestatic 102, 3) := by decide +kernel
theorem dX11_isPlace_8 : decode cX11_isPlace 8 = .ok (.ireturn, 1) := by decide +kernel
theorem dX11_side_0 : decode cX11_side 0 = .ok (.iload_n 0, 1) := by decide +kernel
theorem dX11_side_1 : decode cX11_side 1 = .ok (.iload_n 1, 1) := by decide +kernel
theorem dX11_side_2 : decode cX11_side 2 = .ok (.if_icmp .ne 5, 3) := by decide +kernel
theorem dX11_side_5 : decode cX11_side 5 = .ok (.iconst 0, 1) := by decide +kernel
theorem dX11_side_6 : decode cX11_side 6 = .ok (.ireturn, 1) := by decide +kernel
theorem dX11_side_7 : decode cX11_side 7 = .ok (.iload_n 1, 1) := by decide +kernel
theorem dX11_side_8 : decode cX11_side 8 = .ok (.iload_n 0, 1) := by decide +kernel
theorem dX11_side_9 : decode cX11_side 9 = .ok (.if_icmp .le 7, 3) := by decide +kernel
theorem dX11_side_12 : decode cX11_side 12 = .ok (.iconst 1, 1) := by decide +kernel
theorem dX11_side_13 : decode cX11_side 13 = .ok (.goto 4, 3) := by decide +kernel
theorem dX11_side_16 : decode cX11_side 16 = .ok (.iconst (-1), 1) := by decide +kernel
theorem dX11_side_17 : decode cX11_side 17 = .ok (.ireturn, 1) := by decide +kernel
theorem dX11_wayBits_0 : decode cX11_wayBits 0 = .ok (.iconst 0, 1) := by decide +kernel
theorem dX11_wayBits_1 : decode cX11_wayBits 1 = .ok (.istore_n 2, 1) := by decide +kernel
theorem dX11_wayBits_2 : decode cX11_wayBits 2 = .ok (.iload_n 0, 1) := by decide +kernel
theorem dX11_wayBits_3 : decode cX11_wayBits 3 = .ok (.ifCond .eq 15, 3) := by decide +kernel
theorem dX11_wayBits_6 : decode cX11_wayBits 6 = .ok (.iload_n 2, 1) := by decide +kernel
theorem dX11_wayBits_7 : decode cX11_wayBits 7 = .ok (.iload_n 0, 1) := by decide +kernel
theorem dX11_wayBits_8 : decode cX11_wayBits 8 = .ok (.ifCond .le 7, 3) := by decide +kernel
theorem dX11_wayBits_11 : decode cX11_wayBits 11 = .ok (.iconst 1, 1) := by decide +kernel
theorem dX11_wayBits_12 : decode cX11_wayBits 12 = .ok (.goto 4, 3) := by decide +kernel
theorem dX11_wayBits_15 : decode cX11_wayBits 15 = .ok (.iconst 2, 1) := by decide +kernel
theorem dX11_wayBits_16 : decode cX11_wayBits 16 = .ok (.ior, 1) := by decide +kernel
theorem dX11_wayBits_17 : decode cX11_wayBits 17 = .ok (.istore_n 2, 1) := by decide +kernel
theorem dX11_wayBits_18 : decode cX11_wayBits 18 = .ok (.iload_n 1, 1) := by decide +kernel
theorem dX11_wayBits_19 : decode cX11_wayBits 19 = .ok (.ifCond .eq 16, 3) := by decide +kernel
theorem dX11_wayBits_22 : decode cX11_wayBits 22 = .ok (.iload_n 2, 1) := by decide +kernel
theorem dX11_wayBits_23 : decode cX11_wayBits 23 = .ok (.iload_n 1, 1) := by decide +kernel
theorem dX11_wayBits_24 : decode cX11_wayBits 24 = .ok (.ifCond .le 7, 3) := by decide +kernel
theorem dX11_wayBits_27 : decode cX11_wayBits 27 = .ok (.iconst 4, 1) := by decide +kernel
theorem dX11_wayBits_28 : decode cX11_wayBits 28 = .ok (.goto 5, 3) := by decide +kernel
theorem dX11_wayBits_31 : decode cX11_wayBits 31 = .ok (.bipush 8, 2) := by decide +kernel
theorem dX11_wayBits_33 : decode cX11_wayBits 33 = .ok (.ior, 1) := by decide +kernel
theorem dX11_wayBits_34 : decode cX11_wayBits 34 = .ok (.istore_n 2, 1) := by decide +kernel
theorem dX11_wayBits_35 : decode cX11_wayBits 35 = .ok (.iload_n 2, 1) := by decide +kernel
theorem dX11_wayBits_36 : decode cX11_wayBits 36 = .ok (.ireturn, 1) := by decide +kernel
theorem dX11_wayOfPulls_0 : decode cX11_wayOfPulls 0 = .ok (.iload_n 0, 1) := by decide +kernel
theorem dX11_wayOfPulls_1 : decode cX11_wayOfPulls 1 = .ok (.invokestatic 326, 3) := by decide +kernel
theorem dX11_wayOfPulls_4 : decode cX11_wayOfPulls 4 = .ok (.istore_n 3, 1) := by decide +kernel
theorem dX11_wayOfPulls_5 : decode cX11_wayOfPulls 5 = .ok (.iload_n 1, 1) := by decide +kernel
theorem dX11_wayOfPulls_6 : decode cX11_wayOfPulls 6 = .ok (.invokestatic 326, 3) := by decide +kernel
theorem dX11_wayOfPulls_9 : decode cX11_wayOfPulls 9 = .ok (.istore 4, 2) := by decide +kernel
theorem dX11_wayOfPulls_11 : decode cX11_wayOfPulls 11 = .ok (.iload_n 3, 1) := by decide +kernel
theorem dX11_wayOfPulls_12 : decode cX11_wayOfPulls 12 = .ok (.iload 4, 2) := by decide +kernel
theorem dX11_wayOfPulls_14 : decode cX11_wayOfPulls 14 = .ok (.invokestatic 331, 3) := by decide +kernel
theorem dX11_wayOfPulls_17 : decode cX11_wayOfPulls 17 = .ok (.iload_n 2, 1) := by decide +kernel
theorem dX11_wayOfPulls_18 : decode cX11_wayOfPulls 18 = .ok (.if_icmp .gt 5, 3) := by decide +kernel
theorem dX11_wayOfPulls_21 : decode cX11_wayOfPulls 21 = .ok (.iconst 0, 1) := by decide +kernel
theorem dX11_wayOfPulls_22 : decode cX11_wayOfPulls 22 = .ok (.ireturn, 1) := by decide +kernel
theorem dX11_wayOfPulls_23 : decode cX11_wayOfPulls 23 = .ok (.iload_n 3, 1) := by decide +kernel
theorem dX11_wayOfPulls_24 : decode cX11_wayOfPulls 24 = .ok (.iload 4, 2) := by decide +kernel
theorem dX11_wayOfPulls_26 : decode cX11_wayOfPulls 26 = .ok (.if_icmp .lt 11, 3) := by decide +kernel
theorem dX11_wayOfPulls_29 : decode cX11_wayOfPulls 29 = .ok (.iload_n 0, 1) := by decide +kernel
theorem dX11_wayOfPulls_30 : decode cX11_wayOfPulls 30 = .ok (.iconst 0, 1) := by decide +kernel
theorem dX11_wayOfPulls_31 : decode cX11_wayOfPulls 31 = .ok (.invokestatic 252, 3) := by decide +kernel
theorem dX11_wayOfPulls_34 : decode cX11_wayOfPulls 34 = .ok (.goto 8, 3) := by decide +kernel
theorem dX11_wayOfPulls_37 : decode cX11_wayOfPulls 37 = .ok (.iconst 0, 1) := by decide +kernel
theorem dX11_wayOfPulls_38 : decode cX11_wayOfPulls 38 = .ok (.iload_n 1, 1) := by decide +kernel
theorem dX11_wayOfPulls_39 : decode cX11_wayOfPulls 39 = .ok (.invokestatic 252, 3) := by decide +kernel
theorem dX11_wayOfPulls_42 : decode cX11_wayOfPulls 42 = .ok (.ireturn, 1) := by decide +kernel
theorem dX11_stepFrom_0 : decode cX11_stepFrom 0 = .ok (.iload_n 0, 1) := by decide +kernel
theorem dX11_stepFrom_1 : decode cX11_stepFrom 1 = .ok (.bipush 24, 2) := by decide +kernel
theorem dX11_stepFrom_3 : decode cX11_stepFrom 3 = .ok (.irem, 1) := by decide +kernel
theorem dX11_stepFrom_4 : decode cX11_stepFrom 4 = .ok (.istore_n 2, 1) := by decide +kernel
theorem dX11_stepFrom_5 : decode cX11_stepFrom 5 = .ok (.iload_n 0, 1) := by decide +kernel
theorem dX11_stepFrom_6 : decode cX11_stepFrom 6 = .ok (.bipush 24, 2) := by decide +kernel
theorem dX11_stepFrom_8 : decode cX11_stepFrom 8 = .ok (.idiv, 1) := by decide +kernel
theorem dX11_stepFrom_9 : decode cX11_stepFrom 9 = .ok (.istore_n 3, 1) := by decide +kernel
theorem dX11_stepFrom_10 : decode cX11_stepFrom 10 = .ok (.iload_n 1, 1) := by decide +kernel
theorem dX11_stepFrom_11 : decode cX11_stepFrom 11 = .ok (.iconst 1, 1) := by decide +kernel
theorem dX11_stepFrom_12 : decode cX11_stepFrom 12 = .ok (.if_icmp .ne 9, 3) := by decide +kernel
theorem dX11_stepFrom_15 : decode cX11_stepFrom 15 = .ok (.iinc 2 1, 3) := by decide +kernel
theorem dX11_stepFrom_18 : decode cX11_stepFrom 18 = .ok (.goto 34, 3) := by decide +kernel
theorem dX11_stepFrom_21 : decode cX11_stepFrom 21 = .ok (.iload_n 1, 1) := by decide +kernel
theorem dX11_stepFrom_22 : decode cX11_stepFrom 22 = .ok (.iconst 2, 1) := by decide +kernel
theorem dX11_stepFrom_23 : decode cX11_stepFrom 23 = .ok (.if_icmp .ne 9, 3) := by decide +kernel
theorem dX11_stepFrom_26 : decode cX11_stepFrom 26 = .ok (.iinc 2 (-1), 3) := by decide +kernel
theorem dX11_stepFrom_29 : decode cX11_stepFrom 29 = .ok (.goto 23, 3) := by decide +kernel
theorem dX11_stepFrom_32 : decode cX11_stepFrom 32 = .ok (.iload_n 1, 1) := by decide +kernel
theorem dX11_stepFrom_33 : decode cX11_stepFrom 33 = .ok (.iconst 4, 1) := by decide +kernel
theorem dX11_stepFrom_34 : decode cX11_stepFrom 34 = .ok (.if_icmp .ne 9, 3) := by decide +kernel
theorem dX11_stepFrom_37 : decode cX11_stepFrom 37 = .ok (.iinc 3 1, 3) := by decide +kernel
theorem dX11_stepFrom_40 : decode cX11_stepFrom 40 = .ok (.goto 12, 3) := by decide +kernel
theorem dX11_stepFrom_43 : decode cX11_stepFrom 43 = .ok (.iload_n 1, 1) := by decide +kernel
theorem dX11_stepFrom_44 : decode cX11_stepFrom 44 = .ok (.bipush 8, 2) := by decide +kernel
theorem dX11_stepFrom_46 : decode cX11_stepFrom 46 = .ok (.if_icmp .ne 6, 3) := by decide +kernel
theorem dX11_stepFrom_49 : decode cX11_stepFrom 49 = .ok (.iinc 3 (-1), 3) := by decide +kernel
theorem dX11_stepFrom_52 : decode cX11_stepFrom 52 = .ok (.iload_n 2, 1) := by decide +kernel
theorem dX11_stepFrom_53 : decode cX11_stepFrom 53 = .ok (.iconst 0, 1) := by decide +kernel
theorem dX11_stepFrom_54 : decode cX11_stepFrom 54 = .ok (.bipush 23, 2) := by decide +kernel
theorem dX11_stepFrom_56 : decode cX11_stepFrom 56 = .ok (.invokestatic 102, 3) := by decide +kernel
theorem dX11_stepFrom_59 : decode cX11_stepFrom 59 = .ok (.ifCond .eq 22, 3) := by decide +kernel
theorem dX11_stepFrom_62 : decode cX11_stepFrom 62 = .ok (.iload_n 3, 1) := by decide +kernel
theorem dX11_stepFrom_63 : decode cX11_stepFrom 63 = .ok (.iconst 0, 1) := by decide +kernel
theorem dX11_stepFrom_64 : decode cX11_stepFrom 64 = .ok (.bipush 15, 2) := by decide +kernel
theorem dX11_stepFrom_66 : decode cX11_stepFrom 66 = .ok (.invokestatic 102, 3) := by decide +kernel
theorem dX11_stepFrom_69 : decode cX11_stepFrom 69 = .ok (.ifCond .eq 12, 3) := by decide +kernel
theorem dX11_stepFrom_72 : decode cX11_stepFrom 72 = .ok (.bipush 24, 2) := by decide +kernel
theorem dX11_stepFrom_74 : decode cX11_stepFrom 74 = .ok (.iload_n 3, 1) := by decide +kernel
theorem dX11_stepFrom_75 : decode cX11_stepFrom 75 = .ok (.imul, 1) := by decide +kernel
theorem dX11_stepFrom_76 : decode cX11_stepFrom 76 = .ok (.iload_n 2, 1) := by decide +kernel
theorem dX11_stepFrom_77 : decode cX11_stepFrom 77 = .ok (.iadd, 1) := by decide +kernel
theorem dX11_stepFrom_78 : decode cX11_stepFrom 78 = .ok (.goto 4, 3) := by decide +kernel
theorem dX11_stepFrom_81 : decode cX11_stepFrom 81 = .ok (.iconst (-1), 1) := by decide +kernel
theorem dX11_stepFrom_82 : decode cX11_stepFrom 82 = .ok (.ireturn, 1) := by decide +kernel
