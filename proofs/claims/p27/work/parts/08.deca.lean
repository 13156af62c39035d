theorem dJ6_numberOfTrailingZeros_0f7a4_0 : decode cJ6_numberOfTrailingZeros_0f7a4 0 = .ok (.iload_n 0, 1) := by decide +kernel
theorem dJ6_numberOfTrailingZeros_0f7a4_1 : decode cJ6_numberOfTrailingZeros_0f7a4 1 = .ok (.iconst (-1), 1) := by decide +kernel
theorem dJ6_numberOfTrailingZeros_0f7a4_2 : decode cJ6_numberOfTrailingZeros_0f7a4 2 = .ok (.ixor, 1) := by decide +kernel
theorem dJ6_numberOfTrailingZeros_0f7a4_3 : decode cJ6_numberOfTrailingZeros_0f7a4 3 = .ok (.iload_n 0, 1) := by decide +kernel
theorem dJ6_numberOfTrailingZeros_0f7a4_4 : decode cJ6_numberOfTrailingZeros_0f7a4 4 = .ok (.iconst 1, 1) := by decide +kernel
theorem dJ6_numberOfTrailingZeros_0f7a4_5 : decode cJ6_numberOfTrailingZeros_0f7a4 5 = .ok (.isub, 1) := by decide +kernel
theorem dJ6_numberOfTrailingZeros_0f7a4_6 : decode cJ6_numberOfTrailingZeros_0f7a4 6 = .ok (.iand, 1) := by decide +kernel
theorem dJ6_numberOfTrailingZeros_0f7a4_7 : decode cJ6_numberOfTrailingZeros_0f7a4 7 = .ok (.istore_n 0, 1) := by decide +kernel
theorem dJ6_numberOfTrailingZeros_0f7a4_8 : decode cJ6_numberOfTrailingZeros_0f7a4 8 = .ok (.iload_n 0, 1) := by decide +kernel
theorem dJ6_numberOfTrailingZeros_0f7a4_9 : decode cJ6_numberOfTrailingZeros_0f7a4 9 = .ok (.ifCond .gt 8, 3) := by decide +kernel
theorem dJ6_numberOfTrailingZeros_0f7a4_12 : decode cJ6_numberOfTrailingZeros_0f7a4 12 = .ok (.iload_n 0, 1) := by decide +kernel
theorem dJ6_numberOfTrailingZeros_0f7a4_13 : decode cJ6_numberOfTrailingZeros_0f7a4 13 = .ok (.bipush 32, 2) := by decide +kernel
theorem dJ6_numberOfTrailingZeros_0f7a4_15 : decode cJ6_numberOfTrailingZeros_0f7a4 15 = .ok (.iand, 1) := by decide +kernel
theorem dJ6_numberOfTrailingZeros_0f7a4_16 : decode cJ6_numberOfTrailingZeros_0f7a4 16 = .ok (.ireturn, 1) := by decide +kernel
theorem dJ6_numberOfTrailingZeros_0f7a4_17 : decode cJ6_numberOfTrailingZeros_0f7a4 17 = .ok (.iconst 1, 1) := by decide +kernel
theorem dJ6_numberOfTrailingZeros_0f7a4_18 : decode cJ6_numberOfTrailingZeros_0f7a4 18 = .ok (.istore_n 1, 1) := by decide +kernel
theorem dJ6_numberOfTrailingZeros_0f7a4_19 : decode cJ6_numberOfTrailingZeros_0f7a4 19 = .ok (.iload_n 0, 1) := by decide +kernel
theorem dJ6_numberOfTrailingZeros_0f7a4_20 : decode cJ6_numberOfTrailingZeros_0f7a4 20 = .ok (.ldc_w 264, 3) := by decide +kernel
theorem dJ6_numberOfTrailingZeros_0f7a4_23 : decode cJ6_numberOfTrailingZeros_0f7a4 23 = .ok (.if_icmp .le 11, 3) := by decide +kernel
theorem dJ6_numberOfTrailingZeros_0f7a4_26 : decode cJ6_numberOfTrailingZeros_0f7a4 26 = .ok (.iinc 1 16, 3) := by decide +kernel
theorem dJ6_numberOfTrailingZeros_0f7a4_29 : decode cJ6_numberOfTrailingZeros_0f7a4 29 = .ok (.iload_n 0, 1) := by decide +kernel
theorem dJ6_numberOfTrailingZeros_0f7a4_30 : decode cJ6_numberOfTrailingZeros_0f7a4 30 = .ok (.bipush 16, 2) := by decide +kernel
theorem dJ6_numberOfTrailingZeros_0f7a4_32 : decode cJ6_numberOfTrailingZeros_0f7a4 32 = .ok (.iushr, 1) := by decide +kernel
theorem dJ6_numberOfTrailingZeros_0f7a4_33 : decode cJ6_numberOfTrailingZeros_0f7a4 33 = .ok (.istore_n 0, 1) := by decide +kernel
theorem dJ6_numberOfTrailingZeros_0f7a4_34 : decode cJ6_numberOfTrailingZeros_0f7a4 34 = .ok (.iload_n 0, 1) := by decide +kernel
theorem dJ6_numberOfTrailingZeros_0f7a4_35 : decode cJ6_numberOfTrailingZeros_0f7a4 35 = .ok (.sipush 256, 3) := by decide +kernel
theorem dJ6_numberOfTrailingZeros_0f7a4_38 : decode cJ6_numberOfTrailingZeros_0f7a4 38 = .ok (.if_icmp .le 11, 3) := by decide +kernel
theorem dJ6_numberOfTrailingZeros_0f7a4_41 : decode cJ6_numberOfTrailingZeros_0f7a4 41 = .ok (.iinc 1 8, 3) := by decide +kernel
theorem dJ6_numberOfTrailingZeros_0f7a4_44 : decode cJ6_numberOfTrailingZeros_0f7a4 44 = .ok (.iload_n 0, 1) := by decide +kernel
theorem dJ6_numberOfTrailingZeros_0f7a4_45 : decode cJ6_numberOfTrailingZeros_0f7a4 45 = .ok (.bipush 8, 2) := by decide +kernel
theorem dJ6_numberOfTrailingZeros_0f7a4_47 : decode cJ6_numberOfTrailingZeros_0f7a4 47 = .ok (.iushr, 1) := by decide +kernel
theorem dJ6_numberOfTrailingZeros_0f7a4_48 : decode cJ6_numberOfTrailingZeros_0f7a4 48 = .ok (.istore_n 0, 1) := by decide +kernel
theorem dJ6_numberOfTrailingZeros_0f7a4_49 : decode cJ6_numberOfTrailingZeros_0f7a4 49 = .ok (.iload_n 0, 1) := by decide +kernel
theorem dJ6_numberOfTrailingZeros_0f7a4_50 : decode cJ6_numberOfTrailingZeros_0f7a4 50 = .ok (.bipush 16, 2) := by decide +kernel
theorem dJ6_numberOfTrailingZeros_0f7a4_52 : decode cJ6_numberOfTrailingZeros_0f7a4 52 = .ok (.if_icmp .le 10, 3) := by decide +kernel
theorem dJ6_numberOfTrailingZeros_0f7a4_55 : decode cJ6_numberOfTrailingZeros_0f7a4 55 = .ok (.iinc 1 4, 3) := by decide +kernel
theorem dJ6_numberOfTrailingZeros_0f7a4_58 : decode cJ6_numberOfTrailingZeros_0f7a4 58 = .ok (.iload_n 0, 1) := by decide +kernel
theorem dJ6_numberOfTrailingZeros_0f7a4_59 : decode cJ6_numberOfTrailingZeros_0f7a4 59 = .ok (.iconst 4, 1) := by decide +kernel
theorem dJ6_numberOfTrailingZeros_0f7a4_60 : decode cJ6_numberOfTrailingZeros_0f7a4 60 = .ok (.iushr, 1) := by decide +kernel
theorem dJ6_numberOfTrailingZeros_0f7a4_61 : decode cJ6_numberOfTrailingZeros_0f7a4 61 = .ok (.istore_n 0, 1) := by decide +kernel
theorem dJ6_numberOfTrailingZeros_0f7a4_62 : decode cJ6_numberOfTrailingZeros_0f7a4 62 = .ok (.iload_n 0, 1) := by decide +kernel
theorem dJ6_numberOfTrailingZeros_0f7a4_63 : decode cJ6_numberOfTrailingZeros_0f7a4 63 = .ok (.iconst 4, 1) := by decide +kernel
theorem dJ6_numberOfTrailingZeros_0f7a4_64 : decode cJ6_numberOfTrailingZeros_0f7a4 64 = .ok (.if_icmp .le 10, 3) := by decide +kernel
theorem dJ6_numberOfTrailingZeros_0f7a4_67 : decode cJ6_numberOfTrailingZeros_0f7a4 67 = .ok (.iinc 1 2, 3) := by decide +kernel
theorem dJ6_numberOfTrailingZeros_0f7a4_70 : decode cJ6_numberOfTrailingZeros_0f7a4 70 = .ok (.iload_n 0, 1) := by decide +kernel
theorem dJ6_numberOfTrailingZeros_0f7a4_71 : decode cJ6_numberOfTrailingZeros_0f7a4 71 = .ok (.iconst 2, 1) := by decide +kernel
theorem dJ6_numberOfTrailingZeros_0f7a4_72 : decode cJ6_numberOfTrailingZeros_0f7a4 72 = .ok (.iushr, 1) := by decide +kernel
theorem dJ6_numberOfTrailingZeros_0f7a4_73 : decode cJ6_numberOfTrailingZeros_0f7a4 73 = .ok (.istore_n 0, 1) := by decide +kernel
theorem dJ6_numberOfTrailingZeros_0f7a4_74 : decode cJ6_numberOfTrailingZeros_0f7a4 74 = .ok (.iload_n 1, 1) := by decide +kernel
theorem dJ6_numberOfTrailingZeros_0f7a4_75 : decode cJ6_numberOfTrailingZeros_0f7a4 75 = .ok (.iload_n 0, 1) := by decide +kernel
theorem dJ6_numberOfTrailingZeros_0f7a4_76 : decode cJ6_numberOfTrailingZeros_0f7a4 76 = .ok (.iconst 1, 1) := by decide +kernel
theorem dJ6_numberOfTrailingZeros_0f7a4_77 : decode cJ6_numberOfTrailingZeros_0f7a4 77 = .ok (.iushr, 1) := by decide +kernel
theorem dJ6_numberOfTrailingZeros_0f7a4_78 : decode cJ6_numberOfTrailingZeros_0f7a4 78 = .ok (.iadd, 1) := by decide +kernel
theorem dJ6_numberOfTrailingZeros_0f7a4_79 : decode cJ6_numberOfTrailingZeros_0f7a4 79 = .ok (.ireturn, 1) := by decide +kernel
theorem dJ6_bitCount_0f7a4_0 : decode cJ6_bitCount_0f7a4 0 = .ok (.iload_n 0, 1) := by decide +kernel
theorem dJ6_bitCount_0f7a4_1 : decode cJ6_bitCount_0f7a4 1 = .ok (.iload_n 0, 1) := by decide +kernel
theorem dJ6_bitCount_0f7a4_2 : decode cJ6_bitCount_0f7a4 2 = .ok (.iconst 1, 1) := by decide +kernel
theorem dJ6_bitCount_0f7a4_3 : decode cJ6_bitCount_0f7a4 3 = .ok (.iushr, 1) := by decide +kernel
theorem dJ6_bitCount_0f7a4_4 : decode cJ6_bitCount_0f7a4 4 = .ok (.ldc_w 265, 3) := by decide +kernel
theorem dJ6_bitCount_0f7a4_7 : decode cJ6_bitCount_0f7a4 7 = .ok (.iand, 1) := by decide +kernel
theorem dJ6_bitCount_0f7a4_8 : decode cJ6_bitCount_0f7a4 8 = .ok (.isub, 1) := by decide +kernel
theorem dJ6_bitCount_0f7a4_9 : decode cJ6_bitCount_0f7a4 9 = .ok (.istore_n 0, 1) := by decide +kernel
theorem dJ6_bitCount_0f7a4_10 : decode cJ6_bitCount_0f7a4 10 = .ok (.iload_n 0, 1) := by decide +kernel
theorem dJ6_bitCount_0f7a4_11 : decode cJ6_bitCount_0f7a4 11 = .ok (.ldc_w 266, 3) := by decide +kernel
theorem dJ6_bitCount_0f7a4_14 : decode cJ6_bitCount_0f7a4 14 = .ok (.iand, 1) := by decide +kernel
theorem dJ6_bitCount_0f7a4_15 : decode cJ6_bitCount_0f7a4 15 = .ok (.iload_n 0, 1) := by decide +kernel
theorem dJ6_bitCount_0f7a4_16 : decode cJ6_bitCount_0f7a4 16 = .ok (.iconst 2, 1) := by decide +kernel
theorem dJ6_bitCount_0f7a4_17 : decode cJ6_bitCount_0f7a4 17 = .ok (.iushr, 1) := by decide +kernel
theorem dJ6_bitCount_0f7a4_18 : decode cJ6_bitCount_0f7a4 18 = .ok (.ldc_w 266, 3) := by decide +kernel
theorem dJ6_bitCount_0f7a4_21 : decode cJ6_bitCount_0f7a4 21 = .ok (.iand, 1) := by decide +kernel
theorem dJ6_bitCount_0f7a4_22 : decode cJ6_bitCount_0f7a4 22 = .ok (.iadd, 1) := by decide +kernel
theorem dJ6_bitCount_0f7a4_23 : decode cJ6_bitCount_0f7a4 23 = .ok (.istore_n 0, 1) := by decide +kernel
theorem dJ6_bitCount_0f7a4_24 : decode cJ6_bitCount_0f7a4 24 = .ok (.iload_n 0, 1) := by decide +kernel
theorem dJ6_bitCount_0f7a4_25 : decode cJ6_bitCount_0f7a4 25 = .ok (.iload_n 0, 1) := by decide +kernel
theorem dJ6_bitCount_0f7a4_26 : decode cJ6_bitCount_0f7a4 26 = .ok (.iconst 4, 1) := by decide +kernel
theorem dJ6_bitCount_0f7a4_27 : decode cJ6_bitCount_0f7a4 27 = .ok (.iushr, 1) := by decide +kernel
theorem dJ6_bitCount_0f7a4_28 : decode cJ6_bitCount_0f7a4 28 = .ok (.iadd, 1) := by decide +kernel
theorem dJ6_bitCount_0f7a4_29 : decode cJ6_bitCount_0f7a4 29 = .ok (.ldc_w 267, 3) := by decide +kernel
theorem dJ6_bitCount_0f7a4_32 : decode cJ6_bitCount_0f7a4 32 = .ok (.iand, 1) := by decide +kernel
theorem dJ6_bitCount_0f7a4_33 : decode cJ6_bitCount_0f7a4 33 = .ok (.istore_n 0, 1) := by decide +kernel
theorem dJ6_bitCount_0f7a4_34 : decode cJ6_bitCount_0f7a4 34 = .ok (.iload_n 0, 1) := by decide +kernel
theorem dJ6_bitCount_0f7a4_35 : decode cJ6_bitCount_0f7a4 35 = .ok (.iload_n 0, 1) := by decide +kernel
theorem dJ6_bitCount_0f7a4_36 : decode cJ6_bitCount_0f7a4 36 = .ok (.bipush 8, 2) := by decide +kernel
theorem dJ6_bitCount_0f7a4_38 : decode cJ6_bitCount_0f7a4 38 = .ok (.iushr, 1) := by decide +kernel
theorem dJ6_bitCount_0f7a4_39 : decode cJ6_bitCount_0f7a4 39 = .ok (.iadd, 1) := by decide +kernel
theorem dJ6_bitCount_0f7a4_40 : decode cJ6_bitCount_0f7a4 40 = .ok (.istore_n 0, 1) := by decide +kernel
theorem dJ6_bitCount_0f7a4_41 : decode cJ6_bitCount_0f7a4 41 = .ok (.iload_n 0, 1) := by decide +kernel
theorem dJ6_bitCount_0f7a4_42 : decode cJ6_bitCount_0f7a4 42 = .ok (.iload_n 0, 1) := by decide +kernel
theorem dJ6_bitCount_0f7a4_43 : decode cJ6_bitCount_0f7a4 43 = .ok (.bipush 16, 2) := by decide +kernel
theorem dJ6_bitCount_0f7a4_45 : decode cJ6_bitCount_0f7a4 45 = .ok (.iushr, 1) := by decide +kernel
theorem dJ6_bitCount_0f7a4_46 : decode cJ6_bitCount_0f7a4 46 = .ok (.iadd, 1) := by decide +kernel
theorem dJ6_bitCount_0f7a4_47 : decode cJ6_bitCount_0f7a4 47 = .ok (.istore_n 0, 1) := by decide +kernel
theorem dJ6_bitCount_0f7a4_48 : decode cJ6_bitCount_0f7a4 48 = .ok (.iload_n 0, 1) := by decide +kernel
theorem dJ6_bitCount_0f7a4_49 : decode cJ6_bitCount_0f7a4 49 = .ok (.bipush 63, 2) := by decide +kernel
theorem dJ6_bitCount_0f7a4_51 : decode cJ6_bitCount_0f7a4 51 = .ok (.iand, 1) := by decide +kernel
theorem dJ6_bitCount_0f7a4_52 : decode cJ6_bitCount_0f7a4 52 = .ok (.ireturn, 1) := by decide +kernel
theorem dJ0_length_8abf5_0 : decode cJ0_length_8abf5 0 = .ok (.aload_n 0, 1) := by decide +kernel
theorem dJ0_length_8abf5_1 : decode cJ0_length_8abf5 1 = .ok (.getfield 9, 3) := by decide +kernel
theorem dJ0_length_8abf5_4 : decode cJ0_length_8abf5 4 = .ok (.arraylength, 1) := by decide +kernel
theorem dJ0_length_8abf5_5 : decode cJ0_length_8abf5 5 = .ok (.aload_n 0, 1) := by decide +kernel
theorem dJ0_length_8abf5_6 : decode cJ0_length_8abf5 6 = .ok (.invokevirtual 335, 3) := by decide +kernel
theorem dJ0_length_8abf5_9 : decode cJ0_length_8abf5 9 = .ok (.ishr, 1) := by decide +kernel
theorem dJ0_length_8abf5_10 : decode cJ0_length_8abf5 10 = .ok (.ireturn, 1) := by decide +kernel
theorem dJ0_indexOf_0f7a4_0 : decode cJ0_indexOf_0f7a4 0 = .ok (.aload_n 0, 1) := by decide +kernel
theorem dJ0_indexOf_0f7a4_1 : decode cJ0_indexOf_0f7a4 1 = .ok (.iload_n 1, 1) := by decide +kernel
theorem dJ0_indexOf_0f7a4_2 : decode cJ0_indexOf_0f7a4 2 = .ok (.iconst 0, 1) := by decide +kernel
theorem dJ0_indexOf_0f7a4_3 : decode cJ0_indexOf_0f7a4 3 = .ok (.invokevirtual 633, 3) := by decide +kernel
theorem dJ0_indexOf_0f7a4_6 : decode cJ0_indexOf_0f7a4 6 = .ok (.ireturn, 1) := by decide +kernel
theorem dJ0_indexOf_7cf53_0 : decode cJ0_indexOf_7cf53 0 = .ok (.aload_n 0, 1) := by decide +kernel
theorem dJ0_indexOf_7cf53_1 : decode cJ0_indexOf_7cf53 1 = .ok (.invokevirtual 492, 3) := by decide +kernel
theorem dJ0_indexOf_7cf53_4 : decode cJ0_indexOf_7cf53 4 = .ok (.ifCond .eq 19, 3) := by decide +kernel
theorem dJ0_indexOf_7cf53_7 : decode cJ0_indexOf_7cf53 7 = .ok (.aload_n 0, 1) := by decide +kernel
theorem dJ0_indexOf_7cf53_8 : decode cJ0_indexOf_7cf53 8 = .ok (.getfield 9, 3) := by decide +kernel
theorem dJ0_indexOf_7cf53_11 : decode cJ0_indexOf_7cf53 11 = .ok (.iload_n 1, 1) := by decide +kernel
theorem dJ0_indexOf_7cf53_12 : decode cJ0_indexOf_7cf53 12 = .ok (.iload_n 2, 1) := by decide +kernel
theorem dJ0_indexOf_7cf53_13 : decode cJ0_indexOf_7cf53 13 = .ok (.aload_n 0, 1) := by decide +kernel
theorem dJ0_indexOf_7cf53_14 : decode cJ0_indexOf_7cf53 14 = .ok (.invokevirtual 505, 3) := by decide +kernel
theorem dJ0_indexOf_7cf53_17 : decode cJ0_indexOf_7cf53 17 = .ok (.invokestatic 637, 3) := by decide +kernel
theorem dJ0_indexOf_7cf53_20 : decode cJ0_indexOf_7cf53 20 = .ok (.goto 16, 3) := by decide +kernel
theorem dJ0_indexOf_7cf53_23 : decode cJ0_indexOf_7cf53 23 = .ok (.aload_n 0, 1) := by decide +kernel
theorem dJ0_indexOf_7cf53_24 : decode cJ0_indexOf_7cf53 24 = .ok (.getfield 9, 3) := by decide +kernel
theorem dJ0_indexOf_7cf53_27 : decode cJ0_indexOf_7cf53 27 = .ok (.iload_n 1, 1) := by decide +kernel
theorem dJ0_indexOf_7cf53_28 : decode cJ0_indexOf_7cf53 28 = .ok (.iload_n 2, 1) := by decide +kernel
theorem dJ0_indexOf_7cf53_29 : decode cJ0_indexOf_7cf53 29 = .ok (.aload_n 0, 1) := by decide +kernel
theorem dJ0_indexOf_7cf53_30 : decode cJ0_indexOf_7cf53 30 = .ok (.invokevirtual 505, 3) := by decide +kernel
theorem dJ0_indexOf_7cf53_33 : decode cJ0_indexOf_7cf53 33 = .ok (.invokestatic 640, 3) := by decide +kernel
theorem dJ0_indexOf_7cf53_36 : decode cJ0_indexOf_7cf53 36 = .ok (.ireturn, 1) := by decide +kernel
theorem dJ0_coder_7d493_0 : decode cJ0_coder_7d493 0 = .ok (.getstatic 38, 3) := by decide +kernel
theorem dJ0_coder_7d493_3 : decode cJ0_coder_7d493 3 = .ok (.ifCond .eq 10, 3) := by decide +kernel
theorem dJ0_coder_7d493_6 : decode cJ0_coder_7d493 6 = .ok (.aload_n 0, 1) := by decide +kernel
theorem dJ0_coder_7d493_7 : decode cJ0_coder_7d493 7 = .ok (.getfield 15, 3) := by decide +kernel
theorem dJ0_coder_7d493_10 : decode cJ0_coder_7d493 10 = .ok (.goto 4, 3) := by decide +kernel
theorem dJ0_coder_7d493_13 : decode cJ0_coder_7d493 13 = .ok (.iconst 1, 1) := by decide +kernel
theorem dJ0_coder_7d493_14 : decode cJ0_coder_7d493 14 = .ok (.ireturn, 1) := by decide +kernel
theorem dJ0_isLatin1_aae02_0 : decode cJ0_isLatin1_aae02 0 = .ok (.getstatic 38, 3) := by decide +kernel
theorem dJ0_isLatin1_aae02_3 : decode cJ0_isLatin1_aae02 3 = .ok (.ifCond .eq 14, 3) := by decide +kernel
theorem dJ0_isLatin1_aae02_6 : decode cJ0_isLatin1_aae02 6 = .ok (.aload_n 0, 1) := by decide +kernel
theorem dJ0_isLatin1_aae02_7 : decode cJ0_isLatin1_aae02 7 = .ok (.getfield 15, 3) := by decide +kernel
theorem dJ0_isLatin1_aae02_10 : decode cJ0_isLatin1_aae02 10 = .ok (.ifCond .ne 7, 3) := by decide +kernel
theorem dJ0_isLatin1_aae02_13 : decode cJ0_isLatin1_aae02 13 = .ok (.iconst 1, 1) := by decide +kernel
theorem dJ0_isLatin1_aae02_14 : decode cJ0_isLatin1_aae02 14 = .ok (.goto 4, 3) := by decide +kernel
theorem dJ0_isLatin1_aae02_17 : decode cJ0_isLatin1_aae02 17 = .ok (.iconst 0, 1) := by decide +kernel
theorem dJ0_isLatin1_aae02_18 : decode cJ0_isLatin1_aae02 18 = .ok (.ireturn, 1) := by decide +kernel
theorem dJ1_canEncode_9a6ad_0 : decode cJ1_canEncode_9a6ad 0 = .ok (.iload_n 0, 1) := by decide +kernel
theorem dJ1_canEncode_9a6ad_1 : decode cJ1_canEncode_9a6ad 1 = .ok (.ifCond .lt 14, 3) := by decide +kernel
theorem dJ1_canEncode_9a6ad_4 : decode cJ1_canEncode_9a6ad 4 = .ok (.iload_n 0, 1) := by decide +kernel
theorem dJ1_canEncode_9a6ad_5 : decode cJ1_canEncode_9a6ad 5 = .ok (.sipush 255, 3) := by decide +kernel
theorem dJ1_canEncode_9a6ad_8 : decode cJ1_canEncode_9a6ad 8 = .ok (.if_icmp .gt 7, 3) := by decide +kernel
theorem dJ1_canEncode_9a6ad_11 : decode cJ1_canEncode_9a6ad 11 = .ok (.iconst 1, 1) := by decide +kernel
theorem dJ1_canEncode_9a6ad_12 : decode cJ1_canEncode_9a6ad 12 = .ok (.goto 4, 3) := by decide +kernel
theorem dJ1_canEncode_9a6ad_15 : decode cJ1_canEncode_9a6ad 15 = .ok (.iconst 0, 1) := by decide +kernel
theorem dJ1_canEncode_9a6ad_16 : decode cJ1_canEncode_9a6ad 16 = .ok (.ireturn, 1) := by decide +kernel
theorem dJ1_indexOf_4cfef_0 : decode cJ1_indexOf_4cfef 0 = .ok (.iload_n 1, 1) := by decide +kernel
theorem dJ1_indexOf_4cfef_1 : decode cJ1_indexOf_4cfef 1 = .ok (.invokestatic 88, 3) := by decide +kernel
theorem dJ1_indexOf_4cfef_4 : decode cJ1_indexOf_4cfef 4 = .ok (.ifCond .ne 5, 3) := by decide +kernel
theorem dJ1_indexOf_4cfef_7 : decode cJ1_indexOf_4cfef 7 = .ok (.iconst (-1), 1) := by decide +kernel
theorem dJ1_indexOf_4cfef_8 : decode cJ1_indexOf_4cfef 8 = .ok (.ireturn, 1) := by decide +kernel
theorem dJ1_indexOf_4cfef_9 : decode cJ1_indexOf_4cfef 9 = .ok (.iload_n 2, 1) := by decide +kernel
theorem dJ1_indexOf_4cfef_10 : decode cJ1_indexOf_4cfef 10 = .ok (.iconst 0, 1) := by decide +kernel
theorem dJ1_indexOf_4cfef_11 : decode cJ1_indexOf_4cfef 11 = .ok (.invokestatic 92, 3) := by decide +kernel
theorem dJ1_indexOf_4cfef_14 : decode cJ1_indexOf_4cfef 14 = .ok (.istore_n 2, 1) := by decide +kernel
theorem dJ1_indexOf_4cfef_15 : decode cJ1_indexOf_4cfef 15 = .ok (.iload_n 3, 1) := by decide +kernel
theorem dJ1_indexOf_4cfef_16 : decode cJ1_indexOf_4cfef 16 = .ok (.aload_n 0, 1) := by decide +kernel
theorem dJ1_indexOf_4cfef_17 : decode cJ1_indexOf_4cfef 17 = .ok (.arraylength, 1) := by decide +kernel
theorem dJ1_indexOf_4cfef_18 : decode cJ1_indexOf_4cfef 18 = .ok (.invokestatic 38, 3) := by decide +kernel
theorem dJ1_indexOf_4cfef_21 : decode cJ1_indexOf_4cfef 21 = .ok (.istore_n 3, 1) := by decide +kernel
theorem dJ1_indexOf_4cfef_22 : decode cJ1_indexOf_4cfef 22 = .ok (.iload_n 2, 1) := by decide +kernel
theorem dJ1_indexOf_4cfef_23 : decode cJ1_indexOf_4cfef 23 = .ok (.iload_n 3, 1) := by decide +kernel
theorem dJ1_indexOf_4cfef_24 : decode cJ1_indexOf_4cfef 24 = .ok (.if_icmp .lt 5, 3) := by decide +kernel
theorem dJ1_indexOf_4cfef_27 : decode cJ1_indexOf_4cfef 27 = .ok (.iconst (-1), 1) := by decide +kernel
theorem dJ1_indexOf_4cfef_28 : decode cJ1_indexOf_4cfef 28 = .ok (.ireturn, 1) := by decide +kernel
theorem dJ1_indexOf_4cfef_29 : decode cJ1_indexOf_4cfef 29 = .ok (.aload_n 0, 1) := by decide +kernel
theorem dJ1_indexOf_4cfef_30 : decode cJ1_indexOf_4cfef 30 = .ok (.iload_n 1, 1) := by decide +kernel
theorem dJ1_indexOf_4cfef_31 : decode cJ1_indexOf_4cfef 31 = .ok (.iload_n 2, 1) := by decide +kernel
theorem dJ1_indexOf_4cfef_32 : decode cJ1_indexOf_4cfef 32 = .ok (.iload_n 3, 1) := by decide +kernel
theorem dJ1_indexOf_4cfef_33 : decode cJ1_indexOf_4cfef 33 = .ok (.invokestatic 95, 3) := by decide +kernel
theorem dJ1_indexOf_4cfef_36 : decode cJ1_indexOf_4cfef 36 = .ok (.ireturn, 1) := by decide +kernel
theorem dJ1_indexOfChar_4cfef_0 : decode cJ1_indexOfChar_4cfef 0 = .ok (.iload_n 1, 1) := by decide +kernel
theorem dJ1_indexOfChar_4cfef_1 : decode cJ1_indexOfChar_4cfef 1 = .ok (.i2b, 1) := by decide +kernel
theorem dJ1_indexOfChar_4cfef_2 : decode cJ1_indexOfChar_4cfef 2 = .ok (.istore 4, 2) := by decide +kernel
theorem dJ1_indexOfChar_4cfef_4 : decode cJ1_indexOfChar_4cfef 4 = .ok (.iload_n 2, 1) := by decide +kernel
theorem dJ1_indexOfChar_4cfef_5 : decode cJ1_indexOfChar_4cfef 5 = .ok (.istore 5, 2) := by decide +kernel
theorem dJ1_indexOfChar_4cfef_7 : decode cJ1_indexOfChar_4cfef 7 = .ok (.iload 5, 2) := by decide +kernel
theorem dJ1_indexOfChar_4cfef_9 : decode cJ1_indexOfChar_4cfef 9 = .ok (.iload_n 3, 1) := by decide +kernel
theorem dJ1_indexOfChar_4cfef_10 : decode cJ1_indexOfChar_4cfef 10 = .ok (.if_icmp .ge 21, 3) := by decide +kernel
theorem dJ1_indexOfChar_4cfef_13 : decode cJ1_indexOfChar_4cfef 13 = .ok (.aload_n 0, 1) := by decide +kernel
theorem dJ1_indexOfChar_4cfef_14 : decode cJ1_indexOfChar_4cfef 14 = .ok (.iload 5, 2) := by decide +kernel
theorem dJ1_indexOfChar_4cfef_16 : decode cJ1_indexOfChar_4cfef 16 = .ok (.baload, 1) := by decide +kernel
theorem dJ1_indexOfChar_4cfef_17 : decode cJ1_indexOfChar_4cfef 17 = .ok (.iload 4, 2) := by decide +kernel
theorem dJ1_indexOfChar_4cfef_19 : decode cJ1_indexOfChar_4cfef 19 = .ok (.if_icmp .ne 6, 3) := by decide +kernel
theorem dJ1_indexOfChar_4cfef_22 : decode cJ1_indexOfChar_4cfef 22 = .ok (.iload 5, 2) := by decide +kernel
theorem dJ1_indexOfChar_4cfef_24 : decode cJ1_indexOfChar_4cfef 24 = .ok (.ireturn, 1) := by decide +kernel
theorem dJ1_indexOfChar_4cfef_25 : decode cJ1_indexOfChar_4cfef 25 = .ok (.iinc 5 1, 3) := by decide +kernel
theorem dJ1_indexOfChar_4cfef_28 : decode cJ1_indexOfChar_4cfef 28 = .ok (.goto (-21), 3) := by decide +kernel
theorem dJ1_indexOfChar_4cfef_31 : decode cJ1_indexOfChar_4cfef 31 = .ok (.iconst (-1), 1) := by decide +kernel
theorem dJ1_indexOfChar_4cfef_32 : decode cJ1_indexOfChar_4cfef 32 = .ok (.ireturn, 1) := by decide +kernel
theorem dJ7_fill_53178_0 : decode cJ7_fill_53178 0 = .ok (.iconst 0, 1) := by decide +kernel
theorem dJ7_fill_53178_1 : decode cJ7_fill_53178 1 = .ok (.istore_n 2, 1) := by decide +kernel
theorem dJ7_fill_53178_2 : decode cJ7_fill_53178 2 = .ok (.aload_n 0, 1) := by decide +kernel
theorem dJ7_fill_53178_3 : decode cJ7_fill_53178 3 = .ok (.arraylength, 1) := by decide +kernel
theorem dJ7_fill_53178_4 : decode cJ7_fill_53178 4 = .ok (.istore_n 3, 1) := by decide +kernel
theorem dJ7_fill_53178_5 : decode cJ7_fill_53178 5 = .ok (.iload_n 2, 1) := by decide +kernel
theorem dJ7_fill_53178_6 : decode cJ7_fill_53178 6 = .ok (.iload_n 3, 1) := by decide +kernel
theorem dJ7_fill_53178_7 : decode cJ7_fill_53178 7 = .ok (.if_icmp .ge 13, 3) := by decide +kernel
theorem dJ7_fill_53178_10 : decode cJ7_fill_53178 10 = .ok (.aload_n 0, 1) := by decide +kernel
theorem dJ7_fill_53178_11 : decode cJ7_fill_53178 11 = .ok (.iload_n 2, 1) := by decide +kernel
theorem dJ7_fill_53178_12 : decode cJ7_fill_53178 12 = .ok (.iload_n 1, 1) := by decide +kernel
theorem dJ7_fill_53178_13 : decode cJ7_fill_53178 13 = .ok (.iastore, 1) := by decide +kernel
theorem dJ7_fill_53178_14 : decode cJ7_fill_53178 14 = .ok (.iinc 2 1, 3) := by decide +kernel
theorem dJ7_fill_53178_17 : decode cJ7_fill_53178 17 = .ok (.goto (-12), 3) := by decide +kernel
theorem dJ7_fill_53178_20 : decode cJ7_fill_53178 20 = .ok (.return_, 1) := by decide +kernel
theorem dX0_init_0 : decode cX0_init 0 = .ok (.aload_n 0, 1) := by decide +kernel
theorem dX0_init_1 : decode cX0_init 1 = .ok (.invokespecial 3, 3) := by decide +kernel
theorem dX0_init_4 : decode cX0_init 4 = .ok (.aload_n 0, 1) := by decide +kernel
theorem dX0_init_5 : decode cX0_init 5 = .ok (.bipush 9, 2) := by decide +kernel
theorem dX0_init_7 : decode cX0_init 7 = .ok (.newarray .int, 2) := by decide +kernel
theorem dX0_init_9 : decode cX0_init 9 = .ok (.putfield 11, 3) := by decide +kernel
theorem dX0_init_12 : decode cX0_init 12 = .ok (.aload_n 0, 1) := by decide +kernel
theorem dX0_init_13 : decode cX0_init 13 = .ok (.bipush 48, 2) := by decide +kernel
theorem dX0_init_15 : decode cX0_init 15 = .ok (.newarray .int, 2) := by decide +kernel
theorem dX0_init_17 : decode cX0_init 17 = .ok (.putfield 17, 3) := by decide +kernel
theorem dX0_init_20 : decode cX0_init 20 = .ok (.aload_n 0, 1) := by decide +kernel
theorem dX0_init_21 : decode cX0_init 21 = .ok (.iconst 0, 1) := by decide +kernel
theorem dX0_init_22 : decode cX0_init 22 = .ok (.putfield 20, 3) := by decide +kernel
theorem dX0_init_25 : decode cX0_init 25 = .ok (.aload_n 0, 1) := by decide +kernel
theorem dX0_init_26 : decode cX0_init 26 = .ok (.iconst 0, 1) := by decide +kernel
theorem dX0_init_27 : decode cX0_init 27 = .ok (.putfield 24, 3) := by decide +kernel
theorem dX0_init_30 : decode cX0_init 30 = .ok (.aload_n 0, 1) := by decide +kernel
theorem dX0_init_31 : decode cX0_init 31 = .ok (.iconst 0, 1) := by decide +kernel
theorem dX0_init_32 : decode cX0_init 32 = .ok (.putfield 27, 3) := by decide +kernel
theorem dX0_init_35 : decode cX0_init 35 = .ok (.aload_n 0, 1) := by decide +kernel
theorem dX0_init_36 : decode cX0_init 36 = .ok (.aload_n 1, 1) := by decide +kernel
theorem dX0_init_37 : decode cX0_init 37 = .ok (.putfield 30, 3) := by decide +kernel
theorem dX0_init_40 : decode cX0_init 40 = .ok (.return_, 1) := by decide +kernel
theorem dX0_fallen_0 : decode cX0_fallen 0 = .ok (.aload_n 0, 1) := by decide +kernel
theorem dX0_fallen_1 : decode cX0_fallen 1 = .ok (.getfield 27, 3) := by decide +kernel
theorem dX0_fallen_4 : decode cX0_fallen 4 = .ok (.ireturn, 1) := by decide +kernel
theorem dX0_passDays_0 : decode cX0_passDays 0 = .ok (.aload_n 0, 1) := by decide +kernel
theorem dX0_passDays_1 : decode cX0_passDays 1 = .ok (.iconst 0, 1) := by decide +kernel
theorem dX0_passDays_2 : decode cX0_passDays 2 = .ok (.putfield 27, 3) := by decide +kernel
theorem dX0_passDays_5 : decode cX0_passDays 5 = .ok (.iconst 0, 1) := by decide +kernel
theorem dX0_passDays_6 : decode cX0_passDays 6 = .ok (.istore 4, 2) := by decide +kernel
theorem dX0_passDays_8 : decode cX0_passDays 8 = .ok (.iconst 0, 1) := by decide +kernel
theorem dX0_passDays_9 : decode cX0_passDays 9 = .ok (.istore 5, 2) := by decide +kernel
theorem dX0_passDays_11 : decode cX0_passDays 11 = .ok (.iload 5, 2) := by decide +kernel
theorem dX0_passDays_13 : decode cX0_passDays 13 = .ok (.iload_n 3, 1) := by decide +kernel
theorem dX0_passDays_14 : decode cX0_passDays 14 = .ok (.if_icmp .ge 61, 3) := by decide +kernel
theorem dX0_passDays_17 : decode cX0_passDays 17 = .ok (.aload_n 2, 1) := by decide +kernel
theorem dX0_passDays_18 : decode cX0_passDays 18 = .ok (.invokevirtual 34, 3) := by decide +kernel
theorem dX0_passDays_21 : decode cX0_passDays 21 = .ok (.sipush 9999, 3) := by decide +kernel
theorem dX0_passDays_24 : decode cX0_passDays 24 = .ok (.if_icmp .ge 51, 3) := by decide +kernel
theorem dX0_passDays_27 : decode cX0_passDays 27 = .ok (.iconst 0, 1) := by decide +kernel
theorem dX0_passDays_28 : decode cX0_passDays 28 = .ok (.istore 6, 2) := by decide +kernel
theorem dX0_passDays_30 : decode cX0_passDays 30 = .ok (.iload 6, 2) := by decide +kernel
theorem dX0_passDays_32 : decode cX0_passDays 32 = .ok (.bipush 8, 2) := by decide +kernel
theorem dX0_passDays_34 : decode cX0_passDays 34 = .ok (.if_icmp .ge 31, 3) := by decide +kernel
theorem dX0_passDays_37 : decode cX0_passDays 37 = .ok (.aload_n 2, 1) := by decide +kernel
theorem dX0_passDays_38 : decode cX0_passDays 38 = .ok (.iload 6, 2) := by decide +kernel
theorem dX0_passDays_40 : decode cX0_passDays 40 = .ok (.invokevirtual 40, 3) := by decide +kernel
theorem dX0_passDays_43 : decode cX0_passDays 43 = .ok (.ifCond .eq 16, 3) := by decide +kernel
theorem dX0_passDays_46 : decode cX0_passDays 46 = .ok (.iload 4, 2) := by decide +kernel
theorem dX0_passDays_48 : decode cX0_passDays 48 = .ok (.aload_n 0, 1) := by decide +kernel
theorem dX0_passDays_49 : decode cX0_passDays 49 = .ok (.aload_n 1, 1) := by decide +kernel
theorem dX0_passDays_50 : decode cX0_passDays 50 = .ok (.aload_n 2, 1) := by decide +kernel
theorem dX0_passDays_51 : decode cX0_passDays 51 = .ok (.iload 6, 2) := by decide +kernel
theorem dX0_passDays_53 : decode cX0_passDays 53 = .ok (.invokevirtual 44, 3) := by decide +kernel
theorem dX0_passDays_56 : decode cX0_passDays 56 = .ok (.iadd, 1) := by decide +kernel
theorem dX0_passDays_57 : decode cX0_passDays 57 = .ok (.istore 4, 2) := by decide +kernel
theorem dX0_passDays_59 : decode cX0_passDays 59 = .ok (.iinc 6 1, 3) := by decide +kernel
theorem dX0_passDays_62 : decode cX0_passDays 62 = .ok (.goto (-32), 3) := by decide +kernel
theorem dX0_passDays_65 : decode cX0_passDays 65 = .ok (.aload_n 2, 1) := by decide +kernel
theorem dX0_passDays_66 : decode cX0_passDays 66 = .ok (.invokevirtual 48, 3) := by decide +kernel
theorem dX0_passDays_69 : decode cX0_passDays 69 = .ok (.iinc 5 1, 3) := by decide +kernel
theorem dX0_passDays_72 : decode cX0_passDays 72 = .ok (.goto (-61), 3) := by decide +kernel
theorem dX0_passDays_75 : decode cX0_passDays 75 = .ok (.iload 4, 2) := by decide +kernel
theorem dX0_passDays_77 : decode cX0_passDays 77 = .ok (.ireturn, 1) := by decide +kernel
theorem dX0_passLetter_0 : decode cX0_passLetter 0 = .ok (.aload_n 0, 1) := by decide +kernel
theorem dX0_passLetter_1 : decode cX0_passLetter 1 = .ok (.getfield 11, 3) := by decide +kernel
theorem dX0_passLetter_4 : decode cX0_passLetter 4 = .ok (.bipush 8, 2) := by decide +kernel
theorem dX0_passLetter_6 : decode cX0_passLetter 6 = .ok (.aload_n 2, 1) := by decide +kernel
theorem dX0_passLetter_7 : decode cX0_passLetter 7 = .ok (.invokevirtual 51, 3) := by decide +kernel
theorem dX0_passLetter_10 : decode cX0_passLetter 10 = .ok (.iastore, 1) := by decide +kernel
theorem dX0_passLetter_11 : decode cX0_passLetter 11 = .ok (.aload_n 0, 1) := by decide +kernel
theorem dX0_passLetter_12 : decode cX0_passLetter 12 = .ok (.getfield 11, 3) := by decide +kernel
theorem dX0_passLetter_15 : decode cX0_passLetter 15 = .ok (.bipush 6, 2) := by decide +kernel
theorem dX0_passLetter_17 : decode cX0_passLetter 17 = .ok (.iload_n 3, 1) := by decide +kernel
theorem dX0_passLetter_18 : decode cX0_passLetter 18 = .ok (.iastore, 1) := by decide +kernel
theorem dX0_passLetter_19 : decode cX0_passLetter 19 = .ok (.aload_n 0, 1) := by decide +kernel
theorem dX0_passLetter_20 : decode cX0_passLetter 20 = .ok (.getfield 11, 3) := by decide +kernel
theorem dX0_passLetter_23 : decode cX0_passLetter 23 = .ok (.bipush 7, 2) := by decide +kernel
theorem dX0_passLetter_25 : decode cX0_passLetter 25 = .ok (.aload_n 2, 1) := by decide +kernel
theorem dX0_passLetter_26 : decode cX0_passLetter 26 = .ok (.invokevirtual 34, 3) := by decide +kernel
theorem dX0_passLetter_29 : decode cX0_passLetter 29 = .ok (.bipush 100, 2) := by decide +kernel
theorem dX0_passLetter_31 : decode cX0_passLetter 31 = .ok (.irem, 1) := by decide +kernel
theorem dX0_passLetter_32 : decode cX0_passLetter 32 = .ok (.iastore, 1) := by decide +kernel
theorem dX0_passLetter_33 : decode cX0_passLetter 33 = .ok (.aload_n 0, 1) := by decide +kernel
theorem dX0_passLetter_34 : decode cX0_passLetter 34 = .ok (.getfield 11, 3) := by decide +kernel
theorem dX0_passLetter_37 : decode cX0_passLetter 37 = .ok (.iconst 5, 1) := by decide +kernel
theorem dX0_passLetter_38 : decode cX0_passLetter 38 = .ok (.aload_n 2, 1) := by decide +kernel
theorem dX0_passLetter_39 : decode cX0_passLetter 39 = .ok (.iload_n 3, 1) := by decide +kernel
theorem dX0_passLetter_40 : decode cX0_passLetter 40 = .ok (.invokevirtual 54, 3) := by decide +kernel
theorem dX0_passLetter_43 : decode cX0_passLetter 43 = .ok (.iastore, 1) := by decide +kernel
theorem dX0_passLetter_44 : decode cX0_passLetter 44 = .ok (.aload_n 0, 1) := by decide +kernel
theorem dX0_passLetter_45 : decode cX0_passLetter 45 = .ok (.iconst 0, 1) := by decide +kernel
theorem dX0_passLetter_46 : decode cX0_passLetter 46 = .ok (.putfield 20, 3) := by decide +kernel
theorem dX0_passLetter_49 : decode cX0_passLetter 49 = .ok (.aload_n 0, 1) := by decide +kernel
theorem dX0_passLetter_50 : decode cX0_passLetter 50 = .ok (.iconst 0, 1) := by decide +kernel
theorem dX0_passLetter_51 : decode cX0_passLetter 51 = .ok (.putfield 24, 3) := by decide +kernel
theorem dX0_passLetter_54 : decode cX0_passLetter 54 = .ok (.iconst 0, 1) := by decide +kernel
theorem dX0_passLetter_55 : decode cX0_passLetter 55 = .ok (.istore 4, 2) := by decide +kernel
theorem dX0_passLetter_57 : decode cX0_passLetter 57 = .ok (.iload 4, 2) := by decide +kernel
theorem dX0_passLetter_59 : decode cX0_passLetter 59 = .ok (.bipush 48, 2) := by decide +kernel
theorem dX0_passLetter_61 : decode cX0_passLetter 61 = .ok (.if_icmp .ge 40, 3) := by decide +kernel
theorem dX0_passLetter_64 : decode cX0_passLetter 64 = .ok (.aload_n 2, 1) := by decide +kernel
theorem dX0_passLetter_65 : decode cX0_passLetter 65 = .ok (.iload 4, 2) := by decide +kernel
theorem dX0_passLetter_67 : decode cX0_passLetter 67 = .ok (.iload_n 3, 1) := by decide +kernel
theorem dX0_passLetter_68 : decode cX0_passLetter 68 = .ok (.invokevirtual 58, 3) := by decide +kernel
theorem dX0_passLetter_71 : decode cX0_passLetter 71 = .ok (.ifCond .eq 24, 3) := by decide +kernel
theorem dX0_passLetter_74 : decode cX0_passLetter 74 = .ok (.aload_n 0, 1) := by decide +kernel
theorem dX0_passLetter_75 : decode cX0_passLetter 75 = .ok (.getfield 30, 3) := by decide +kernel
theorem dX0_passLetter_78 : decode cX0_passLetter 78 = .ok (.iload 4, 2) := by decide +kernel
theorem dX0_passLetter_80 : decode cX0_passLetter 80 = .ok (.invokevirtual 62, 3) := by decide +kernel
theorem dX0_passLetter_83 : decode cX0_passLetter 83 = .ok (.ifCond .eq 12, 3) := by decide +kernel
theorem dX0_passLetter_86 : decode cX0_passLetter 86 = .ok (.aload_n 0, 1) := by decide +kernel
theorem dX0_passLetter_87 : decode cX0_passLetter 87 = .ok (.aload_n 1, 1) := by decide +kernel
theorem dX0_passLetter_88 : decode cX0_passLetter 88 = .ok (.aload_n 2, 1) := by decide +kernel
theorem dX0_passLetter_89 : decode cX0_passLetter 89 = .ok (.iload 4, 2) := by decide +kernel
theorem dX0_passLetter_91 : decode cX0_passLetter 91 = .ok (.iload_n 3, 1) := by decide +kernel
theorem dX0_passLetter_92 : decode cX0_passLetter 92 = .ok (.invokevirtual 67, 3) := by decide +kernel
theorem dX0_passLetter_95 : decode cX0_passLetter 95 = .ok (.iinc 4 1, 3) := by decide +kernel
theorem dX0_passLetter_98 : decode cX0_passLetter 98 = .ok (.goto (-41), 3) := by decide +kernel
theorem dX0_passLetter_101 : decode cX0_passLetter 101 = .ok (.aload_n 0, 1) := by decide +kernel
theorem dX0_passLetter_102 : decode cX0_passLetter 102 = .ok (.aload_n 2, 1) := by decide +kernel
theorem dX0_passLetter_103 : decode cX0_passLetter 103 = .ok (.iload_n 3, 1) := by decide +kernel
theorem dX0_passLetter_104 : decode cX0_passLetter 104 = .ok (.invokevirtual 71, 3) := by decide +kernel
theorem dX0_passLetter_107 : decode cX0_passLetter 107 = .ok (.istore 4, 2) := by decide +kernel
theorem dX0_passLetter_109 : decode cX0_passLetter 109 = .ok (.iconst 0, 1) := by decide +kernel
theorem dX0_passLetter_110 : decode cX0_passLetter 110 = .ok (.istore 5, 2) := by decide +kernel
theorem dX0_passLetter_112 : decode cX0_passLetter 112 = .ok (.iload 5, 2) := by decide +kernel
theorem dX0_passLetter_114 : decode cX0_passLetter 114 = .ok (.bipush 48, 2) := by decide +kernel
theorem dX0_passLetter_116 : decode cX0_passLetter 116 = .ok (.if_icmp .ge 44, 3) := by decide +kernel
theorem dX0_passLetter_119 : decode cX0_passLetter 119 = .ok (.aload_n 2, 1) := by decide +kernel
theorem dX0_passLetter_120 : decode cX0_passLetter 120 = .ok (.iload 5, 2) := by decide +kernel
theorem dX0_passLetter_122 : decode cX0_passLetter 122 = .ok (.iload_n 3, 1) := by decide +kernel
theorem dX0_passLetter_123 : decode cX0_passLetter 123 = .ok (.invokevirtual 58, 3) := by decide +kernel
theorem dX0_passLetter_126 : decode cX0_passLetter 126 = .ok (.ifCond .eq 28, 3) := by decide +kernel
theorem dX0_passLetter_129 : decode cX0_passLetter 129 = .ok (.aload_n 0, 1) := by decide +kernel
theorem dX0_passLetter_130 : decode cX0_passLetter 130 = .ok (.getfield 30, 3) := by decide +kernel
theorem dX0_passLetter_133 : decode cX0_passLetter 133 = .ok (.iload 5, 2) := by decide +kernel
theorem dX0_passLetter_135 : decode cX0_passLetter 135 = .ok (.invokevirtual 62, 3) := by decide +kernel
theorem dX0_passLetter_138 : decode cX0_passLetter 138 = .ok (.ifCond .eq 16, 3) := by decide +kernel
theorem dX0_passLetter_141 : decode cX0_passLetter 141 = .ok (.aload_n 2, 1) := by decide +kernel
theorem dX0_passLetter_142 : decode cX0_passLetter 142 = .ok (.iload 5, 2) := by decide +kernel
theorem dX0_passLetter_144 : decode cX0_passLetter 144 = .ok (.aload_n 0, 1) := by decide +kernel
theorem dX0_passLetter_145 : decode cX0_passLetter 145 = .ok (.getfield 17, 3) := by decide +kernel
theorem dX0_passLetter_148 : decode cX0_passLetter 148 = .ok (.iload 5, 2) := by decide +kernel
theorem dX0_passLetter_150 : decode cX0_passLetter 150 = .ok (.iaload, 1) := by decide +kernel
theorem dX0_passLetter_151 : decode cX0_passLetter 151 = .ok (.invokevirtual 75, 3) := by decide +kernel
theorem dX0_passLetter_154 : decode cX0_passLetter 154 = .ok (.iinc 5 1, 3) := by decide +kernel
theorem dX0_passLetter_157 : decode cX0_passLetter 157 = .ok (.goto (-45), 3) := by decide +kernel
theorem dX0_passLetter_160 : decode cX0_passLetter 160 = .ok (.iload 4, 2) := by decide +kernel
theorem dX0_passLetter_162 : decode cX0_passLetter 162 = .ok (.ireturn, 1) := by decide +kernel
theorem dX0_learn_0 : decode cX0_learn 0 = .ok (.aload_n 0, 1) := by decide +kernel
theorem dX0_learn_1 : decode cX0_learn 1 = .ok (.getfield 11, 3) := by decide +kernel
theorem dX0_learn_4 : decode cX0_learn 4 = .ok (.iconst 0, 1) := by decide +kernel
theorem dX0_learn_5 : decode cX0_learn 5 = .ok (.iload_n 2, 1) := by decide +kernel
theorem dX0_learn_6 : decode cX0_learn 6 = .ok (.iastore, 1) := by decide +kernel
theorem dX0_learn_7 : decode cX0_learn 7 = .ok (.aload_n 0, 1) := by decide +kernel
theorem dX0_learn_8 : decode cX0_learn 8 = .ok (.getfield 11, 3) := by decide +kernel
theorem dX0_learn_11 : decode cX0_learn 11 = .ok (.iconst 1, 1) := by decide +kernel
theorem dX0_learn_12 : decode cX0_learn 12 = .ok (.aload_n 0, 1) := by decide +kernel
theorem dX0_learn_13 : decode cX0_learn 13 = .ok (.getfield 30, 3) := by decide +kernel
theorem dX0_learn_16 : decode cX0_learn 16 = .ok (.iload_n 2, 1) := by decide +kernel
theorem dX0_learn_17 : decode cX0_learn 17 = .ok (.invokevirtual 79, 3) := by decide +kernel
theorem dX0_learn_20 : decode cX0_learn 20 = .ok (.iastore, 1) := by decide +kernel
theorem dX0_learn_21 : decode cX0_learn 21 = .ok (.aload_n 0, 1) := by decide +kernel
theorem dX0_learn_22 : decode cX0_learn 22 = .ok (.getfield 11, 3) := by decide +kernel
theorem dX0_learn_25 : decode cX0_learn 25 = .ok (.iconst 2, 1) := by decide +kernel
theorem dX0_learn_26 : decode cX0_learn 26 = .ok (.aload_n 0, 1) := by decide +kernel
theorem dX0_learn_27 : decode cX0_learn 27 = .ok (.getfield 30, 3) := by decide +kernel
theorem dX0_learn_30 : decode cX0_learn 30 = .ok (.iload_n 2, 1) := by decide +kernel
theorem dX0_learn_31 : decode cX0_learn 31 = .ok (.invokevirtual 82, 3) := by decide +kernel
theorem dX0_learn_34 : decode cX0_learn 34 = .ok (.iastore, 1) := by decide +kernel
theorem dX0_learn_35 : decode cX0_learn 35 = .ok (.aload_n 0, 1) := by decide +kernel
theorem dX0_learn_36 : decode cX0_learn 36 = .ok (.getfield 11, 3) := by decide +kernel
theorem dX0_learn_39 : decode cX0_learn 39 = .ok (.iconst 3, 1) := by decide +kernel
theorem dX0_learn_40 : decode cX0_learn 40 = .ok (.aload_n 1, 1) := by decide +kernel
theorem dX0_learn_41 : decode cX0_learn 41 = .ok (.iload_n 2, 1) := by decide +kernel
theorem dX0_learn_42 : decode cX0_learn 42 = .ok (.invokevirtual 85, 3) := by decide +kernel
theorem dX0_learn_45 : decode cX0_learn 45 = .ok (.iastore, 1) := by decide +kernel
theorem dX0_learn_46 : decode cX0_learn 46 = .ok (.aload_n 0, 1) := by decide +kernel
theorem dX0_learn_47 : decode cX0_learn 47 = .ok (.getfield 11, 3) := by decide +kernel
theorem dX0_learn_50 : decode cX0_learn 50 = .ok (.iconst 4, 1) := by decide +kernel
theorem dX0_learn_51 : decode cX0_learn 51 = .ok (.aload_n 0, 1) := by decide +kernel
theorem dX0_learn_52 : decode cX0_learn 52 = .ok (.getfield 30, 3) := by decide +kernel
theorem dX0_learn_55 : decode cX0_learn 55 = .ok (.iload_n 2, 1) := by decide +kernel
theorem dX0_learn_56 : decode cX0_learn 56 = .ok (.aload_n 1, 1) := by decide +kernel
theorem dX0_learn_57 : decode cX0_learn 57 = .ok (.iload_n 3, 1) := by decide +kernel
theorem dX0_learn_58 : decode cX0_learn 58 = .ok (.invokevirtual 88, 3) := by decide +kernel
theorem dX0_learn_61 : decode cX0_learn 61 = .ok (.invokevirtual 91, 3) := by decide +kernel
theorem dX0_learn_64 : decode cX0_learn 64 = .ok (.iastore, 1) := by decide +kernel
theorem dX0_learn_65 : decode cX0_learn 65 = .ok (.return_, 1) := by decide +kernel
theorem dX0_pull_0 : decode cX0_pull 0 = .ok (.aload_n 0, 1) := by decide +kernel
theorem dX0_pull_1 : decode cX0_pull 1 = .ok (.aload_n 2, 1) := by decide +kernel
theorem dX0_pull_2 : decode cX0_pull 2 = .ok (.iload_n 3, 1) := by decide +kernel
theorem dX0_pull_3 : decode cX0_pull 3 = .ok (.iload 4, 2) := by decide +kernel
theorem dX0_pull_5 : decode cX0_pull 5 = .ok (.invokevirtual 95, 3) := by decide +kernel
theorem dX0_pull_8 : decode cX0_pull 8 = .ok (.aload_n 1, 1) := by decide +kernel
theorem dX0_pull_9 : decode cX0_pull 9 = .ok (.aload_n 0, 1) := by decide +kernel
theorem dX0_pull_10 : decode cX0_pull 10 = .ok (.getfield 11, 3) := by decide +kernel
theorem dX0_pull_13 : decode cX0_pull 13 = .ok (.invokevirtual 99, 3) := by decide +kernel
theorem dX0_pull_16 : decode cX0_pull 16 = .ok (.ifCond .eq 29, 3) := by decide +kernel
theorem dX0_pull_19 : decode cX0_pull 19 = .ok (.aload_n 2, 1) := by decide +kernel
theorem dX0_pull_20 : decode cX0_pull 20 = .ok (.iload_n 3, 1) := by decide +kernel
theorem dX0_pull_21 : decode cX0_pull 21 = .ok (.invokevirtual 103, 3) := by decide +kernel
theorem dX0_pull_24 : decode cX0_pull 24 = .ok (.aload_n 0, 1) := by decide +kernel
theorem dX0_pull_25 : decode cX0_pull 25 = .ok (.getfield 11, 3) := by decide +kernel
theorem dX0_pull_28 : decode cX0_pull 28 = .ok (.iconst 5, 1) := by decide +kernel
theorem dX0_pull_29 : decode cX0_pull 29 = .ok (.dup2, 1) := by decide +kernel
theorem dX0_pull_30 : decode cX0_pull 30 = .ok (.iaload, 1) := by decide +kernel
theorem dX0_pull_31 : decode cX0_pull 31 = .ok (.iconst 1, 1) := by decide +kernel
theorem dX0_pull_32 : decode cX0_pull 32 = .ok (.isub, 1) := by decide +kernel
theorem dX0_pull_33 : decode cX0_pull 33 = .ok (.iastore, 1) := by decide +kernel
theorem dX0_pull_34 : decode cX0_pull 34 = .ok (.aload_n 0, 1) := by decide +kernel
theorem dX0_pull_35 : decode cX0_pull 35 = .ok (.dup, 1) := by decide +kernel
theorem dX0_pull_36 : decode cX0_pull 36 = .ok (.getfield 27, 3) := by decide +kernel
theorem dX0_pull_39 : decode cX0_pull 39 = .ok (.iconst 1, 1) := by decide +kernel
theorem dX0_pull_40 : decode cX0_pull 40 = .ok (.iadd, 1) := by decide +kernel
theorem dX0_pull_41 : decode cX0_pull 41 = .ok (.putfield 27, 3) := by decide +kernel
theorem dX0_pull_44 : decode cX0_pull 44 = .ok (.return_, 1) := by decide +kernel
theorem dX0_pull_45 : decode cX0_pull 45 = .ok (.aload_n 1, 1) := by decide +kernel
theorem dX0_pull_46 : decode cX0_pull 46 = .ok (.bipush 112, 2) := by decide +kernel
theorem dX0_pull_48 : decode cX0_pull 48 = .ok (.aload_n 0, 1) := by decide +kernel
theorem dX0_pull_49 : decode cX0_pull 49 = .ok (.getfield 11, 3) := by decide +kernel
theorem dX0_pull_52 : decode cX0_pull 52 = .ok (.invokevirtual 107, 3) := by decide +kernel
theorem dX0_pull_55 : decode cX0_pull 55 = .ok (.istore 5, 2) := by decide +kernel
theorem dX0_pull_57 : decode cX0_pull 57 = .ok (.aload_n 0, 1) := by decide +kernel
theorem dX0_pull_58 : decode cX0_pull 58 = .ok (.dup, 1) := by decide +kernel
theorem dX0_pull_59 : decode cX0_pull 59 = .ok (.getfield 20, 3) := by decide +kernel
theorem dX0_pull_62 : decode cX0_pull 62 = .ok (.iload 5, 2) := by decide +kernel
theorem dX0_pull_64 : decode cX0_pull 64 = .ok (.aload_n 0, 1) := by decide +kernel
theorem dX0_pull_65 : decode cX0_pull 65 = .ok (.getfield 30, 3) := by decide +kernel
theorem dX0_pull_68 : decode cX0_pull 68 = .ok (.iload_n 3, 1) := by decide +kernel
theorem dX0_pull_69 : decode cX0_pull 69 = .ok (.aload_n 2, 1) := by decide +kernel
theorem dX0_pull_70 : decode cX0_pull 70 = .ok (.iload 4, 2) := by decide +kernel
theorem dX0_pull_72 : decode cX0_pull 72 = .ok (.invokevirtual 88, 3) := by decide +kernel
theorem dX0_pull_75 : decode cX0_pull 75 = .ok (.invokevirtual 111, 3) := by decide +kernel
theorem dX0_pull_78 : decode cX0_pull 78 = .ok (.imul, 1) := by decide +kernel
theorem dX0_pull_79 : decode cX0_pull 79 = .ok (.iadd, 1) := by decide +kernel
theorem dX0_pull_80 : decode cX0_pull 80 = .ok (.putfield 20, 3) := by decide +kernel
theorem dX0_pull_83 : decode cX0_pull 83 = .ok (.aload_n 0, 1) := by decide +kernel
theorem dX0_pull_84 : decode cX0_pull 84 = .ok (.dup, 1) := by decide +kernel
theorem dX0_pull_85 : decode cX0_pull 85 = .ok (.getfield 24, 3) := by decide +kernel
theorem dX0_pull_88 : decode cX0_pull 88 = .ok (.iload 5, 2) := by decide +kernel
theorem dX0_pull_90 : decode cX0_pull 90 = .ok (.aload_n 0, 1) := by decide +kernel
theorem dX0_pull_91 : decode cX0_pull 91 = .ok (.getfield 30, 3) := by decide +kernel
theorem dX0_pull_94 : decode cX0_pull 94 = .ok (.iload_n 3, 1) := by decide +kernel
theorem dX0_pull_95 : decode cX0_pull 95 = .ok (.aload_n 2, 1) := by decide +kernel
theorem dX0_pull_96 : decode cX0_pull 96 = .ok (.iload 4, 2) := by decide +kernel
theorem dX0_pull_98 : decode cX0_pull 98 = .ok (.invokevirtual 88, 3) := by decide +kernel
theorem dX0_pull_101 : decode cX0_pull 101 = .ok (.invokevirtual 114, 3) := by decide +kernel
theorem dX0_pull_104 : decode cX0_pull 104 = .ok (.imul, 1) := by decide +kernel
theorem dX0_pull_105 : decode cX0_pull 105 = .ok (.iadd, 1) := by decide +kernel
theorem dX0_pull_106 : decode cX0_pull 106 = .ok (.putfield 24, 3) := by decide +kernel
theorem dX0_pull_109 : decode cX0_pull 109 = .ok (.iload_n 3, 1) := by decide +kernel
theorem dX0_pull_110 : decode cX0_pull 110 = .ok (.iconst 0, 1) := by decide +kernel
theorem dX0_pull_111 : decode cX0_pull 111 = .ok (.bipush 47, 2) := by decide +kernel
theorem dX0_pull_113 : decode cX0_pull 113 = .ok (.invokestatic 117, 3) := by decide +kernel
theorem dX0_pull_116 : decode cX0_pull 116 = .ok (.ifCond .eq 19, 3) := by decide +kernel
theorem dX0_pull_119 : decode cX0_pull 119 = .ok (.aload_n 0, 1) := by decide +kernel
theorem dX0_pull_120 : decode cX0_pull 120 = .ok (.getfield 17, 3) := by decide +kernel
theorem dX0_pull_123 : decode cX0_pull 123 = .ok (.iload_n 3, 1) := by decide +kernel
theorem dX0_pull_124 : decode cX0_pull 124 = .ok (.aload_n 1, 1) := by decide +kernel
theorem dX0_pull_125 : decode cX0_pull 125 = .ok (.bipush 104, 2) := by decide +kernel
theorem dX0_pull_127 : decode cX0_pull 127 = .ok (.aload_n 0, 1) := by decide +kernel
theorem dX0_pull_128 : decode cX0_pull 128 = .ok (.getfield 11, 3) := by decide +kernel
theorem dX0_pull_131 : decode cX0_pull 131 = .ok (.invokevirtual 107, 3) := by decide +kernel
theorem dX0_pull_134 : decode cX0_pull 134 = .ok (.iastore, 1) := by decide +kernel
theorem dX0_pull_135 : decode cX0_pull 135 = .ok (.return_, 1) := by decide +kernel
theorem dX0_step_0 : decode cX0_step 0 = .ok (.aload_n 1, 1) := by decide +kernel
theorem dX0_step_1 : decode cX0_step 1 = .ok (.iload_n 2, 1) := by decide +kernel
theorem dX0_step_2 : decode cX0_step 2 = .ok (.invokevirtual 121, 3) := by decide +kernel
theorem dX0_step_5 : decode cX0_step 5 = .ok (.ifCond .eq 7, 3) := by decide +kernel
theorem dX0_step_8 : decode cX0_step 8 = .ok (.iconst 0, 1) := by decide +kernel
theorem dX0_step_9 : decode cX0_step 9 = .ok (.goto 19, 3) := by decide +kernel
theorem dX0_step_12 : decode cX0_step 12 = .ok (.aload_n 0, 1) := by decide +kernel
theorem dX0_step_13 : decode cX0_step 13 = .ok (.getfield 20, 3) := by decide +kernel
theorem dX0_step_16 : decode cX0_step 16 = .ok (.aload_n 0, 1) := by decide +kernel
theorem dX0_step_17 : decode cX0_step 17 = .ok (.getfield 24, 3) := by decide +kernel
theorem dX0_step_20 : decode cX0_step 20 = .ok (.aload_n 1, 1) := by decide +kernel
theorem dX0_step_21 : decode cX0_step 21 = .ok (.iload_n 2, 1) := by decide +kernel
theorem dX0_step_22 : decode cX0_step 22 = .ok (.invokevirtual 124, 3) := by decide +kernel
theorem dX0_step_25 : decode cX0_step 25 = .ok (.invokestatic 127, 3) := by decide +kernel
theorem dX0_step_28 : decode cX0_step 28 = .ok (.istore_n 3, 1) := by decide +kernel
theorem dX0_step_29 : decode cX0_step 29 = .ok (.iload_n 3, 1) := by decide +kernel
theorem dX0_step_30 : decode cX0_step 30 = .ok (.ifCond .ne 5, 3) := by decide +kernel
theorem dX0_step_33 : decode cX0_step 33 = .ok (.iconst 0, 1) := by decide +kernel
theorem dX0_step_34 : decode cX0_step 34 = .ok (.ireturn, 1) := by decide +kernel
theorem dX0_step_35 : decode cX0_step 35 = .ok (.aload_n 1, 1) := by decide +kernel
theorem dX0_step_36 : decode cX0_step 36 = .ok (.iload_n 2, 1) := by decide +kernel
theorem dX0_step_37 : decode cX0_step 37 = .ok (.invokevirtual 88, 3) := by decide +kernel
theorem dX0_step_40 : decode cX0_step 40 = .ok (.iload_n 3, 1) := by decide +kernel
theorem dX0_step_41 : decode cX0_step 41 = .ok (.invokestatic 131, 3) := by decide +kernel
theorem dX0_step_44 : decode cX0_step 44 = .ok (.istore 4, 2) := by decide +kernel
theorem dX0_step_46 : decode cX0_step 46 = .ok (.iload 4, 2) := by decide +kernel
theorem dX0_step_48 : decode cX0_step 48 = .ok (.invokestatic 134, 3) := by decide +kernel
theorem dX0_step_51 : decode cX0_step 51 = .ok (.ifCond .eq 15, 3) := by decide +kernel
theorem dX0_step_54 : decode cX0_step 54 = .ok (.aload_n 0, 1) := by decide +kernel
theorem dX0_step_55 : decode cX0_step 55 = .ok (.getfield 30, 3) := by decide +kernel
theorem dX0_step_58 : decode cX0_step 58 = .ok (.iload 4, 2) := by decide +kernel
theorem dX0_step_60 : decode cX0_step 60 = .ok (.invokevirtual 137, 3) := by decide +kernel
theorem dX0_step_63 : decode cX0_step 63 = .ok (.ifCond .eq 10, 3) := by decide +kernel
theorem dX0_step_66 : decode cX0_step 66 = .ok (.aload_n 1, 1) := by decide +kernel
theorem dX0_step_67 : decode cX0_step 67 = .ok (.iload_n 2, 1) := by decide +kernel
theorem dX0_step_68 : decode cX0_step 68 = .ok (.invokevirtual 140, 3) := by decide +kernel
theorem dX0_step_71 : decode cX0_step 71 = .ok (.iconst 0, 1) := by decide +kernel
theorem dX0_step_72 : decode cX0_step 72 = .ok (.ireturn, 1) := by decide +kernel
theorem dX0_step_73 : decode cX0_step 73 = .ok (.aload_n 1, 1) := by decide +kernel
theorem dX0_step_74 : decode cX0_step 74 = .ok (.iload_n 2, 1) := by decide +kernel
theorem dX0_step_75 : decode cX0_step 75 = .ok (.iload 4, 2) := by decide +kernel
theorem dX0_step_77 : decode cX0_step 77 = .ok (.invokevirtual 143, 3) := by decide +kernel
theorem dX0_step_80 : decode cX0_step 80 = .ok (.iconst 1, 1) := by decide +kernel
theorem dX0_step_81 : decode cX0_step 81 = .ok (.ireturn, 1) := by decide +kernel
theorem dX1_init_0 : decode cX1_init 0 = .ok (.aload_n 0, 1) := by decide +kernel
theorem dX1_init_1 : decode cX1_init 1 = .ok (.invokespecial 3, 3) := by decide +kernel
theorem dX1_init_4 : decode cX1_init 4 = .ok (.aload_n 0, 1) := by decide +kernel
theorem dX1_init_5 : decode cX1_init 5 = .ok (.bipush 9, 2) := by decide +kernel
theorem dX1_init_7 : decode cX1_init 7 = .ok (.newarray .int, 2) := by decide +kernel
theorem dX1_init_9 : decode cX1_init 9 = .ok (.putfield 11, 3) := by decide +kernel
theorem dX1_init_12 : decode cX1_init 12 = .ok (.aload_n 0, 1) := by decide +kernel
theorem dX1_init_13 : decode cX1_init 13 = .ok (.iconst 0, 1) := by decide +kernel
theorem dX1_init_14 : decode cX1_init 14 = .ok (.putfield 15, 3) := by decide +kernel
theorem dX1_init_17 : decode cX1_init 17 = .ok (.aload_n 0, 1) := by decide +kernel
theorem dX1_init_18 : decode cX1_init 18 = .ok (.iconst 0, 1) := by decide +kernel
theorem dX1_init_19 : decode cX1_init 19 = .ok (.putfield 19, 3) := by decide +kernel
theorem dX1_init_22 : decode cX1_init 22 = .ok (.aload_n 0, 1) := by decide +kernel
theorem dX1_init_23 : decode cX1_init 23 = .ok (.iconst 0, 1) := by decide +kernel
theorem dX1_init_24 : decode cX1_init 24 = .ok (.putfield 22, 3) := by decide +kernel
theorem dX1_init_27 : decode cX1_init 27 = .ok (.aload_n 0, 1) := by decide +kernel
theorem dX1_init_28 : decode cX1_init 28 = .ok (.aload_n 1, 1) := by decide +kernel
theorem dX1_init_29 : decode cX1_init 29 = .ok (.putfield 25, 3) := by decide +kernel
theorem dX1_init_32 : decode cX1_init 32 = .ok (.return_, 1) := by decide +kernel
theorem dX1_gather_0 : decode cX1_gather 0 = .ok (.aload_n 0, 1) := by decide +kernel
theorem dX1_gather_1 : decode cX1_gather 1 = .ok (.iconst 0, 1) := by decide +kernel
theorem dX1_gather_2 : decode cX1_gather 2 = .ok (.putfield 15, 3) := by decide +kernel
theorem dX1_gather_5 : decode cX1_gather 5 = .ok (.iconst 0, 1) := by decide +kernel
theorem dX1_gather_6 : decode cX1_gather 6 = .ok (.istore_n 3, 1) := by decide +kernel
theorem dX1_gather_7 : decode cX1_gather 7 = .ok (.iload_n 3, 1) := by decide +kernel
theorem dX1_gather_8 : decode cX1_gather 8 = .ok (.iload_n 2, 1) := by decide +kernel
theorem dX1_gather_9 : decode cX1_gather 9 = .ok (.if_icmp .ge 54, 3) := by decide +kernel
theorem dX1_gather_12 : decode cX1_gather 12 = .ok (.iload_n 3, 1) := by decide +kernel
theorem dX1_gather_13 : decode cX1_gather 13 = .ok (.bipush 9, 2) := by decide +kernel
theorem dX1_gather_15 : decode cX1_gather 15 = .ok (.if_icmp .ge 48, 3) := by decide +kernel
theorem dX1_gather_18 : decode cX1_gather 18 = .ok (.aload_n 1, 1) := by decide +kernel
theorem dX1_gather_19 : decode cX1_gather 19 = .ok (.iload_n 3, 1) := by decide +kernel
theorem dX1_gather_20 : decode cX1_gather 20 = .ok (.invokevirtual 29, 3) := by decide +kernel
theorem dX1_gather_23 : decode cX1_gather 23 = .ok (.istore 4, 2) := by decide +kernel
theorem dX1_gather_25 : decode cX1_gather 25 = .ok (.aload_n 0, 1) := by decide +kernel
theorem dX1_gather_26 : decode cX1_gather 26 = .ok (.getfield 25, 3) := by decide +kernel
theorem dX1_gather_29 : decode cX1_gather 29 = .ok (.iload 4, 2) := by decide +kernel
theorem dX1_gather_31 : decode cX1_gather 31 = .ok (.invokevirtual 35, 3) := by decide +kernel
theorem dX1_gather_34 : decode cX1_gather 34 = .ok (.ifCond .ne 5, 3) := by decide +kernel
theorem dX1_gather_37 : decode cX1_gather 37 = .ok (.iconst 0, 1) := by decide +kernel
theorem dX1_gather_38 : decode cX1_gather 38 = .ok (.ireturn, 1) := by decide +kernel
theorem dX1_gather_39 : decode cX1_gather 39 = .ok (.aload_n 0, 1) := by decide +kernel
theorem dX1_gather_40 : decode cX1_gather 40 = .ok (.getfield 11, 3) := by decide +kernel
theorem dX1_gather_43 : decode cX1_gather 43 = .ok (.iload_n 3, 1) := by decide +kernel
theorem dX1_gather_44 : decode cX1_gather 44 = .ok (.iload 4, 2) := by decide +kernel
theorem dX1_gather_46 : decode cX1_gather 46 = .ok (.iastore, 1) := by decide +kernel
theorem dX1_gather_47 : decode cX1_gather 47 = .ok (.aload_n 0, 1) := by decide +kernel
theorem dX1_gather_48 : decode cX1_gather 48 = .ok (.dup, 1) := by decide +kernel
theorem dX1_gather_49 : decode cX1_gather 49 = .ok (.getfield 15, 3) := by decide +kernel
theorem dX1_gather_52 : decode cX1_gather 52 = .ok (.iconst 1, 1) := by decide +kernel
theorem dX1_gather_53 : decode cX1_gather 53 = .ok (.iadd, 1) := by decide +kernel
theorem dX1_gather_54 : decode cX1_gather 54 = .ok (.putfield 15, 3) := by decide +kernel
theorem dX1_gather_57 : decode cX1_gather 57 = .ok (.iinc 3 1, 3) := by decide +kernel
theorem dX1_gather_60 : decode cX1_gather 60 = .ok (.goto (-53), 3) := by decide +kernel
theorem dX1_gather_63 : decode cX1_gather 63 = .ok (.iconst 1, 1) := by decide +kernel
theorem dX1_gather_64 : decode cX1_gather 64 = .ok (.ireturn, 1) := by decide +kernel
theorem dX1_pullTogether_0 : decode cX1_pullTogether 0 = .ok (.aload_n 0, 1) := by decide +kernel
theorem dX1_pullTogether_1 : decode cX1_pullTogether 1 = .ok (.iconst 0, 1) := by decide +kernel
theorem dX1_pullTogether_2 : decode cX1_pullTogether 2 = .ok (.putfield 19, 3) := by decide +kernel
theorem dX1_pullTogether_5 : decode cX1_pullTogether 5 = .ok (.aload_n 0, 1) := by decide +kernel
theorem dX1_pullTogether_6 : decode cX1_pullTogether 6 = .ok (.iconst 0, 1) := by decide +kernel
theorem dX1_pullTogether_7 : decode cX1_pullTogether 7 = .ok (.putfield 22, 3) := by decide +kernel
theorem dX1_pullTogether_10 : decode cX1_pullTogether 10 = .ok (.iconst 0, 1) := by decide +kernel
theorem dX1_pullTogether_11 : decode cX1_pullTogether 11 = .ok (.istore_n 3, 1) := by decide +kernel
theorem dX1_pullTogether_12 : decode cX1_pullTogether 12 = .ok (.iload_n 3, 1) := by decide +kernel
theorem dX1_pullTogether_13 : decode cX1_pullTogether 13 = .ok (.aload_n 0, 1) := by decide +kernel
theorem dX1_pullTogether_14 : decode cX1_pullTogether 14 = .ok (.getfield 15, 3) := by decide +kernel
theorem dX1_pullTogether_17 : decode cX1_pullTogether 17 = .ok (.if_icmp .ge 90, 3) := by decide +kernel
theorem dX1_pullTogether_20 : decode cX1_pullTogether 20 = .ok (.iload_n 3, 1) := by decide +kernel
theorem dX1_pullTogether_21 : decode cX1_pullTogether 21 = .ok (.bipush 9, 2) := by decide +kernel
theorem dX1_pullTogether_23 : decode cX1_pullTogether 23 = .ok (.if_icmp .ge 84, 3) := by decide +kernel
theorem dX1_pullTogether_26 : decode cX1_pullTogether 26 = .ok (.iload_n 1, 1) := by decide +kernel
theorem dX1_pullTogether_27 : decode cX1_pullTogether 27 = .ok (.iload_n 3, 1) := by decide +kernel
theorem dX1_pullTogether_28 : decode cX1_pullTogether 28 = .ok (.ishr, 1) := by decide +kernel
theorem dX1_pullTogether_29 : decode cX1_pullTogether 29 = .ok (.iconst 1, 1) := by decide +kernel
theorem dX1_pullTogether_30 : decode cX1_pullTogether 30 = .ok (.iand, 1) := by decide +kernel
theorem dX1_pullTogether_31 : decode cX1_pullTogether 31 = .ok (.iconst 1, 1) := by decide +kernel
theorem dX1_pullTogether_32 : decode cX1_pullTogether 32 = .ok (.if_icmp .ne 69, 3) := by decide +kernel
theorem dX1_pullTogether_35 : decode cX1_pullTogether 35 = .ok (.aload_n 0, 1) := by decide +kernel
theorem dX1_pullTogether_36 : decode cX1_pullTogether 36 = .ok (.getfield 11, 3) := by decide +kernel
theorem dX1_pullTogether_39 : decode cX1_pullTogether 39 = .ok (.iload_n 3, 1) := by decide +kernel
theorem dX1_pullTogether_40 : decode cX1_pullTogether 40 = .ok (.iaload, 1) := by decide +kernel
theorem dX1_pullTogether_41 : decode cX1_pullTogether 41 = .ok (.istore 4, 2) := by decide +kernel
theorem dX1_pullTogether_43 : decode cX1_pullTogether 43 = .ok (.aload_n 0, 1) := by decide +kernel
theorem dX1_pullTogether_44 : decode cX1_pullTogether 44 = .ok (.dup, 1) := by decide +kernel
theorem dX1_pullTogether_45 : decode cX1_pullTogether 45 = .ok (.getfield 19, 3) := by decide +kernel
theorem dX1_pullTogether_48 : decode cX1_pullTogether 48 = .ok (.aload_n 0, 1) := by decide +kernel
theorem dX1_pullTogether_49 : decode cX1_pullTogether 49 = .ok (.getfield 25, 3) := by decide +kernel
theorem dX1_pullTogether_52 : decode cX1_pullTogether 52 = .ok (.iload 4, 2) := by decide +kernel
theorem dX1_pullTogether_54 : decode cX1_pullTogether 54 = .ok (.invokevirtual 41, 3) := by decide +kernel
theorem dX1_pullTogether_57 : decode cX1_pullTogether 57 = .ok (.aload_n 0, 1) := by decide +kernel
theorem dX1_pullTogether_58 : decode cX1_pullTogether 58 = .ok (.getfield 25, 3) := by decide +kernel
theorem dX1_pullTogether_61 : decode cX1_pullTogether 61 = .ok (.iload 4, 2) := by decide +kernel
theorem dX1_pullTogether_63 : decode cX1_pullTogether 63 = .ok (.iload_n 2, 1) := by decide +kernel
theorem dX1_pullTogether_64 : decode cX1_pullTogether 64 = .ok (.invokevirtual 44, 3) := by decide +kernel
theorem dX1_pullTogether_67 : decode cX1_pullTogether 67 = .ok (.imul, 1) := by decide +kernel
theorem dX1_pullTogether_68 : decode cX1_pullTogether 68 = .ok (.iadd, 1) := by decide +kernel
theorem dX1_pullTogether_69 : decode cX1_pullTogether 69 = .ok (.putfield 19, 3) := by decide +kernel
theorem dX1_pullTogether_72 : decode cX1_pullTogether 72 = .ok (.aload_n 0, 1) := by decide +kernel
theorem dX1_pullTogether_73 : decode cX1_pullTogether 73 = .ok (.dup, 1) := by decide +kernel
theorem dX1_pullTogether_74 : decode cX1_pullTogether 74 = .ok (.getfield 22, 3) := by decide +kernel
theorem dX1_pullTogether_77 : decode cX1_pullTogether 77 = .ok (.aload_n 0, 1) := by decide +kernel
theorem dX1_pullTogether_78 : decode cX1_pullTogether 78 = .ok (.getfield 25, 3) := by decide +kernel
theorem dX1_pullTogether_81 : decode cX1_pullTogether 81 = .ok (.iload 4, 2) := by decide +kernel
theorem dX1_pullTogether_83 : decode cX1_pullTogether 83 = .ok (.invokevirtual 41, 3) := by decide +kernel
theorem dX1_pullTogether_86 : decode cX1_pullTogether 86 = .ok (.aload_n 0, 1) := by decide +kernel
theorem dX1_pullTogether_87 : decode cX1_pullTogether 87 = .ok (.getfield 25, 3) := by decide +kernel
theorem dX1_pullTogether_90 : decode cX1_pullTogether 90 = .ok (.iload 4, 2) := by decide +kernel
theorem dX1_pullTogether_92 : decode cX1_pullTogether 92 = .ok (.iload_n 2, 1) := by decide +kernel
theorem dX1_pullTogether_93 : decode cX1_pullTogether 93 = .ok (.invokevirtual 48, 3) := by decide +kernel
theorem dX1_pullTogether_96 : decode cX1_pullTogether 96 = .ok (.imul, 1) := by decide +kernel
theorem dX1_pullTogether_97 : decode cX1_pullTogether 97 = .ok (.iadd, 1) := by decide +kernel
theorem dX1_pullTogether_98 : decode cX1_pullTogether 98 = .ok (.putfield 22, 3) := by decide +kernel
theorem dX1_pullTogether_101 : decode cX1_pullTogether 101 = .ok (.iinc 3 1, 3) := by decide +kernel
theorem dX1_pullTogether_104 : decode cX1_pullTogether 104 = .ok (.goto (-92), 3) := by decide +kernel
theorem dX1_pullTogether_107 : decode cX1_pullTogether 107 = .ok (.return_, 1) := by decide +kernel
theorem dX1_wayFrom_0 : decode cX1_wayFrom 0 = .ok (.aload_n 0, 1) := by decide +kernel
theorem dX1_wayFrom_1 : decode cX1_wayFrom 1 = .ok (.iload_n 1, 1) := by decide +kernel
theorem dX1_wayFrom_2 : decode cX1_wayFrom 2 = .ok (.iload_n 2, 1) := by decide +kernel
theorem dX1_wayFrom_3 : decode cX1_wayFrom 3 = .ok (.invokevirtual 51, 3) := by decide +kernel
theorem dX1_wayFrom_6 : decode cX1_wayFrom 6 = .ok (.aload_n 0, 1) := by decide +kernel
theorem dX1_wayFrom_7 : decode cX1_wayFrom 7 = .ok (.getfield 19, 3) := by decide +kernel
theorem dX1_wayFrom_10 : decode cX1_wayFrom 10 = .ok (.aload_n 0, 1) := by decide +kernel
theorem dX1_wayFrom_11 : decode cX1_wayFrom 11 = .ok (.getfield 22, 3) := by decide +kernel
theorem dX1_wayFrom_14 : decode cX1_wayFrom 14 = .ok (.iconst 0, 1) := by decide +kernel
theorem dX1_wayFrom_15 : decode cX1_wayFrom 15 = .ok (.invokestatic 55, 3) := by decide +kernel
theorem dX1_wayFrom_18 : decode cX1_wayFrom 18 = .ok (.ireturn, 1) := by decide +kernel
theorem dX1_placeBehind_0 : decode cX1_placeBehind 0 = .ok (.iload_n 2, 1) := by decide +kernel
theorem dX1_placeBehind_1 : decode cX1_placeBehind 1 = .ok (.istore 4, 2) := by decide +kernel
theorem dX1_placeBehind_3 : decode cX1_placeBehind 3 = .ok (.iconst 0, 1) := by decide +kernel
theorem dX1_placeBehind_4 : decode cX1_placeBehind 4 = .ok (.istore 5, 2) := by decide +kernel
theorem dX1_placeBehind_6 : decode cX1_placeBehind 6 = .ok (.iload 5, 2) := by decide +kernel
theorem dX1_placeBehind_8 : decode cX1_placeBehind 8 = .ok (.iload_n 3, 1) := by decide +kernel
theorem dX1_placeBehind_9 : decode cX1_placeBehind 9 = .ok (.if_icmp .ge 57, 3) := by decide +kernel
theorem dX1_placeBehind_12 : decode cX1_placeBehind 12 = .ok (.aload_n 0, 1) := by decide +kernel
theorem dX1_placeBehind_13 : decode cX1_placeBehind 13 = .ok (.iload_n 1, 1) := by decide +kernel
theorem dX1_placeBehind_14 : decode cX1_placeBehind 14 = .ok (.iload 4, 2) := by decide +kernel
theorem dX1_placeBehind_16 : decode cX1_placeBehind 16 = .ok (.invokevirtual 59, 3) := by decide +kernel
theorem dX1_placeBehind_19 : decode cX1_placeBehind 19 = .ok (.istore 6, 2) := by decide +kernel
theorem dX1_placeBehind_21 : decode cX1_placeBehind 21 = .ok (.iload 6, 2) := by decide +kernel
theorem dX1_placeBehind_23 : decode cX1_placeBehind 23 = .ok (.ifCond .ne 6, 3) := by decide +kernel
theorem dX1_placeBehind_26 : decode cX1_placeBehind 26 = .ok (.iload 4, 2) := by decide +kernel
theorem dX1_placeBehind_28 : decode cX1_placeBehind 28 = .ok (.ireturn, 1) := by decide +kernel
theorem dX1_placeBehind_29 : decode cX1_placeBehind 29 = .ok (.iload 4, 2) := by decide +kernel
theorem dX1_placeBehind_31 : decode cX1_placeBehind 31 = .ok (.iload 6, 2) := by decide +kernel
theorem dX1_placeBehind_33 : decode cX1_placeBehind 33 = .ok (.invokestatic 62, 3) := by decide +kernel
theorem dX1_placeBehind_36 : decode cX1_placeBehind 36 = .ok (.istore 4, 2) := by decide +kernel
theorem dX1_placeBehind_38 : decode cX1_placeBehind 38 = .ok (.iload 4, 2) := by decide +kernel
theorem dX1_placeBehind_40 : decode cX1_placeBehind 40 = .ok (.invokestatic 65, 3) := by decide +kernel
theorem dX1_placeBehind_43 : decode cX1_placeBehind 43 = .ok (.ifCond .eq 15, 3) := by decide +kernel
theorem dX1_placeBehind_46 : decode cX1_placeBehind 46 = .ok (.aload_n 0, 1) := by decide +kernel
theorem dX1_placeBehind_47 : decode cX1_placeBehind 47 = .ok (.getfield 25, 3) := by decide +kernel
theorem dX1_placeBehind_50 : decode cX1_placeBehind 50 = .ok (.iload 4, 2) := by decide +kernel
theorem dX1_placeBehind_52 : decode cX1_placeBehind 52 = .ok (.invokevirtual 68, 3) := by decide +kernel
theorem dX1_placeBehind_55 : decode cX1_placeBehind 55 = .ok (.ifCond .eq 5, 3) := by decide +kernel
theorem dX1_placeBehind_58 : decode cX1_placeBehind 58 = .ok (.iconst (-1), 1) := by decide +kernel
theorem dX1_placeBehind_59 : decode cX1_placeBehind 59 = .ok (.ireturn, 1) := by decide +kernel
theorem dX1_placeBehind_60 : decode cX1_placeBehind 60 = .ok (.iinc 5 1, 3) := by decide +kernel
theorem dX1_placeBehind_63 : decode cX1_placeBehind 63 = .ok (.goto (-57), 3) := by decide +kernel
theorem dX1_placeBehind_66 : decode cX1_placeBehind 66 = .ok (.iload 4, 2) := by decide +kernel
theorem dX1_placeBehind_68 : decode cX1_placeBehind 68 = .ok (.ireturn, 1) := by decide +kernel
theorem dX1_fewer_0 : decode cX1_fewer 0 = .ok (.iload_n 0, 1) := by decide +kernel
theorem dX1_fewer_1 : decode cX1_fewer 1 = .ok (.bipush (-2), 2) := by decide +kernel
theorem dX1_fewer_3 : decode cX1_fewer 3 = .ok (.if_icmp .eq 14, 3) := by decide +kernel
theorem dX1_fewer_6 : decode cX1_fewer 6 = .ok (.iload_n 1, 1) := by decide +kernel
theorem dX1_fewer_7 : decode cX1_fewer 7 = .ok (.invokestatic 71, 3) := by decide +kernel
theorem dX1_fewer_10 : decode cX1_fewer 10 = .ok (.iload_n 0, 1) := by decide +kernel
theorem dX1_fewer_11 : decode cX1_fewer 11 = .ok (.invokestatic 71, 3) := by decide +kernel
theorem dX1_fewer_14 : decode cX1_fewer 14 = .ok (.if_icmp .ge 7, 3) := by decide +kernel
theorem dX1_fewer_17 : decode cX1_fewer 17 = .ok (.iload_n 1, 1) := by decide +kernel
theorem dX1_fewer_18 : decode cX1_fewer 18 = .ok (.goto 4, 3) := by decide +kernel
theorem dX1_fewer_21 : decode cX1_fewer 21 = .ok (.iload_n 0, 1) := by decide +kernel
theorem dX1_fewer_22 : decode cX1_fewer 22 = .ok (.ireturn, 1) := by decide +kernel
theorem dX1_fewestToBring_0 : decode cX1_fewestToBring 0 = .ok (.bipush (-2), 2) := by decide +kernel
theorem dX1_fewestToBring_2 : decode cX1_fewestToBring 2 = .ok (.istore 4, 2) := by decide +kernel
theorem dX1_fewestToBring_4 : decode cX1_fewestToBring 4 = .ok (.iconst 0, 1) := by decide +kernel
theorem dX1_fewestToBring_5 : decode cX1_fewestToBring 5 = .ok (.istore 5, 2) := by decide +kernel
theorem dX1_fewestToBring_7 : decode cX1_fewestToBring 7 = .ok (.iload 5, 2) := by decide +kernel
theorem dX1_fewestToBring_9 : decode cX1_fewestToBring 9 = .ok (.iconst 1, 1) := by decide +kernel
theorem dX1_fewestToBring_10 : decode cX1_fewestToBring 10 = .ok (.aload_n 0, 1) := by decide +kernel
theorem dX1_fewestToBring_11 : decode cX1_fewestToBring 11 = .ok (.getfield 15, 3) := by decide +kernel
theorem dX1_fewestToBring_14 : decode cX1_fewestToBring 14 = .ok (.ishl, 1) := by decide +kernel
theorem dX1_fewestToBring_15 : decode cX1_fewestToBring 15 = .ok (.if_icmp .ge 30, 3) := by decide +kernel
theorem dX1_fewestToBring_18 : decode cX1_fewestToBring 18 = .ok (.aload_n 0, 1) := by decide +kernel
theorem dX1_fewestToBring_19 : decode cX1_fewestToBring 19 = .ok (.iload 5, 2) := by decide +kernel
theorem dX1_fewestToBring_21 : decode cX1_fewestToBring 21 = .ok (.iload_n 1, 1) := by decide +kernel
theorem dX1_fewestToBring_22 : decode cX1_fewestToBring 22 = .ok (.iload_n 3, 1) := by decide +kernel
theorem dX1_fewestToBring_23 : decode cX1_fewestToBring 23 = .ok (.invokevirtual 76, 3) := by decide +kernel
theorem dX1_fewestToBring_26 : decode cX1_fewestToBring 26 = .ok (.iload_n 2, 1) := by decide +kernel
theorem dX1_fewestToBring_27 : decode cX1_fewestToBring 27 = .ok (.if_icmp .ne 12, 3) := by decide +kernel
theorem dX1_fewestToBring_30 : decode cX1_fewestToBring 30 = .ok (.iload 4, 2) := by decide +kernel
theorem dX1_fewestToBring_32 : decode cX1_fewestToBring 32 = .ok (.iload 5, 2) := by decide +kernel
theorem dX1_fewestToBring_34 : decode cX1_fewestToBring 34 = .ok (.invokestatic 79, 3) := by decide +kernel
theorem dX1_fewestToBring_37 : decode cX1_fewestToBring 37 = .ok (.istore 4, 2) := by decide +kernel
theorem dX1_fewestToBring_39 : decode cX1_fewestToBring 39 = .ok (.iinc 5 1, 3) := by decide +kernel
theorem dX1_fewestToBring_42 : decode cX1_fewestToBring 42 = .ok (.goto (-35), 3) := by decide +kernel
theorem dX1_fewestToBring_45 : decode cX1_fewestToBring 45 = .ok (.iload 4, 2) := by decide +kernel
theorem dX1_fewestToBring_47 : decode cX1_fewestToBring 47 = .ok (.ireturn, 1) := by decide +kernel
theorem dX1_hangs_0 : decode cX1_hangs 0 = .ok (.aload_n 0, 1) := by decide +kernel
theorem dX1_hangs_1 : decode cX1_hangs 1 = .ok (.iload_n 1, 1) := by decide +kernel
theorem dX1_hangs_2 : decode cX1_hangs 2 = .ok (.iload_n 2, 1) := by decide +kernel
theorem dX1_hangs_3 : decode cX1_hangs 3 = .ok (.invokevirtual 51, 3) := by decide +kernel
theorem dX1_hangs_6 : decode cX1_hangs 6 = .ok (.aload_n 0, 1) := by decide +kernel
theorem dX1_hangs_7 : decode cX1_hangs 7 = .ok (.getfield 19, 3) := by decide +kernel
theorem dX1_hangs_10 : decode cX1_hangs 10 = .ok (.ifCond .ne 14, 3) := by decide +kernel
theorem dX1_hangs_13 : decode cX1_hangs 13 = .ok (.aload_n 0, 1) := by decide +kernel
theorem dX1_hangs_14 : decode cX1_hangs 14 = .ok (.getfield 22, 3) := by decide +kernel
theorem dX1_hangs_17 : decode cX1_hangs 17 = .ok (.ifCond .ne 7, 3) := by decide +kernel
theorem dX1_hangs_20 : decode cX1_hangs 20 = .ok (.iconst 1, 1) := by decide +kernel
theorem dX1_hangs_21 : decode cX1_hangs 21 = .ok (.goto 4, 3) := by decide +kernel
theorem dX1_hangs_24 : decode cX1_hangs 24 = .ok (.iconst 0, 1) := by decide +kernel
theorem dX1_hangs_25 : decode cX1_hangs 25 = .ok (.ireturn, 1) := by decide +kernel
theorem dX1_waysToHang_0 : decode cX1_waysToHang 0 = .ok (.iconst 0, 1) := by decide +kernel
theorem dX1_waysToHang_1 : decode cX1_waysToHang 1 = .ok (.istore_n 2, 1) := by decide +kernel
theorem dX1_waysToHang_2 : decode cX1_waysToHang 2 = .ok (.iconst 1, 1) := by decide +kernel
theorem dX1_waysToHang_3 : decode cX1_waysToHang 3 = .ok (.istore_n 3, 1) := by decide +kernel
theorem dX1_waysToHang_4 : decode cX1_waysToHang 4 = .ok (.iload_n 3, 1) := by decide +kernel
theorem dX1_waysToHang_5 : decode cX1_waysToHang 5 = .ok (.iconst 1, 1) := by decide +kernel
theorem dX1_waysToHang_6 : decode cX1_waysToHang 6 = .ok (.aload_n 0, 1) := by decide +kernel
theorem dX1_waysToHang_7 : decode cX1_waysToHang 7 = .ok (.getfield 15, 3) := by decide +kernel
theorem dX1_waysToHang_10 : decode cX1_waysToHang 10 = .ok (.ishl, 1) := by decide +kernel
theorem dX1_waysToHang_11 : decode cX1_waysToHang 11 = .ok (.if_icmp .ge 26, 3) := by decide +kernel
theorem dX1_waysToHang_14 : decode cX1_waysToHang 14 = .ok (.iload_n 2, 1) := by decide +kernel
theorem dX1_waysToHang_15 : decode cX1_waysToHang 15 = .ok (.aload_n 0, 1) := by decide +kernel
theorem dX1_waysToHang_16 : decode cX1_waysToHang 16 = .ok (.iload_n 3, 1) := by decide +kernel
theorem dX1_waysToHang_17 : decode cX1_waysToHang 17 = .ok (.iload_n 1, 1) := by decide +kernel
theorem dX1_waysToHang_18 : decode cX1_waysToHang 18 = .ok (.invokevirtual 82, 3) := by decide +kernel
theorem dX1_waysToHang_21 : decode cX1_waysToHang 21 = .ok (.ifCond .eq 7, 3) := by decide +kernel
theorem dX1_waysToHang_24 : decode cX1_waysToHang 24 = .ok (.iconst 1, 1) := by decide +kernel
theorem dX1_waysToHang_25 : decode cX1_waysToHang 25 = .ok (.goto 4, 3) := by decide +kernel
theorem dX1_waysToHang_28 : decode cX1_waysToHang 28 = .ok (.iconst 0, 1) := by decide +kernel
theorem dX1_waysToHang_29 : decode cX1_waysToHang 29 = .ok (.iadd, 1) := by decide +kernel
theorem dX1_waysToHang_30 : decode cX1_waysToHang 30 = .ok (.istore_n 2, 1) := by decide +kernel
theorem dX1_waysToHang_31 : decode cX1_waysToHang 31 = .ok (.iinc 3 1, 3) := by decide +kernel
theorem dX1_waysToHang_34 : decode cX1_waysToHang 34 = .ok (.goto (-30), 3) := by decide +kernel
theorem dX1_waysToHang_37 : decode cX1_waysToHang 37 = .ok (.iload_n 2, 1) := by decide +kernel
theorem dX1_waysToHang_38 : decode cX1_waysToHang 38 = .ok (.ireturn, 1) := by decide +kernel
theorem dX1_fewestToHang_0 : decode cX1_fewestToHang 0 = .ok (.bipush (-2), 2) := by decide +kernel
theorem dX1_fewestToHang_2 : decode cX1_fewestToHang 2 = .ok (.istore_n 2, 1) := by decide +kernel
theorem dX1_fewestToHang_3 : decode cX1_fewestToHang 3 = .ok (.iconst 1, 1) := by decide +kernel
theorem dX1_fewestToHang_4 : decode cX1_fewestToHang 4 = .ok (.istore_n 3, 1) := by decide +kernel
theorem dX1_fewestToHang_5 : decode cX1_fewestToHang 5 = .ok (.iload_n 3, 1) := by decide +kernel
theorem dX1_fewestToHang_6 : decode cX1_fewestToHang 6 = .ok (.iconst 1, 1) := by decide +kernel
theorem dX1_fewestToHang_7 : decode cX1_fewestToHang 7 = .ok (.aload_n 0, 1) := by decide +kernel
theorem dX1_fewestToHang_8 : decode cX1_fewestToHang 8 = .ok (.getfield 15, 3) := by decide +kernel
theorem dX1_fewestToHang_11 : decode cX1_fewestToHang 11 = .ok (.ishl, 1) := by decide +kernel
theorem dX1_fewestToHang_12 : decode cX1_fewestToHang 12 = .ok (.if_icmp .ge 24, 3) := by decide +kernel
theorem dX1_fewestToHang_15 : decode cX1_fewestToHang 15 = .ok (.aload_n 0, 1) := by decide +kernel
theorem dX1_fewestToHang_16 : decode cX1_fewestToHang 16 = .ok (.iload_n 3, 1) := by decide +kernel
theorem dX1_fewestToHang_17 : decode cX1_fewestToHang 17 = .ok (.iload_n 1, 1) := by decide +kernel
theorem dX1_fewestToHang_18 : decode cX1_fewestToHang 18 = .ok (.invokevirtual 82, 3) := by decide +kernel
theorem dX1_fewestToHang_21 : decode cX1_fewestToHang 21 = .ok (.ifCond .eq 9, 3) := by decide +kernel
theorem dX1_fewestToHang_24 : decode cX1_fewestToHang 24 = .ok (.iload_n 2, 1) := by decide +kernel
theorem dX1_fewestToHang_25 : decode cX1_fewestToHang 25 = .ok (.iload_n 3, 1) := by decide +kernel
theorem dX1_fewestToHang_26 : decode cX1_fewestToHang 26 = .ok (.invokestatic 79, 3) := by decide +kernel
theorem dX1_fewestToHang_29 : decode cX1_fewestToHang 29 = .ok (.istore_n 2, 1) := by decide +kernel
theorem dX1_fewestToHang_30 : decode cX1_fewestToHang 30 = .ok (.iinc 3 1, 3) := by decide +kernel
theorem dX1_fewestToHang_33 : decode cX1_fewestToHang 33 = .ok (.goto (-28), 3) := by decide +kernel
theorem dX1_fewestToHang_36 : decode cX1_fewestToHang 36 = .ok (.iload_n 2, 1) := by decide +kernel
theorem dX1_fewestToHang_37 : decode cX1_fewestToHang 37 = .ok (.ireturn, 1) := by decide +kernel
theorem dX1_fewestFalse_0 : decode cX1_fewestFalse 0 = .ok (.iconst 1, 1) := by decide +kernel
theorem dX1_fewestFalse_1 : decode cX1_fewestFalse 1 = .ok (.aload_n 0, 1) := by decide +kernel
theorem dX1_fewestFalse_2 : decode cX1_fewestFalse 2 = .ok (.getfield 15, 3) := by decide +kernel
theorem dX1_fewestFalse_5 : decode cX1_fewestFalse 5 = .ok (.ishl, 1) := by decide +kernel
theorem dX1_fewestFalse_6 : decode cX1_fewestFalse 6 = .ok (.iconst 1, 1) := by decide +kernel
theorem dX1_fewestFalse_7 : decode cX1_fewestFalse 7 = .ok (.isub, 1) := by decide +kernel
theorem dX1_fewestFalse_8 : decode cX1_fewestFalse 8 = .ok (.istore_n 3, 1) := by decide +kernel
theorem dX1_fewestFalse_9 : decode cX1_fewestFalse 9 = .ok (.bipush (-2), 2) := by decide +kernel
theorem dX1_fewestFalse_11 : decode cX1_fewestFalse 11 = .ok (.istore 4, 2) := by decide +kernel
theorem dX1_fewestFalse_13 : decode cX1_fewestFalse 13 = .ok (.iconst 0, 1) := by decide +kernel
theorem dX1_fewestFalse_14 : decode cX1_fewestFalse 14 = .ok (.istore 5, 2) := by decide +kernel
theorem dX1_fewestFalse_16 : decode cX1_fewestFalse 16 = .ok (.iload 5, 2) := by decide +kernel
theorem dX1_fewestFalse_18 : decode cX1_fewestFalse 18 = .ok (.iload_n 3, 1) := by decide +kernel
theorem dX1_fewestFalse_19 : decode cX1_fewestFalse 19 = .ok (.if_icmp .gt 33, 3) := by decide +kernel
theorem dX1_fewestFalse_22 : decode cX1_fewestFalse 22 = .ok (.aload_n 0, 1) := by decide +kernel
theorem dX1_fewestFalse_23 : decode cX1_fewestFalse 23 = .ok (.iload_n 3, 1) := by decide +kernel
theorem dX1_fewestFalse_24 : decode cX1_fewestFalse 24 = .ok (.iload 5, 2) := by decide +kernel
theorem dX1_fewestFalse_26 : decode cX1_fewestFalse 26 = .ok (.iconst (-1), 1) := by decide +kernel
theorem dX1_fewestFalse_27 : decode cX1_fewestFalse 27 = .ok (.ixor, 1) := by decide +kernel
theorem dX1_fewestFalse_28 : decode cX1_fewestFalse 28 = .ok (.iand, 1) := by decide +kernel
theorem dX1_fewestFalse_29 : decode cX1_fewestFalse 29 = .ok (.iload_n 1, 1) := by decide +kernel
theorem dX1_fewestFalse_30 : decode cX1_fewestFalse 30 = .ok (.invokevirtual 59, 3) := by decide +kernel
theorem dX1_fewestFalse_33 : decode cX1_fewestFalse 33 = .ok (.iload_n 2, 1) := by decide +kernel
theorem dX1_fewestFalse_34 : decode cX1_fewestFalse 34 = .ok (.if_icmp .ne 12, 3) := by decide +kernel
theorem dX1_fewestFalse_37 : decode cX1_fewestFalse 37 = .ok (.iload 4, 2) := by decide +kernel
theorem dX1_fewestFalse_39 : decode cX1_fewestFalse 39 = .ok (.iload 5, 2) := by decide +kernel
theorem dX1_fewestFalse_41 : decode cX1_fewestFalse 41 = .ok (.invokestatic 79, 3) := by decide +kernel
theorem dX1_fewestFalse_44 : decode cX1_fewestFalse 44 = .ok (.istore 4, 2) := by decide +kernel
theorem dX1_fewestFalse_46 : decode cX1_fewestFalse 46 = .ok (.iinc 5 1, 3) := by decide +kernel
theorem dX1_fewestFalse_49 : decode cX1_fewestFalse 49 = .ok (.goto (-33), 3) := by decide +kernel
theorem dX1_fewestFalse_52 : decode cX1_fewestFalse 52 = .ok (.iload 4, 2) := by decide +kernel
theorem dX1_fewestFalse_54 : decode cX1_fewestFalse 54 = .ok (.ireturn, 1) := by decide +kernel
theorem dX2_init_0 : decode cX2_init 0 = .ok (.aload_n 0, 1) := by decide +kernel
theorem dX2_init_1 : decode cX2_init 1 = .ok (.invokespecial 1, 3) := by decide +kernel
theorem dX2_init_4 : decode cX2_init 4 = .ok (.aload_n 0, 1) := by decide +kernel
theorem dX2_init_5 : decode cX2_init 5 = .ok (.bipush 16, 2) := by decide +kernel
theorem dX2_init_7 : decode cX2_init 7 = .ok (.newarray .int, 2) := by decide +kernel
theorem dX2_init_9 : decode cX2_init 9 = .ok (.putfield 9, 3) := by decide +kernel
theorem dX2_init_12 : decode cX2_init 12 = .ok (.aload_n 0, 1) := by decide +kernel
theorem dX2_init_13 : decode cX2_init 13 = .ok (.bipush 16, 2) := by decide +kernel
theorem dX2_init_15 : decode cX2_init 15 = .ok (.newarray .int, 2) := by decide +kernel
theorem dX2_init_17 : decode cX2_init 17 = .ok (.putfield 13, 3) := by decide +kernel
theorem dX2_init_20 : decode cX2_init 20 = .ok (.aload_n 0, 1) := by decide +kernel
theorem dX2_init_21 : decode cX2_init 21 = .ok (.bipush 16, 2) := by decide +kernel
theorem dX2_init_23 : decode cX2_init 23 = .ok (.newarray .int, 2) := by decide +kernel
theorem dX2_init_25 : decode cX2_init 25 = .ok (.putfield 16, 3) := by decide +kernel
theorem dX2_init_28 : decode cX2_init 28 = .ok (.aload_n 0, 1) := by decide +kernel
theorem dX2_init_29 : decode cX2_init 29 = .ok (.sipush 280, 3) := by decide +kernel
theorem dX2_init_32 : decode cX2_init 32 = .ok (.newarray .int, 2) := by decide +kernel
theorem dX2_init_34 : decode cX2_init 34 = .ok (.putfield 19, 3) := by decide +kernel
theorem dX2_init_37 : decode cX2_init 37 = .ok (.aload_n 0, 1) := by decide +kernel
theorem dX2_init_38 : decode cX2_init 38 = .ok (.sipush 280, 3) := by decide +kernel
theorem dX2_init_41 : decode cX2_init 41 = .ok (.newarray .int, 2) := by decide +kernel
theorem dX2_init_43 : decode cX2_init 43 = .ok (.putfield 22, 3) := by decide +kernel
theorem dX2_init_46 : decode cX2_init 46 = .ok (.aload_n 0, 1) := by decide +kernel
theorem dX2_init_47 : decode cX2_init 47 = .ok (.bipush 24, 2) := by decide +kernel
theorem dX2_init_49 : decode cX2_init 49 = .ok (.newarray .int, 2) := by decide +kernel
theorem dX2_init_51 : decode cX2_init 51 = .ok (.putfield 25, 3) := by decide +kernel
theorem dX2_init_54 : decode cX2_init 54 = .ok (.aload_n 0, 1) := by decide +kernel
theorem dX2_init_55 : decode cX2_init 55 = .ok (.iconst 0, 1) := by decide +kernel
theorem dX2_init_56 : decode cX2_init 56 = .ok (.putfield 28, 3) := by decide +kernel
theorem dX2_init_59 : decode cX2_init 59 = .ok (.aload_n 0, 1) := by decide +kernel
theorem dX2_init_60 : decode cX2_init 60 = .ok (.iconst 0, 1) := by decide +kernel
theorem dX2_init_61 : decode cX2_init 61 = .ok (.putfield 32, 3) := by decide +kernel
theorem dX2_init_64 : decode cX2_init 64 = .ok (.aload_n 0, 1) := by decide +kernel
theorem dX2_init_65 : decode cX2_init 65 = .ok (.iconst 0, 1) := by decide +kernel
theorem dX2_init_66 : decode cX2_init 66 = .ok (.putfield 35, 3) := by decide +kernel
theorem dX2_init_69 : decode cX2_init 69 = .ok (.aload_n 0, 1) := by decide +kernel
theorem dX2_init_70 : decode cX2_init 70 = .ok (.iconst 0, 1) := by decide +kernel
theorem dX2_init_71 : decode cX2_init 71 = .ok (.putfield 38, 3) := by decide +kernel
theorem dX2_init_74 : decode cX2_init 74 = .ok (.return_, 1) := by decide +kernel
theorem dX2_size_0 : decode cX2_size 0 = .ok (.aload_n 0, 1) := by decide +kernel
theorem dX2_size_1 : decode cX2_size 1 = .ok (.getfield 28, 3) := by decide +kernel
theorem dX2_size_4 : decode cX2_size 4 = .ok (.ireturn, 1) := by decide +kernel
theorem dX2_clear_0 : decode cX2_clear 0 = .ok (.aload_n 0, 1) := by decide +kernel
theorem dX2_clear_1 : decode cX2_clear 1 = .ok (.iconst 0, 1) := by decide +kernel
theorem dX2_clear_2 : decode cX2_clear 2 = .ok (.putfield 28, 3) := by decide +kernel
theorem dX2_clear_5 : decode cX2_clear 5 = .ok (.aload_n 0, 1) := by decide +kernel
theorem dX2_clear_6 : decode cX2_clear 6 = .ok (.iconst 0, 1) := by decide +kernel
theorem dX2_clear_7 : decode cX2_clear 7 = .ok (.putfield 32, 3) := by decide +kernel
theorem dX2_clear_10 : decode cX2_clear 10 = .ok (.return_, 1) := by decide +kernel
theorem dX2_beginRule_0 : decode cX2_beginRule 0 = .ok (.aload_n 0, 1) := by decide +kernel
theorem dX2_beginRule_1 : decode cX2_beginRule 1 = .ok (.getfield 28, 3) := by decide +kernel
theorem dX2_beginRule_4 : decode cX2_beginRule 4 = .ok (.bipush 16, 2) := by decide +kernel
theorem dX2_beginRule_6 : decode cX2_beginRule 6 = .ok (.if_icmp .ge 49, 3) := by decide +kernel
theorem dX2_beginRule_9 : decode cX2_beginRule 9 = .ok (.aload_n 0, 1) := by decide +kernel
theorem dX2_beginRule_10 : decode cX2_beginRule 10 = .ok (.getfield 9, 3) := by decide +kernel
theorem dX2_beginRule_13 : decode cX2_beginRule 13 = .ok (.aload_n 0, 1) := by decide +kernel
theorem dX2_beginRule_14 : decode cX2_beginRule 14 = .ok (.getfield 28, 3) := by decide +kernel
theorem dX2_beginRule_17 : decode cX2_beginRule 17 = .ok (.iload_n 1, 1) := by decide +kernel
theorem dX2_beginRule_18 : decode cX2_beginRule 18 = .ok (.iastore, 1) := by decide +kernel
theorem dX2_beginRule_19 : decode cX2_beginRule 19 = .ok (.aload_n 0, 1) := by decide +kernel
theorem dX2_beginRule_20 : decode cX2_beginRule 20 = .ok (.getfield 13, 3) := by decide +kernel
theorem dX2_beginRule_23 : decode cX2_beginRule 23 = .ok (.aload_n 0, 1) := by decide +kernel
theorem dX2_beginRule_24 : decode cX2_beginRule 24 = .ok (.getfield 28, 3) := by decide +kernel
theorem dX2_beginRule_27 : decode cX2_beginRule 27 = .ok (.aload_n 0, 1) := by decide +kernel
theorem dX2_beginRule_28 : decode cX2_beginRule 28 = .ok (.getfield 32, 3) := by decide +kernel
theorem dX2_beginRule_31 : decode cX2_beginRule 31 = .ok (.iastore, 1) := by decide +kernel
theorem dX2_beginRule_32 : decode cX2_beginRule 32 = .ok (.aload_n 0, 1) := by decide +kernel
theorem dX2_beginRule_33 : decode cX2_beginRule 33 = .ok (.getfield 16, 3) := by decide +kernel
theorem dX2_beginRule_36 : decode cX2_beginRule 36 = .ok (.aload_n 0, 1) := by decide +kernel
theorem dX2_beginRule_37 : decode cX2_beginRule 37 = .ok (.getfield 28, 3) := by decide +kernel
theorem dX2_beginRule_40 : decode cX2_beginRule 40 = .ok (.aload_n 0, 1) := by decide +kernel
theorem dX2_beginRule_41 : decode cX2_beginRule 41 = .ok (.getfield 32, 3) := by decide +kernel
theorem dX2_beginRule_44 : decode cX2_beginRule 44 = .ok (.iastore, 1) := by decide +kernel
theorem dX2_beginRule_45 : decode cX2_beginRule 45 = .ok (.aload_n 0, 1) := by decide +kernel
theorem dX2_beginRule_46 : decode cX2_beginRule 46 = .ok (.dup, 1) := by decide +kernel
theorem dX2_beginRule_47 : decode cX2_beginRule 47 = .ok (.getfield 28, 3) := by decide +kernel
theorem dX2_beginRule_50 : decode cX2_beginRule 50 = .ok (.iconst 1, 1) := by decide +kernel
theorem dX2_beginRule_51 : decode cX2_beginRule 51 = .ok (.iadd, 1) := by decide +kernel
theorem dX2_beginRule_52 : decode cX2_beginRule 52 = .ok (.putfield 28, 3) := by decide +kernel
theorem dX2_beginRule_55 : decode cX2_beginRule 55 = .ok (.return_, 1) := by decide +kernel
theorem dX2_beginTest_0 : decode cX2_beginTest 0 = .ok (.aload_n 0, 1) := by decide +kernel
theorem dX2_beginTest_1 : decode cX2_beginTest 1 = .ok (.getfield 28, 3) := by decide +kernel
theorem dX2_beginTest_4 : decode cX2_beginTest 4 = .ok (.iconst 1, 1) := by decide +kernel
theorem dX2_beginTest_5 : decode cX2_beginTest 5 = .ok (.bipush 16, 2) := by decide +kernel
theorem dX2_beginTest_7 : decode cX2_beginTest 7 = .ok (.invokestatic 42, 3) := by decide +kernel
theorem dX2_beginTest_10 : decode cX2_beginTest 10 = .ok (.ifCond .eq 18, 3) := by decide +kernel
theorem dX2_beginTest_13 : decode cX2_beginTest 13 = .ok (.aload_n 0, 1) := by decide +kernel
theorem dX2_beginTest_14 : decode cX2_beginTest 14 = .ok (.getfield 16, 3) := by decide +kernel
theorem dX2_beginTest_17 : decode cX2_beginTest 17 = .ok (.aload_n 0, 1) := by decide +kernel
theorem dX2_beginTest_18 : decode cX2_beginTest 18 = .ok (.getfield 28, 3) := by decide +kernel
theorem dX2_beginTest_21 : decode cX2_beginTest 21 = .ok (.iconst 1, 1) := by decide +kernel
theorem dX2_beginTest_22 : decode cX2_beginTest 22 = .ok (.isub, 1) := by decide +kernel
theorem dX2_beginTest_23 : decode cX2_beginTest 23 = .ok (.aload_n 0, 1) := by decide +kernel
theorem dX2_beginTest_24 : decode cX2_beginTest 24 = .ok (.getfield 32, 3) := by decide +kernel
theorem dX2_beginTest_27 : decode cX2_beginTest 27 = .ok (.iastore, 1) := by decide +kernel
theorem dX2_beginTest_28 : decode cX2_beginTest 28 = .ok (.return_, 1) := by decide +kernel
theorem dX2_write_0 : decode cX2_write 0 = .ok (.aload_n 0, 1) := by decide +kernel
theorem dX2_write_1 : decode cX2_write 1 = .ok (.getfield 32, 3) := by decide +kernel
theorem dX2_write_4 : decode cX2_write 4 = .ok (.istore_n 3, 1) := by decide +kernel
theorem dX2_write_5 : decode cX2_write 5 = .ok (.iload_n 3, 1) := by decide +kernel
theorem dX2_write_6 : decode cX2_write 6 = .ok (.sipush 280, 3) := by decide +kernel
theorem dX2_write_9 : decode cX2_write 9 = .ok (.if_icmp .ge 27, 3) := by decide +kernel
theorem dX2_write_12 : decode cX2_write 12 = .ok (.aload_n 0, 1) := by decide +kernel
theorem dX2_write_13 : decode cX2_write 13 = .ok (.getfield 19, 3) := by decide +kernel
theorem dX2_write_16 : decode cX2_write 16 = .ok (.iload_n 3, 1) := by decide +kernel
theorem dX2_write_17 : decode cX2_write 17 = .ok (.iload_n 1, 1) := by decide +kernel
theorem dX2_write_18 : decode cX2_write 18 = .ok (.iastore, 1) := by decide +kernel
theorem dX2_write_19 : decode cX2_write 19 = .ok (.aload_n 0, 1) := by decide +kernel
theorem dX2_write_20 : decode cX2_write 20 = .ok (.getfield 22, 3) := by decide +kernel
theorem dX2_write_23 : decode cX2_write 23 = .ok (.iload_n 3, 1) := by decide +kernel
theorem dX2_write_24 : decode cX2_write 24 = .ok (.iload_n 2, 1) := by decide +kernel
theorem dX2_write_25 : decode cX2_write 25 = .ok (.iastore, 1) := by decide +kernel
theorem dX2_write_26 : decode cX2_write 26 = .ok (.aload_n 0, 1) := by decide +kernel
theorem dX2_write_27 : decode cX2_write 27 = .ok (.dup, 1) := by decide +kernel
theorem dX2_write_28 : decode cX2_write 28 = .ok (.getfield 32, 3) := by decide +kernel
theorem dX2_write_31 : decode cX2_write 31 = .ok (.iconst 1, 1) := by decide +kernel
theorem dX2_write_32 : decode cX2_write 32 = .ok (.iadd, 1) := by decide +kernel
theorem dX2_write_33 : decode cX2_write 33 = .ok (.putfield 32, 3) := by decide +kernel
theorem dX2_write_36 : decode cX2_write 36 = .ok (.iload_n 3, 1) := by decide +kernel
theorem dX2_write_37 : decode cX2_write 37 = .ok (.ireturn, 1) := by decide +kernel
theorem dX2_landHere_0 : decode cX2_landHere 0 = .ok (.iload_n 1, 1) := by decide +kernel
theorem dX2_landHere_1 : decode cX2_landHere 1 = .ok (.iconst 0, 1) := by decide +kernel
theorem dX2_landHere_2 : decode cX2_landHere 2 = .ok (.sipush 279, 3) := by decide +kernel
theorem dX2_landHere_5 : decode cX2_landHere 5 = .ok (.invokestatic 42, 3) := by decide +kernel
theorem dX2_landHere_8 : decode cX2_landHere 8 = .ok (.ifCond .eq 13, 3) := by decide +kernel
theorem dX2_landHere_11 : decode cX2_landHere 11 = .ok (.aload_n 0, 1) := by decide +kernel
theorem dX2_landHere_12 : decode cX2_landHere 12 = .ok (.getfield 22, 3) := by decide +kernel
theorem dX2_landHere_15 : decode cX2_landHere 15 = .ok (.iload_n 1, 1) := by decide +kernel
theorem dX2_landHere_16 : decode cX2_landHere 16 = .ok (.aload_n 0, 1) := by decide +kernel
theorem dX2_landHere_17 : decode cX2_landHere 17 = .ok (.getfield 32, 3) := by decide +kernel
theorem dX2_landHere_20 : decode cX2_landHere 20 = .ok (.iastore, 1) := by decide +kernel
theorem dX2_landHere_21 : decode cX2_landHere 21 = .ok (.return_, 1) := by decide +kernel
theorem dX2_letsFall_0 : decode cX2_letsFall 0 = .ok (.iconst 0, 1) := by decide +kernel
theorem dX2_letsFall_1 : decode cX2_letsFall 1 = .ok (.istore_n 2, 1) := by decide +kernel
theorem dX2_letsFall_2 : decode cX2_letsFall 2 = .ok (.iload_n 2, 1) := by decide +kernel
theorem dX2_letsFall_3 : decode cX2_letsFall 3 = .ok (.aload_n 0, 1) := by decide +kernel
theorem dX2_letsFall_4 : decode cX2_letsFall 4 = .ok (.getfield 28, 3) := by decide +kernel
theorem dX2_letsFall_7 : decode cX2_letsFall 7 = .ok (.if_icmp .ge 42, 3) := by decide +kernel
theorem dX2_letsFall_10 : decode cX2_letsFall 10 = .ok (.iload_n 2, 1) := by decide +kernel
theorem dX2_letsFall_11 : decode cX2_letsFall 11 = .ok (.bipush 16, 2) := by decide +kernel
theorem dX2_letsFall_13 : decode cX2_letsFall 13 = .ok (.if_icmp .ge 36, 3) := by decide +kernel
theorem dX2_letsFall_16 : decode cX2_letsFall 16 = .ok (.aload_n 0, 1) := by decide +kernel
theorem dX2_letsFall_17 : decode cX2_letsFall 17 = .ok (.getfield 9, 3) := by decide +kernel
theorem dX2_letsFall_20 : decode cX2_letsFall 20 = .ok (.iload_n 2, 1) := by decide +kernel
theorem dX2_letsFall_21 : decode cX2_letsFall 21 = .ok (.iaload, 1) := by decide +kernel
theorem dX2_letsFall_22 : decode cX2_letsFall 22 = .ok (.bipush 120, 2) := by decide +kernel
theorem dX2_letsFall_24 : decode cX2_letsFall 24 = .ok (.if_icmp .ne 19, 3) := by decide +kernel
theorem dX2_letsFall_27 : decode cX2_letsFall 27 = .ok (.aload_n 0, 1) := by decide +kernel
theorem dX2_letsFall_28 : decode cX2_letsFall 28 = .ok (.aload_n 0, 1) := by decide +kernel
theorem dX2_letsFall_29 : decode cX2_letsFall 29 = .ok (.getfield 16, 3) := by decide +kernel
theorem dX2_letsFall_32 : decode cX2_letsFall 32 = .ok (.iload_n 2, 1) := by decide +kernel
theorem dX2_letsFall_33 : decode cX2_letsFall 33 = .ok (.iaload, 1) := by decide +kernel
theorem dX2_letsFall_34 : decode cX2_letsFall 34 = .ok (.aload_n 1, 1) := by decide +kernel
theorem dX2_letsFall_35 : decode cX2_letsFall 35 = .ok (.invokevirtual 48, 3) := by decide +kernel
theorem dX2_letsFall_38 : decode cX2_letsFall 38 = .ok (.ifCond .eq 5, 3) := by decide +kernel
theorem dX2_letsFall_41 : decode cX2_letsFall 41 = .ok (.iconst 1, 1) := by decide +kernel
theorem dX2_letsFall_42 : decode cX2_letsFall 42 = .ok (.ireturn, 1) := by decide +kernel
theorem dX2_letsFall_43 : decode cX2_letsFall 43 = .ok (.iinc 2 1, 3) := by decide +kernel
theorem dX2_letsFall_46 : decode cX2_letsFall 46 = .ok (.goto (-44), 3) := by decide +kernel
theorem dX2_letsFall_49 : decode cX2_letsFall 49 = .ok (.iconst 0, 1) := by decide +kernel
theorem dX2_letsFall_50 : decode cX2_letsFall 50 = .ok (.ireturn, 1) := by decide +kernel
theorem dX2_worth_0 : decode cX2_worth 0 = .ok (.iconst 0, 1) := by decide +kernel
theorem dX2_worth_1 : decode cX2_worth 1 = .ok (.istore_n 3, 1) := by decide +kernel
theorem dX2_worth_2 : decode cX2_worth 2 = .ok (.iload_n 3, 1) := by decide +kernel
theorem dX2_worth_3 : decode cX2_worth 3 = .ok (.aload_n 0, 1) := by decide +kernel
theorem dX2_worth_4 : decode cX2_worth 4 = .ok (.getfield 28, 3) := by decide +kernel
theorem dX2_worth_7 : decode cX2_worth 7 = .ok (.if_icmp .ge 60, 3) := by decide +kernel
theorem dX2_worth_10 : decode cX2_worth 10 = .ok (.iload_n 3, 1) := by decide +kernel
theorem dX2_worth_11 : decode cX2_worth 11 = .ok (.bipush 16, 2) := by decide +kernel
theorem dX2_worth_13 : decode cX2_worth 13 = .ok (.if_icmp .ge 54, 3) := by decide +kernel
theorem dX2_worth_16 : decode cX2_worth 16 = .ok (.aload_n 0, 1) := by decide +kernel
theorem dX2_worth_17 : decode cX2_worth 17 = .ok (.getfield 9, 3) := by decide +kernel
theorem dX2_worth_20 : decode cX2_worth 20 = .ok (.iload_n 3, 1) := by decide +kernel
theorem dX2_worth_21 : decode cX2_worth 21 = .ok (.iaload, 1) := by decide +kernel
theorem dX2_worth_22 : decode cX2_worth 22 = .ok (.iload_n 1, 1) := by decide +kernel
theorem dX2_worth_23 : decode cX2_worth 23 = .ok (.if_icmp .ne 38, 3) := by decide +kernel
theorem dX2_worth_26 : decode cX2_worth 26 = .ok (.aload_n 0, 1) := by decide +kernel
theorem dX2_worth_27 : decode cX2_worth 27 = .ok (.aload_n 0, 1) := by decide +kernel
theorem dX2_worth_28 : decode cX2_worth 28 = .ok (.getfield 16, 3) := by decide +kernel
theorem dX2_worth_31 : decode cX2_worth 31 = .ok (.iload_n 3, 1) := by decide +kernel
theorem dX2_worth_32 : decode cX2_worth 32 = .ok (.iaload, 1) := by decide +kernel
theorem dX2_worth_33 : decode cX2_worth 33 = .ok (.aload_n 2, 1) := by decide +kernel
theorem dX2_worth_34 : decode cX2_worth 34 = .ok (.invokevirtual 48, 3) := by decide +kernel
theorem dX2_worth_37 : decode cX2_worth 37 = .ok (.ifCond .eq 24, 3) := by decide +kernel
theorem dX2_worth_40 : decode cX2_worth 40 = .ok (.iconst 0, 1) := by decide +kernel
theorem dX2_worth_41 : decode cX2_worth 41 = .ok (.bipush 99, 2) := by decide +kernel
theorem dX2_worth_43 : decode cX2_worth 43 = .ok (.aload_n 0, 1) := by decide +kernel
theorem dX2_worth_44 : decode cX2_worth 44 = .ok (.aload_n 0, 1) := by decide +kernel
theorem dX2_worth_45 : decode cX2_worth 45 = .ok (.getfield 13, 3) := by decide +kernel
theorem dX2_worth_48 : decode cX2_worth 48 = .ok (.iload_n 3, 1) := by decide +kernel
theorem dX2_worth_49 : decode cX2_worth 49 = .ok (.iaload, 1) := by decide +kernel
theorem dX2_worth_50 : decode cX2_worth 50 = .ok (.aload_n 2, 1) := by decide +kernel
theorem dX2_worth_51 : decode cX2_worth 51 = .ok (.invokevirtual 48, 3) := by decide +kernel
theorem dX2_worth_54 : decode cX2_worth 54 = .ok (.invokestatic 52, 3) := by decide +kernel
theorem dX2_worth_57 : decode cX2_worth 57 = .ok (.invokestatic 58, 3) := by decide +kernel
theorem dX2_worth_60 : decode cX2_worth 60 = .ok (.ireturn, 1) := by decide +kernel
theorem dX2_worth_61 : decode cX2_worth 61 = .ok (.iinc 3 1, 3) := by decide +kernel
theorem dX2_worth_64 : decode cX2_worth 64 = .ok (.goto (-62), 3) := by decide +kernel
theorem dX2_worth_67 : decode cX2_worth 67 = .ok (.iconst 0, 1) := by decide +kernel
theorem dX2_worth_68 : decode cX2_worth 68 = .ok (.ireturn, 1) := by decide +kernel
theorem dX2_reckon_0 : decode cX2_reckon 0 = .ok (.aload_n 0, 1) := by decide +kernel
theorem dX2_reckon_1 : decode cX2_reckon 1 = .ok (.iconst 0, 1) := by decide +kernel
theorem dX2_reckon_2 : decode cX2_reckon 2 = .ok (.putfield 35, 3) := by decide +kernel
theorem dX2_reckon_5 : decode cX2_reckon 5 = .ok (.aload_n 0, 1) := by decide +kernel
theorem dX2_reckon_6 : decode cX2_reckon 6 = .ok (.iconst 0, 1) := by decide +kernel
theorem dX2_reckon_7 : decode cX2_reckon 7 = .ok (.putfield 38, 3) := by decide +kernel
theorem dX2_reckon_10 : decode cX2_reckon 10 = .ok (.iload_n 1, 1) := by decide +kernel
theorem dX2_reckon_11 : decode cX2_reckon 11 = .ok (.istore_n 3, 1) := by decide +kernel
theorem dX2_reckon_12 : decode cX2_reckon 12 = .ok (.iconst 0, 1) := by decide +kernel
theorem dX2_reckon_13 : decode cX2_reckon 13 = .ok (.istore 4, 2) := by decide +kernel
theorem dX2_reckon_15 : decode cX2_reckon 15 = .ok (.iload 4, 2) := by decide +kernel
theorem dX2_reckon_17 : decode cX2_reckon 17 = .ok (.sipush 280, 3) := by decide +kernel
theorem dX2_reckon_20 : decode cX2_reckon 20 = .ok (.if_icmp .ge 45, 3) := by decide +kernel
theorem dX2_reckon_23 : decode cX2_reckon 23 = .ok (.iload_n 3, 1) := by decide +kernel
theorem dX2_reckon_24 : decode cX2_reckon 24 = .ok (.iconst 0, 1) := by decide +kernel
theorem dX2_reckon_25 : decode cX2_reckon 25 = .ok (.sipush 279, 3) := by decide +kernel
theorem dX2_reckon_28 : decode cX2_reckon 28 = .ok (.invokestatic 42, 3) := by decide +kernel
theorem dX2_reckon_31 : decode cX2_reckon 31 = .ok (.ifCond .eq 34, 3) := by decide +kernel
theorem dX2_reckon_34 : decode cX2_reckon 34 = .ok (.aload_n 0, 1) := by decide +kernel
theorem dX2_reckon_35 : decode cX2_reckon 35 = .ok (.getfield 19, 3) := by decide +kernel
theorem dX2_reckon_38 : decode cX2_reckon 38 = .ok (.iload_n 3, 1) := by decide +kernel
theorem dX2_reckon_39 : decode cX2_reckon 39 = .ok (.iaload, 1) := by decide +kernel
theorem dX2_reckon_40 : decode cX2_reckon 40 = .ok (.ifCond .eq 25, 3) := by decide +kernel
theorem dX2_reckon_43 : decode cX2_reckon 43 = .ok (.aload_n 0, 1) := by decide +kernel
theorem dX2_reckon_44 : decode cX2_reckon 44 = .ok (.iload_n 3, 1) := by decide +kernel
theorem dX2_reckon_45 : decode cX2_reckon 45 = .ok (.aload_n 2, 1) := by decide +kernel
theorem dX2_reckon_46 : decode cX2_reckon 46 = .ok (.invokevirtual 61, 3) := by decide +kernel
theorem dX2_reckon_49 : decode cX2_reckon 49 = .ok (.istore_n 3, 1) := by decide +kernel
theorem dX2_reckon_50 : decode cX2_reckon 50 = .ok (.aload_n 0, 1) := by decide +kernel
theorem dX2_reckon_51 : decode cX2_reckon 51 = .ok (.getfield 38, 3) := by decide +kernel
theorem dX2_reckon_54 : decode cX2_reckon 54 = .ok (.ifCond .eq 5, 3) := by decide +kernel
theorem dX2_reckon_57 : decode cX2_reckon 57 = .ok (.iconst 0, 1) := by decide +kernel
theorem dX2_reckon_58 : decode cX2_reckon 58 = .ok (.ireturn, 1) := by decide +kernel
theorem dX2_reckon_59 : decode cX2_reckon 59 = .ok (.iinc 4 1, 3) := by decide +kernel
theorem dX2_reckon_62 : decode cX2_reckon 62 = .ok (.goto (-47), 3) := by decide +kernel
theorem dX2_reckon_65 : decode cX2_reckon 65 = .ok (.aload_n 0, 1) := by decide +kernel
theorem dX2_reckon_66 : decode cX2_reckon 66 = .ok (.invokevirtual 64, 3) := by decide +kernel
theorem dX2_reckon_69 : decode cX2_reckon 69 = .ok (.ireturn, 1) := by decide +kernel
theorem dX2_doStep_0 : decode cX2_doStep 0 = .ok (.iload_n 1, 1) := by decide +kernel
theorem dX2_doStep_1 : decode cX2_doStep 1 = .ok (.iconst 0, 1) := by decide +kernel
theorem dX2_doStep_2 : decode cX2_doStep 2 = .ok (.sipush 279, 3) := by decide +kernel
theorem dX2_doStep_5 : decode cX2_doStep 5 = .ok (.invokestatic 42, 3) := by decide +kernel
theorem dX2_doStep_8 : decode cX2_doStep 8 = .ok (.ifCond .ne 5, 3) := by decide +kernel
theorem dX2_doStep_11 : decode cX2_doStep 11 = .ok (.iload_n 1, 1) := by decide +kernel
theorem dX2_doStep_12 : decode cX2_doStep 12 = .ok (.ireturn, 1) := by decide +kernel
theorem dX2_doStep_13 : decode cX2_doStep 13 = .ok (.aload_n 0, 1) := by decide +kernel
theorem dX2_doStep_14 : decode cX2_doStep 14 = .ok (.getfield 22, 3) := by decide +kernel
theorem dX2_doStep_17 : decode cX2_doStep 17 = .ok (.iload_n 1, 1) := by decide +kernel
theorem dX2_doStep_18 : decode cX2_doStep 18 = .ok (.iaload, 1) := by decide +kernel
theorem dX2_doStep_19 : decode cX2_doStep 19 = .ok (.istore_n 3, 1) := by decide +kernel
theorem dX2_doStep_20 : decode cX2_doStep 20 = .ok (.aload_n 0, 1) := by decide +kernel
theorem dX2_doStep_21 : decode cX2_doStep 21 = .ok (.getfield 19, 3) := by decide +kernel
theorem dX2_doStep_24 : decode cX2_doStep 24 = .ok (.iload_n 1, 1) := by decide +kernel
theorem dX2_doStep_25 : decode cX2_doStep 25 = .ok (.iaload, 1) := by decide +kernel
theorem dX2_doStep_26 : decode cX2_doStep 26 = .ok (.istore 4, 2) := by decide +kernel
theorem dX2_doStep_28 : decode cX2_doStep 28 = .ok (.iload 4, 2) := by decide +kernel
theorem dX2_doStep_30 : decode cX2_doStep 30 = .ok (.iconst 1, 1) := by decide +kernel
theorem dX2_doStep_31 : decode cX2_doStep 31 = .ok (.if_icmp .eq 9, 3) := by decide +kernel
theorem dX2_doStep_34 : decode cX2_doStep 34 = .ok (.iload 4, 2) := by decide +kernel
theorem dX2_doStep_36 : decode cX2_doStep 36 = .ok (.iconst 2, 1) := by decide +kernel
theorem dX2_doStep_37 : decode cX2_doStep 37 = .ok (.if_icmp .ne 7, 3) := by decide +kernel
theorem dX2_doStep_40 : decode cX2_doStep 40 = .ok (.iconst 0, 1) := by decide +kernel
theorem dX2_doStep_41 : decode cX2_doStep 41 = .ok (.goto 7, 3) := by decide +kernel
theorem dX2_doStep_44 : decode cX2_doStep 44 = .ok (.aload_n 0, 1) := by decide +kernel
theorem dX2_doStep_45 : decode cX2_doStep 45 = .ok (.invokevirtual 64, 3) := by decide +kernel
theorem dX2_doStep_48 : decode cX2_doStep 48 = .ok (.istore 5, 2) := by decide +kernel
theorem dX2_doStep_50 : decode cX2_doStep 50 = .ok (.iload 4, 2) := by decide +kernel
theorem dX2_doStep_52 : decode cX2_doStep 52 = .ok (.iconst 1, 1) := by decide +kernel
theorem dX2_doStep_53 : decode cX2_doStep 53 = .ok (.if_icmp .ne 11, 3) := by decide +kernel
theorem dX2_doStep_56 : decode cX2_doStep 56 = .ok (.aload_n 0, 1) := by decide +kernel
theorem dX2_doStep_57 : decode cX2_doStep 57 = .ok (.iload_n 3, 1) := by decide +kernel
theorem dX2_doStep_58 : decode cX2_doStep 58 = .ok (.invokevirtual 68, 3) := by decide +kernel
theorem dX2_doStep_61 : decode cX2_doStep 61 = .ok (.goto 122, 3) := by decide +kernel
theorem dX2_doStep_64 : decode cX2_doStep 64 = .ok (.iload 4, 2) := by decide +kernel
theorem dX2_doStep_66 : decode cX2_doStep 66 = .ok (.iconst 2, 1) := by decide +kernel
theorem dX2_doStep_67 : decode cX2_doStep 67 = .ok (.if_icmp .ne 29, 3) := by decide +kernel
theorem dX2_doStep_70 : decode cX2_doStep 70 = .ok (.aload_n 0, 1) := by decide +kernel
theorem dX2_doStep_71 : decode cX2_doStep 71 = .ok (.iload_n 3, 1) := by decide +kernel
theorem dX2_doStep_72 : decode cX2_doStep 72 = .ok (.iconst 0, 1) := by decide +kernel
theorem dX2_doStep_73 : decode cX2_doStep 73 = .ok (.aload_n 2, 1) := by decide +kernel
theorem dX2_doStep_74 : decode cX2_doStep 74 = .ok (.arraylength, 1) := by decide +kernel
theorem dX2_doStep_75 : decode cX2_doStep 75 = .ok (.iconst 1, 1) := by decide +kernel
theorem dX2_doStep_76 : decode cX2_doStep 76 = .ok (.isub, 1) := by decide +kernel
theorem dX2_doStep_77 : decode cX2_doStep 77 = .ok (.invokestatic 42, 3) := by decide +kernel
theorem dX2_doStep_80 : decode cX2_doStep 80 = .ok (.ifCond .eq 9, 3) := by decide +kernel
theorem dX2_doStep_83 : decode cX2_doStep 83 = .ok (.aload_n 2, 1) := by decide +kernel
theorem dX2_doStep_84 : decode cX2_doStep 84 = .ok (.iload_n 3, 1) := by decide +kernel
theorem dX2_doStep_85 : decode cX2_doStep 85 = .ok (.iaload, 1) := by decide +kernel
theorem dX2_doStep_86 : decode cX2_doStep 86 = .ok (.goto 4, 3) := by decide +kernel
theorem dX2_doStep_89 : decode cX2_doStep 89 = .ok (.iconst 0, 1) := by decide +kernel
theorem dX2_doStep_90 : decode cX2_doStep 90 = .ok (.invokevirtual 68, 3) := by decide +kernel
theorem dX2_doStep_93 : decode cX2_doStep 93 = .ok (.goto 90, 3) := by decide +kernel
theorem dX2_doStep_96 : decode cX2_doStep 96 = .ok (.iload 4, 2) := by decide +kernel
theorem dX2_doStep_98 : decode cX2_doStep 98 = .ok (.bipush 33, 2) := by decide +kernel
theorem dX2_doStep_100 : decode cX2_doStep 100 = .ok (.if_icmp .ne 20, 3) := by decide +kernel
theorem dX2_doStep_103 : decode cX2_doStep 103 = .ok (.aload_n 0, 1) := by decide +kernel
theorem dX2_doStep_104 : decode cX2_doStep 104 = .ok (.iload 5, 2) := by decide +kernel
theorem dX2_doStep_106 : decode cX2_doStep 106 = .ok (.ifCond .ne 7, 3) := by decide +kernel
theorem dX2_doStep_109 : decode cX2_doStep 109 = .ok (.iconst 1, 1) := by decide +kernel
theorem dX2_doStep_110 : decode cX2_doStep 110 = .ok (.goto 4, 3) := by decide +kernel
theorem dX2_doStep_113 : decode cX2_doStep 113 = .ok (.iconst 0, 1) := by decide +kernel
theorem dX2_doStep_114 : decode cX2_doStep 114 = .ok (.invokevirtual 68, 3) := by decide +kernel
theorem dX2_doStep_117 : decode cX2_doStep 117 = .ok (.goto 66, 3) := by decide +kernel
theorem dX2_doStep_120 : decode cX2_doStep 120 = .ok (.iload 4, 2) := by decide +kernel
theorem dX2_doStep_122 : decode cX2_doStep 122 = .ok (.iconst 3, 1) := by decide +kernel
theorem dX2_doStep_123 : decode cX2_doStep 123 = .ok (.if_icmp .eq 28, 3) := by decide +kernel
theorem dX2_doStep_126 : decode cX2_doStep 126 = .ok (.iload 4, 2) := by decide +kernel
theorem dX2_doStep_128 : decode cX2_doStep 128 = .ok (.iconst 4, 1) := by decide +kernel
theorem dX2_doStep_129 : decode cX2_doStep 129 = .ok (.if_icmp .eq 22, 3) := by decide +kernel
theorem dX2_doStep_132 : decode cX2_doStep 132 = .ok (.aload_n 0, 1) := by decide +kernel
theorem dX2_doStep_133 : decode cX2_doStep 133 = .ok (.aload_n 0, 1) := by decide +kernel
theorem dX2_doStep_134 : decode cX2_doStep 134 = .ok (.iload 4, 2) := by decide +kernel
theorem dX2_doStep_136 : decode cX2_doStep 136 = .ok (.aload_n 0, 1) := by decide +kernel
theorem dX2_doStep_137 : decode cX2_doStep 137 = .ok (.invokevirtual 64, 3) := by decide +kernel
theorem dX2_doStep_140 : decode cX2_doStep 140 = .ok (.iload 5, 2) := by decide +kernel
theorem dX2_doStep_142 : decode cX2_doStep 142 = .ok (.invokevirtual 72, 3) := by decide +kernel
theorem dX2_doStep_145 : decode cX2_doStep 145 = .ok (.invokevirtual 68, 3) := by decide +kernel
theorem dX2_doStep_148 : decode cX2_doStep 148 = .ok (.goto 35, 3) := by decide +kernel
theorem dX2_doStep_151 : decode cX2_doStep 151 = .ok (.iload 5, 2) := by decide +kernel
theorem dX2_doStep_153 : decode cX2_doStep 153 = .ok (.ifCond .eq 7, 3) := by decide +kernel
theorem dX2_doStep_156 : decode cX2_doStep 156 = .ok (.iconst 1, 1) := by decide +kernel
theorem dX2_doStep_157 : decode cX2_doStep 157 = .ok (.goto 4, 3) := by decide +kernel
theorem dX2_doStep_160 : decode cX2_doStep 160 = .ok (.iconst 0, 1) := by decide +kernel
theorem dX2_doStep_161 : decode cX2_doStep 161 = .ok (.iload 4, 2) := by decide +kernel
theorem dX2_doStep_163 : decode cX2_doStep 163 = .ok (.iconst 3, 1) := by decide +kernel
theorem dX2_doStep_164 : decode cX2_doStep 164 = .ok (.if_icmp .ne 7, 3) := by decide +kernel
theorem dX2_doStep_167 : decode cX2_doStep 167 = .ok (.iconst 1, 1) := by decide +kernel
theorem dX2_doStep_168 : decode cX2_doStep 168 = .ok (.goto 4, 3) := by decide +kernel
theorem dX2_doStep_171 : decode cX2_doStep 171 = .ok (.iconst 0, 1) := by decide +kernel
theorem dX2_doStep_172 : decode cX2_doStep 172 = .ok (.if_icmp .ne 11, 3) := by decide +kernel
theorem dX2_doStep_175 : decode cX2_doStep 175 = .ok (.aload_n 0, 1) := by decide +kernel
theorem dX2_doStep_176 : decode cX2_doStep 176 = .ok (.iload 5, 2) := by decide +kernel
theorem dX2_doStep_178 : decode cX2_doStep 178 = .ok (.invokevirtual 68, 3) := by decide +kernel
theorem dX2_doStep_181 : decode cX2_doStep 181 = .ok (.iload_n 3, 1) := by decide +kernel
theorem dX2_doStep_182 : decode cX2_doStep 182 = .ok (.ireturn, 1) := by decide +kernel
theorem dX2_doStep_183 : decode cX2_doStep 183 = .ok (.iload_n 1, 1) := by decide +kernel
theorem dX2_doStep_184 : decode cX2_doStep 184 = .ok (.iconst 1, 1) := by decide +kernel
theorem dX2_doStep_185 : decode cX2_doStep 185 = .ok (.iadd, 1) := by decide +kernel
theorem dX2_doStep_186 : decode cX2_doStep 186 = .ok (.ireturn, 1) := by decide +kernel
theorem dX2_joined_0 : decode cX2_joined 0 = .ok (.iload_n 1, 1) := by decide +kernel
theorem dX2_joined_1 : decode cX2_joined 1 = .ok (.lookupswitch 104 #[(42, 67), (43, 59), (45, 63), (60, 71), (61, 93), (62, 82)], 59) := by decide +kernel
theorem dX2_joined_60 : decode cX2_joined 60 = .ok (.iload_n 2, 1) := by decide +kernel
theorem dX2_joined_61 : decode cX2_joined 61 = .ok (.iload_n 3, 1) := by decide +kernel
theorem dX2_joined_62 : decode cX2_joined 62 = .ok (.iadd, 1) := by decide +kernel
theorem dX2_joined_63 : decode cX2_joined 63 = .ok (.ireturn, 1) := by decide +kernel
theorem dX2_joined_64 : decode cX2_joined 64 = .ok (.iload_n 2, 1) := by decide +kernel
theorem dX2_joined_65 : decode cX2_joined 65 = .ok (.iload_n 3, 1) := by decide +kernel
theorem dX2_joined_66 : decode cX2_joined 66 = .ok (.isub, 1) := by decide +kernel
theorem dX2_joined_67 : decode cX2_joined 67 = .ok (.ireturn, 1) := by decide +kernel
theorem dX2_joined_68 : decode cX2_joined 68 = .ok (.iload_n 2, 1) := by decide +kernel
theorem dX2_joined_69 : decode cX2_joined 69 = .ok (.iload_n 3, 1) := by decide +kernel
theorem dX2_joined_70 : decode cX2_joined 70 = .ok (.imul, 1) := by decide +kernel
theorem dX2_joined_71 : decode cX2_joined 71 = .ok (.ireturn, 1) := by decide +kernel
theorem dX2_joined_72 : decode cX2_joined 72 = .ok (.iload_n 2, 1) := by decide +kernel
theorem dX2_joined_73 : decode cX2_joined 73 = .ok (.iload_n 3, 1) := by decide +kernel
theorem dX2_joined_74 : decode cX2_joined 74 = .ok (.if_icmp .ge 7, 3) := by decide +kernel
theorem dX2_joined_77 : decode cX2_joined 77 = .ok (.iconst 1, 1) := by decide +kernel
theorem dX2_joined_78 : decode cX2_joined 78 = .ok (.goto 4, 3) := by decide +kernel
theorem dX2_joined_81 : decode cX2_joined 81 = .ok (.iconst 0, 1) := by decide +kernel
theorem dX2_joined_82 : decode cX2_joined 82 = .ok (.ireturn, 1) := by decide +kernel
theorem dX2_joined_83 : decode cX2_joined 83 = .ok (.iload_n 2, 1) := by decide +kernel
theorem dX2_joined_84 : decode cX2_joined 84 = .ok (.iload_n 3, 1) := by decide +kernel
theorem dX2_joined_85 : decode cX2_joined 85 = .ok (.if_icmp .le 7, 3) := by decide +kernel
theorem dX2_joined_88 : decode cX2_joined 88 = .ok (.iconst 1, 1) := by decide +kernel
theorem dX2_joined_89 : decode cX2_joined 89 = .ok (.goto 4, 3) := by decide +kernel
theorem dX2_joined_92 : decode cX2_joined 92 = .ok (.iconst 0, 1) := by decide +kernel
theorem dX2_joined_93 : decode cX2_joined 93 = .ok (.ireturn, 1) := by decide +kernel
theorem dX2_joined_94 : decode cX2_joined 94 = .ok (.iload_n 2, 1) := by decide +kernel
theorem dX2_joined_95 : decode cX2_joined 95 = .ok (.iload_n 3, 1) := by decide +kernel
theorem dX2_joined_96 : decode cX2_joined 96 = .ok (.if_icmp .ne 7, 3) := by decide +kernel
theorem dX2_joined_99 : decode cX2_joined 99 = .ok (.iconst 1, 1) := by decide +kernel
theorem dX2_joined_100 : decode cX2_joined 100 = .ok (.goto 4, 3) := by decide +kernel
theorem dX2_joined_103 : decode cX2_joined 103 = .ok (.iconst 0, 1) := by decide +kernel
theorem dX2_joined_104 : decode cX2_joined 104 = .ok (.ireturn, 1) := by decide +kernel
theorem dX2_joined_105 : decode cX2_joined 105 = .ok (.aload_n 0, 1) := by decide +kernel
theorem dX2_joined_106 : decode cX2_joined 106 = .ok (.iload_n 3, 1) := by decide +kernel
theorem dX2_joined_107 : decode cX2_joined 107 = .ok (.ifCond .ne 7, 3) := by decide +kernel
theorem dX2_joined_110 : decode cX2_joined 110 = .ok (.iconst 1, 1) := by decide +kernel
theorem dX2_joined_111 : decode cX2_joined 111 = .ok (.goto 4, 3) := by decide +kernel
theorem dX2_joined_114 : decode cX2_joined 114 = .ok (.iconst 0, 1) := by decide +kernel
theorem dX2_joined_115 : decode cX2_joined 115 = .ok (.putfield 38, 3) := by decide +kernel
theorem dX2_joined_118 : decode cX2_joined 118 = .ok (.aload_n 0, 1) := by decide +kernel
theorem dX2_joined_119 : decode cX2_joined 119 = .ok (.getfield 38, 3) := by decide +kernel
theorem dX2_joined_122 : decode cX2_joined 122 = .ok (.ifCond .eq 7, 3) := by decide +kernel
theorem dX2_joined_125 : decode cX2_joined 125 = .ok (.iconst 0, 1) := by decide +kernel
theorem dX2_joined_126 : decode cX2_joined 126 = .ok (.goto 18, 3) := by decide +kernel
theorem dX2_joined_129 : decode cX2_joined 129 = .ok (.iload_n 1, 1) := by decide +kernel
theorem dX2_joined_130 : decode cX2_joined 130 = .ok (.bipush 47, 2) := by decide +kernel
theorem dX2_joined_132 : decode cX2_joined 132 = .ok (.if_icmp .ne 9, 3) := by decide +kernel
theorem dX2_joined_135 : decode cX2_joined 135 = .ok (.iload_n 2, 1) := by decide +kernel
theorem dX2_joined_136 : decode cX2_joined 136 = .ok (.iload_n 3, 1) := by decide +kernel
theorem dX2_joined_137 : decode cX2_joined 137 = .ok (.idiv, 1) := by decide +kernel
theorem dX2_joined_138 : decode cX2_joined 138 = .ok (.goto 6, 3) := by decide +kernel
theorem dX2_joined_141 : decode cX2_joined 141 = .ok (.iload_n 2, 1) := by decide +kernel
theorem dX2_joined_142 : decode cX2_joined 142 = .ok (.iload_n 3, 1) := by decide +kernel
theorem dX2_joined_143 : decode cX2_joined 143 = .ok (.irem, 1) := by decide +kernel
theorem dX2_joined_144 : decode cX2_joined 144 = .ok (.ireturn, 1) := by decide +kernel
theorem dX2_push_0 : decode cX2_push 0 = .ok (.aload_n 0, 1) := by decide +kernel
theorem dX2_push_1 : decode cX2_push 1 = .ok (.getfield 35, 3) := by decide +kernel
theorem dX2_push_4 : decode cX2_push 4 = .ok (.bipush 24, 2) := by decide +kernel
theorem dX2_push_6 : decode cX2_push 6 = .ok (.if_icmp .ge 23, 3) := by decide +kernel
theorem dX2_push_9 : decode cX2_push 9 = .ok (.aload_n 0, 1) := by decide +kernel
theorem dX2_push_10 : decode cX2_push 10 = .ok (.getfield 25, 3) := by decide +kernel
theorem dX2_push_13 : decode cX2_push 13 = .ok (.aload_n 0, 1) := by decide +kernel
theorem dX2_push_14 : decode cX2_push 14 = .ok (.getfield 35, 3) := by decide +kernel
theorem dX2_push_17 : decode cX2_push 17 = .ok (.iload_n 1, 1) := by decide +kernel
theorem dX2_push_18 : decode cX2_push 18 = .ok (.iastore, 1) := by decide +kernel
theorem dX2_push_19 : decode cX2_push 19 = .ok (.aload_n 0, 1) := by decide +kernel
theorem dX2_push_20 : decode cX2_push 20 = .ok (.dup, 1) := by decide +kernel
theorem dX2_push_21 : decode cX2_push 21 = .ok (.getfield 35, 3) := by decide +kernel
theorem dX2_push_24 : decode cX2_push 24 = .ok (.iconst 1, 1) := by decide +kernel
theorem dX2_push_25 : decode cX2_push 25 = .ok (.iadd, 1) := by decide +kernel
theorem dX2_push_26 : decode cX2_push 26 = .ok (.putfield 35, 3) := by decide +kernel
theorem dX2_push_29 : decode cX2_push 29 = .ok (.return_, 1) := by decide +kernel
theorem dX2_pop_0 : decode cX2_pop 0 = .ok (.aload_n 0, 1) := by decide +kernel
theorem dX2_pop_1 : decode cX2_pop 1 = .ok (.getfield 35, 3) := by decide +kernel
theorem dX2_pop_4 : decode cX2_pop 4 = .ok (.iconst 1, 1) := by decide +kernel
theorem dX2_pop_5 : decode cX2_pop 5 = .ok (.if_icmp .lt 12, 3) := by decide +kernel
theorem dX2_pop_8 : decode cX2_pop 8 = .ok (.aload_n 0, 1) := by decide +kernel
theorem dX2_pop_9 : decode cX2_pop 9 = .ok (.getfield 35, 3) := by decide +kernel
theorem dX2_pop_12 : decode cX2_pop 12 = .ok (.bipush 24, 2) := by decide +kernel
theorem dX2_pop_14 : decode cX2_pop 14 = .ok (.if_icmp .le 5, 3) := by decide +kernel
theorem dX2_pop_17 : decode cX2_pop 17 = .ok (.iconst 0, 1) := by decide +kernel
theorem dX2_pop_18 : decode cX2_pop 18 = .ok (.ireturn, 1) := by decide +kernel
theorem dX2_pop_19 : decode cX2_pop 19 = .ok (.aload_n 0, 1) := by decide +kernel
theorem dX2_pop_20 : decode cX2_pop 20 = .ok (.dup, 1) := by decide +kernel
theorem dX2_pop_21 : decode cX2_pop 21 = .ok (.getfield 35, 3) := by decide +kernel
theorem dX2_pop_24 : decode cX2_pop 24 = .ok (.iconst 1, 1) := by decide +kernel
theorem dX2_pop_25 : decode cX2_pop 25 = .ok (.isub, 1) := by decide +kernel
theorem dX2_pop_26 : decode cX2_pop 26 = .ok (.putfield 35, 3) := by decide +kernel
theorem dX2_pop_29 : decode cX2_pop 29 = .ok (.aload_n 0, 1) := by decide +kernel
theorem dX2_pop_30 : decode cX2_pop 30 = .ok (.getfield 25, 3) := by decide +kernel
theorem dX2_pop_33 : decode cX2_pop 33 = .ok (.aload_n 0, 1) := by decide +kernel
theorem dX2_pop_34 : decode cX2_pop 34 = .ok (.getfield 35, 3) := by decide +kernel
theorem dX2_pop_37 : decode cX2_pop 37 = .ok (.iaload, 1) := by decide +kernel
theorem dX2_pop_38 : decode cX2_pop 38 = .ok (.ireturn, 1) := by decide +kernel
theorem dX3_init_0 : decode cX3_init 0 = .ok (.aload_n 0, 1) := by decide +kernel
theorem dX3_init_1 : decode cX3_init 1 = .ok (.aload_n 1, 1) := by decide +kernel
theorem dX3_init_2 : decode cX3_init 2 = .ok (.invokespecial 3, 3) := by decide +kernel
theorem dX3_init_5 : decode cX3_init 5 = .ok (.aload_n 0, 1) := by decide +kernel
theorem dX3_init_6 : decode cX3_init 6 = .ok (.aload_n 2, 1) := by decide +kernel
theorem dX3_init_7 : decode cX3_init 7 = .ok (.putfield 9, 3) := by decide +kernel
theorem dX3_init_10 : decode cX3_init 10 = .ok (.return_, 1) := by decide +kernel
theorem dX3_read_0 : decode cX3_read 0 = .ok (.aload_n 0, 1) := by decide +kernel
theorem dX3_read_1 : decode cX3_read 1 = .ok (.iload_n 1, 1) := by decide +kernel
theorem dX3_read_2 : decode cX3_read 2 = .ok (.invokevirtual 15, 3) := by decide +kernel
theorem dX3_read_5 : decode cX3_read 5 = .ok (.aload_n 0, 1) := by decide +kernel
theorem dX3_read_6 : decode cX3_read 6 = .ok (.aload_n 2, 1) := by decide +kernel
theorem dX3_read_7 : decode cX3_read 7 = .ok (.putfield 9, 3) := by decide +kernel
theorem dX3_read_10 : decode cX3_read 10 = .ok (.aload_n 0, 1) := by decide +kernel
theorem dX3_read_11 : decode cX3_read 11 = .ok (.getfield 9, 3) := by decide +kernel
theorem dX3_read_14 : decode cX3_read 14 = .ok (.invokevirtual 19, 3) := by decide +kernel
theorem dX3_read_17 : decode cX3_read 17 = .ok (.iconst 0, 1) := by decide +kernel
theorem dX3_read_18 : decode cX3_read 18 = .ok (.istore_n 3, 1) := by decide +kernel
theorem dX3_read_19 : decode cX3_read 19 = .ok (.iload_n 3, 1) := by decide +kernel
theorem dX3_read_20 : decode cX3_read 20 = .ok (.bipush 16, 2) := by decide +kernel
theorem dX3_read_22 : decode cX3_read 22 = .ok (.if_icmp .gt 50, 3) := by decide +kernel
theorem dX3_read_25 : decode cX3_read 25 = .ok (.aload_n 0, 1) := by decide +kernel
theorem dX3_read_26 : decode cX3_read 26 = .ok (.invokevirtual 25, 3) := by decide +kernel
theorem dX3_read_29 : decode cX3_read 29 = .ok (.ifCond .ne 8, 3) := by decide +kernel
theorem dX3_read_32 : decode cX3_read 32 = .ok (.aload_n 0, 1) := by decide +kernel
theorem dX3_read_33 : decode cX3_read 33 = .ok (.invokevirtual 29, 3) := by decide +kernel
theorem dX3_read_36 : decode cX3_read 36 = .ok (.ireturn, 1) := by decide +kernel
theorem dX3_read_37 : decode cX3_read 37 = .ok (.aload_n 0, 1) := by decide +kernel
theorem dX3_read_38 : decode cX3_read 38 = .ok (.invokevirtual 33, 3) := by decide +kernel
theorem dX3_read_41 : decode cX3_read 41 = .ok (.ifCond .eq 11, 3) := by decide +kernel
theorem dX3_read_44 : decode cX3_read 44 = .ok (.aload_n 0, 1) := by decide +kernel
theorem dX3_read_45 : decode cX3_read 45 = .ok (.getfield 9, 3) := by decide +kernel
theorem dX3_read_48 : decode cX3_read 48 = .ok (.invokevirtual 36, 3) := by decide +kernel
theorem dX3_read_51 : decode cX3_read 51 = .ok (.ireturn, 1) := by decide +kernel
theorem dX3_read_52 : decode cX3_read 52 = .ok (.aload_n 0, 1) := by decide +kernel
theorem dX3_read_53 : decode cX3_read 53 = .ok (.bipush 59, 2) := by decide +kernel
theorem dX3_read_55 : decode cX3_read 55 = .ok (.invokevirtual 39, 3) := by decide +kernel
theorem dX3_read_58 : decode cX3_read 58 = .ok (.ifCond .ne 8, 3) := by decide +kernel
theorem dX3_read_61 : decode cX3_read 61 = .ok (.aload_n 0, 1) := by decide +kernel
theorem dX3_read_62 : decode cX3_read 62 = .ok (.invokevirtual 29, 3) := by decide +kernel
theorem dX3_read_65 : decode cX3_read 65 = .ok (.ireturn, 1) := by decide +kernel
theorem dX3_read_66 : decode cX3_read 66 = .ok (.iinc 3 1, 3) := by decide +kernel
theorem dX3_read_69 : decode cX3_read 69 = .ok (.goto (-50), 3) := by decide +kernel
theorem dX3_read_72 : decode cX3_read 72 = .ok (.aload_n 0, 1) := by decide +kernel
theorem dX3_read_73 : decode cX3_read 73 = .ok (.invokevirtual 29, 3) := by decide +kernel
theorem dX3_read_76 : decode cX3_read 76 = .ok (.ireturn, 1) := by decide +kernel
theorem dX3_readRule_0 : decode cX3_readRule 0 = .ok (.aload_n 0, 1) := by decide +kernel
theorem dX3_readRule_1 : decode cX3_readRule 1 = .ok (.invokevirtual 43, 3) := by decide +kernel
theorem dX3_readRule_4 : decode cX3_readRule 4 = .ok (.istore_n 1, 1) := by decide +kernel
theorem dX3_readRule_5 : decode cX3_readRule 5 = .ok (.iload_n 1, 1) := by decide +kernel
theorem dX3_readRule_6 : decode cX3_readRule 6 = .ok (.bipush 112, 2) := by decide +kernel
theorem dX3_readRule_8 : decode cX3_readRule 8 = .ok (.if_icmp .eq 25, 3) := by decide +kernel
theorem dX3_readRule_11 : decode cX3_readRule 11 = .ok (.iload_n 1, 1) := by decide +kernel
theorem dX3_readRule_12 : decode cX3_readRule 12 = .ok (.bipush 104, 2) := by decide +kernel
theorem dX3_readRule_14 : decode cX3_readRule 14 = .ok (.if_icmp .eq 19, 3) := by decide +kernel
theorem dX3_readRule_17 : decode cX3_readRule 17 = .ok (.iload_n 1, 1) := by decide +kernel
theorem dX3_readRule_18 : decode cX3_readRule 18 = .ok (.bipush 120, 2) := by decide +kernel
theorem dX3_readRule_20 : decode cX3_readRule 20 = .ok (.if_icmp .eq 13, 3) := by decide +kernel
theorem dX3_readRule_23 : decode cX3_readRule 23 = .ok (.aload_n 0, 1) := by decide +kernel
theorem dX3_readRule_24 : decode cX3_readRule 24 = .ok (.iconst 1, 1) := by decide +kernel
theorem dX3_readRule_25 : decode cX3_readRule 25 = .ok (.aload_n 0, 1) := by decide +kernel
theorem dX3_readRule_26 : decode cX3_readRule 26 = .ok (.invokevirtual 46, 3) := by decide +kernel
theorem dX3_readRule_29 : decode cX3_readRule 29 = .ok (.invokevirtual 49, 3) := by decide +kernel
theorem dX3_readRule_32 : decode cX3_readRule 32 = .ok (.ireturn, 1) := by decide +kernel
theorem dX3_readRule_33 : decode cX3_readRule 33 = .ok (.aload_n 0, 1) := by decide +kernel
theorem dX3_readRule_34 : decode cX3_readRule 34 = .ok (.getfield 9, 3) := by decide +kernel
theorem dX3_readRule_37 : decode cX3_readRule 37 = .ok (.invokevirtual 36, 3) := by decide +kernel
theorem dX3_readRule_40 : decode cX3_readRule 40 = .ok (.bipush 16, 2) := by decide +kernel
theorem dX3_readRule_42 : decode cX3_readRule 42 = .ok (.if_icmp .lt 13, 3) := by decide +kernel
theorem dX3_readRule_45 : decode cX3_readRule 45 = .ok (.aload_n 0, 1) := by decide +kernel
theorem dX3_readRule_46 : decode cX3_readRule 46 = .ok (.iconst 4, 1) := by decide +kernel
theorem dX3_readRule_47 : decode cX3_readRule 47 = .ok (.aload_n 0, 1) := by decide +kernel
theorem dX3_readRule_48 : decode cX3_readRule 48 = .ok (.invokevirtual 46, 3) := by decide +kernel
theorem dX3_readRule_51 : decode cX3_readRule 51 = .ok (.invokevirtual 49, 3) := by decide +kernel
theorem dX3_readRule_54 : decode cX3_readRule 54 = .ok (.ireturn, 1) := by decide +kernel
theorem dX3_readRule_55 : decode cX3_readRule 55 = .ok (.aload_n 0, 1) := by decide +kernel
theorem dX3_readRule_56 : decode cX3_readRule 56 = .ok (.invokevirtual 53, 3) := by decide +kernel
theorem dX3_readRule_59 : decode cX3_readRule 59 = .ok (.aload_n 0, 1) := by decide +kernel
theorem dX3_readRule_60 : decode cX3_readRule 60 = .ok (.getfield 9, 3) := by decide +kernel
theorem dX3_readRule_63 : decode cX3_readRule 63 = .ok (.iload_n 1, 1) := by decide +kernel
theorem dX3_readRule_64 : decode cX3_readRule 64 = .ok (.invokevirtual 56, 3) := by decide +kernel
theorem dX3_readRule_67 : decode cX3_readRule 67 = .ok (.iload_n 1, 1) := by decide +kernel
theorem dX3_readRule_68 : decode cX3_readRule 68 = .ok (.bipush 120, 2) := by decide +kernel
theorem dX3_readRule_70 : decode cX3_readRule 70 = .ok (.if_icmp .eq 13, 3) := by decide +kernel
theorem dX3_readRule_73 : decode cX3_readRule 73 = .ok (.aload_n 0, 1) := by decide +kernel
theorem dX3_readRule_74 : decode cX3_readRule 74 = .ok (.iconst 0, 1) := by decide +kernel
theorem dX3_readRule_75 : decode cX3_readRule 75 = .ok (.invokevirtual 59, 3) := by decide +kernel
theorem dX3_readRule_78 : decode cX3_readRule 78 = .ok (.ifCond .ne 5, 3) := by decide +kernel
theorem dX3_readRule_81 : decode cX3_readRule 81 = .ok (.iconst 0, 1) := by decide +kernel
theorem dX3_readRule_82 : decode cX3_readRule 82 = .ok (.ireturn, 1) := by decide +kernel
theorem dX3_readRule_83 : decode cX3_readRule 83 = .ok (.aload_n 0, 1) := by decide +kernel
theorem dX3_readRule_84 : decode cX3_readRule 84 = .ok (.getfield 9, 3) := by decide +kernel
theorem dX3_readRule_87 : decode cX3_readRule 87 = .ok (.iconst 0, 1) := by decide +kernel
theorem dX3_readRule_88 : decode cX3_readRule 88 = .ok (.iconst 0, 1) := by decide +kernel
theorem dX3_readRule_89 : decode cX3_readRule 89 = .ok (.invokevirtual 62, 3) := by decide +kernel
theorem dX3_readRule_92 : decode cX3_readRule 92 = .ok (.pop, 1) := by decide +kernel
theorem dX3_readRule_93 : decode cX3_readRule 93 = .ok (.aload_n 0, 1) := by decide +kernel
theorem dX3_readRule_94 : decode cX3_readRule 94 = .ok (.getfield 9, 3) := by decide +kernel
theorem dX3_readRule_97 : decode cX3_readRule 97 = .ok (.invokevirtual 66, 3) := by decide +kernel
theorem dX3_readRule_100 : decode cX3_readRule 100 = .ok (.aload_n 0, 1) := by decide +kernel
theorem dX3_readRule_101 : decode cX3_readRule 101 = .ok (.bipush 40, 2) := by decide +kernel
theorem dX3_readRule_103 : decode cX3_readRule 103 = .ok (.invokevirtual 39, 3) := by decide +kernel
theorem dX3_readRule_106 : decode cX3_readRule 106 = .ok (.ifCond .eq 20, 3) := by decide +kernel
theorem dX3_readRule_109 : decode cX3_readRule 109 = .ok (.aload_n 0, 1) := by decide +kernel
theorem dX3_readRule_110 : decode cX3_readRule 110 = .ok (.iconst 1, 1) := by decide +kernel
theorem dX3_readRule_111 : decode cX3_readRule 111 = .ok (.invokevirtual 69, 3) := by decide +kernel
theorem dX3_readRule_114 : decode cX3_readRule 114 = .ok (.ifCond .eq 12, 3) := by decide +kernel
theorem dX3_readRule_117 : decode cX3_readRule 117 = .ok (.aload_n 0, 1) := by decide +kernel
theorem dX3_readRule_118 : decode cX3_readRule 118 = .ok (.bipush 41, 2) := by decide +kernel
theorem dX3_readRule_120 : decode cX3_readRule 120 = .ok (.invokevirtual 39, 3) := by decide +kernel
theorem dX3_readRule_123 : decode cX3_readRule 123 = .ok (.ifCond .ne 5, 3) := by decide +kernel
theorem dX3_readRule_126 : decode cX3_readRule 126 = .ok (.iconst 0, 1) := by decide +kernel
theorem dX3_readRule_127 : decode cX3_readRule 127 = .ok (.ireturn, 1) := by decide +kernel
theorem dX3_readRule_128 : decode cX3_readRule 128 = .ok (.aload_n 0, 1) := by decide +kernel
theorem dX3_readRule_129 : decode cX3_readRule 129 = .ok (.getfield 9, 3) := by decide +kernel
theorem dX3_readRule_132 : decode cX3_readRule 132 = .ok (.iconst 0, 1) := by decide +kernel
theorem dX3_readRule_133 : decode cX3_readRule 133 = .ok (.iconst 0, 1) := by decide +kernel
theorem dX3_readRule_134 : decode cX3_readRule 134 = .ok (.invokevirtual 62, 3) := by decide +kernel
theorem dX3_readRule_137 : decode cX3_readRule 137 = .ok (.pop, 1) := by decide +kernel
theorem dX3_readRule_138 : decode cX3_readRule 138 = .ok (.iconst 1, 1) := by decide +kernel
theorem dX3_readRule_139 : decode cX3_readRule 139 = .ok (.ireturn, 1) := by decide +kernel
theorem dX3_readAny_0 : decode cX3_readAny 0 = .ok (.aload_n 0, 1) := by decide +kernel
theorem dX3_readAny_1 : decode cX3_readAny 1 = .ok (.iload_n 1, 1) := by decide +kernel
theorem dX3_readAny_2 : decode cX3_readAny 2 = .ok (.invokevirtual 72, 3) := by decide +kernel
theorem dX3_readAny_5 : decode cX3_readAny 5 = .ok (.ifCond .ne 5, 3) := by decide +kernel
theorem dX3_readAny_8 : decode cX3_readAny 8 = .ok (.iconst 0, 1) := by decide +kernel
theorem dX3_readAny_9 : decode cX3_readAny 9 = .ok (.ireturn, 1) := by decide +kernel
theorem dX3_readAny_10 : decode cX3_readAny 10 = .ok (.iconst 0, 1) := by decide +kernel
theorem dX3_readAny_11 : decode cX3_readAny 11 = .ok (.istore_n 2, 1) := by decide +kernel
theorem dX3_readAny_12 : decode cX3_readAny 12 = .ok (.iload_n 2, 1) := by decide +kernel
theorem dX3_readAny_13 : decode cX3_readAny 13 = .ok (.sipush 240, 3) := by decide +kernel
theorem dX3_readAny_16 : decode cX3_readAny 16 = .ok (.if_icmp .ge 50, 3) := by decide +kernel
theorem dX3_readAny_19 : decode cX3_readAny 19 = .ok (.aload_n 0, 1) := by decide +kernel
theorem dX3_readAny_20 : decode cX3_readAny 20 = .ok (.invokevirtual 43, 3) := by decide +kernel
theorem dX3_readAny_23 : decode cX3_readAny 23 = .ok (.bipush 124, 2) := by decide +kernel
theorem dX3_readAny_25 : decode cX3_readAny 25 = .ok (.if_icmp .ne 41, 3) := by decide +kernel
theorem dX3_readAny_28 : decode cX3_readAny 28 = .ok (.aload_n 0, 1) := by decide +kernel
theorem dX3_readAny_29 : decode cX3_readAny 29 = .ok (.invokevirtual 53, 3) := by decide +kernel
theorem dX3_readAny_32 : decode cX3_readAny 32 = .ok (.aload_n 0, 1) := by decide +kernel
theorem dX3_readAny_33 : decode cX3_readAny 33 = .ok (.getfield 9, 3) := by decide +kernel
theorem dX3_readAny_36 : decode cX3_readAny 36 = .ok (.iconst 3, 1) := by decide +kernel
theorem dX3_readAny_37 : decode cX3_readAny 37 = .ok (.iconst 0, 1) := by decide +kernel
theorem dX3_readAny_38 : decode cX3_readAny 38 = .ok (.invokevirtual 62, 3) := by decide +kernel
theorem dX3_readAny_41 : decode cX3_readAny 41 = .ok (.istore_n 3, 1) := by decide +kernel
theorem dX3_readAny_42 : decode cX3_readAny 42 = .ok (.aload_n 0, 1) := by decide +kernel
theorem dX3_readAny_43 : decode cX3_readAny 43 = .ok (.iload_n 1, 1) := by decide +kernel
theorem dX3_readAny_44 : decode cX3_readAny 44 = .ok (.invokevirtual 72, 3) := by decide +kernel
theorem dX3_readAny_47 : decode cX3_readAny 47 = .ok (.ifCond .ne 5, 3) := by decide +kernel
theorem dX3_readAny_50 : decode cX3_readAny 50 = .ok (.iconst 0, 1) := by decide +kernel
theorem dX3_readAny_51 : decode cX3_readAny 51 = .ok (.ireturn, 1) := by decide +kernel
theorem dX3_readAny_52 : decode cX3_readAny 52 = .ok (.aload_n 0, 1) := by decide +kernel
theorem dX3_readAny_53 : decode cX3_readAny 53 = .ok (.getfield 9, 3) := by decide +kernel
theorem dX3_readAny_56 : decode cX3_readAny 56 = .ok (.iload_n 3, 1) := by decide +kernel
theorem dX3_readAny_57 : decode cX3_readAny 57 = .ok (.invokevirtual 75, 3) := by decide +kernel
theorem dX3_readAny_60 : decode cX3_readAny 60 = .ok (.iinc 2 1, 3) := by decide +kernel
theorem dX3_readAny_63 : decode cX3_readAny 63 = .ok (.goto (-51), 3) := by decide +kernel
theorem dX3_readAny_66 : decode cX3_readAny 66 = .ok (.iconst 1, 1) := by decide +kernel
theorem dX3_readAny_67 : decode cX3_readAny 67 = .ok (.ireturn, 1) := by decide +kernel
theorem dX3_readAll_0 : decode cX3_readAll 0 = .ok (.aload_n 0, 1) := by decide +kernel
theorem dX3_readAll_1 : decode cX3_readAll 1 = .ok (.iload_n 1, 1) := by decide +kernel
theorem dX3_readAll_2 : decode cX3_readAll 2 = .ok (.invokevirtual 78, 3) := by decide +kernel
theorem dX3_readAll_5 : decode cX3_readAll 5 = .ok (.ifCond .ne 5, 3) := by decide +kernel
theorem dX3_readAll_8 : decode cX3_readAll 8 = .ok (.iconst 0, 1) := by decide +kernel
theorem dX3_readAll_9 : decode cX3_readAll 9 = .ok (.ireturn, 1) := by decide +kernel
theorem dX3_readAll_10 : decode cX3_readAll 10 = .ok (.iconst 0, 1) := by decide +kernel
theorem dX3_readAll_11 : decode cX3_readAll 11 = .ok (.istore_n 2, 1) := by decide +kernel
theorem dX3_readAll_12 : decode cX3_readAll 12 = .ok (.iload_n 2, 1) := by decide +kernel
theorem dX3_readAll_13 : decode cX3_readAll 13 = .ok (.sipush 240, 3) := by decide +kernel
theorem dX3_readAll_16 : decode cX3_readAll 16 = .ok (.if_icmp .ge 50, 3) := by decide +kernel
theorem dX3_readAll_19 : decode cX3_readAll 19 = .ok (.aload_n 0, 1) := by decide +kernel
theorem dX3_readAll_20 : decode cX3_readAll 20 = .ok (.invokevirtual 43, 3) := by decide +kernel
theorem dX3_readAll_23 : decode cX3_readAll 23 = .ok (.bipush 38, 2) := by decide +kernel
theorem dX3_readAll_25 : decode cX3_readAll 25 = .ok (.if_icmp .ne 41, 3) := by decide +kernel
theorem dX3_readAll_28 : decode cX3_readAll 28 = .ok (.aload_n 0, 1) := by decide +kernel
theorem dX3_readAll_29 : decode cX3_readAll 29 = .ok (.invokevirtual 53, 3) := by decide +kernel
theorem dX3_readAll_32 : decode cX3_readAll 32 = .ok (.aload_n 0, 1) := by decide +kernel
theorem dX3_readAll_33 : decode cX3_readAll 33 = .ok (.getfield 9, 3) := by decide +kernel
theorem dX3_readAll_36 : decode cX3_readAll 36 = .ok (.iconst 4, 1) := by decide +kernel
theorem dX3_readAll_37 : decode cX3_readAll 37 = .ok (.iconst 0, 1) := by decide +kernel
theorem dX3_readAll_38 : decode cX3_readAll 38 = .ok (.invokevirtual 62, 3) := by decide +kernel
theorem dX3_readAll_41 : decode cX3_readAll 41 = .ok (.istore_n 3, 1) := by decide +kernel
theorem dX3_readAll_42 : decode cX3_readAll 42 = .ok (.aload_n 0, 1) := by decide +kernel
theorem dX3_readAll_43 : decode cX3_readAll 43 = .ok (.iload_n 1, 1) := by decide +kernel
theorem dX3_readAll_44 : decode cX3_readAll 44 = .ok (.invokevirtual 78, 3) := by decide +kernel
theorem dX3_readAll_47 : decode cX3_readAll 47 = .ok (.ifCond .ne 5, 3) := by decide +kernel
theorem dX3_readAll_50 : decode cX3_readAll 50 = .ok (.iconst 0, 1) := by decide +kernel
theorem dX3_readAll_51 : decode cX3_readAll 51 = .ok (.ireturn, 1) := by decide +kernel
theorem dX3_readAll_52 : decode cX3_readAll 52 = .ok (.aload_n 0, 1) := by decide +kernel
theorem dX3_readAll_53 : decode cX3_readAll 53 = .ok (.getfield 9, 3) := by decide +kernel
theorem dX3_readAll_56 : decode cX3_readAll 56 = .ok (.iload_n 3, 1) := by decide +kernel
theorem dX3_readAll_57 : decode cX3_readAll 57 = .ok (.invokevirtual 75, 3) := by decide +kernel
theorem dX3_readAll_60 : decode cX3_readAll 60 = .ok (.iinc 2 1, 3) := by decide +kernel
theorem dX3_readAll_63 : decode cX3_readAll 63 = .ok (.goto (-51), 3) := by decide +kernel
theorem dX3_readAll_66 : decode cX3_readAll 66 = .ok (.iconst 1, 1) := by decide +kernel
theorem dX3_readAll_67 : decode cX3_readAll 67 = .ok (.ireturn, 1) := by decide +kernel
theorem dX3_readTest_0 : decode cX3_readTest 0 = .ok (.aload_n 0, 1) := by decide +kernel
theorem dX3_readTest_1 : decode cX3_readTest 1 = .ok (.invokevirtual 43, 3) := by decide +kernel
theorem dX3_readTest_4 : decode cX3_readTest 4 = .ok (.istore_n 2, 1) := by decide +kernel
theorem dX3_readTest_5 : decode cX3_readTest 5 = .ok (.iload_n 2, 1) := by decide +kernel
theorem dX3_readTest_6 : decode cX3_readTest 6 = .ok (.bipush 33, 2) := by decide +kernel
theorem dX3_readTest_8 : decode cX3_readTest 8 = .ok (.if_icmp .eq 15, 3) := by decide +kernel
theorem dX3_readTest_11 : decode cX3_readTest 11 = .ok (.iload_n 2, 1) := by decide +kernel
theorem dX3_readTest_12 : decode cX3_readTest 12 = .ok (.bipush 40, 2) := by decide +kernel
theorem dX3_readTest_14 : decode cX3_readTest 14 = .ok (.if_icmp .eq 9, 3) := by decide +kernel
theorem dX3_readTest_17 : decode cX3_readTest 17 = .ok (.aload_n 0, 1) := by decide +kernel
theorem dX3_readTest_18 : decode cX3_readTest 18 = .ok (.iload_n 1, 1) := by decide +kernel
theorem dX3_readTest_19 : decode cX3_readTest 19 = .ok (.invokevirtual 81, 3) := by decide +kernel
theorem dX3_readTest_22 : decode cX3_readTest 22 = .ok (.ireturn, 1) := by decide +kernel
theorem dX3_readTest_23 : decode cX3_readTest 23 = .ok (.iload_n 1, 1) := by decide +kernel
theorem dX3_readTest_24 : decode cX3_readTest 24 = .ok (.bipush 6, 2) := by decide +kernel
theorem dX3_readTest_26 : decode cX3_readTest 26 = .ok (.if_icmp .lt 13, 3) := by decide +kernel
theorem dX3_readTest_29 : decode cX3_readTest 29 = .ok (.aload_n 0, 1) := by decide +kernel
theorem dX3_readTest_30 : decode cX3_readTest 30 = .ok (.iconst 5, 1) := by decide +kernel
theorem dX3_readTest_31 : decode cX3_readTest 31 = .ok (.aload_n 0, 1) := by decide +kernel
theorem dX3_readTest_32 : decode cX3_readTest 32 = .ok (.invokevirtual 46, 3) := by decide +kernel
theorem dX3_readTest_35 : decode cX3_readTest 35 = .ok (.invokevirtual 49, 3) := by decide +kernel
theorem dX3_readTest_38 : decode cX3_readTest 38 = .ok (.ireturn, 1) := by decide +kernel
theorem dX3_readTest_39 : decode cX3_readTest 39 = .ok (.aload_n 0, 1) := by decide +kernel
theorem dX3_readTest_40 : decode cX3_readTest 40 = .ok (.invokevirtual 53, 3) := by decide +kernel
theorem dX3_readTest_43 : decode cX3_readTest 43 = .ok (.iload_n 2, 1) := by decide +kernel
theorem dX3_readTest_44 : decode cX3_readTest 44 = .ok (.bipush 40, 2) := by decide +kernel
theorem dX3_readTest_46 : decode cX3_readTest 46 = .ok (.if_icmp .ne 28, 3) := by decide +kernel
theorem dX3_readTest_49 : decode cX3_readTest 49 = .ok (.aload_n 0, 1) := by decide +kernel
theorem dX3_readTest_50 : decode cX3_readTest 50 = .ok (.iload_n 1, 1) := by decide +kernel
theorem dX3_readTest_51 : decode cX3_readTest 51 = .ok (.iconst 1, 1) := by decide +kernel
theorem dX3_readTest_52 : decode cX3_readTest 52 = .ok (.iadd, 1) := by decide +kernel
theorem dX3_readTest_53 : decode cX3_readTest 53 = .ok (.invokevirtual 69, 3) := by decide +kernel
theorem dX3_readTest_56 : decode cX3_readTest 56 = .ok (.ifCond .eq 16, 3) := by decide +kernel
theorem dX3_readTest_59 : decode cX3_readTest 59 = .ok (.aload_n 0, 1) := by decide +kernel
theorem dX3_readTest_60 : decode cX3_readTest 60 = .ok (.bipush 41, 2) := by decide +kernel
theorem dX3_readTest_62 : decode cX3_readTest 62 = .ok (.invokevirtual 39, 3) := by decide +kernel
theorem dX3_readTest_65 : decode cX3_readTest 65 = .ok (.ifCond .eq 7, 3) := by decide +kernel
theorem dX3_readTest_68 : decode cX3_readTest 68 = .ok (.iconst 1, 1) := by decide +kernel
theorem dX3_readTest_69 : decode cX3_readTest 69 = .ok (.goto 4, 3) := by decide +kernel
theorem dX3_readTest_72 : decode cX3_readTest 72 = .ok (.iconst 0, 1) := by decide +kernel
theorem dX3_readTest_73 : decode cX3_readTest 73 = .ok (.ireturn, 1) := by decide +kernel
theorem dX3_readTest_74 : decode cX3_readTest 74 = .ok (.aload_n 0, 1) := by decide +kernel
theorem dX3_readTest_75 : decode cX3_readTest 75 = .ok (.iload_n 1, 1) := by decide +kernel
theorem dX3_readTest_76 : decode cX3_readTest 76 = .ok (.iconst 1, 1) := by decide +kernel
theorem dX3_readTest_77 : decode cX3_readTest 77 = .ok (.iadd, 1) := by decide +kernel
theorem dX3_readTest_78 : decode cX3_readTest 78 = .ok (.invokevirtual 78, 3) := by decide +kernel
theorem dX3_readTest_81 : decode cX3_readTest 81 = .ok (.ifCond .ne 5, 3) := by decide +kernel
theorem dX3_readTest_84 : decode cX3_readTest 84 = .ok (.iconst 0, 1) := by decide +kernel
theorem dX3_readTest_85 : decode cX3_readTest 85 = .ok (.ireturn, 1) := by decide +kernel
theorem dX3_readTest_86 : decode cX3_readTest 86 = .ok (.aload_n 0, 1) := by decide +kernel
theorem dX3_readTest_87 : decode cX3_readTest 87 = .ok (.getfield 9, 3) := by decide +kernel
theorem dX3_readTest_90 : decode cX3_readTest 90 = .ok (.bipush 33, 2) := by decide +kernel
theorem dX3_readTest_92 : decode cX3_readTest 92 = .ok (.iconst 0, 1) := by decide +kernel
theorem dX3_readTest_93 : decode cX3_readTest 93 = .ok (.invokevirtual 62, 3) := by decide +kernel
theorem dX3_readTest_96 : decode cX3_readTest 96 = .ok (.pop, 1) := by decide +kernel
theorem dX3_readTest_97 : decode cX3_readTest 97 = .ok (.iconst 1, 1) := by decide +kernel
theorem dX3_readTest_98 : decode cX3_readTest 98 = .ok (.ireturn, 1) := by decide +kernel
theorem dX3_readComparison_0 : decode cX3_readComparison 0 = .ok (.aload_n 0, 1) := by decide +kernel
theorem dX3_readComparison_1 : decode cX3_readComparison 1 = .ok (.iload_n 1, 1) := by decide +kernel
theorem dX3_readComparison_2 : decode cX3_readComparison 2 = .ok (.invokevirtual 59, 3) := by decide +kernel
theorem dX3_readComparison_5 : decode cX3_readComparison 5 = .ok (.ifCond .ne 5, 3) := by decide +kernel
theorem dX3_readComparison_8 : decode cX3_readComparison 8 = .ok (.iconst 0, 1) := by decide +kernel
theorem dX3_readComparison_9 : decode cX3_readComparison 9 = .ok (.ireturn, 1) := by decide +kernel
theorem dX3_readComparison_10 : decode cX3_readComparison 10 = .ok (.aload_n 0, 1) := by decide +kernel
theorem dX3_readComparison_11 : decode cX3_readComparison 11 = .ok (.invokevirtual 43, 3) := by decide +kernel
theorem dX3_readComparison_14 : decode cX3_readComparison 14 = .ok (.istore_n 2, 1) := by decide +kernel
theorem dX3_readComparison_15 : decode cX3_readComparison 15 = .ok (.iload_n 2, 1) := by decide +kernel
theorem dX3_readComparison_16 : decode cX3_readComparison 16 = .ok (.bipush 60, 2) := by decide +kernel
theorem dX3_readComparison_18 : decode cX3_readComparison 18 = .ok (.if_icmp .eq 25, 3) := by decide +kernel
theorem dX3_readComparison_21 : decode cX3_readComparison 21 = .ok (.iload_n 2, 1) := by decide +kernel
theorem dX3_readComparison_22 : decode cX3_readComparison 22 = .ok (.bipush 62, 2) := by decide +kernel
theorem dX3_readComparison_24 : decode cX3_readComparison 24 = .ok (.if_icmp .eq 19, 3) := by decide +kernel
theorem dX3_readComparison_27 : decode cX3_readComparison 27 = .ok (.iload_n 2, 1) := by decide +kernel
theorem dX3_readComparison_28 : decode cX3_readComparison 28 = .ok (.bipush 61, 2) := by decide +kernel
theorem dX3_readComparison_30 : decode cX3_readComparison 30 = .ok (.if_icmp .eq 13, 3) := by decide +kernel
theorem dX3_readComparison_33 : decode cX3_readComparison 33 = .ok (.aload_n 0, 1) := by decide +kernel
theorem dX3_readComparison_34 : decode cX3_readComparison 34 = .ok (.iconst 1, 1) := by decide +kernel
theorem dX3_readComparison_35 : decode cX3_readComparison 35 = .ok (.aload_n 0, 1) := by decide +kernel
theorem dX3_readComparison_36 : decode cX3_readComparison 36 = .ok (.invokevirtual 46, 3) := by decide +kernel
theorem dX3_readComparison_39 : decode cX3_readComparison 39 = .ok (.invokevirtual 49, 3) := by decide +kernel
theorem dX3_readComparison_42 : decode cX3_readComparison 42 = .ok (.ireturn, 1) := by decide +kernel
theorem dX3_readComparison_43 : decode cX3_readComparison 43 = .ok (.aload_n 0, 1) := by decide +kernel
theorem dX3_readComparison_44 : decode cX3_readComparison 44 = .ok (.invokevirtual 53, 3) := by decide +kernel
theorem dX3_readComparison_47 : decode cX3_readComparison 47 = .ok (.aload_n 0, 1) := by decide +kernel
theorem dX3_readComparison_48 : decode cX3_readComparison 48 = .ok (.iload_n 1, 1) := by decide +kernel
theorem dX3_readComparison_49 : decode cX3_readComparison 49 = .ok (.invokevirtual 59, 3) := by decide +kernel
theorem dX3_readComparison_52 : decode cX3_readComparison 52 = .ok (.ifCond .ne 5, 3) := by decide +kernel
theorem dX3_readComparison_55 : decode cX3_readComparison 55 = .ok (.iconst 0, 1) := by decide +kernel
theorem dX3_readComparison_56 : decode cX3_readComparison 56 = .ok (.ireturn, 1) := by decide +kernel
theorem dX3_readComparison_57 : decode cX3_readComparison 57 = .ok (.aload_n 0, 1) := by decide +kernel
theorem dX3_readComparison_58 : decode cX3_readComparison 58 = .ok (.getfield 9, 3) := by decide +kernel
theorem dX3_readComparison_61 : decode cX3_readComparison 61 = .ok (.iload_n 2, 1) := by decide +kernel
theorem dX3_readComparison_62 : decode cX3_readComparison 62 = .ok (.iconst 0, 1) := by decide +kernel
theorem dX3_readComparison_63 : decode cX3_readComparison 63 = .ok (.invokevirtual 62, 3) := by decide +kernel
theorem dX3_readComparison_66 : decode cX3_readComparison 66 = .ok (.pop, 1) := by decide +kernel
theorem dX3_readComparison_67 : decode cX3_readComparison 67 = .ok (.iconst 1, 1) := by decide +kernel
theorem dX3_readComparison_68 : decode cX3_readComparison 68 = .ok (.ireturn, 1) := by decide +kernel
theorem dX3_readSum_0 : decode cX3_readSum 0 = .ok (.aload_n 0, 1) := by decide +kernel
theorem dX3_readSum_1 : decode cX3_readSum 1 = .ok (.iload_n 1, 1) := by decide +kernel
theorem dX3_readSum_2 : decode cX3_readSum 2 = .ok (.invokevirtual 84, 3) := by decide +kernel
theorem dX3_readSum_5 : decode cX3_readSum 5 = .ok (.ifCond .ne 5, 3) := by decide +kernel
theorem dX3_readSum_8 : decode cX3_readSum 8 = .ok (.iconst 0, 1) := by decide +kernel
theorem dX3_readSum_9 : decode cX3_readSum 9 = .ok (.ireturn, 1) := by decide +kernel
theorem dX3_readSum_10 : decode cX3_readSum 10 = .ok (.iconst 0, 1) := by decide +kernel
theorem dX3_readSum_11 : decode cX3_readSum 11 = .ok (.istore_n 2, 1) := by decide +kernel
theorem dX3_readSum_12 : decode cX3_readSum 12 = .ok (.iload_n 2, 1) := by decide +kernel
theorem dX3_readSum_13 : decode cX3_readSum 13 = .ok (.sipush 240, 3) := by decide +kernel
theorem dX3_readSum_16 : decode cX3_readSum 16 = .ok (.if_icmp .ge 56, 3) := by decide +kernel
theorem dX3_readSum_19 : decode cX3_readSum 19 = .ok (.aload_n 0, 1) := by decide +kernel
theorem dX3_readSum_20 : decode cX3_readSum 20 = .ok (.invokevirtual 43, 3) := by decide +kernel
theorem dX3_readSum_23 : decode cX3_readSum 23 = .ok (.bipush 43, 2) := by decide +kernel
theorem dX3_readSum_25 : decode cX3_readSum 25 = .ok (.if_icmp .eq 12, 3) := by decide +kernel
theorem dX3_readSum_28 : decode cX3_readSum 28 = .ok (.aload_n 0, 1) := by decide +kernel
theorem dX3_readSum_29 : decode cX3_readSum 29 = .ok (.invokevirtual 43, 3) := by decide +kernel
theorem dX3_readSum_32 : decode cX3_readSum 32 = .ok (.bipush 45, 2) := by decide +kernel
theorem dX3_readSum_34 : decode cX3_readSum 34 = .ok (.if_icmp .ne 38, 3) := by decide +kernel
theorem dX3_readSum_37 : decode cX3_readSum 37 = .ok (.aload_n 0, 1) := by decide +kernel
theorem dX3_readSum_38 : decode cX3_readSum 38 = .ok (.invokevirtual 43, 3) := by decide +kernel
theorem dX3_readSum_41 : decode cX3_readSum 41 = .ok (.istore_n 3, 1) := by decide +kernel
theorem dX3_readSum_42 : decode cX3_readSum 42 = .ok (.aload_n 0, 1) := by decide +kernel
theorem dX3_readSum_43 : decode cX3_readSum 43 = .ok (.invokevirtual 53, 3) := by decide +kernel
theorem dX3_readSum_46 : decode cX3_readSum 46 = .ok (.aload_n 0, 1) := by decide +kernel
theorem dX3_readSum_47 : decode cX3_readSum 47 = .ok (.iload_n 1, 1) := by decide +kernel
theorem dX3_readSum_48 : decode cX3_readSum 48 = .ok (.invokevirtual 84, 3) := by decide +kernel
theorem dX3_readSum_51 : decode cX3_readSum 51 = .ok (.ifCond .ne 5, 3) := by decide +kernel
theorem dX3_readSum_54 : decode cX3_readSum 54 = .ok (.iconst 0, 1) := by decide +kernel
theorem dX3_readSum_55 : decode cX3_readSum 55 = .ok (.ireturn, 1) := by decide +kernel
theorem dX3_readSum_56 : decode cX3_readSum 56 = .ok (.aload_n 0, 1) := by decide +kernel
theorem dX3_readSum_57 : decode cX3_readSum 57 = .ok (.getfield 9, 3) := by decide +kernel
theorem dX3_readSum_60 : decode cX3_readSum 60 = .ok (.iload_n 3, 1) := by decide +kernel
theorem dX3_readSum_61 : decode cX3_readSum 61 = .ok (.iconst 0, 1) := by decide +kernel
theorem dX3_readSum_62 : decode cX3_readSum 62 = .ok (.invokevirtual 62, 3) := by decide +kernel
theorem dX3_readSum_65 : decode cX3_readSum 65 = .ok (.pop, 1) := by decide +kernel
theorem dX3_readSum_66 : decode cX3_readSum 66 = .ok (.iinc 2 1, 3) := by decide +kernel
theorem dX3_readSum_69 : decode cX3_readSum 69 = .ok (.goto (-57), 3) := by decide +kernel
theorem dX3_readSum_72 : decode cX3_readSum 72 = .ok (.iconst 1, 1) := by decide +kernel
theorem dX3_readSum_73 : decode cX3_readSum 73 = .ok (.ireturn, 1) := by decide +kernel
theorem dX3_readTerm_0 : decode cX3_readTerm 0 = .ok (.aload_n 0, 1) := by decide +kernel
theorem dX3_readTerm_1 : decode cX3_readTerm 1 = .ok (.iload_n 1, 1) := by decide +kernel
theorem dX3_readTerm_2 : decode cX3_readTerm 2 = .ok (.invokevirtual 87, 3) := by decide +kernel
theorem dX3_readTerm_5 : decode cX3_readTerm 5 = .ok (.ifCond .ne 5, 3) := by decide +kernel
theorem dX3_readTerm_8 : decode cX3_readTerm 8 = .ok (.iconst 0, 1) := by decide +kernel
theorem dX3_readTerm_9 : decode cX3_readTerm 9 = .ok (.ireturn, 1) := by decide +kernel
theorem dX3_readTerm_10 : decode cX3_readTerm 10 = .ok (.iconst 0, 1) := by decide +kernel
theorem dX3_readTerm_11 : decode cX3_readTerm 11 = .ok (.istore_n 2, 1) := by decide +kernel
theorem dX3_readTerm_12 : decode cX3_readTerm 12 = .ok (.iload_n 2, 1) := by decide +kernel
theorem dX3_readTerm_13 : decode cX3_readTerm 13 = .ok (.sipush 240, 3) := by decide +kernel
theorem dX3_readTerm_16 : decode cX3_readTerm 16 = .ok (.if_icmp .ge 65, 3) := by decide +kernel
theorem dX3_readTerm_19 : decode cX3_readTerm 19 = .ok (.aload_n 0, 1) := by decide +kernel
theorem dX3_readTerm_20 : decode cX3_readTerm 20 = .ok (.invokevirtual 43, 3) := by decide +kernel
theorem dX3_readTerm_23 : decode cX3_readTerm 23 = .ok (.bipush 42, 2) := by decide +kernel
theorem dX3_readTerm_25 : decode cX3_readTerm 25 = .ok (.if_icmp .eq 21, 3) := by decide +kernel
theorem dX3_readTerm_28 : decode cX3_readTerm 28 = .ok (.aload_n 0, 1) := by decide +kernel
theorem dX3_readTerm_29 : decode cX3_readTerm 29 = .ok (.invokevirtual 43, 3) := by decide +kernel
theorem dX3_readTerm_32 : decode cX3_readTerm 32 = .ok (.bipush 47, 2) := by decide +kernel
theorem dX3_readTerm_34 : decode cX3_readTerm 34 = .ok (.if_icmp .eq 12, 3) := by decide +kernel
theorem dX3_readTerm_37 : decode cX3_readTerm 37 = .ok (.aload_n 0, 1) := by decide +kernel
theorem dX3_readTerm_38 : decode cX3_readTerm 38 = .ok (.invokevirtual 43, 3) := by decide +kernel
theorem dX3_readTerm_41 : decode cX3_readTerm 41 = .ok (.bipush 37, 2) := by decide +kernel
theorem dX3_readTerm_43 : decode cX3_readTerm 43 = .ok (.if_icmp .ne 38, 3) := by decide +kernel
theorem dX3_readTerm_46 : decode cX3_readTerm 46 = .ok (.aload_n 0, 1) := by decide +kernel
theorem dX3_readTerm_47 : decode cX3_readTerm 47 = .ok (.invokevirtual 43, 3) := by decide +kernel
theorem dX3_readTerm_50 : decode cX3_readTerm 50 = .ok (.istore_n 3, 1) := by decide +kernel
theorem dX3_readTerm_51 : decode cX3_readTerm 51 = .ok (.aload_n 0, 1) := by decide +kernel
theorem dX3_readTerm_52 : decode cX3_readTerm 52 = .ok (.invokevirtual 53, 3) := by decide +kernel
theorem dX3_readTerm_55 : decode cX3_readTerm 55 = .ok (.aload_n 0, 1) := by decide +kernel
theorem dX3_readTerm_56 : decode cX3_readTerm 56 = .ok (.iload_n 1, 1) := by decide +kernel
theorem dX3_readTerm_57 : decode cX3_readTerm 57 = .ok (.invokevirtual 87, 3) := by decide +kernel
theorem dX3_readTerm_60 : decode cX3_readTerm 60 = .ok (.ifCond .ne 5, 3) := by decide +kernel
theorem dX3_readTerm_63 : decode cX3_readTerm 63 = .ok (.iconst 0, 1) := by decide +kernel
theorem dX3_readTerm_64 : decode cX3_readTerm 64 = .ok (.ireturn, 1) := by decide +kernel
theorem dX3_readTerm_65 : decode cX3_readTerm 65 = .ok (.aload_n 0, 1) := by decide +kernel
theorem dX3_readTerm_66 : decode cX3_readTerm 66 = .ok (.getfield 9, 3) := by decide +kernel
theorem dX3_readTerm_69 : decode cX3_readTerm 69 = .ok (.iload_n 3, 1) := by decide +kernel
theorem dX3_readTerm_70 : decode cX3_readTerm 70 = .ok (.iconst 0, 1) := by decide +kernel
theorem dX3_readTerm_71 : decode cX3_readTerm 71 = .ok (.invokevirtual 62, 3) := by decide +kernel
theorem dX3_readTerm_74 : decode cX3_readTerm 74 = .ok (.pop, 1) := by decide +kernel
theorem dX3_readTerm_75 : decode cX3_readTerm 75 = .ok (.iinc 2 1, 3) := by decide +kernel
theorem dX3_readTerm_78 : decode cX3_readTerm 78 = .ok (.goto (-66), 3) := by decide +kernel
theorem dX3_readTerm_81 : decode cX3_readTerm 81 = .ok (.iconst 1, 1) := by decide +kernel
theorem dX3_readTerm_82 : decode cX3_readTerm 82 = .ok (.ireturn, 1) := by decide +kernel
theorem dX3_readFactor_0 : decode cX3_readFactor 0 = .ok (.aload_n 0, 1) := by decide +kernel
theorem dX3_readFactor_1 : decode cX3_readFactor 1 = .ok (.invokevirtual 43, 3) := by decide +kernel
theorem dX3_readFactor_4 : decode cX3_readFactor 4 = .ok (.bipush 91, 2) := by decide +kernel
theorem dX3_readFactor_6 : decode cX3_readFactor 6 = .ok (.if_icmp .ne 48, 3) := by decide +kernel
theorem dX3_readFactor_9 : decode cX3_readFactor 9 = .ok (.iload_n 1, 1) := by decide +kernel
theorem dX3_readFactor_10 : decode cX3_readFactor 10 = .ok (.bipush 6, 2) := by decide +kernel
theorem dX3_readFactor_12 : decode cX3_readFactor 12 = .ok (.if_icmp .lt 13, 3) := by decide +kernel
theorem dX3_readFactor_15 : decode cX3_readFactor 15 = .ok (.aload_n 0, 1) := by decide +kernel
theorem dX3_readFactor_16 : decode cX3_readFactor 16 = .ok (.iconst 5, 1) := by decide +kernel
theorem dX3_readFactor_17 : decode cX3_readFactor 17 = .ok (.aload_n 0, 1) := by decide +kernel
theorem dX3_readFactor_18 : decode cX3_readFactor 18 = .ok (.invokevirtual 46, 3) := by decide +kernel
theorem dX3_readFactor_21 : decode cX3_readFactor 21 = .ok (.invokevirtual 49, 3) := by decide +kernel
theorem dX3_readFactor_24 : decode cX3_readFactor 24 = .ok (.ireturn, 1) := by decide +kernel
theorem dX3_readFactor_25 : decode cX3_readFactor 25 = .ok (.aload_n 0, 1) := by decide +kernel
theorem dX3_readFactor_26 : decode cX3_readFactor 26 = .ok (.invokevirtual 53, 3) := by decide +kernel
theorem dX3_readFactor_29 : decode cX3_readFactor 29 = .ok (.aload_n 0, 1) := by decide +kernel
theorem dX3_readFactor_30 : decode cX3_readFactor 30 = .ok (.iload_n 1, 1) := by decide +kernel
theorem dX3_readFactor_31 : decode cX3_readFactor 31 = .ok (.iconst 1, 1) := by decide +kernel
theorem dX3_readFactor_32 : decode cX3_readFactor 32 = .ok (.iadd, 1) := by decide +kernel
theorem dX3_readFactor_33 : decode cX3_readFactor 33 = .ok (.invokevirtual 59, 3) := by decide +kernel
theorem dX3_readFactor_36 : decode cX3_readFactor 36 = .ok (.ifCond .eq 16, 3) := by decide +kernel
theorem dX3_readFactor_39 : decode cX3_readFactor 39 = .ok (.aload_n 0, 1) := by decide +kernel
theorem dX3_readFactor_40 : decode cX3_readFactor 40 = .ok (.bipush 93, 2) := by decide +kernel
theorem dX3_readFactor_42 : decode cX3_readFactor 42 = .ok (.invokevirtual 39, 3) := by decide +kernel
theorem dX3_readFactor_45 : decode cX3_readFactor 45 = .ok (.ifCond .eq 7, 3) := by decide +kernel
theorem dX3_readFactor_48 : decode cX3_readFactor 48 = .ok (.iconst 1, 1) := by decide +kernel
theorem dX3_readFactor_49 : decode cX3_readFactor 49 = .ok (.goto 4, 3) := by decide +kernel
theorem dX3_readFactor_52 : decode cX3_readFactor 52 = .ok (.iconst 0, 1) := by decide +kernel
theorem dX3_readFactor_53 : decode cX3_readFactor 53 = .ok (.ireturn, 1) := by decide +kernel
theorem dX3_readFactor_54 : decode cX3_readFactor 54 = .ok (.aload_n 0, 1) := by decide +kernel
theorem dX3_readFactor_55 : decode cX3_readFactor 55 = .ok (.invokevirtual 43, 3) := by decide +kernel
theorem dX3_readFactor_58 : decode cX3_readFactor 58 = .ok (.bipush 97, 2) := by decide +kernel
theorem dX3_readFactor_60 : decode cX3_readFactor 60 = .ok (.bipush 122, 2) := by decide +kernel
theorem dX3_readFactor_62 : decode cX3_readFactor 62 = .ok (.invokestatic 90, 3) := by decide +kernel
theorem dX3_readFactor_65 : decode cX3_readFactor 65 = .ok (.ifCond .eq 16, 3) := by decide +kernel
theorem dX3_readFactor_68 : decode cX3_readFactor 68 = .ok (.ldc 94, 2) := by decide +kernel
theorem dX3_readFactor_70 : decode cX3_readFactor 70 = .ok (.aload_n 0, 1) := by decide +kernel
theorem dX3_readFactor_71 : decode cX3_readFactor 71 = .ok (.invokevirtual 43, 3) := by decide +kernel
theorem dX3_readFactor_74 : decode cX3_readFactor 74 = .ok (.i2c, 1) := by decide +kernel
theorem dX3_readFactor_75 : decode cX3_readFactor 75 = .ok (.invokevirtual 96, 3) := by decide +kernel
theorem dX3_readFactor_78 : decode cX3_readFactor 78 = .ok (.goto 4, 3) := by decide +kernel
theorem dX3_readFactor_81 : decode cX3_readFactor 81 = .ok (.iconst (-1), 1) := by decide +kernel
theorem dX3_readFactor_82 : decode cX3_readFactor 82 = .ok (.istore_n 2, 1) := by decide +kernel
theorem dX3_readFactor_83 : decode cX3_readFactor 83 = .ok (.iload_n 2, 1) := by decide +kernel
theorem dX3_readFactor_84 : decode cX3_readFactor 84 = .ok (.ifCond .lt 19, 3) := by decide +kernel
theorem dX3_readFactor_87 : decode cX3_readFactor 87 = .ok (.aload_n 0, 1) := by decide +kernel
theorem dX3_readFactor_88 : decode cX3_readFactor 88 = .ok (.invokevirtual 53, 3) := by decide +kernel
theorem dX3_readFactor_91 : decode cX3_readFactor 91 = .ok (.aload_n 0, 1) := by decide +kernel
theorem dX3_readFactor_92 : decode cX3_readFactor 92 = .ok (.getfield 9, 3) := by decide +kernel
theorem dX3_readFactor_95 : decode cX3_readFactor 95 = .ok (.iconst 2, 1) := by decide +kernel
theorem dX3_readFactor_96 : decode cX3_readFactor 96 = .ok (.iload_n 2, 1) := by decide +kernel
theorem dX3_readFactor_97 : decode cX3_readFactor 97 = .ok (.invokevirtual 62, 3) := by decide +kernel
theorem dX3_readFactor_100 : decode cX3_readFactor 100 = .ok (.pop, 1) := by decide +kernel
theorem dX3_readFactor_101 : decode cX3_readFactor 101 = .ok (.iconst 1, 1) := by decide +kernel
theorem dX3_readFactor_102 : decode cX3_readFactor 102 = .ok (.ireturn, 1) := by decide +kernel
theorem dX3_readFactor_103 : decode cX3_readFactor 103 = .ok (.aload_n 0, 1) := by decide +kernel
theorem dX3_readFactor_104 : decode cX3_readFactor 104 = .ok (.iconst 5, 1) := by decide +kernel
theorem dX3_readFactor_105 : decode cX3_readFactor 105 = .ok (.ldc 102, 2) := by decide +kernel
theorem dX3_readFactor_107 : decode cX3_readFactor 107 = .ok (.iconst 2, 1) := by decide +kernel
theorem dX3_readFactor_108 : decode cX3_readFactor 108 = .ok (.invokevirtual 103, 3) := by decide +kernel
theorem dX3_readFactor_111 : decode cX3_readFactor 111 = .ok (.istore_n 3, 1) := by decide +kernel
theorem dX3_readFactor_112 : decode cX3_readFactor 112 = .ok (.aload_n 0, 1) := by decide +kernel
theorem dX3_readFactor_113 : decode cX3_readFactor 113 = .ok (.getfield 9, 3) := by decide +kernel
theorem dX3_readFactor_116 : decode cX3_readFactor 116 = .ok (.iconst 1, 1) := by decide +kernel
theorem dX3_readFactor_117 : decode cX3_readFactor 117 = .ok (.iload_n 3, 1) := by decide +kernel
theorem dX3_readFactor_118 : decode cX3_readFactor 118 = .ok (.invokevirtual 62, 3) := by decide +kernel
theorem dX3_readFactor_121 : decode cX3_readFactor 121 = .ok (.pop, 1) := by decide +kernel
theorem dX3_readFactor_122 : decode cX3_readFactor 122 = .ok (.iload_n 3, 1) := by decide +kernel
theorem dX3_readFactor_123 : decode cX3_readFactor 123 = .ok (.iconst (-1), 1) := by decide +kernel
theorem dX3_readFactor_124 : decode cX3_readFactor 124 = .ok (.if_icmp .eq 7, 3) := by decide +kernel
theorem dX3_readFactor_127 : decode cX3_readFactor 127 = .ok (.iconst 1, 1) := by decide +kernel
theorem dX3_readFactor_128 : decode cX3_readFactor 128 = .ok (.goto 4, 3) := by decide +kernel
theorem dX3_readFactor_131 : decode cX3_readFactor 131 = .ok (.iconst 0, 1) := by decide +kernel
theorem dX3_readFactor_132 : decode cX3_readFactor 132 = .ok (.ireturn, 1) := by decide +kernel
theorem dX4_init_0 : decode cX4_init 0 = .ok (.aload_n 0, 1) := by decide +kernel
theorem dX4_init_1 : decode cX4_init 1 = .ok (.invokespecial 3, 3) := by decide +kernel
theorem dX4_init_4 : decode cX4_init 4 = .ok (.aload_n 0, 1) := by decide +kernel
theorem dX4_init_5 : decode cX4_init 5 = .ok (.bipush 8, 2) := by decide +kernel
theorem dX4_init_7 : decode cX4_init 7 = .ok (.newarray .int, 2) := by decide +kernel
theorem dX4_init_9 : decode cX4_init 9 = .ok (.putfield 9, 3) := by decide +kernel
theorem dX4_init_12 : decode cX4_init 12 = .ok (.aload_n 0, 1) := by decide +kernel
theorem dX4_init_13 : decode cX4_init 13 = .ok (.bipush 8, 2) := by decide +kernel
theorem dX4_init_15 : decode cX4_init 15 = .ok (.newarray .int, 2) := by decide +kernel
theorem dX4_init_17 : decode cX4_init 17 = .ok (.putfield 15, 3) := by decide +kernel
theorem dX4_init_20 : decode cX4_init 20 = .ok (.aload_n 0, 1) := by decide +kernel
theorem dX4_init_21 : decode cX4_init 21 = .ok (.bipush 48, 2) := by decide +kernel
theorem dX4_init_23 : decode cX4_init 23 = .ok (.newarray .int, 2) := by decide +kernel
theorem dX4_init_25 : decode cX4_init 25 = .ok (.putfield 18, 3) := by decide +kernel
theorem dX4_init_28 : decode cX4_init 28 = .ok (.aload_n 0, 1) := by decide +kernel
theorem dX4_init_29 : decode cX4_init 29 = .ok (.bipush 48, 2) := by decide +kernel
theorem dX4_init_31 : decode cX4_init 31 = .ok (.newarray .int, 2) := by decide +kernel
theorem dX4_init_33 : decode cX4_init 33 = .ok (.putfield 21, 3) := by decide +kernel
theorem dX4_init_36 : decode cX4_init 36 = .ok (.aload_n 0, 1) := by decide +kernel
theorem dX4_init_37 : decode cX4_init 37 = .ok (.iconst 0, 1) := by decide +kernel
theorem dX4_init_38 : decode cX4_init 38 = .ok (.putfield 24, 3) := by decide +kernel
theorem dX4_init_41 : decode cX4_init 41 = .ok (.aload_n 0, 1) := by decide +kernel
theorem dX4_init_42 : decode cX4_init 42 = .ok (.iconst 0, 1) := by decide +kernel
theorem dX4_init_43 : decode cX4_init 43 = .ok (.putfield 28, 3) := by decide +kernel
theorem dX4_init_46 : decode cX4_init 46 = .ok (.aload_n 0, 1) := by decide +kernel
theorem dX4_init_47 : decode cX4_init 47 = .ok (.iconst 0, 1) := by decide +kernel
theorem dX4_init_48 : decode cX4_init 48 = .ok (.putfield 31, 3) := by decide +kernel
theorem dX4_init_51 : decode cX4_init 51 = .ok (.aload_n 0, 1) := by decide +kernel
theorem dX4_init_52 : decode cX4_init 52 = .ok (.iconst 1, 1) := by decide +kernel
theorem dX4_init_53 : decode cX4_init 53 = .ok (.putfield 34, 3) := by decide +kernel
theorem dX4_init_56 : decode cX4_init 56 = .ok (.aload_n 0, 1) := by decide +kernel
theorem dX4_init_57 : decode cX4_init 57 = .ok (.getfield 18, 3) := by decide +kernel
theorem dX4_init_60 : decode cX4_init 60 = .ok (.bipush (-2), 2) := by decide +kernel
theorem dX4_init_62 : decode cX4_init 62 = .ok (.invokestatic 37, 3) := by decide +kernel
theorem dX4_init_65 : decode cX4_init 65 = .ok (.return_, 1) := by decide +kernel
theorem dX4_copyFrom_0 : decode cX4_copyFrom 0 = .ok (.aload_n 1, 1) := by decide +kernel
theorem dX4_copyFrom_1 : decode cX4_copyFrom 1 = .ok (.getfield 9, 3) := by decide +kernel
theorem dX4_copyFrom_4 : decode cX4_copyFrom 4 = .ok (.iconst 0, 1) := by decide +kernel
theorem dX4_copyFrom_5 : decode cX4_copyFrom 5 = .ok (.aload_n 0, 1) := by decide +kernel
theorem dX4_copyFrom_6 : decode cX4_copyFrom 6 = .ok (.getfield 9, 3) := by decide +kernel
theorem dX4_copyFrom_9 : decode cX4_copyFrom 9 = .ok (.iconst 0, 1) := by decide +kernel
theorem dX4_copyFrom_10 : decode cX4_copyFrom 10 = .ok (.bipush 8, 2) := by decide +kernel
theorem dX4_copyFrom_12 : decode cX4_copyFrom 12 = .ok (.invokestatic 43, 3) := by decide +kernel
theorem dX4_copyFrom_15 : decode cX4_copyFrom 15 = .ok (.aload_n 1, 1) := by decide +kernel
theorem dX4_copyFrom_16 : decode cX4_copyFrom 16 = .ok (.getfield 15, 3) := by decide +kernel
theorem dX4_copyFrom_19 : decode cX4_copyFrom 19 = .ok (.iconst 0, 1) := by decide +kernel
theorem dX4_copyFrom_20 : decode cX4_copyFrom 20 = .ok (.aload_n 0, 1) := by decide +kernel
theorem dX4_copyFrom_21 : decode cX4_copyFrom 21 = .ok (.getfield 15, 3) := by decide +kernel
theorem dX4_copyFrom_24 : decode cX4_copyFrom 24 = .ok (.iconst 0, 1) := by decide +kernel
theorem dX4_copyFrom_25 : decode cX4_copyFrom 25 = .ok (.bipush 8, 2) := by decide +kernel
theorem dX4_copyFrom_27 : decode cX4_copyFrom 27 = .ok (.invokestatic 43, 3) := by decide +kernel
theorem dX4_copyFrom_30 : decode cX4_copyFrom 30 = .ok (.aload_n 1, 1) := by decide +kernel
theorem dX4_copyFrom_31 : decode cX4_copyFrom 31 = .ok (.getfield 18, 3) := by decide +kernel
theorem dX4_copyFrom_34 : decode cX4_copyFrom 34 = .ok (.iconst 0, 1) := by decide +kernel
theorem dX4_copyFrom_35 : decode cX4_copyFrom 35 = .ok (.aload_n 0, 1) := by decide +kernel
theorem dX4_copyFrom_36 : decode cX4_copyFrom 36 = .ok (.getfield 18, 3) := by decide +kernel
theorem dX4_copyFrom_39 : decode cX4_copyFrom 39 = .ok (.iconst 0, 1) := by decide +kernel
theorem dX4_copyFrom_40 : decode cX4_copyFrom 40 = .ok (.bipush 48, 2) := by decide +kernel
theorem dX4_copyFrom_42 : decode cX4_copyFrom 42 = .ok (.invokestatic 43, 3) := by decide +kernel
theorem dX4_copyFrom_45 : decode cX4_copyFrom 45 = .ok (.aload_n 1, 1) := by decide +kernel
theorem dX4_copyFrom_46 : decode cX4_copyFrom 46 = .ok (.getfield 21, 3) := by decide +kernel
theorem dX4_copyFrom_49 : decode cX4_copyFrom 49 = .ok (.iconst 0, 1) := by decide +kernel
theorem dX4_copyFrom_50 : decode cX4_copyFrom 50 = .ok (.aload_n 0, 1) := by decide +kernel
theorem dX4_copyFrom_51 : decode cX4_copyFrom 51 = .ok (.getfield 21, 3) := by decide +kernel
theorem dX4_copyFrom_54 : decode cX4_copyFrom 54 = .ok (.iconst 0, 1) := by decide +kernel
theorem dX4_copyFrom_55 : decode cX4_copyFrom 55 = .ok (.bipush 48, 2) := by decide +kernel
theorem dX4_copyFrom_57 : decode cX4_copyFrom 57 = .ok (.invokestatic 43, 3) := by decide +kernel
theorem dX4_copyFrom_60 : decode cX4_copyFrom 60 = .ok (.aload_n 0, 1) := by decide +kernel
theorem dX4_copyFrom_61 : decode cX4_copyFrom 61 = .ok (.aload_n 1, 1) := by decide +kernel
theorem dX4_copyFrom_62 : decode cX4_copyFrom 62 = .ok (.getfield 24, 3) := by decide +kernel
theorem dX4_copyFrom_65 : decode cX4_copyFrom 65 = .ok (.putfield 24, 3) := by decide +kernel
theorem dX4_copyFrom_68 : decode cX4_copyFrom 68 = .ok (.aload_n 0, 1) := by decide +kernel
theorem dX4_copyFrom_69 : decode cX4_copyFrom 69 = .ok (.aload_n 1, 1) := by decide +kernel
theorem dX4_copyFrom_70 : decode cX4_copyFrom 70 = .ok (.getfield 28, 3) := by decide +kernel
theorem dX4_copyFrom_73 : decode cX4_copyFrom 73 = .ok (.putfield 28, 3) := by decide +kernel
theorem dX4_copyFrom_76 : decode cX4_copyFrom 76 = .ok (.aload_n 0, 1) := by decide +kernel
theorem dX4_copyFrom_77 : decode cX4_copyFrom 77 = .ok (.aload_n 1, 1) := by decide +kernel
theorem dX4_copyFrom_78 : decode cX4_copyFrom 78 = .ok (.getfield 31, 3) := by decide +kernel
theorem dX4_copyFrom_81 : decode cX4_copyFrom 81 = .ok (.putfield 31, 3) := by decide +kernel
theorem dX4_copyFrom_84 : decode cX4_copyFrom 84 = .ok (.aload_n 0, 1) := by decide +kernel
theorem dX4_copyFrom_85 : decode cX4_copyFrom 85 = .ok (.aload_n 1, 1) := by decide +kernel
theorem dX4_copyFrom_86 : decode cX4_copyFrom 86 = .ok (.getfield 34, 3) := by decide +kernel
theorem dX4_copyFrom_89 : decode cX4_copyFrom 89 = .ok (.putfield 34, 3) := by decide +kernel
theorem dX4_copyFrom_92 : decode cX4_copyFrom 92 = .ok (.return_, 1) := by decide +kernel
theorem dX4_isTold_0 : decode cX4_isTold 0 = .ok (.iload_n 1, 1) := by decide +kernel
theorem dX4_isTold_1 : decode cX4_isTold 1 = .ok (.iconst 0, 1) := by decide +kernel
theorem dX4_isTold_2 : decode cX4_isTold 2 = .ok (.bipush 7, 2) := by decide +kernel
theorem dX4_isTold_4 : decode cX4_isTold 4 = .ok (.invokestatic 49, 3) := by decide +kernel
theorem dX4_isTold_7 : decode cX4_isTold 7 = .ok (.ifCond .eq 19, 3) := by decide +kernel
theorem dX4_isTold_10 : decode cX4_isTold 10 = .ok (.aload_n 0, 1) := by decide +kernel
theorem dX4_isTold_11 : decode cX4_isTold 11 = .ok (.getfield 24, 3) := by decide +kernel
theorem dX4_isTold_14 : decode cX4_isTold 14 = .ok (.iload_n 1, 1) := by decide +kernel
theorem dX4_isTold_15 : decode cX4_isTold 15 = .ok (.ishr, 1) := by decide +kernel
theorem dX4_isTold_16 : decode cX4_isTold 16 = .ok (.iconst 1, 1) := by decide +kernel
theorem dX4_isTold_17 : decode cX4_isTold 17 = .ok (.iand, 1) := by decide +kernel
theorem dX4_isTold_18 : decode cX4_isTold 18 = .ok (.iconst 1, 1) := by decide +kernel
theorem dX4_isTold_19 : decode cX4_isTold 19 = .ok (.if_icmp .ne 7, 3) := by decide +kernel
theorem dX4_isTold_22 : decode cX4_isTold 22 = .ok (.iconst 1, 1) := by decide +kernel
theorem dX4_isTold_23 : decode cX4_isTold 23 = .ok (.goto 4, 3) := by decide +kernel
theorem dX4_isTold_26 : decode cX4_isTold 26 = .ok (.iconst 0, 1) := by decide +kernel
theorem dX4_isTold_27 : decode cX4_isTold 27 = .ok (.ireturn, 1) := by decide +kernel
theorem dX4_toldBits_0 : decode cX4_toldBits 0 = .ok (.aload_n 0, 1) := by decide +kernel
theorem dX4_toldBits_1 : decode cX4_toldBits 1 = .ok (.getfield 24, 3) := by decide +kernel
theorem dX4_toldBits_4 : decode cX4_toldBits 4 = .ok (.ireturn, 1) := by decide +kernel
theorem dX4_isWalled_0 : decode cX4_isWalled 0 = .ok (.iload_n 1, 1) := by decide +kernel
theorem dX4_isWalled_1 : decode cX4_isWalled 1 = .ok (.iconst 0, 1) := by decide +kernel
theorem dX4_isWalled_2 : decode cX4_isWalled 2 = .ok (.bipush 7, 2) := by decide +kernel
theorem dX4_isWalled_4 : decode cX4_isWalled 4 = .ok (.invokestatic 49, 3) := by decide +kernel
theorem dX4_isWalled_7 : decode cX4_isWalled 7 = .ok (.ifCond .eq 19, 3) := by decide +kernel
theorem dX4_isWalled_10 : decode cX4_isWalled 10 = .ok (.aload_n 0, 1) := by decide +kernel
theorem dX4_isWalled_11 : decode cX4_isWalled 11 = .ok (.getfield 28, 3) := by decide +kernel
theorem dX4_isWalled_14 : decode cX4_isWalled 14 = .ok (.iload_n 1, 1) := by decide +kernel
theorem dX4_isWalled_15 : decode cX4_isWalled 15 = .ok (.ishr, 1) := by decide +kernel
theorem dX4_isWalled_16 : decode cX4_isWalled 16 = .ok (.iconst 1, 1) := by decide +kernel
theorem dX4_isWalled_17 : decode cX4_isWalled 17 = .ok (.iand, 1) := by decide +kernel
theorem dX4_isWalled_18 : decode cX4_isWalled 18 = .ok (.iconst 1, 1) := by decide +kernel
theorem dX4_isWalled_19 : decode cX4_isWalled 19 = .ok (.if_icmp .ne 7, 3) := by decide +kernel
theorem dX4_isWalled_22 : decode cX4_isWalled 22 = .ok (.iconst 1, 1) := by decide +kernel
theorem dX4_isWalled_23 : decode cX4_isWalled 23 = .ok (.goto 4, 3) := by decide +kernel
theorem dX4_isWalled_26 : decode cX4_isWalled 26 = .ok (.iconst 0, 1) := by decide +kernel
theorem dX4_isWalled_27 : decode cX4_isWalled 27 = .ok (.ireturn, 1) := by decide +kernel
theorem dX4_walledBits_0 : decode cX4_walledBits 0 = .ok (.aload_n 0, 1) := by decide +kernel
theorem dX4_walledBits_1 : decode cX4_walledBits 1 = .ok (.getfield 28, 3) := by decide +kernel
theorem dX4_walledBits_4 : decode cX4_walledBits 4 = .ok (.ireturn, 1) := by decide +kernel
theorem dX4_placeOf_0 : decode cX4_placeOf 0 = .ok (.iload_n 1, 1) := by decide +kernel
theorem dX4_placeOf_1 : decode cX4_placeOf 1 = .ok (.iconst 0, 1) := by decide +kernel
theorem dX4_placeOf_2 : decode cX4_placeOf 2 = .ok (.bipush 7, 2) := by decide +kernel
theorem dX4_placeOf_4 : decode cX4_placeOf 4 = .ok (.invokestatic 49, 3) := by decide +kernel
theorem dX4_placeOf_7 : decode cX4_placeOf 7 = .ok (.ifCond .eq 12, 3) := by decide +kernel
theorem dX4_placeOf_10 : decode cX4_placeOf 10 = .ok (.aload_n 0, 1) := by decide +kernel
theorem dX4_placeOf_11 : decode cX4_placeOf 11 = .ok (.getfield 9, 3) := by decide +kernel
theorem dX4_placeOf_14 : decode cX4_placeOf 14 = .ok (.iload_n 1, 1) := by decide +kernel
theorem dX4_placeOf_15 : decode cX4_placeOf 15 = .ok (.iaload, 1) := by decide +kernel
theorem dX4_placeOf_16 : decode cX4_placeOf 16 = .ok (.goto 4, 3) := by decide +kernel
theorem dX4_placeOf_19 : decode cX4_placeOf 19 = .ok (.iconst (-1), 1) := by decide +kernel
theorem dX4_placeOf_20 : decode cX4_placeOf 20 = .ok (.ireturn, 1) := by decide +kernel
theorem dX4_pasteOf_0 : decode cX4_pasteOf 0 = .ok (.iload_n 1, 1) := by decide +kernel
theorem dX4_pasteOf_1 : decode cX4_pasteOf 1 = .ok (.iconst 0, 1) := by decide +kernel
theorem dX4_pasteOf_2 : decode cX4_pasteOf 2 = .ok (.bipush 7, 2) := by decide +kernel
theorem dX4_pasteOf_4 : decode cX4_pasteOf 4 = .ok (.invokestatic 49, 3) := by decide +kernel
theorem dX4_pasteOf_7 : decode cX4_pasteOf 7 = .ok (.ifCond .eq 12, 3) := by decide +kernel
theorem dX4_pasteOf_10 : decode cX4_pasteOf 10 = .ok (.aload_n 0, 1) := by decide +kernel
theorem dX4_pasteOf_11 : decode cX4_pasteOf 11 = .ok (.getfield 15, 3) := by decide +kernel
theorem dX4_pasteOf_14 : decode cX4_pasteOf 14 = .ok (.iload_n 1, 1) := by decide +kernel
theorem dX4_pasteOf_15 : decode cX4_pasteOf 15 = .ok (.iaload, 1) := by decide +kernel
theorem dX4_pasteOf_16 : decode cX4_pasteOf 16 = .ok (.goto 4, 3) := by decide +kernel
theorem dX4_pasteOf_19 : decode cX4_pasteOf 19 = .ok (.iconst 0, 1) := by decide +kernel
theorem dX4_pasteOf_20 : decode cX4_pasteOf 20 = .ok (.ireturn, 1) := by decide +kernel
theorem dX4_lay_0 : decode cX4_lay 0 = .ok (.iload_n 1, 1) := by decide +kernel
theorem dX4_lay_1 : decode cX4_lay 1 = .ok (.iconst 0, 1) := by decide +kernel
theorem dX4_lay_2 : decode cX4_lay 2 = .ok (.bipush 7, 2) := by decide +kernel
theorem dX4_lay_4 : decode cX4_lay 4 = .ok (.invokestatic 49, 3) := by decide +kernel
theorem dX4_lay_7 : decode cX4_lay 7 = .ok (.ifCond .eq 36, 3) := by decide +kernel
theorem dX4_lay_10 : decode cX4_lay 10 = .ok (.aload_n 0, 1) := by decide +kernel
theorem dX4_lay_11 : decode cX4_lay 11 = .ok (.getfield 9, 3) := by decide +kernel
theorem dX4_lay_14 : decode cX4_lay 14 = .ok (.iload_n 1, 1) := by decide +kernel
theorem dX4_lay_15 : decode cX4_lay 15 = .ok (.iload_n 2, 1) := by decide +kernel
theorem dX4_lay_16 : decode cX4_lay 16 = .ok (.iastore, 1) := by decide +kernel
theorem dX4_lay_17 : decode cX4_lay 17 = .ok (.aload_n 0, 1) := by decide +kernel
theorem dX4_lay_18 : decode cX4_lay 18 = .ok (.dup, 1) := by decide +kernel
theorem dX4_lay_19 : decode cX4_lay 19 = .ok (.getfield 24, 3) := by decide +kernel
theorem dX4_lay_22 : decode cX4_lay 22 = .ok (.iconst 1, 1) := by decide +kernel
theorem dX4_lay_23 : decode cX4_lay 23 = .ok (.iload_n 1, 1) := by decide +kernel
theorem dX4_lay_24 : decode cX4_lay 24 = .ok (.ishl, 1) := by decide +kernel
theorem dX4_lay_25 : decode cX4_lay 25 = .ok (.ior, 1) := by decide +kernel
theorem dX4_lay_26 : decode cX4_lay 26 = .ok (.putfield 24, 3) := by decide +kernel
theorem dX4_lay_29 : decode cX4_lay 29 = .ok (.aload_n 0, 1) := by decide +kernel
theorem dX4_lay_30 : decode cX4_lay 30 = .ok (.dup, 1) := by decide +kernel
theorem dX4_lay_31 : decode cX4_lay 31 = .ok (.getfield 28, 3) := by decide +kernel
theorem dX4_lay_34 : decode cX4_lay 34 = .ok (.iconst 1, 1) := by decide +kernel
theorem dX4_lay_35 : decode cX4_lay 35 = .ok (.iload_n 1, 1) := by decide +kernel
theorem dX4_lay_36 : decode cX4_lay 36 = .ok (.ishl, 1) := by decide +kernel
theorem dX4_lay_37 : decode cX4_lay 37 = .ok (.iconst (-1), 1) := by decide +kernel
theorem dX4_lay_38 : decode cX4_lay 38 = .ok (.ixor, 1) := by decide +kernel
theorem dX4_lay_39 : decode cX4_lay 39 = .ok (.iand, 1) := by decide +kernel
theorem dX4_lay_40 : decode cX4_lay 40 = .ok (.putfield 28, 3) := by decide +kernel
theorem dX4_lay_43 : decode cX4_lay 43 = .ok (.return_, 1) := by decide +kernel
theorem dX4_go_0 : decode cX4_go 0 = .ok (.iload_n 1, 1) := by decide +kernel
theorem dX4_go_1 : decode cX4_go 1 = .ok (.iconst 0, 1) := by decide +kernel
theorem dX4_go_2 : decode cX4_go 2 = .ok (.bipush 7, 2) := by decide +kernel
theorem dX4_go_4 : decode cX4_go 4 = .ok (.invokestatic 49, 3) := by decide +kernel
theorem dX4_go_7 : decode cX4_go 7 = .ok (.ifCond .eq 10, 3) := by decide +kernel
theorem dX4_go_10 : decode cX4_go 10 = .ok (.aload_n 0, 1) := by decide +kernel
theorem dX4_go_11 : decode cX4_go 11 = .ok (.getfield 9, 3) := by decide +kernel
theorem dX4_go_14 : decode cX4_go 14 = .ok (.iload_n 1, 1) := by decide +kernel
theorem dX4_go_15 : decode cX4_go 15 = .ok (.iload_n 2, 1) := by decide +kernel
theorem dX4_go_16 : decode cX4_go 16 = .ok (.iastore, 1) := by decide +kernel
theorem dX4_go_17 : decode cX4_go 17 = .ok (.return_, 1) := by decide +kernel
theorem dX4_wallIn_0 : decode cX4_wallIn 0 = .ok (.iload_n 1, 1) := by decide +kernel
theorem dX4_wallIn_1 : decode cX4_wallIn 1 = .ok (.iconst 0, 1) := by decide +kernel
theorem dX4_wallIn_2 : decode cX4_wallIn 2 = .ok (.bipush 7, 2) := by decide +kernel
theorem dX4_wallIn_4 : decode cX4_wallIn 4 = .ok (.invokestatic 49, 3) := by decide +kernel
theorem dX4_wallIn_7 : decode cX4_wallIn 7 = .ok (.ifCond .eq 15, 3) := by decide +kernel
theorem dX4_wallIn_10 : decode cX4_wallIn 10 = .ok (.aload_n 0, 1) := by decide +kernel
theorem dX4_wallIn_11 : decode cX4_wallIn 11 = .ok (.dup, 1) := by decide +kernel
theorem dX4_wallIn_12 : decode cX4_wallIn 12 = .ok (.getfield 28, 3) := by decide +kernel
theorem dX4_wallIn_15 : decode cX4_wallIn 15 = .ok (.iconst 1, 1) := by decide +kernel
theorem dX4_wallIn_16 : decode cX4_wallIn 16 = .ok (.iload_n 1, 1) := by decide +kernel
theorem dX4_wallIn_17 : decode cX4_wallIn 17 = .ok (.ishl, 1) := by decide +kernel
theorem dX4_wallIn_18 : decode cX4_wallIn 18 = .ok (.ior, 1) := by decide +kernel
theorem dX4_wallIn_19 : decode cX4_wallIn 19 = .ok (.putfield 28, 3) := by decide +kernel
theorem dX4_wallIn_22 : decode cX4_wallIn 22 = .ok (.return_, 1) := by decide +kernel
theorem dX4_putPaste_0 : decode cX4_putPaste 0 = .ok (.iload_n 1, 1) := by decide +kernel
theorem dX4_putPaste_1 : decode cX4_putPaste 1 = .ok (.iconst 0, 1) := by decide +kernel
theorem dX4_putPaste_2 : decode cX4_putPaste 2 = .ok (.bipush 7, 2) := by decide +kernel
theorem dX4_putPaste_4 : decode cX4_putPaste 4 = .ok (.invokestatic 49, 3) := by decide +kernel
theorem dX4_putPaste_7 : decode cX4_putPaste 7 = .ok (.ifCond .eq 10, 3) := by decide +kernel
theorem dX4_putPaste_10 : decode cX4_putPaste 10 = .ok (.aload_n 0, 1) := by decide +kernel
theorem dX4_putPaste_11 : decode cX4_putPaste 11 = .ok (.getfield 15, 3) := by decide +kernel
theorem dX4_putPaste_14 : decode cX4_putPaste 14 = .ok (.iload_n 1, 1) := by decide +kernel
theorem dX4_putPaste_15 : decode cX4_putPaste 15 = .ok (.iload_n 2, 1) := by decide +kernel
theorem dX4_putPaste_16 : decode cX4_putPaste 16 = .ok (.iastore, 1) := by decide +kernel
theorem dX4_putPaste_17 : decode cX4_putPaste 17 = .ok (.return_, 1) := by decide +kernel
theorem dX4_letterOf_0 : decode cX4_letterOf 0 = .ok (.iload_n 1, 1) := by decide +kernel
theorem dX4_letterOf_1 : decode cX4_letterOf 1 = .ok (.iconst 0, 1) := by decide +kernel
theorem dX4_letterOf_2 : decode cX4_letterOf 2 = .ok (.bipush 47, 2) := by decide +kernel
theorem dX4_letterOf_4 : decode cX4_letterOf 4 = .ok (.invokestatic 49, 3) := by decide +kernel
theorem dX4_letterOf_7 : decode cX4_letterOf 7 = .ok (.ifCond .eq 12, 3) := by decide +kernel
theorem dX4_letterOf_10 : decode cX4_letterOf 10 = .ok (.aload_n 0, 1) := by decide +kernel
theorem dX4_letterOf_11 : decode cX4_letterOf 11 = .ok (.getfield 18, 3) := by decide +kernel
theorem dX4_letterOf_14 : decode cX4_letterOf 14 = .ok (.iload_n 1, 1) := by decide +kernel
theorem dX4_letterOf_15 : decode cX4_letterOf 15 = .ok (.iaload, 1) := by decide +kernel
theorem dX4_letterOf_16 : decode cX4_letterOf 16 = .ok (.goto 5, 3) := by decide +kernel
theorem dX4_letterOf_19 : decode cX4_letterOf 19 = .ok (.bipush (-2), 2) := by decide +kernel
theorem dX4_letterOf_21 : decode cX4_letterOf 21 = .ok (.ireturn, 1) := by decide +kernel
theorem dX4_isOn_0 : decode cX4_isOn 0 = .ok (.aload_n 0, 1) := by decide +kernel
theorem dX4_isOn_1 : decode cX4_isOn 1 = .ok (.iload_n 1, 1) := by decide +kernel
theorem dX4_isOn_2 : decode cX4_isOn 2 = .ok (.invokevirtual 53, 3) := by decide +kernel
theorem dX4_isOn_5 : decode cX4_isOn 5 = .ok (.iload_n 2, 1) := by decide +kernel
theorem dX4_isOn_6 : decode cX4_isOn 6 = .ok (.if_icmp .ne 7, 3) := by decide +kernel
theorem dX4_isOn_9 : decode cX4_isOn 9 = .ok (.iconst 1, 1) := by decide +kernel
theorem dX4_isOn_10 : decode cX4_isOn 10 = .ok (.goto 4, 3) := by decide +kernel
theorem dX4_isOn_13 : decode cX4_isOn 13 = .ok (.iconst 0, 1) := by decide +kernel
theorem dX4_isOn_14 : decode cX4_isOn 14 = .ok (.ireturn, 1) := by decide +kernel
theorem dX4_stick_0 : decode cX4_stick 0 = .ok (.iload_n 1, 1) := by decide +kernel
theorem dX4_stick_1 : decode cX4_stick 1 = .ok (.iconst 0, 1) := by decide +kernel
theorem dX4_stick_2 : decode cX4_stick 2 = .ok (.bipush 47, 2) := by decide +kernel
theorem dX4_stick_4 : decode cX4_stick 4 = .ok (.invokestatic 49, 3) := by decide +kernel
theorem dX4_stick_7 : decode cX4_stick 7 = .ok (.ifCond .eq 10, 3) := by decide +kernel
theorem dX4_stick_10 : decode cX4_stick 10 = .ok (.aload_n 0, 1) := by decide +kernel
theorem dX4_stick_11 : decode cX4_stick 11 = .ok (.getfield 18, 3) := by decide +kernel
theorem dX4_stick_14 : decode cX4_stick 14 = .ok (.iload_n 1, 1) := by decide +kernel
theorem dX4_stick_15 : decode cX4_stick 15 = .ok (.iload_n 2, 1) := by decide +kernel
theorem dX4_stick_16 : decode cX4_stick 16 = .ok (.iastore, 1) := by decide +kernel
theorem dX4_stick_17 : decode cX4_stick 17 = .ok (.return_, 1) := by decide +kernel
theorem dX4_peel_0 : decode cX4_peel 0 = .ok (.aload_n 0, 1) := by decide +kernel
theorem dX4_peel_1 : decode cX4_peel 1 = .ok (.iload_n 1, 1) := by decide +kernel
theorem dX4_peel_2 : decode cX4_peel 2 = .ok (.bipush (-2), 2) := by decide +kernel
theorem dX4_peel_4 : decode cX4_peel 4 = .ok (.invokevirtual 57, 3) := by decide +kernel
theorem dX4_peel_7 : decode cX4_peel 7 = .ok (.return_, 1) := by decide +kernel
theorem dX4_peelFrom_0 : decode cX4_peelFrom 0 = .ok (.iload_n 1, 1) := by decide +kernel
theorem dX4_peelFrom_1 : decode cX4_peelFrom 1 = .ok (.iconst 0, 1) := by decide +kernel
theorem dX4_peelFrom_2 : decode cX4_peelFrom 2 = .ok (.invokestatic 61, 3) := by decide +kernel
theorem dX4_peelFrom_5 : decode cX4_peelFrom 5 = .ok (.istore_n 2, 1) := by decide +kernel
theorem dX4_peelFrom_6 : decode cX4_peelFrom 6 = .ok (.iload_n 2, 1) := by decide +kernel
theorem dX4_peelFrom_7 : decode cX4_peelFrom 7 = .ok (.bipush 48, 2) := by decide +kernel
theorem dX4_peelFrom_9 : decode cX4_peelFrom 9 = .ok (.if_icmp .ge 24, 3) := by decide +kernel
theorem dX4_peelFrom_12 : decode cX4_peelFrom 12 = .ok (.aload_n 0, 1) := by decide +kernel
theorem dX4_peelFrom_13 : decode cX4_peelFrom 13 = .ok (.getfield 18, 3) := by decide +kernel
theorem dX4_peelFrom_16 : decode cX4_peelFrom 16 = .ok (.iload_n 2, 1) := by decide +kernel
theorem dX4_peelFrom_17 : decode cX4_peelFrom 17 = .ok (.bipush (-2), 2) := by decide +kernel
theorem dX4_peelFrom_19 : decode cX4_peelFrom 19 = .ok (.iastore, 1) := by decide +kernel
theorem dX4_peelFrom_20 : decode cX4_peelFrom 20 = .ok (.aload_n 0, 1) := by decide +kernel
theorem dX4_peelFrom_21 : decode cX4_peelFrom 21 = .ok (.getfield 21, 3) := by decide +kernel
theorem dX4_peelFrom_24 : decode cX4_peelFrom 24 = .ok (.iload_n 2, 1) := by decide +kernel
theorem dX4_peelFrom_25 : decode cX4_peelFrom 25 = .ok (.iconst 0, 1) := by decide +kernel
theorem dX4_peelFrom_26 : decode cX4_peelFrom 26 = .ok (.iastore, 1) := by decide +kernel
theorem dX4_peelFrom_27 : decode cX4_peelFrom 27 = .ok (.iinc 2 1, 3) := by decide +kernel
theorem dX4_peelFrom_30 : decode cX4_peelFrom 30 = .ok (.goto (-24), 3) := by decide +kernel
theorem dX4_peelFrom_33 : decode cX4_peelFrom 33 = .ok (.return_, 1) := by decide +kernel
theorem dX4_stampsOn_0 : decode cX4_stampsOn 0 = .ok (.iconst 0, 1) := by decide +kernel
theorem dX4_stampsOn_1 : decode cX4_stampsOn 1 = .ok (.istore_n 2, 1) := by decide +kernel
theorem dX4_stampsOn_2 : decode cX4_stampsOn 2 = .ok (.iconst 0, 1) := by decide +kernel
theorem dX4_stampsOn_3 : decode cX4_stampsOn 3 = .ok (.istore_n 3, 1) := by decide +kernel
theorem dX4_stampsOn_4 : decode cX4_stampsOn 4 = .ok (.iload_n 3, 1) := by decide +kernel
theorem dX4_stampsOn_5 : decode cX4_stampsOn 5 = .ok (.bipush 48, 2) := by decide +kernel
theorem dX4_stampsOn_7 : decode cX4_stampsOn 7 = .ok (.if_icmp .ge 27, 3) := by decide +kernel
theorem dX4_stampsOn_10 : decode cX4_stampsOn 10 = .ok (.iload_n 2, 1) := by decide +kernel
theorem dX4_stampsOn_11 : decode cX4_stampsOn 11 = .ok (.aload_n 0, 1) := by decide +kernel
theorem dX4_stampsOn_12 : decode cX4_stampsOn 12 = .ok (.getfield 18, 3) := by decide +kernel
theorem dX4_stampsOn_15 : decode cX4_stampsOn 15 = .ok (.iload_n 3, 1) := by decide +kernel
theorem dX4_stampsOn_16 : decode cX4_stampsOn 16 = .ok (.iaload, 1) := by decide +kernel
theorem dX4_stampsOn_17 : decode cX4_stampsOn 17 = .ok (.iload_n 1, 1) := by decide +kernel
theorem dX4_stampsOn_18 : decode cX4_stampsOn 18 = .ok (.if_icmp .ne 7, 3) := by decide +kernel
theorem dX4_stampsOn_21 : decode cX4_stampsOn 21 = .ok (.iconst 1, 1) := by decide +kernel
theorem dX4_stampsOn_22 : decode cX4_stampsOn 22 = .ok (.goto 4, 3) := by decide +kernel
theorem dX4_stampsOn_25 : decode cX4_stampsOn 25 = .ok (.iconst 0, 1) := by decide +kernel
theorem dX4_stampsOn_26 : decode cX4_stampsOn 26 = .ok (.iadd, 1) := by decide +kernel
theorem dX4_stampsOn_27 : decode cX4_stampsOn 27 = .ok (.istore_n 2, 1) := by decide +kernel
theorem dX4_stampsOn_28 : decode cX4_stampsOn 28 = .ok (.iinc 3 1, 3) := by decide +kernel
theorem dX4_stampsOn_31 : decode cX4_stampsOn 31 = .ok (.goto (-27), 3) := by decide +kernel
theorem dX4_stampsOn_34 : decode cX4_stampsOn 34 = .ok (.iload_n 2, 1) := by decide +kernel
theorem dX4_stampsOn_35 : decode cX4_stampsOn 35 = .ok (.ireturn, 1) := by decide +kernel
theorem dX4_stampsOnAll_0 : decode cX4_stampsOnAll 0 = .ok (.bipush 48, 2) := by decide +kernel
theorem dX4_stampsOnAll_2 : decode cX4_stampsOnAll 2 = .ok (.aload_n 0, 1) := by decide +kernel
theorem dX4_stampsOnAll_3 : decode cX4_stampsOnAll 3 = .ok (.bipush (-2), 2) := by decide +kernel
theorem dX4_stampsOnAll_5 : decode cX4_stampsOnAll 5 = .ok (.invokevirtual 67, 3) := by decide +kernel
theorem dX4_stampsOnAll_8 : decode cX4_stampsOnAll 8 = .ok (.isub, 1) := by decide +kernel
theorem dX4_stampsOnAll_9 : decode cX4_stampsOnAll 9 = .ok (.ireturn, 1) := by decide +kernel
theorem dX4_lowestOn_0 : decode cX4_lowestOn 0 = .ok (.iconst 0, 1) := by decide +kernel
theorem dX4_lowestOn_1 : decode cX4_lowestOn 1 = .ok (.istore_n 2, 1) := by decide +kernel
theorem dX4_lowestOn_2 : decode cX4_lowestOn 2 = .ok (.iload_n 2, 1) := by decide +kernel
theorem dX4_lowestOn_3 : decode cX4_lowestOn 3 = .ok (.bipush 48, 2) := by decide +kernel
theorem dX4_lowestOn_5 : decode cX4_lowestOn 5 = .ok (.if_icmp .ge 21, 3) := by decide +kernel
theorem dX4_lowestOn_8 : decode cX4_lowestOn 8 = .ok (.aload_n 0, 1) := by decide +kernel
theorem dX4_lowestOn_9 : decode cX4_lowestOn 9 = .ok (.getfield 18, 3) := by decide +kernel
theorem dX4_lowestOn_12 : decode cX4_lowestOn 12 = .ok (.iload_n 2, 1) := by decide +kernel
theorem dX4_lowestOn_13 : decode cX4_lowestOn 13 = .ok (.iaload, 1) := by decide +kernel
theorem dX4_lowestOn_14 : decode cX4_lowestOn 14 = .ok (.iload_n 1, 1) := by decide +kernel
theorem dX4_lowestOn_15 : decode cX4_lowestOn 15 = .ok (.if_icmp .ne 5, 3) := by decide +kernel
theorem dX4_lowestOn_18 : decode cX4_lowestOn 18 = .ok (.iload_n 2, 1) := by decide +kernel
theorem dX4_lowestOn_19 : decode cX4_lowestOn 19 = .ok (.ireturn, 1) := by decide +kernel
theorem dX4_lowestOn_20 : decode cX4_lowestOn 20 = .ok (.iinc 2 1, 3) := by decide +kernel
theorem dX4_lowestOn_23 : decode cX4_lowestOn 23 = .ok (.goto (-21), 3) := by decide +kernel
theorem dX4_lowestOn_26 : decode cX4_lowestOn 26 = .ok (.bipush (-2), 2) := by decide +kernel
theorem dX4_lowestOn_28 : decode cX4_lowestOn 28 = .ok (.ireturn, 1) := by decide +kernel
theorem dX4_usedOf_0 : decode cX4_usedOf 0 = .ok (.iload_n 1, 1) := by decide +kernel
theorem dX4_usedOf_1 : decode cX4_usedOf 1 = .ok (.iconst 0, 1) := by decide +kernel
theorem dX4_usedOf_2 : decode cX4_usedOf 2 = .ok (.bipush 47, 2) := by decide +kernel
theorem dX4_usedOf_4 : decode cX4_usedOf 4 = .ok (.invokestatic 49, 3) := by decide +kernel
theorem dX4_usedOf_7 : decode cX4_usedOf 7 = .ok (.ifCond .eq 12, 3) := by decide +kernel
theorem dX4_usedOf_10 : decode cX4_usedOf 10 = .ok (.aload_n 0, 1) := by decide +kernel
theorem dX4_usedOf_11 : decode cX4_usedOf 11 = .ok (.getfield 21, 3) := by decide +kernel
theorem dX4_usedOf_14 : decode cX4_usedOf 14 = .ok (.iload_n 1, 1) := by decide +kernel
theorem dX4_usedOf_15 : decode cX4_usedOf 15 = .ok (.iaload, 1) := by decide +kernel
theorem dX4_usedOf_16 : decode cX4_usedOf 16 = .ok (.goto 4, 3) := by decide +kernel
theorem dX4_usedOf_19 : decode cX4_usedOf 19 = .ok (.iconst 0, 1) := by decide +kernel
theorem dX4_usedOf_20 : decode cX4_usedOf 20 = .ok (.ireturn, 1) := by decide +kernel
theorem dX4_useMore_0 : decode cX4_useMore 0 = .ok (.iload_n 1, 1) := by decide +kernel
theorem dX4_useMore_1 : decode cX4_useMore 1 = .ok (.iconst 0, 1) := by decide +kernel
theorem dX4_useMore_2 : decode cX4_useMore 2 = .ok (.bipush 47, 2) := by decide +kernel
theorem dX4_useMore_4 : decode cX4_useMore 4 = .ok (.invokestatic 49, 3) := by decide +kernel
theorem dX4_useMore_7 : decode cX4_useMore 7 = .ok (.ifCond .eq 23, 3) := by decide +kernel
theorem dX4_useMore_10 : decode cX4_useMore 10 = .ok (.aload_n 0, 1) := by decide +kernel
theorem dX4_useMore_11 : decode cX4_useMore 11 = .ok (.getfield 21, 3) := by decide +kernel
theorem dX4_useMore_14 : decode cX4_useMore 14 = .ok (.iload_n 1, 1) := by decide +kernel
theorem dX4_useMore_15 : decode cX4_useMore 15 = .ok (.aload_n 0, 1) := by decide +kernel
theorem dX4_useMore_16 : decode cX4_useMore 16 = .ok (.getfield 21, 3) := by decide +kernel
theorem dX4_useMore_19 : decode cX4_useMore 19 = .ok (.iload_n 1, 1) := by decide +kernel
theorem dX4_useMore_20 : decode cX4_useMore 20 = .ok (.iaload, 1) := by decide +kernel
theorem dX4_useMore_21 : decode cX4_useMore 21 = .ok (.iload_n 2, 1) := by decide +kernel
theorem dX4_useMore_22 : decode cX4_useMore 22 = .ok (.iadd, 1) := by decide +kernel
theorem dX4_useMore_23 : decode cX4_useMore 23 = .ok (.sipush 999, 3) := by decide +kernel
theorem dX4_useMore_26 : decode cX4_useMore 26 = .ok (.invokestatic 70, 3) := by decide +kernel
theorem dX4_useMore_29 : decode cX4_useMore 29 = .ok (.iastore, 1) := by decide +kernel
theorem dX4_useMore_30 : decode cX4_useMore 30 = .ok (.return_, 1) := by decide +kernel
theorem dX4_day_0 : decode cX4_day 0 = .ok (.aload_n 0, 1) := by decide +kernel
theorem dX4_day_1 : decode cX4_day 1 = .ok (.getfield 31, 3) := by decide +kernel
theorem dX4_day_4 : decode cX4_day 4 = .ok (.ireturn, 1) := by decide +kernel
theorem dX4_endDay_0 : decode cX4_endDay 0 = .ok (.aload_n 0, 1) := by decide +kernel
theorem dX4_endDay_1 : decode cX4_endDay 1 = .ok (.dup, 1) := by decide +kernel
theorem dX4_endDay_2 : decode cX4_endDay 2 = .ok (.getfield 31, 3) := by decide +kernel
theorem dX4_endDay_5 : decode cX4_endDay 5 = .ok (.iconst 1, 1) := by decide +kernel
theorem dX4_endDay_6 : decode cX4_endDay 6 = .ok (.iadd, 1) := by decide +kernel
theorem dX4_endDay_7 : decode cX4_endDay 7 = .ok (.putfield 31, 3) := by decide +kernel
theorem dX4_endDay_10 : decode cX4_endDay 10 = .ok (.return_, 1) := by decide +kernel
theorem dX4_drawState_0 : decode cX4_drawState 0 = .ok (.aload_n 0, 1) := by decide +kernel
theorem dX4_drawState_1 : decode cX4_drawState 1 = .ok (.getfield 34, 3) := by decide +kernel
theorem dX4_drawState_4 : decode cX4_drawState 4 = .ok (.ireturn, 1) := by decide +kernel
theorem dX4_seedWith_0 : decode cX4_seedWith 0 = .ok (.aload_n 0, 1) := by decide +kernel
theorem dX4_seedWith_1 : decode cX4_seedWith 1 = .ok (.iload_n 1, 1) := by decide +kernel
theorem dX4_seedWith_2 : decode cX4_seedWith 2 = .ok (.putfield 34, 3) := by decide +kernel
theorem dX4_seedWith_5 : decode cX4_seedWith 5 = .ok (.return_, 1) := by decide +kernel
theorem dX4_draw_0 : decode cX4_draw 0 = .ok (.aload_n 0, 1) := by decide +kernel
theorem dX4_draw_1 : decode cX4_draw 1 = .ok (.sipush 25173, 3) := by decide +kernel
theorem dX4_draw_4 : decode cX4_draw 4 = .ok (.aload_n 0, 1) := by decide +kernel
theorem dX4_draw_5 : decode cX4_draw 5 = .ok (.getfield 34, 3) := by decide +kernel
theorem dX4_draw_8 : decode cX4_draw 8 = .ok (.imul, 1) := by decide +kernel
theorem dX4_draw_9 : decode cX4_draw 9 = .ok (.sipush 13849, 3) := by decide +kernel
theorem dX4_draw_12 : decode cX4_draw 12 = .ok (.iadd, 1) := by decide +kernel
theorem dX4_draw_13 : decode cX4_draw 13 = .ok (.ldc 73, 2) := by decide +kernel
theorem dX4_draw_15 : decode cX4_draw 15 = .ok (.iand, 1) := by decide +kernel
theorem dX4_draw_16 : decode cX4_draw 16 = .ok (.putfield 34, 3) := by decide +kernel
theorem dX4_draw_19 : decode cX4_draw 19 = .ok (.aload_n 0, 1) := by decide +kernel
theorem dX4_draw_20 : decode cX4_draw 20 = .ok (.getfield 34, 3) := by decide +kernel
theorem dX4_draw_23 : decode cX4_draw 23 = .ok (.bipush 10, 2) := by decide +kernel
theorem dX4_draw_25 : decode cX4_draw 25 = .ok (.irem, 1) := by decide +kernel
theorem dX4_draw_26 : decode cX4_draw 26 = .ok (.ireturn, 1) := by decide +kernel
theorem dX5_init_0 : decode cX5_init 0 = .ok (.aload_n 0, 1) := by decide +kernel
theorem dX5_init_1 : decode cX5_init 1 = .ok (.aload_n 1, 1) := by decide +kernel
theorem dX5_init_2 : decode cX5_init 2 = .ok (.invokespecial 3, 3) := by decide +kernel
theorem dX5_init_5 : decode cX5_init 5 = .ok (.aload_n 0, 1) := by decide +kernel
theorem dX5_init_6 : decode cX5_init 6 = .ok (.bipush 20, 2) := by decide +kernel
theorem dX5_init_8 : decode cX5_init 8 = .ok (.newarray .int, 2) := by decide +kernel
theorem dX5_init_10 : decode cX5_init 10 = .ok (.putfield 11, 3) := by decide +kernel
theorem dX5_init_13 : decode cX5_init 13 = .ok (.aload_n 0, 1) := by decide +kernel
theorem dX5_init_14 : decode cX5_init 14 = .ok (.bipush 20, 2) := by decide +kernel
theorem dX5_init_16 : decode cX5_init 16 = .ok (.newarray .int, 2) := by decide +kernel
theorem dX5_init_18 : decode cX5_init 18 = .ok (.putfield 15, 3) := by decide +kernel
theorem dX5_init_21 : decode cX5_init 21 = .ok (.aload_n 0, 1) := by decide +kernel
theorem dX5_init_22 : decode cX5_init 22 = .ok (.bipush 20, 2) := by decide +kernel
theorem dX5_init_24 : decode cX5_init 24 = .ok (.newarray .int, 2) := by decide +kernel
theorem dX5_init_26 : decode cX5_init 26 = .ok (.putfield 18, 3) := by decide +kernel
theorem dX5_init_29 : decode cX5_init 29 = .ok (.aload_n 0, 1) := by decide +kernel
theorem dX5_init_30 : decode cX5_init 30 = .ok (.iconst 0, 1) := by decide +kernel
theorem dX5_init_31 : decode cX5_init 31 = .ok (.putfield 21, 3) := by decide +kernel
theorem dX5_init_34 : decode cX5_init 34 = .ok (.aload_n 0, 1) := by decide +kernel
theorem dX5_init_35 : decode cX5_init 35 = .ok (.iconst 0, 1) := by decide +kernel
theorem dX5_init_36 : decode cX5_init 36 = .ok (.putfield 25, 3) := by decide +kernel
theorem dX5_init_39 : decode cX5_init 39 = .ok (.aload_n 0, 1) := by decide +kernel
theorem dX5_init_40 : decode cX5_init 40 = .ok (.iconst 0, 1) := by decide +kernel
theorem dX5_init_41 : decode cX5_init 41 = .ok (.putfield 28, 3) := by decide +kernel
theorem dX5_init_44 : decode cX5_init 44 = .ok (.return_, 1) := by decide +kernel
theorem dX5_read_0 : decode cX5_read 0 = .ok (.aload_n 0, 1) := by decide +kernel
theorem dX5_read_1 : decode cX5_read 1 = .ok (.iload_n 1, 1) := by decide +kernel
theorem dX5_read_2 : decode cX5_read 2 = .ok (.invokevirtual 31, 3) := by decide +kernel
theorem dX5_read_5 : decode cX5_read 5 = .ok (.aload_n 0, 1) := by decide +kernel
theorem dX5_read_6 : decode cX5_read 6 = .ok (.iconst 0, 1) := by decide +kernel
theorem dX5_read_7 : decode cX5_read 7 = .ok (.putfield 21, 3) := by decide +kernel
theorem dX5_read_10 : decode cX5_read 10 = .ok (.aload_n 0, 1) := by decide +kernel
theorem dX5_read_11 : decode cX5_read 11 = .ok (.iload_n 2, 1) := by decide +kernel
theorem dX5_read_12 : decode cX5_read 12 = .ok (.putfield 25, 3) := by decide +kernel
theorem dX5_read_15 : decode cX5_read 15 = .ok (.aload_n 0, 1) := by decide +kernel
theorem dX5_read_16 : decode cX5_read 16 = .ok (.iload_n 3, 1) := by decide +kernel
theorem dX5_read_17 : decode cX5_read 17 = .ok (.putfield 28, 3) := by decide +kernel
theorem dX5_read_20 : decode cX5_read 20 = .ok (.iconst 0, 1) := by decide +kernel
theorem dX5_read_21 : decode cX5_read 21 = .ok (.istore 4, 2) := by decide +kernel
theorem dX5_read_23 : decode cX5_read 23 = .ok (.iload 4, 2) := by decide +kernel
theorem dX5_read_25 : decode cX5_read 25 = .ok (.bipush 20, 2) := by decide +kernel
theorem dX5_read_27 : decode cX5_read 27 = .ok (.if_icmp .gt 47, 3) := by decide +kernel
theorem dX5_read_30 : decode cX5_read 30 = .ok (.aload_n 0, 1) := by decide +kernel
theorem dX5_read_31 : decode cX5_read 31 = .ok (.invokevirtual 35, 3) := by decide +kernel
theorem dX5_read_34 : decode cX5_read 34 = .ok (.ifCond .ne 8, 3) := by decide +kernel
theorem dX5_read_37 : decode cX5_read 37 = .ok (.aload_n 0, 1) := by decide +kernel
theorem dX5_read_38 : decode cX5_read 38 = .ok (.invokevirtual 39, 3) := by decide +kernel
theorem dX5_read_41 : decode cX5_read 41 = .ok (.ireturn, 1) := by decide +kernel
theorem dX5_read_42 : decode cX5_read 42 = .ok (.aload_n 0, 1) := by decide +kernel
theorem dX5_read_43 : decode cX5_read 43 = .ok (.invokevirtual 43, 3) := by decide +kernel
theorem dX5_read_46 : decode cX5_read 46 = .ok (.ifCond .eq 8, 3) := by decide +kernel
theorem dX5_read_49 : decode cX5_read 49 = .ok (.aload_n 0, 1) := by decide +kernel
theorem dX5_read_50 : decode cX5_read 50 = .ok (.getfield 21, 3) := by decide +kernel
theorem dX5_read_53 : decode cX5_read 53 = .ok (.ireturn, 1) := by decide +kernel
theorem dX5_read_54 : decode cX5_read 54 = .ok (.aload_n 0, 1) := by decide +kernel
theorem dX5_read_55 : decode cX5_read 55 = .ok (.bipush 59, 2) := by decide +kernel
theorem dX5_read_57 : decode cX5_read 57 = .ok (.invokevirtual 46, 3) := by decide +kernel
theorem dX5_read_60 : decode cX5_read 60 = .ok (.ifCond .ne 8, 3) := by decide +kernel
theorem dX5_read_63 : decode cX5_read 63 = .ok (.aload_n 0, 1) := by decide +kernel
theorem dX5_read_64 : decode cX5_read 64 = .ok (.invokevirtual 39, 3) := by decide +kernel
theorem dX5_read_67 : decode cX5_read 67 = .ok (.ireturn, 1) := by decide +kernel
theorem dX5_read_68 : decode cX5_read 68 = .ok (.iinc 4 1, 3) := by decide +kernel
theorem dX5_read_71 : decode cX5_read 71 = .ok (.goto (-48), 3) := by decide +kernel
theorem dX5_read_74 : decode cX5_read 74 = .ok (.aload_n 0, 1) := by decide +kernel
theorem dX5_read_75 : decode cX5_read 75 = .ok (.invokevirtual 39, 3) := by decide +kernel
theorem dX5_read_78 : decode cX5_read 78 = .ok (.ireturn, 1) := by decide +kernel
theorem dX5_readLine_0 : decode cX5_readLine 0 = .ok (.aload_n 0, 1) := by decide +kernel
theorem dX5_readLine_1 : decode cX5_readLine 1 = .ok (.invokevirtual 50, 3) := by decide +kernel
theorem dX5_readLine_4 : decode cX5_readLine 4 = .ok (.bipush 35, 2) := by decide +kernel
theorem dX5_readLine_6 : decode cX5_readLine 6 = .ok (.if_icmp .ne 7, 3) := by decide +kernel
theorem dX5_readLine_9 : decode cX5_readLine 9 = .ok (.iconst 1, 1) := by decide +kernel
theorem dX5_readLine_10 : decode cX5_readLine 10 = .ok (.goto 4, 3) := by decide +kernel
theorem dX5_readLine_13 : decode cX5_readLine 13 = .ok (.iconst 0, 1) := by decide +kernel
theorem dX5_readLine_14 : decode cX5_readLine 14 = .ok (.istore_n 1, 1) := by decide +kernel
theorem dX5_readLine_15 : decode cX5_readLine 15 = .ok (.iload_n 1, 1) := by decide +kernel
theorem dX5_readLine_16 : decode cX5_readLine 16 = .ok (.ifCond .ne 27, 3) := by decide +kernel
theorem dX5_readLine_19 : decode cX5_readLine 19 = .ok (.aload_n 0, 1) := by decide +kernel
theorem dX5_readLine_20 : decode cX5_readLine 20 = .ok (.invokevirtual 50, 3) := by decide +kernel
theorem dX5_readLine_23 : decode cX5_readLine 23 = .ok (.bipush 48, 2) := by decide +kernel
theorem dX5_readLine_25 : decode cX5_readLine 25 = .ok (.bipush 55, 2) := by decide +kernel
theorem dX5_readLine_27 : decode cX5_readLine 27 = .ok (.invokestatic 53, 3) := by decide +kernel
theorem dX5_readLine_30 : decode cX5_readLine 30 = .ok (.ifCond .ne 13, 3) := by decide +kernel
theorem dX5_readLine_33 : decode cX5_readLine 33 = .ok (.aload_n 0, 1) := by decide +kernel
theorem dX5_readLine_34 : decode cX5_readLine 34 = .ok (.iconst 1, 1) := by decide +kernel
theorem dX5_readLine_35 : decode cX5_readLine 35 = .ok (.aload_n 0, 1) := by decide +kernel
theorem dX5_readLine_36 : decode cX5_readLine 36 = .ok (.invokevirtual 57, 3) := by decide +kernel
theorem dX5_readLine_39 : decode cX5_readLine 39 = .ok (.invokevirtual 60, 3) := by decide +kernel
theorem dX5_readLine_42 : decode cX5_readLine 42 = .ok (.ireturn, 1) := by decide +kernel
theorem dX5_readLine_43 : decode cX5_readLine 43 = .ok (.aload_n 0, 1) := by decide +kernel
theorem dX5_readLine_44 : decode cX5_readLine 44 = .ok (.getfield 21, 3) := by decide +kernel
theorem dX5_readLine_47 : decode cX5_readLine 47 = .ok (.bipush 20, 2) := by decide +kernel
theorem dX5_readLine_49 : decode cX5_readLine 49 = .ok (.if_icmp .lt 13, 3) := by decide +kernel
theorem dX5_readLine_52 : decode cX5_readLine 52 = .ok (.aload_n 0, 1) := by decide +kernel
theorem dX5_readLine_53 : decode cX5_readLine 53 = .ok (.iconst 4, 1) := by decide +kernel
theorem dX5_readLine_54 : decode cX5_readLine 54 = .ok (.aload_n 0, 1) := by decide +kernel
theorem dX5_readLine_55 : decode cX5_readLine 55 = .ok (.invokevirtual 57, 3) := by decide +kernel
theorem dX5_readLine_58 : decode cX5_readLine 58 = .ok (.invokevirtual 60, 3) := by decide +kernel
theorem dX5_readLine_61 : decode cX5_readLine 61 = .ok (.ireturn, 1) := by decide +kernel
theorem dX5_readLine_62 : decode cX5_readLine 62 = .ok (.aload_n 0, 1) := by decide +kernel
theorem dX5_readLine_63 : decode cX5_readLine 63 = .ok (.invokevirtual 57, 3) := by decide +kernel
theorem dX5_readLine_66 : decode cX5_readLine 66 = .ok (.istore_n 2, 1) := by decide +kernel
theorem dX5_readLine_67 : decode cX5_readLine 67 = .ok (.iload_n 1, 1) := by decide +kernel
theorem dX5_readLine_68 : decode cX5_readLine 68 = .ok (.ifCond .eq 7, 3) := by decide +kernel
theorem dX5_readLine_71 : decode cX5_readLine 71 = .ok (.iconst 0, 1) := by decide +kernel
theorem dX5_readLine_72 : decode cX5_readLine 72 = .ok (.goto 10, 3) := by decide +kernel
theorem dX5_readLine_75 : decode cX5_readLine 75 = .ok (.aload_n 0, 1) := by decide +kernel
theorem dX5_readLine_76 : decode cX5_readLine 76 = .ok (.invokevirtual 50, 3) := by decide +kernel
theorem dX5_readLine_79 : decode cX5_readLine 79 = .ok (.bipush 48, 2) := by decide +kernel
theorem dX5_readLine_81 : decode cX5_readLine 81 = .ok (.isub, 1) := by decide +kernel
theorem dX5_readLine_82 : decode cX5_readLine 82 = .ok (.istore_n 3, 1) := by decide +kernel
theorem dX5_readLine_83 : decode cX5_readLine 83 = .ok (.aload_n 0, 1) := by decide +kernel
theorem dX5_readLine_84 : decode cX5_readLine 84 = .ok (.invokevirtual 64, 3) := by decide +kernel
theorem dX5_readLine_87 : decode cX5_readLine 87 = .ok (.iload_n 1, 1) := by decide +kernel
theorem dX5_readLine_88 : decode cX5_readLine 88 = .ok (.ifCond .eq 17, 3) := by decide +kernel
theorem dX5_readLine_91 : decode cX5_readLine 91 = .ok (.aload_n 0, 1) := by decide +kernel
theorem dX5_readLine_92 : decode cX5_readLine 92 = .ok (.bipush 35, 2) := by decide +kernel
theorem dX5_readLine_94 : decode cX5_readLine 94 = .ok (.iload_n 3, 1) := by decide +kernel
theorem dX5_readLine_95 : decode cX5_readLine 95 = .ok (.aload_n 0, 1) := by decide +kernel
theorem dX5_readLine_96 : decode cX5_readLine 96 = .ok (.invokevirtual 68, 3) := by decide +kernel
theorem dX5_readLine_99 : decode cX5_readLine 99 = .ok (.invokevirtual 71, 3) := by decide +kernel
theorem dX5_readLine_102 : decode cX5_readLine 102 = .ok (.goto 9, 3) := by decide +kernel
theorem dX5_readLine_105 : decode cX5_readLine 105 = .ok (.aload_n 0, 1) := by decide +kernel
theorem dX5_readLine_106 : decode cX5_readLine 106 = .ok (.iload_n 3, 1) := by decide +kernel
theorem dX5_readLine_107 : decode cX5_readLine 107 = .ok (.iload_n 2, 1) := by decide +kernel
theorem dX5_readLine_108 : decode cX5_readLine 108 = .ok (.invokevirtual 74, 3) := by decide +kernel
theorem dX5_readLine_111 : decode cX5_readLine 111 = .ok (.ireturn, 1) := by decide +kernel
theorem dX5_readOrder_0 : decode cX5_readOrder 0 = .ok (.aload_n 0, 1) := by decide +kernel
theorem dX5_readOrder_1 : decode cX5_readOrder 1 = .ok (.invokevirtual 50, 3) := by decide +kernel
theorem dX5_readOrder_4 : decode cX5_readOrder 4 = .ok (.istore_n 3, 1) := by decide +kernel
theorem dX5_readOrder_5 : decode cX5_readOrder 5 = .ok (.iload_n 3, 1) := by decide +kernel
theorem dX5_readOrder_6 : decode cX5_readOrder 6 = .ok (.bipush 64, 2) := by decide +kernel
theorem dX5_readOrder_8 : decode cX5_readOrder 8 = .ok (.if_icmp .eq 31, 3) := by decide +kernel
theorem dX5_readOrder_11 : decode cX5_readOrder 11 = .ok (.iload_n 3, 1) := by decide +kernel
theorem dX5_readOrder_12 : decode cX5_readOrder 12 = .ok (.bipush 43, 2) := by decide +kernel
theorem dX5_readOrder_14 : decode cX5_readOrder 14 = .ok (.if_icmp .eq 25, 3) := by decide +kernel
theorem dX5_readOrder_17 : decode cX5_readOrder 17 = .ok (.iload_n 3, 1) := by decide +kernel
theorem dX5_readOrder_18 : decode cX5_readOrder 18 = .ok (.bipush 45, 2) := by decide +kernel
theorem dX5_readOrder_20 : decode cX5_readOrder 20 = .ok (.if_icmp .eq 19, 3) := by decide +kernel
theorem dX5_readOrder_23 : decode cX5_readOrder 23 = .ok (.iload_n 3, 1) := by decide +kernel
theorem dX5_readOrder_24 : decode cX5_readOrder 24 = .ok (.bipush 61, 2) := by decide +kernel
theorem dX5_readOrder_26 : decode cX5_readOrder 26 = .ok (.if_icmp .eq 13, 3) := by decide +kernel
theorem dX5_readOrder_29 : decode cX5_readOrder 29 = .ok (.aload_n 0, 1) := by decide +kernel
theorem dX5_readOrder_30 : decode cX5_readOrder 30 = .ok (.iconst 1, 1) := by decide +kernel
theorem dX5_readOrder_31 : decode cX5_readOrder 31 = .ok (.aload_n 0, 1) := by decide +kernel
theorem dX5_readOrder_32 : decode cX5_readOrder 32 = .ok (.invokevirtual 57, 3) := by decide +kernel
theorem dX5_readOrder_35 : decode cX5_readOrder 35 = .ok (.invokevirtual 60, 3) := by decide +kernel
theorem dX5_readOrder_38 : decode cX5_readOrder 38 = .ok (.ireturn, 1) := by decide +kernel
theorem dX5_readOrder_39 : decode cX5_readOrder 39 = .ok (.aload_n 0, 1) := by decide +kernel
theorem dX5_readOrder_40 : decode cX5_readOrder 40 = .ok (.invokevirtual 64, 3) := by decide +kernel
theorem dX5_readOrder_43 : decode cX5_readOrder 43 = .ok (.iload_n 3, 1) := by decide +kernel
theorem dX5_readOrder_44 : decode cX5_readOrder 44 = .ok (.bipush 64, 2) := by decide +kernel
theorem dX5_readOrder_46 : decode cX5_readOrder 46 = .ok (.if_icmp .ne 26, 3) := by decide +kernel
theorem dX5_readOrder_49 : decode cX5_readOrder 49 = .ok (.aload_n 0, 1) := by decide +kernel
theorem dX5_readOrder_50 : decode cX5_readOrder 50 = .ok (.dup, 1) := by decide +kernel
theorem dX5_readOrder_51 : decode cX5_readOrder 51 = .ok (.getfield 25, 3) := by decide +kernel
theorem dX5_readOrder_54 : decode cX5_readOrder 54 = .ok (.iconst 1, 1) := by decide +kernel
theorem dX5_readOrder_55 : decode cX5_readOrder 55 = .ok (.iload_n 1, 1) := by decide +kernel
theorem dX5_readOrder_56 : decode cX5_readOrder 56 = .ok (.ishl, 1) := by decide +kernel
theorem dX5_readOrder_57 : decode cX5_readOrder 57 = .ok (.ior, 1) := by decide +kernel
theorem dX5_readOrder_58 : decode cX5_readOrder 58 = .ok (.putfield 25, 3) := by decide +kernel
theorem dX5_readOrder_61 : decode cX5_readOrder 61 = .ok (.aload_n 0, 1) := by decide +kernel
theorem dX5_readOrder_62 : decode cX5_readOrder 62 = .ok (.iload_n 3, 1) := by decide +kernel
theorem dX5_readOrder_63 : decode cX5_readOrder 63 = .ok (.iload_n 1, 1) := by decide +kernel
theorem dX5_readOrder_64 : decode cX5_readOrder 64 = .ok (.aload_n 0, 1) := by decide +kernel
theorem dX5_readOrder_65 : decode cX5_readOrder 65 = .ok (.invokevirtual 68, 3) := by decide +kernel
theorem dX5_readOrder_68 : decode cX5_readOrder 68 = .ok (.invokevirtual 71, 3) := by decide +kernel
theorem dX5_readOrder_71 : decode cX5_readOrder 71 = .ok (.ireturn, 1) := by decide +kernel
theorem dX5_readOrder_72 : decode cX5_readOrder 72 = .ok (.aload_n 0, 1) := by decide +kernel
theorem dX5_readOrder_73 : decode cX5_readOrder 73 = .ok (.getfield 25, 3) := by decide +kernel
theorem dX5_readOrder_76 : decode cX5_readOrder 76 = .ok (.iload_n 1, 1) := by decide +kernel
theorem dX5_readOrder_77 : decode cX5_readOrder 77 = .ok (.ishr, 1) := by decide +kernel
theorem dX5_readOrder_78 : decode cX5_readOrder 78 = .ok (.iconst 1, 1) := by decide +kernel
theorem dX5_readOrder_79 : decode cX5_readOrder 79 = .ok (.iand, 1) := by decide +kernel
theorem dX5_readOrder_80 : decode cX5_readOrder 80 = .ok (.ifCond .ne 11, 3) := by decide +kernel
theorem dX5_readOrder_83 : decode cX5_readOrder 83 = .ok (.aload_n 0, 1) := by decide +kernel
theorem dX5_readOrder_84 : decode cX5_readOrder 84 = .ok (.bipush 7, 2) := by decide +kernel
theorem dX5_readOrder_86 : decode cX5_readOrder 86 = .ok (.iload_n 2, 1) := by decide +kernel
theorem dX5_readOrder_87 : decode cX5_readOrder 87 = .ok (.invokevirtual 60, 3) := by decide +kernel
theorem dX5_readOrder_90 : decode cX5_readOrder 90 = .ok (.ireturn, 1) := by decide +kernel
theorem dX5_readOrder_91 : decode cX5_readOrder 91 = .ok (.iload_n 3, 1) := by decide +kernel
theorem dX5_readOrder_92 : decode cX5_readOrder 92 = .ok (.bipush 61, 2) := by decide +kernel
theorem dX5_readOrder_94 : decode cX5_readOrder 94 = .ok (.if_icmp .ne 8, 3) := by decide +kernel
theorem dX5_readOrder_97 : decode cX5_readOrder 97 = .ok (.bipush 99, 2) := by decide +kernel
theorem dX5_readOrder_99 : decode cX5_readOrder 99 = .ok (.goto 9, 3) := by decide +kernel
theorem dX5_readOrder_102 : decode cX5_readOrder 102 = .ok (.aload_n 0, 1) := by decide +kernel
theorem dX5_readOrder_103 : decode cX5_readOrder 103 = .ok (.getfield 28, 3) := by decide +kernel
theorem dX5_readOrder_106 : decode cX5_readOrder 106 = .ok (.iconst 1, 1) := by decide +kernel
theorem dX5_readOrder_107 : decode cX5_readOrder 107 = .ok (.isub, 1) := by decide +kernel
theorem dX5_readOrder_108 : decode cX5_readOrder 108 = .ok (.istore 4, 2) := by decide +kernel
theorem dX5_readOrder_110 : decode cX5_readOrder 110 = .ok (.aload_n 0, 1) := by decide +kernel
theorem dX5_readOrder_111 : decode cX5_readOrder 111 = .ok (.iload_n 3, 1) := by decide +kernel
theorem dX5_readOrder_112 : decode cX5_readOrder 112 = .ok (.iload_n 1, 1) := by decide +kernel
theorem dX5_readOrder_113 : decode cX5_readOrder 113 = .ok (.aload_n 0, 1) := by decide +kernel
theorem dX5_readOrder_114 : decode cX5_readOrder 114 = .ok (.iconst 2, 1) := by decide +kernel
theorem dX5_readOrder_115 : decode cX5_readOrder 115 = .ok (.iload 4, 2) := by decide +kernel
theorem dX5_readOrder_117 : decode cX5_readOrder 117 = .ok (.bipush 7, 2) := by decide +kernel
theorem dX5_readOrder_119 : decode cX5_readOrder 119 = .ok (.invokevirtual 77, 3) := by decide +kernel
theorem dX5_readOrder_122 : decode cX5_readOrder 122 = .ok (.invokevirtual 71, 3) := by decide +kernel
theorem dX5_readOrder_125 : decode cX5_readOrder 125 = .ok (.ireturn, 1) := by decide +kernel
theorem dX5_readPlace_0 : decode cX5_readPlace 0 = .ok (.aload_n 0, 1) := by decide +kernel
theorem dX5_readPlace_1 : decode cX5_readPlace 1 = .ok (.iconst 2, 1) := by decide +kernel
theorem dX5_readPlace_2 : decode cX5_readPlace 2 = .ok (.bipush 23, 2) := by decide +kernel
theorem dX5_readPlace_4 : decode cX5_readPlace 4 = .ok (.iconst 3, 1) := by decide +kernel
theorem dX5_readPlace_5 : decode cX5_readPlace 5 = .ok (.invokevirtual 77, 3) := by decide +kernel
theorem dX5_readPlace_8 : decode cX5_readPlace 8 = .ok (.istore_n 1, 1) := by decide +kernel
theorem dX5_readPlace_9 : decode cX5_readPlace 9 = .ok (.iload_n 1, 1) := by decide +kernel
theorem dX5_readPlace_10 : decode cX5_readPlace 10 = .ok (.iconst (-1), 1) := by decide +kernel
theorem dX5_readPlace_11 : decode cX5_readPlace 11 = .ok (.if_icmp .eq 12, 3) := by decide +kernel
theorem dX5_readPlace_14 : decode cX5_readPlace 14 = .ok (.aload_n 0, 1) := by decide +kernel
theorem dX5_readPlace_15 : decode cX5_readPlace 15 = .ok (.bipush 44, 2) := by decide +kernel
theorem dX5_readPlace_17 : decode cX5_readPlace 17 = .ok (.invokevirtual 46, 3) := by decide +kernel
theorem dX5_readPlace_20 : decode cX5_readPlace 20 = .ok (.ifCond .ne 5, 3) := by decide +kernel
theorem dX5_readPlace_23 : decode cX5_readPlace 23 = .ok (.iconst (-1), 1) := by decide +kernel
theorem dX5_readPlace_24 : decode cX5_readPlace 24 = .ok (.ireturn, 1) := by decide +kernel
theorem dX5_readPlace_25 : decode cX5_readPlace 25 = .ok (.aload_n 0, 1) := by decide +kernel
theorem dX5_readPlace_26 : decode cX5_readPlace 26 = .ok (.iconst 2, 1) := by decide +kernel
theorem dX5_readPlace_27 : decode cX5_readPlace 27 = .ok (.bipush 15, 2) := by decide +kernel
theorem dX5_readPlace_29 : decode cX5_readPlace 29 = .ok (.iconst 3, 1) := by decide +kernel
theorem dX5_readPlace_30 : decode cX5_readPlace 30 = .ok (.invokevirtual 77, 3) := by decide +kernel
theorem dX5_readPlace_33 : decode cX5_readPlace 33 = .ok (.istore_n 2, 1) := by decide +kernel
theorem dX5_readPlace_34 : decode cX5_readPlace 34 = .ok (.iload_n 2, 1) := by decide +kernel
theorem dX5_readPlace_35 : decode cX5_readPlace 35 = .ok (.iconst (-1), 1) := by decide +kernel
theorem dX5_readPlace_36 : decode cX5_readPlace 36 = .ok (.if_icmp .ne 7, 3) := by decide +kernel
theorem dX5_readPlace_39 : decode cX5_readPlace 39 = .ok (.iconst (-1), 1) := by decide +kernel
theorem dX5_readPlace_40 : decode cX5_readPlace 40 = .ok (.goto 9, 3) := by decide +kernel
theorem dX5_readPlace_43 : decode cX5_readPlace 43 = .ok (.bipush 24, 2) := by decide +kernel
theorem dX5_readPlace_45 : decode cX5_readPlace 45 = .ok (.iload_n 2, 1) := by decide +kernel
theorem dX5_readPlace_46 : decode cX5_readPlace 46 = .ok (.imul, 1) := by decide +kernel
theorem dX5_readPlace_47 : decode cX5_readPlace 47 = .ok (.iload_n 1, 1) := by decide +kernel
theorem dX5_readPlace_48 : decode cX5_readPlace 48 = .ok (.iadd, 1) := by decide +kernel
theorem dX5_readPlace_49 : decode cX5_readPlace 49 = .ok (.ireturn, 1) := by decide +kernel
theorem dX5_add_0 : decode cX5_add 0 = .ok (.iload_n 3, 1) := by decide +kernel
theorem dX5_add_1 : decode cX5_add 1 = .ok (.iconst (-1), 1) := by decide +kernel
theorem dX5_add_2 : decode cX5_add 2 = .ok (.if_icmp .eq 12, 3) := by decide +kernel
theorem dX5_add_5 : decode cX5_add 5 = .ok (.aload_n 0, 1) := by decide +kernel
theorem dX5_add_6 : decode cX5_add 6 = .ok (.getfield 21, 3) := by decide +kernel
theorem dX5_add_9 : decode cX5_add 9 = .ok (.bipush 20, 2) := by decide +kernel
theorem dX5_add_11 : decode cX5_add 11 = .ok (.if_icmp .lt 5, 3) := by decide +kernel
theorem dX5_add_14 : decode cX5_add 14 = .ok (.iconst 0, 1) := by decide +kernel
theorem dX5_add_15 : decode cX5_add 15 = .ok (.ireturn, 1) := by decide +kernel
theorem dX5_add_16 : decode cX5_add 16 = .ok (.aload_n 0, 1) := by decide +kernel
theorem dX5_add_17 : decode cX5_add 17 = .ok (.getfield 11, 3) := by decide +kernel
theorem dX5_add_20 : decode cX5_add 20 = .ok (.aload_n 0, 1) := by decide +kernel
theorem dX5_add_21 : decode cX5_add 21 = .ok (.getfield 21, 3) := by decide +kernel
theorem dX5_add_24 : decode cX5_add 24 = .ok (.iload_n 1, 1) := by decide +kernel
theorem dX5_add_25 : decode cX5_add 25 = .ok (.iastore, 1) := by decide +kernel
theorem dX5_add_26 : decode cX5_add 26 = .ok (.aload_n 0, 1) := by decide +kernel
theorem dX5_add_27 : decode cX5_add 27 = .ok (.getfield 15, 3) := by decide +kernel
theorem dX5_add_30 : decode cX5_add 30 = .ok (.aload_n 0, 1) := by decide +kernel
theorem dX5_add_31 : decode cX5_add 31 = .ok (.getfield 21, 3) := by decide +kernel
theorem dX5_add_34 : decode cX5_add 34 = .ok (.iload_n 2, 1) := by decide +kernel
theorem dX5_add_35 : decode cX5_add 35 = .ok (.iastore, 1) := by decide +kernel
theorem dX5_add_36 : decode cX5_add 36 = .ok (.aload_n 0, 1) := by decide +kernel
theorem dX5_add_37 : decode cX5_add 37 = .ok (.getfield 18, 3) := by decide +kernel
theorem dX5_add_40 : decode cX5_add 40 = .ok (.aload_n 0, 1) := by decide +kernel
theorem dX5_add_41 : decode cX5_add 41 = .ok (.getfield 21, 3) := by decide +kernel
theorem dX5_add_44 : decode cX5_add 44 = .ok (.iload_n 3, 1) := by decide +kernel
theorem dX5_add_45 : decode cX5_add 45 = .ok (.iastore, 1) := by decide +kernel
theorem dX5_add_46 : decode cX5_add 46 = .ok (.aload_n 0, 1) := by decide +kernel
theorem dX5_add_47 : decode cX5_add 47 = .ok (.dup, 1) := by decide +kernel
theorem dX5_add_48 : decode cX5_add 48 = .ok (.getfield 21, 3) := by decide +kernel
theorem dX5_add_51 : decode cX5_add 51 = .ok (.iconst 1, 1) := by decide +kernel
theorem dX5_add_52 : decode cX5_add 52 = .ok (.iadd, 1) := by decide +kernel
theorem dX5_add_53 : decode cX5_add 53 = .ok (.putfield 21, 3) := by decide +kernel
theorem dX5_add_56 : decode cX5_add 56 = .ok (.iconst 1, 1) := by decide +kernel
theorem dX5_add_57 : decode cX5_add 57 = .ok (.ireturn, 1) := by decide +kernel
theorem dX5_carryOut_0 : decode cX5_carryOut 0 = .ok (.iconst 0, 1) := by decide +kernel
theorem dX5_carryOut_1 : decode cX5_carryOut 1 = .ok (.istore_n 3, 1) := by decide +kernel
theorem dX5_carryOut_2 : decode cX5_carryOut 2 = .ok (.iload_n 3, 1) := by decide +kernel
theorem dX5_carryOut_3 : decode cX5_carryOut 3 = .ok (.aload_n 0, 1) := by decide +kernel
theorem dX5_carryOut_4 : decode cX5_carryOut 4 = .ok (.getfield 21, 3) := by decide +kernel
theorem dX5_carryOut_7 : decode cX5_carryOut 7 = .ok (.if_icmp .ge 61, 3) := by decide +kernel
theorem dX5_carryOut_10 : decode cX5_carryOut 10 = .ok (.iload_n 3, 1) := by decide +kernel
theorem dX5_carryOut_11 : decode cX5_carryOut 11 = .ok (.bipush 20, 2) := by decide +kernel
theorem dX5_carryOut_13 : decode cX5_carryOut 13 = .ok (.if_icmp .ge 55, 3) := by decide +kernel
theorem dX5_carryOut_16 : decode cX5_carryOut 16 = .ok (.aload_n 0, 1) := by decide +kernel
theorem dX5_carryOut_17 : decode cX5_carryOut 17 = .ok (.getfield 11, 3) := by decide +kernel
theorem dX5_carryOut_20 : decode cX5_carryOut 20 = .ok (.iload_n 3, 1) := by decide +kernel
theorem dX5_carryOut_21 : decode cX5_carryOut 21 = .ok (.iaload, 1) := by decide +kernel
theorem dX5_carryOut_22 : decode cX5_carryOut 22 = .ok (.bipush 35, 2) := by decide +kernel
theorem dX5_carryOut_24 : decode cX5_carryOut 24 = .ok (.if_icmp .ne 16, 3) := by decide +kernel
theorem dX5_carryOut_27 : decode cX5_carryOut 27 = .ok (.aload_n 2, 1) := by decide +kernel
theorem dX5_carryOut_28 : decode cX5_carryOut 28 = .ok (.aload_n 0, 1) := by decide +kernel
theorem dX5_carryOut_29 : decode cX5_carryOut 29 = .ok (.getfield 18, 3) := by decide +kernel
theorem dX5_carryOut_32 : decode cX5_carryOut 32 = .ok (.iload_n 3, 1) := by decide +kernel
theorem dX5_carryOut_33 : decode cX5_carryOut 33 = .ok (.iaload, 1) := by decide +kernel
theorem dX5_carryOut_34 : decode cX5_carryOut 34 = .ok (.invokevirtual 81, 3) := by decide +kernel
theorem dX5_carryOut_37 : decode cX5_carryOut 37 = .ok (.goto 25, 3) := by decide +kernel
theorem dX5_carryOut_40 : decode cX5_carryOut 40 = .ok (.aload_n 1, 1) := by decide +kernel
theorem dX5_carryOut_41 : decode cX5_carryOut 41 = .ok (.aload_n 0, 1) := by decide +kernel
theorem dX5_carryOut_42 : decode cX5_carryOut 42 = .ok (.getfield 11, 3) := by decide +kernel
theorem dX5_carryOut_45 : decode cX5_carryOut 45 = .ok (.iload_n 3, 1) := by decide +kernel
theorem dX5_carryOut_46 : decode cX5_carryOut 46 = .ok (.iaload, 1) := by decide +kernel
theorem dX5_carryOut_47 : decode cX5_carryOut 47 = .ok (.aload_n 0, 1) := by decide +kernel
theorem dX5_carryOut_48 : decode cX5_carryOut 48 = .ok (.getfield 15, 3) := by decide +kernel
theorem dX5_carryOut_51 : decode cX5_carryOut 51 = .ok (.iload_n 3, 1) := by decide +kernel
theorem dX5_carryOut_52 : decode cX5_carryOut 52 = .ok (.iaload, 1) := by decide +kernel
theorem dX5_carryOut_53 : decode cX5_carryOut 53 = .ok (.aload_n 0, 1) := by decide +kernel
theorem dX5_carryOut_54 : decode cX5_carryOut 54 = .ok (.getfield 18, 3) := by decide +kernel
theorem dX5_carryOut_57 : decode cX5_carryOut 57 = .ok (.iload_n 3, 1) := by decide +kernel
theorem dX5_carryOut_58 : decode cX5_carryOut 58 = .ok (.iaload, 1) := by decide +kernel
theorem dX5_carryOut_59 : decode cX5_carryOut 59 = .ok (.invokestatic 86, 3) := by decide +kernel
theorem dX5_carryOut_62 : decode cX5_carryOut 62 = .ok (.iinc 3 1, 3) := by decide +kernel
theorem dX5_carryOut_65 : decode cX5_carryOut 65 = .ok (.goto (-63), 3) := by decide +kernel
theorem dX5_carryOut_68 : decode cX5_carryOut 68 = .ok (.return_, 1) := by decide +kernel
theorem dX5_carryOutOrder_0 : decode cX5_carryOutOrder 0 = .ok (.iload_n 1, 1) := by decide +kernel
theorem dX5_carryOutOrder_1 : decode cX5_carryOutOrder 1 = .ok (.lookupswitch 70 #[(43, 44), (45, 53), (64, 35)], 35) := by decide +kernel
theorem dX5_carryOutOrder_36 : decode cX5_carryOutOrder 36 = .ok (.aload_n 0, 1) := by decide +kernel
theorem dX5_carryOutOrder_37 : decode cX5_carryOutOrder 37 = .ok (.iload_n 2, 1) := by decide +kernel
theorem dX5_carryOutOrder_38 : decode cX5_carryOutOrder 38 = .ok (.iload_n 3, 1) := by decide +kernel
theorem dX5_carryOutOrder_39 : decode cX5_carryOutOrder 39 = .ok (.invokevirtual 90, 3) := by decide +kernel
theorem dX5_carryOutOrder_42 : decode cX5_carryOutOrder 42 = .ok (.goto 35, 3) := by decide +kernel
theorem dX5_carryOutOrder_45 : decode cX5_carryOutOrder 45 = .ok (.aload_n 0, 1) := by decide +kernel
theorem dX5_carryOutOrder_46 : decode cX5_carryOutOrder 46 = .ok (.iload_n 3, 1) := by decide +kernel
theorem dX5_carryOutOrder_47 : decode cX5_carryOutOrder 47 = .ok (.iload_n 2, 1) := by decide +kernel
theorem dX5_carryOutOrder_48 : decode cX5_carryOutOrder 48 = .ok (.invokevirtual 96, 3) := by decide +kernel
theorem dX5_carryOutOrder_51 : decode cX5_carryOutOrder 51 = .ok (.goto 26, 3) := by decide +kernel
theorem dX5_carryOutOrder_54 : decode cX5_carryOutOrder 54 = .ok (.aload_n 0, 1) := by decide +kernel
theorem dX5_carryOutOrder_55 : decode cX5_carryOutOrder 55 = .ok (.iload_n 3, 1) := by decide +kernel
theorem dX5_carryOutOrder_56 : decode cX5_carryOutOrder 56 = .ok (.iload_n 2, 1) := by decide +kernel
theorem dX5_carryOutOrder_57 : decode cX5_carryOutOrder 57 = .ok (.invokevirtual 99, 3) := by decide +kernel
theorem dX5_carryOutOrder_60 : decode cX5_carryOutOrder 60 = .ok (.ifCond .eq 17, 3) := by decide +kernel
theorem dX5_carryOutOrder_63 : decode cX5_carryOutOrder 63 = .ok (.aload_n 0, 1) := by decide +kernel
theorem dX5_carryOutOrder_64 : decode cX5_carryOutOrder 64 = .ok (.iload_n 3, 1) := by decide +kernel
theorem dX5_carryOutOrder_65 : decode cX5_carryOutOrder 65 = .ok (.invokevirtual 102, 3) := by decide +kernel
theorem dX5_carryOutOrder_68 : decode cX5_carryOutOrder 68 = .ok (.goto 9, 3) := by decide +kernel
theorem dX5_carryOutOrder_71 : decode cX5_carryOutOrder 71 = .ok (.aload_n 0, 1) := by decide +kernel
theorem dX5_carryOutOrder_72 : decode cX5_carryOutOrder 72 = .ok (.iload_n 2, 1) := by decide +kernel
theorem dX5_carryOutOrder_73 : decode cX5_carryOutOrder 73 = .ok (.iload_n 3, 1) := by decide +kernel
theorem dX5_carryOutOrder_74 : decode cX5_carryOutOrder 74 = .ok (.invokevirtual 105, 3) := by decide +kernel
theorem dX5_carryOutOrder_77 : decode cX5_carryOutOrder 77 = .ok (.return_, 1) := by decide +kernel
theorem dX6_init_0 : decode cX6_init 0 = .ok (.aload_n 0, 1) := by decide +kernel
theorem dX6_init_1 : decode cX6_init 1 = .ok (.invokespecial 3, 3) := by decide +kernel
theorem dX6_init_4 : decode cX6_init 4 = .ok (.aload_n 0, 1) := by decide +kernel
theorem dX6_init_5 : decode cX6_init 5 = .ok (.iconst 0, 1) := by decide +kernel
theorem dX6_init_6 : decode cX6_init 6 = .ok (.putfield 9, 3) := by decide +kernel
theorem dX6_init_9 : decode cX6_init 9 = .ok (.aload_n 0, 1) := by decide +kernel
theorem dX6_init_10 : decode cX6_init 10 = .ok (.iconst 0, 1) := by decide +kernel
theorem dX6_init_11 : decode cX6_init 11 = .ok (.putfield 15, 3) := by decide +kernel
theorem dX6_init_14 : decode cX6_init 14 = .ok (.aload_n 0, 1) := by decide +kernel
theorem dX6_init_15 : decode cX6_init 15 = .ok (.iconst (-1), 1) := by decide +kernel
theorem dX6_init_16 : decode cX6_init 16 = .ok (.putfield 18, 3) := by decide +kernel
theorem dX6_init_19 : decode cX6_init 19 = .ok (.aload_n 0, 1) := by decide +kernel
theorem dX6_init_20 : decode cX6_init 20 = .ok (.iconst 0, 1) := by decide +kernel
theorem dX6_init_21 : decode cX6_init 21 = .ok (.putfield 21, 3) := by decide +kernel
theorem dX6_init_24 : decode cX6_init 24 = .ok (.aload_n 0, 1) := by decide +kernel
theorem dX6_init_25 : decode cX6_init 25 = .ok (.aload_n 1, 1) := by decide +kernel
theorem dX6_init_26 : decode cX6_init 26 = .ok (.getfield 24, 3) := by decide +kernel
theorem dX6_init_29 : decode cX6_init 29 = .ok (.putfield 30, 3) := by decide +kernel
theorem dX6_init_32 : decode cX6_init 32 = .ok (.return_, 1) := by decide +kernel
theorem dX6_begin_0 : decode cX6_begin 0 = .ok (.aload_n 0, 1) := by decide +kernel
theorem dX6_begin_1 : decode cX6_begin 1 = .ok (.iload_n 1, 1) := by decide +kernel
theorem dX6_begin_2 : decode cX6_begin 2 = .ok (.putfield 9, 3) := by decide +kernel
theorem dX6_begin_5 : decode cX6_begin 5 = .ok (.aload_n 0, 1) := by decide +kernel
theorem dX6_begin_6 : decode cX6_begin 6 = .ok (.iconst (-1), 1) := by decide +kernel
theorem dX6_begin_7 : decode cX6_begin 7 = .ok (.putfield 15, 3) := by decide +kernel
theorem dX6_begin_10 : decode cX6_begin 10 = .ok (.aload_n 0, 1) := by decide +kernel
theorem dX6_begin_11 : decode cX6_begin 11 = .ok (.iconst 0, 1) := by decide +kernel
theorem dX6_begin_12 : decode cX6_begin 12 = .ok (.putfield 21, 3) := by decide +kernel
theorem dX6_begin_15 : decode cX6_begin 15 = .ok (.aload_n 0, 1) := by decide +kernel
theorem dX6_begin_16 : decode cX6_begin 16 = .ok (.invokevirtual 33, 3) := by decide +kernel
theorem dX6_begin_19 : decode cX6_begin 19 = .ok (.return_, 1) := by decide +kernel
theorem dX6_skip_0 : decode cX6_skip 0 = .ok (.aload_n 0, 1) := by decide +kernel
theorem dX6_skip_1 : decode cX6_skip 1 = .ok (.dup, 1) := by decide +kernel
theorem dX6_skip_2 : decode cX6_skip 2 = .ok (.getfield 15, 3) := by decide +kernel
theorem dX6_skip_5 : decode cX6_skip 5 = .ok (.iconst 1, 1) := by decide +kernel
theorem dX6_skip_6 : decode cX6_skip 6 = .ok (.iadd, 1) := by decide +kernel
theorem dX6_skip_7 : decode cX6_skip 7 = .ok (.putfield 15, 3) := by decide +kernel
theorem dX6_skip_10 : decode cX6_skip 10 = .ok (.aload_n 0, 1) := by decide +kernel
theorem dX6_skip_11 : decode cX6_skip 11 = .ok (.aload_n 0, 1) := by decide +kernel
theorem dX6_skip_12 : decode cX6_skip 12 = .ok (.getfield 15, 3) := by decide +kernel
theorem dX6_skip_15 : decode cX6_skip 15 = .ok (.ifCond .lt 38, 3) := by decide +kernel
theorem dX6_skip_18 : decode cX6_skip 18 = .ok (.aload_n 0, 1) := by decide +kernel
theorem dX6_skip_19 : decode cX6_skip 19 = .ok (.getfield 15, 3) := by decide +kernel
theorem dX6_skip_22 : decode cX6_skip 22 = .ok (.aload_n 0, 1) := by decide +kernel
theorem dX6_skip_23 : decode cX6_skip 23 = .ok (.getfield 9, 3) := by decide +kernel
theorem dX6_skip_26 : decode cX6_skip 26 = .ok (.if_icmp .ge 27, 3) := by decide +kernel
theorem dX6_skip_29 : decode cX6_skip 29 = .ok (.aload_n 0, 1) := by decide +kernel
theorem dX6_skip_30 : decode cX6_skip 30 = .ok (.getfield 15, 3) := by decide +kernel
theorem dX6_skip_33 : decode cX6_skip 33 = .ok (.aload_n 0, 1) := by decide +kernel
theorem dX6_skip_34 : decode cX6_skip 34 = .ok (.getfield 30, 3) := by decide +kernel
theorem dX6_skip_37 : decode cX6_skip 37 = .ok (.arraylength, 1) := by decide +kernel
theorem dX6_skip_38 : decode cX6_skip 38 = .ok (.if_icmp .ge 15, 3) := by decide +kernel
theorem dX6_skip_41 : decode cX6_skip 41 = .ok (.aload_n 0, 1) := by decide +kernel
theorem dX6_skip_42 : decode cX6_skip 42 = .ok (.getfield 30, 3) := by decide +kernel
theorem dX6_skip_45 : decode cX6_skip 45 = .ok (.aload_n 0, 1) := by decide +kernel
theorem dX6_skip_46 : decode cX6_skip 46 = .ok (.getfield 15, 3) := by decide +kernel
theorem dX6_skip_49 : decode cX6_skip 49 = .ok (.iaload, 1) := by decide +kernel
theorem dX6_skip_50 : decode cX6_skip 50 = .ok (.goto 4, 3) := by decide +kernel
theorem dX6_skip_53 : decode cX6_skip 53 = .ok (.iconst (-1), 1) := by decide +kernel
theorem dX6_skip_54 : decode cX6_skip 54 = .ok (.putfield 18, 3) := by decide +kernel
theorem dX6_skip_57 : decode cX6_skip 57 = .ok (.return_, 1) := by decide +kernel
theorem dX6_at_0 : decode cX6_at 0 = .ok (.aload_n 0, 1) := by decide +kernel
theorem dX6_at_1 : decode cX6_at 1 = .ok (.getfield 15, 3) := by decide +kernel
theorem dX6_at_4 : decode cX6_at 4 = .ok (.ireturn, 1) := by decide +kernel
theorem dX6_ahead_0 : decode cX6_ahead 0 = .ok (.aload_n 0, 1) := by decide +kernel
theorem dX6_ahead_1 : decode cX6_ahead 1 = .ok (.getfield 18, 3) := by decide +kernel
theorem dX6_ahead_4 : decode cX6_ahead 4 = .ok (.ireturn, 1) := by decide +kernel
theorem dX6_ended_0 : decode cX6_ended 0 = .ok (.aload_n 0, 1) := by decide +kernel
theorem dX6_ended_1 : decode cX6_ended 1 = .ok (.getfield 15, 3) := by decide +kernel
theorem dX6_ended_4 : decode cX6_ended 4 = .ok (.aload_n 0, 1) := by decide +kernel
theorem dX6_ended_5 : decode cX6_ended 5 = .ok (.getfield 9, 3) := by decide +kernel
theorem dX6_ended_8 : decode cX6_ended 8 = .ok (.if_icmp .lt 7, 3) := by decide +kernel
theorem dX6_ended_11 : decode cX6_ended 11 = .ok (.iconst 1, 1) := by decide +kernel
theorem dX6_ended_12 : decode cX6_ended 12 = .ok (.goto 4, 3) := by decide +kernel
theorem dX6_ended_15 : decode cX6_ended 15 = .ok (.iconst 0, 1) := by decide +kernel
theorem dX6_ended_16 : decode cX6_ended 16 = .ok (.ireturn, 1) := by decide +kernel
theorem dX6_fault_0 : decode cX6_fault 0 = .ok (.aload_n 0, 1) := by decide +kernel
theorem dX6_fault_1 : decode cX6_fault 1 = .ok (.getfield 21, 3) := by decide +kernel
theorem dX6_fault_4 : decode cX6_fault 4 = .ok (.ireturn, 1) := by decide +kernel
theorem dX6_fails_0 : decode cX6_fails 0 = .ok (.aload_n 0, 1) := by decide +kernel
theorem dX6_fails_1 : decode cX6_fails 1 = .ok (.sipush (-1000), 3) := by decide +kernel
theorem dX6_fails_4 : decode cX6_fails 4 = .ok (.iload_n 1, 1) := by decide +kernel
theorem dX6_fails_5 : decode cX6_fails 5 = .ok (.imul, 1) := by decide +kernel
theorem dX6_fails_6 : decode cX6_fails 6 = .ok (.iload_n 2, 1) := by decide +kernel
theorem dX6_fails_7 : decode cX6_fails 7 = .ok (.isub, 1) := by decide +kernel
theorem dX6_fails_8 : decode cX6_fails 8 = .ok (.putfield 21, 3) := by decide +kernel
theorem dX6_fails_11 : decode cX6_fails 11 = .ok (.iconst 0, 1) := by decide +kernel
theorem dX6_fails_12 : decode cX6_fails 12 = .ok (.ireturn, 1) := by decide +kernel
theorem dX6_reads_0 : decode cX6_reads 0 = .ok (.aload_n 0, 1) := by decide +kernel
theorem dX6_reads_1 : decode cX6_reads 1 = .ok (.getfield 18, 3) := by decide +kernel
theorem dX6_reads_4 : decode cX6_reads 4 = .ok (.iload_n 1, 1) := by decide +kernel
theorem dX6_reads_5 : decode cX6_reads 5 = .ok (.if_icmp .eq 13, 3) := by decide +kernel
theorem dX6_reads_8 : decode cX6_reads 8 = .ok (.aload_n 0, 1) := by decide +kernel
theorem dX6_reads_9 : decode cX6_reads 9 = .ok (.iconst 1, 1) := by decide +kernel
theorem dX6_reads_10 : decode cX6_reads 10 = .ok (.aload_n 0, 1) := by decide +kernel
theorem dX6_reads_11 : decode cX6_reads 11 = .ok (.getfield 15, 3) := by decide +kernel
theorem dX6_reads_14 : decode cX6_reads 14 = .ok (.invokevirtual 36, 3) := by decide +kernel
theorem dX6_reads_17 : decode cX6_reads 17 = .ok (.ireturn, 1) := by decide +kernel
theorem dX6_reads_18 : decode cX6_reads 18 = .ok (.aload_n 0, 1) := by decide +kernel
theorem dX6_reads_19 : decode cX6_reads 19 = .ok (.invokevirtual 33, 3) := by decide +kernel
theorem dX6_reads_22 : decode cX6_reads 22 = .ok (.iconst 1, 1) := by decide +kernel
theorem dX6_reads_23 : decode cX6_reads 23 = .ok (.ireturn, 1) := by decide +kernel
theorem dX6_readNumber_0 : decode cX6_readNumber 0 = .ok (.aload_n 0, 1) := by decide +kernel
theorem dX6_readNumber_1 : decode cX6_readNumber 1 = .ok (.getfield 15, 3) := by decide +kernel
theorem dX6_readNumber_4 : decode cX6_readNumber 4 = .ok (.istore 4, 2) := by decide +kernel
theorem dX6_readNumber_6 : decode cX6_readNumber 6 = .ok (.iconst 0, 1) := by decide +kernel
theorem dX6_readNumber_7 : decode cX6_readNumber 7 = .ok (.istore 5, 2) := by decide +kernel
theorem dX6_readNumber_9 : decode cX6_readNumber 9 = .ok (.iconst 0, 1) := by decide +kernel
theorem dX6_readNumber_10 : decode cX6_readNumber 10 = .ok (.istore 6, 2) := by decide +kernel
theorem dX6_readNumber_12 : decode cX6_readNumber 12 = .ok (.iload 6, 2) := by decide +kernel
theorem dX6_readNumber_14 : decode cX6_readNumber 14 = .ok (.iload_n 1, 1) := by decide +kernel
theorem dX6_readNumber_15 : decode cX6_readNumber 15 = .ok (.if_icmp .ge 42, 3) := by decide +kernel
theorem dX6_readNumber_18 : decode cX6_readNumber 18 = .ok (.aload_n 0, 1) := by decide +kernel
theorem dX6_readNumber_19 : decode cX6_readNumber 19 = .ok (.getfield 18, 3) := by decide +kernel
theorem dX6_readNumber_22 : decode cX6_readNumber 22 = .ok (.bipush 48, 2) := by decide +kernel
theorem dX6_readNumber_24 : decode cX6_readNumber 24 = .ok (.bipush 57, 2) := by decide +kernel
theorem dX6_readNumber_26 : decode cX6_readNumber 26 = .ok (.invokestatic 40, 3) := by decide +kernel
theorem dX6_readNumber_29 : decode cX6_readNumber 29 = .ok (.ifCond .eq 28, 3) := by decide +kernel
theorem dX6_readNumber_32 : decode cX6_readNumber 32 = .ok (.bipush 10, 2) := by decide +kernel
theorem dX6_readNumber_34 : decode cX6_readNumber 34 = .ok (.iload 5, 2) := by decide +kernel
theorem dX6_readNumber_36 : decode cX6_readNumber 36 = .ok (.imul, 1) := by decide +kernel
theorem dX6_readNumber_37 : decode cX6_readNumber 37 = .ok (.aload_n 0, 1) := by decide +kernel
theorem dX6_readNumber_38 : decode cX6_readNumber 38 = .ok (.getfield 18, 3) := by decide +kernel
theorem dX6_readNumber_41 : decode cX6_readNumber 41 = .ok (.iadd, 1) := by decide +kernel
theorem dX6_readNumber_42 : decode cX6_readNumber 42 = .ok (.bipush 48, 2) := by decide +kernel
theorem dX6_readNumber_44 : decode cX6_readNumber 44 = .ok (.isub, 1) := by decide +kernel
theorem dX6_readNumber_45 : decode cX6_readNumber 45 = .ok (.istore 5, 2) := by decide +kernel
theorem dX6_readNumber_47 : decode cX6_readNumber 47 = .ok (.aload_n 0, 1) := by decide +kernel
theorem dX6_readNumber_48 : decode cX6_readNumber 48 = .ok (.invokevirtual 33, 3) := by decide +kernel
theorem dX6_readNumber_51 : decode cX6_readNumber 51 = .ok (.iinc 6 1, 3) := by decide +kernel
theorem dX6_readNumber_54 : decode cX6_readNumber 54 = .ok (.goto (-42), 3) := by decide +kernel
theorem dX6_readNumber_57 : decode cX6_readNumber 57 = .ok (.aload_n 0, 1) := by decide +kernel
theorem dX6_readNumber_58 : decode cX6_readNumber 58 = .ok (.getfield 15, 3) := by decide +kernel
theorem dX6_readNumber_61 : decode cX6_readNumber 61 = .ok (.iload 4, 2) := by decide +kernel
theorem dX6_readNumber_63 : decode cX6_readNumber 63 = .ok (.if_icmp .ne 15, 3) := by decide +kernel
theorem dX6_readNumber_66 : decode cX6_readNumber 66 = .ok (.aload_n 0, 1) := by decide +kernel
theorem dX6_readNumber_67 : decode cX6_readNumber 67 = .ok (.iconst 1, 1) := by decide +kernel
theorem dX6_readNumber_68 : decode cX6_readNumber 68 = .ok (.aload_n 0, 1) := by decide +kernel
theorem dX6_readNumber_69 : decode cX6_readNumber 69 = .ok (.getfield 15, 3) := by decide +kernel
theorem dX6_readNumber_72 : decode cX6_readNumber 72 = .ok (.invokevirtual 36, 3) := by decide +kernel
theorem dX6_readNumber_75 : decode cX6_readNumber 75 = .ok (.pop, 1) := by decide +kernel
theorem dX6_readNumber_76 : decode cX6_readNumber 76 = .ok (.iconst (-1), 1) := by decide +kernel
theorem dX6_readNumber_77 : decode cX6_readNumber 77 = .ok (.ireturn, 1) := by decide +kernel
theorem dX6_readNumber_78 : decode cX6_readNumber 78 = .ok (.aload_n 0, 1) := by decide +kernel
theorem dX6_readNumber_79 : decode cX6_readNumber 79 = .ok (.getfield 18, 3) := by decide +kernel
theorem dX6_readNumber_82 : decode cX6_readNumber 82 = .ok (.bipush 48, 2) := by decide +kernel
theorem dX6_readNumber_84 : decode cX6_readNumber 84 = .ok (.bipush 57, 2) := by decide +kernel
theorem dX6_readNumber_86 : decode cX6_readNumber 86 = .ok (.invokestatic 40, 3) := by decide +kernel
theorem dX6_readNumber_89 : decode cX6_readNumber 89 = .ok (.ifCond .eq 15, 3) := by decide +kernel
theorem dX6_readNumber_92 : decode cX6_readNumber 92 = .ok (.aload_n 0, 1) := by decide +kernel
theorem dX6_readNumber_93 : decode cX6_readNumber 93 = .ok (.iconst 2, 1) := by decide +kernel
theorem dX6_readNumber_94 : decode cX6_readNumber 94 = .ok (.aload_n 0, 1) := by decide +kernel
theorem dX6_readNumber_95 : decode cX6_readNumber 95 = .ok (.getfield 15, 3) := by decide +kernel
theorem dX6_readNumber_98 : decode cX6_readNumber 98 = .ok (.invokevirtual 36, 3) := by decide +kernel
theorem dX6_readNumber_101 : decode cX6_readNumber 101 = .ok (.pop, 1) := by decide +kernel
theorem dX6_readNumber_102 : decode cX6_readNumber 102 = .ok (.iconst (-1), 1) := by decide +kernel
theorem dX6_readNumber_103 : decode cX6_readNumber 103 = .ok (.ireturn, 1) := by decide +kernel
theorem dX6_readNumber_104 : decode cX6_readNumber 104 = .ok (.iload 5, 2) := by decide +kernel
theorem dX6_readNumber_106 : decode cX6_readNumber 106 = .ok (.iload_n 2, 1) := by decide +kernel
theorem dX6_readNumber_107 : decode cX6_readNumber 107 = .ok (.if_icmp .le 13, 3) := by decide +kernel
theorem dX6_readNumber_110 : decode cX6_readNumber 110 = .ok (.aload_n 0, 1) := by decide +kernel
theorem dX6_readNumber_111 : decode cX6_readNumber 111 = .ok (.iload_n 3, 1) := by decide +kernel
theorem dX6_readNumber_112 : decode cX6_readNumber 112 = .ok (.iload 4, 2) := by decide +kernel
theorem dX6_readNumber_114 : decode cX6_readNumber 114 = .ok (.invokevirtual 36, 3) := by decide +kernel
theorem dX6_readNumber_117 : decode cX6_readNumber 117 = .ok (.pop, 1) := by decide +kernel
theorem dX6_readNumber_118 : decode cX6_readNumber 118 = .ok (.iconst (-1), 1) := by decide +kernel
theorem dX6_readNumber_119 : decode cX6_readNumber 119 = .ok (.ireturn, 1) := by decide +kernel
theorem dX6_readNumber_120 : decode cX6_readNumber 120 = .ok (.iload 5, 2) := by decide +kernel
theorem dX6_readNumber_122 : decode cX6_readNumber 122 = .ok (.ireturn, 1) := by decide +kernel
theorem dX7_init_0 : decode cX7_init 0 = .ok (.aload_n 0, 1) := by decide +kernel
theorem dX7_init_1 : decode cX7_init 1 = .ok (.invokespecial 3, 3) := by decide +kernel
theorem dX7_init_4 : decode cX7_init 4 = .ok (.aload_n 0, 1) := by decide +kernel
theorem dX7_init_5 : decode cX7_init 5 = .ok (.bipush 8, 2) := by decide +kernel
theorem dX7_init_7 : decode cX7_init 7 = .ok (.newarray .int, 2) := by decide +kernel
theorem dX7_init_9 : decode cX7_init 9 = .ok (.putfield 9, 3) := by decide +kernel
theorem dX7_init_12 : decode cX7_init 12 = .ok (.aload_n 0, 1) := by decide +kernel
theorem dX7_init_13 : decode cX7_init 13 = .ok (.bipush 8, 2) := by decide +kernel
theorem dX7_init_15 : decode cX7_init 15 = .ok (.newarray .int, 2) := by decide +kernel
theorem dX7_init_17 : decode cX7_init 17 = .ok (.putfield 15, 3) := by decide +kernel
theorem dX7_init_20 : decode cX7_init 20 = .ok (.aload_n 0, 1) := by decide +kernel
theorem dX7_init_21 : decode cX7_init 21 = .ok (.sipush 384, 3) := by decide +kernel
theorem dX7_init_24 : decode cX7_init 24 = .ok (.newarray .boolean, 2) := by decide +kernel
theorem dX7_init_26 : decode cX7_init 26 = .ok (.putfield 18, 3) := by decide +kernel
theorem dX7_init_29 : decode cX7_init 29 = .ok (.aload_n 0, 1) := by decide +kernel
theorem dX7_init_30 : decode cX7_init 30 = .ok (.bipush 48, 2) := by decide +kernel
theorem dX7_init_32 : decode cX7_init 32 = .ok (.newarray .int, 2) := by decide +kernel
theorem dX7_init_34 : decode cX7_init 34 = .ok (.putfield 22, 3) := by decide +kernel
theorem dX7_init_37 : decode cX7_init 37 = .ok (.aload_n 0, 1) := by decide +kernel
theorem dX7_init_38 : decode cX7_init 38 = .ok (.bipush 48, 2) := by decide +kernel
theorem dX7_init_40 : decode cX7_init 40 = .ok (.newarray .int, 2) := by decide +kernel
theorem dX7_init_42 : decode cX7_init 42 = .ok (.putfield 25, 3) := by decide +kernel
theorem dX7_init_45 : decode cX7_init 45 = .ok (.aload_n 0, 1) := by decide +kernel
theorem dX7_init_46 : decode cX7_init 46 = .ok (.iconst 0, 1) := by decide +kernel
theorem dX7_init_47 : decode cX7_init 47 = .ok (.putfield 28, 3) := by decide +kernel
theorem dX7_init_50 : decode cX7_init 50 = .ok (.aload_n 0, 1) := by decide +kernel
theorem dX7_init_51 : decode cX7_init 51 = .ok (.iconst 0, 1) := by decide +kernel
theorem dX7_init_52 : decode cX7_init 52 = .ok (.putfield 32, 3) := by decide +kernel
theorem dX7_init_55 : decode cX7_init 55 = .ok (.aload_n 0, 1) := by decide +kernel
theorem dX7_init_56 : decode cX7_init 56 = .ok (.iconst 0, 1) := by decide +kernel
theorem dX7_init_57 : decode cX7_init 57 = .ok (.putfield 35, 3) := by decide +kernel
theorem dX7_init_60 : decode cX7_init 60 = .ok (.return_, 1) := by decide +kernel
theorem dX7_tellMint_0 : decode cX7_tellMint 0 = .ok (.iload_n 1, 1) := by decide +kernel
theorem dX7_tellMint_1 : decode cX7_tellMint 1 = .ok (.iconst 0, 1) := by decide +kernel
theorem dX7_tellMint_2 : decode cX7_tellMint 2 = .ok (.bipush 7, 2) := by decide +kernel
theorem dX7_tellMint_4 : decode cX7_tellMint 4 = .ok (.invokestatic 38, 3) := by decide +kernel
theorem dX7_tellMint_7 : decode cX7_tellMint 7 = .ok (.ifCond .eq 29, 3) := by decide +kernel
theorem dX7_tellMint_10 : decode cX7_tellMint 10 = .ok (.aload_n 0, 1) := by decide +kernel
theorem dX7_tellMint_11 : decode cX7_tellMint 11 = .ok (.getfield 9, 3) := by decide +kernel
theorem dX7_tellMint_14 : decode cX7_tellMint 14 = .ok (.iload_n 1, 1) := by decide +kernel
theorem dX7_tellMint_15 : decode cX7_tellMint 15 = .ok (.iload_n 2, 1) := by decide +kernel
theorem dX7_tellMint_16 : decode cX7_tellMint 16 = .ok (.iastore, 1) := by decide +kernel
theorem dX7_tellMint_17 : decode cX7_tellMint 17 = .ok (.aload_n 0, 1) := by decide +kernel
theorem dX7_tellMint_18 : decode cX7_tellMint 18 = .ok (.getfield 15, 3) := by decide +kernel
theorem dX7_tellMint_21 : decode cX7_tellMint 21 = .ok (.iload_n 1, 1) := by decide +kernel
theorem dX7_tellMint_22 : decode cX7_tellMint 22 = .ok (.iload_n 3, 1) := by decide +kernel
theorem dX7_tellMint_23 : decode cX7_tellMint 23 = .ok (.iastore, 1) := by decide +kernel
theorem dX7_tellMint_24 : decode cX7_tellMint 24 = .ok (.aload_n 0, 1) := by decide +kernel
theorem dX7_tellMint_25 : decode cX7_tellMint 25 = .ok (.dup, 1) := by decide +kernel
theorem dX7_tellMint_26 : decode cX7_tellMint 26 = .ok (.getfield 28, 3) := by decide +kernel
theorem dX7_tellMint_29 : decode cX7_tellMint 29 = .ok (.iconst 1, 1) := by decide +kernel
theorem dX7_tellMint_30 : decode cX7_tellMint 30 = .ok (.iload_n 1, 1) := by decide +kernel
theorem dX7_tellMint_31 : decode cX7_tellMint 31 = .ok (.ishl, 1) := by decide +kernel
theorem dX7_tellMint_32 : decode cX7_tellMint 32 = .ok (.ior, 1) := by decide +kernel
theorem dX7_tellMint_33 : decode cX7_tellMint 33 = .ok (.putfield 28, 3) := by decide +kernel
theorem dX7_tellMint_36 : decode cX7_tellMint 36 = .ok (.return_, 1) := by decide +kernel
theorem dX7_isToldMint_0 : decode cX7_isToldMint 0 = .ok (.iload_n 1, 1) := by decide +kernel
theorem dX7_isToldMint_1 : decode cX7_isToldMint 1 = .ok (.iconst 0, 1) := by decide +kernel
theorem dX7_isToldMint_2 : decode cX7_isToldMint 2 = .ok (.bipush 7, 2) := by decide +kernel
theorem dX7_isToldMint_4 : decode cX7_isToldMint 4 = .ok (.invokestatic 38, 3) := by decide +kernel
theorem dX7_isToldMint_7 : decode cX7_isToldMint 7 = .ok (.ifCond .eq 19, 3) := by decide +kernel
theorem dX7_isToldMint_10 : decode cX7_isToldMint 10 = .ok (.aload_n 0, 1) := by decide +kernel
theorem dX7_isToldMint_11 : decode cX7_isToldMint 11 = .ok (.getfield 28, 3) := by decide +kernel
theorem dX7_isToldMint_14 : decode cX7_isToldMint 14 = .ok (.iload_n 1, 1) := by decide +kernel
theorem dX7_isToldMint_15 : decode cX7_isToldMint 15 = .ok (.ishr, 1) := by decide +kernel
theorem dX7_isToldMint_16 : decode cX7_isToldMint 16 = .ok (.iconst 1, 1) := by decide +kernel
theorem dX7_isToldMint_17 : decode cX7_isToldMint 17 = .ok (.iand, 1) := by decide +kernel
theorem dX7_isToldMint_18 : decode cX7_isToldMint 18 = .ok (.iconst 1, 1) := by decide +kernel
theorem dX7_isToldMint_19 : decode cX7_isToldMint 19 = .ok (.if_icmp .ne 7, 3) := by decide +kernel
theorem dX7_isToldMint_22 : decode cX7_isToldMint 22 = .ok (.iconst 1, 1) := by decide +kernel
theorem dX7_isToldMint_23 : decode cX7_isToldMint 23 = .ok (.goto 4, 3) := by decide +kernel
theorem dX7_isToldMint_26 : decode cX7_isToldMint 26 = .ok (.iconst 0, 1) := by decide +kernel
theorem dX7_isToldMint_27 : decode cX7_isToldMint 27 = .ok (.ireturn, 1) := by decide +kernel
theorem dX7_toldMints_0 : decode cX7_toldMints 0 = .ok (.aload_n 0, 1) := by decide +kernel
theorem dX7_toldMints_1 : decode cX7_toldMints 1 = .ok (.getfield 28, 3) := by decide +kernel
theorem dX7_toldMints_4 : decode cX7_toldMints 4 = .ok (.ireturn, 1) := by decide +kernel
theorem dX7_walls_0 : decode cX7_walls 0 = .ok (.aload_n 0, 1) := by decide +kernel
theorem dX7_walls_1 : decode cX7_walls 1 = .ok (.getfield 32, 3) := by decide +kernel
theorem dX7_walls_4 : decode cX7_walls 4 = .ok (.ireturn, 1) := by decide +kernel
theorem dX7_isWall_0 : decode cX7_isWall 0 = .ok (.iload_n 1, 1) := by decide +kernel
theorem dX7_isWall_1 : decode cX7_isWall 1 = .ok (.invokestatic 42, 3) := by decide +kernel
theorem dX7_isWall_4 : decode cX7_isWall 4 = .ok (.ifCond .eq 16, 3) := by decide +kernel
theorem dX7_isWall_7 : decode cX7_isWall 7 = .ok (.aload_n 0, 1) := by decide +kernel
theorem dX7_isWall_8 : decode cX7_isWall 8 = .ok (.getfield 18, 3) := by decide +kernel
theorem dX7_isWall_11 : decode cX7_isWall 11 = .ok (.iload_n 1, 1) := by decide +kernel
theorem dX7_isWall_12 : decode cX7_isWall 12 = .ok (.baload, 1) := by decide +kernel
theorem dX7_isWall_13 : decode cX7_isWall 13 = .ok (.ifCond .eq 7, 3) := by decide +kernel
theorem dX7_isWall_16 : decode cX7_isWall 16 = .ok (.iconst 1, 1) := by decide +kernel
theorem dX7_isWall_17 : decode cX7_isWall 17 = .ok (.goto 4, 3) := by decide +kernel
theorem dX7_isWall_20 : decode cX7_isWall 20 = .ok (.iconst 0, 1) := by decide +kernel
theorem dX7_isWall_21 : decode cX7_isWall 21 = .ok (.ireturn, 1) := by decide +kernel
theorem dX7_turnWall_0 : decode cX7_turnWall 0 = .ok (.iload_n 1, 1) := by decide +kernel
theorem dX7_turnWall_1 : decode cX7_turnWall 1 = .ok (.invokestatic 42, 3) := by decide +kernel
theorem dX7_turnWall_4 : decode cX7_turnWall 4 = .ok (.ifCond .eq 46, 3) := by decide +kernel
theorem dX7_turnWall_7 : decode cX7_turnWall 7 = .ok (.aload_n 0, 1) := by decide +kernel
theorem dX7_turnWall_8 : decode cX7_turnWall 8 = .ok (.getfield 18, 3) := by decide +kernel
theorem dX7_turnWall_11 : decode cX7_turnWall 11 = .ok (.iload_n 1, 1) := by decide +kernel
theorem dX7_turnWall_12 : decode cX7_turnWall 12 = .ok (.aload_n 0, 1) := by decide +kernel
theorem dX7_turnWall_13 : decode cX7_turnWall 13 = .ok (.getfield 18, 3) := by decide +kernel
theorem dX7_turnWall_16 : decode cX7_turnWall 16 = .ok (.iload_n 1, 1) := by decide +kernel
theorem dX7_turnWall_17 : decode cX7_turnWall 17 = .ok (.baload, 1) := by decide +kernel
theorem dX7_turnWall_18 : decode cX7_turnWall 18 = .ok (.ifCond .ne 7, 3) := by decide +kernel
theorem dX7_turnWall_21 : decode cX7_turnWall 21 = .ok (.iconst 1, 1) := by decide +kernel
theorem dX7_turnWall_22 : decode cX7_turnWall 22 = .ok (.goto 4, 3) := by decide +kernel
theorem dX7_turnWall_25 : decode cX7_turnWall 25 = .ok (.iconst 0, 1) := by decide +kernel
theorem dX7_turnWall_26 : decode cX7_turnWall 26 = .ok (.bastore, 1) := by decide +kernel
theorem dX7_turnWall_27 : decode cX7_turnWall 27 = .ok (.aload_n 0, 1) := by decide +kernel
theorem dX7_turnWall_28 : decode cX7_turnWall 28 = .ok (.dup, 1) := by decide +kernel
theorem dX7_turnWall_29 : decode cX7_turnWall 29 = .ok (.getfield 32, 3) := by decide +kernel
theorem dX7_turnWall_32 : decode cX7_turnWall 32 = .ok (.aload_n 0, 1) := by decide +kernel
theorem dX7_turnWall_33 : decode cX7_turnWall 33 = .ok (.getfield 18, 3) := by decide +kernel
theorem dX7_turnWall_36 : decode cX7_turnWall 36 = .ok (.iload_n 1, 1) := by decide +kernel
theorem dX7_turnWall_37 : decode cX7_turnWall 37 = .ok (.baload, 1) := by decide +kernel
theorem dX7_turnWall_38 : decode cX7_turnWall 38 = .ok (.ifCond .eq 7, 3) := by decide +kernel
theorem dX7_turnWall_41 : decode cX7_turnWall 41 = .ok (.iconst 1, 1) := by decide +kernel
theorem dX7_turnWall_42 : decode cX7_turnWall 42 = .ok (.goto 4, 3) := by decide +kernel
theorem dX7_turnWall_45 : decode cX7_turnWall 45 = .ok (.iconst (-1), 1) := by decide +kernel
theorem dX7_turnWall_46 : decode cX7_turnWall 46 = .ok (.iadd, 1) := by decide +kernel
theorem dX7_turnWall_47 : decode cX7_turnWall 47 = .ok (.putfield 32, 3) := by decide +kernel
theorem dX7_turnWall_50 : decode cX7_turnWall 50 = .ok (.return_, 1) := by decide +kernel
theorem dX7_clearStamps_0 : decode cX7_clearStamps 0 = .ok (.aload_n 0, 1) := by decide +kernel
theorem dX7_clearStamps_1 : decode cX7_clearStamps 1 = .ok (.iconst 0, 1) := by decide +kernel
theorem dX7_clearStamps_2 : decode cX7_clearStamps 2 = .ok (.putfield 35, 3) := by decide +kernel
theorem dX7_clearStamps_5 : decode cX7_clearStamps 5 = .ok (.return_, 1) := by decide +kernel
theorem dX7_print_0 : decode cX7_print 0 = .ok (.aload_n 0, 1) := by decide +kernel
theorem dX7_print_1 : decode cX7_print 1 = .ok (.getfield 35, 3) := by decide +kernel
theorem dX7_print_4 : decode cX7_print 4 = .ok (.bipush 48, 2) := by decide +kernel
theorem dX7_print_6 : decode cX7_print 6 = .ok (.if_icmp .ge 33, 3) := by decide +kernel
theorem dX7_print_9 : decode cX7_print 9 = .ok (.aload_n 0, 1) := by decide +kernel
theorem dX7_print_10 : decode cX7_print 10 = .ok (.getfield 22, 3) := by decide +kernel
theorem dX7_print_13 : decode cX7_print 13 = .ok (.aload_n 0, 1) := by decide +kernel
theorem dX7_print_14 : decode cX7_print 14 = .ok (.getfield 35, 3) := by decide +kernel
theorem dX7_print_17 : decode cX7_print 17 = .ok (.iload_n 1, 1) := by decide +kernel
theorem dX7_print_18 : decode cX7_print 18 = .ok (.iastore, 1) := by decide +kernel
theorem dX7_print_19 : decode cX7_print 19 = .ok (.aload_n 0, 1) := by decide +kernel
theorem dX7_print_20 : decode cX7_print 20 = .ok (.getfield 25, 3) := by decide +kernel
theorem dX7_print_23 : decode cX7_print 23 = .ok (.aload_n 0, 1) := by decide +kernel
theorem dX7_print_24 : decode cX7_print 24 = .ok (.getfield 35, 3) := by decide +kernel
theorem dX7_print_27 : decode cX7_print 27 = .ok (.iload_n 2, 1) := by decide +kernel
theorem dX7_print_28 : decode cX7_print 28 = .ok (.iastore, 1) := by decide +kernel
theorem dX7_print_29 : decode cX7_print 29 = .ok (.aload_n 0, 1) := by decide +kernel
theorem dX7_print_30 : decode cX7_print 30 = .ok (.dup, 1) := by decide +kernel
theorem dX7_print_31 : decode cX7_print 31 = .ok (.getfield 35, 3) := by decide +kernel
theorem dX7_print_34 : decode cX7_print 34 = .ok (.iconst 1, 1) := by decide +kernel
theorem dX7_print_35 : decode cX7_print 35 = .ok (.iadd, 1) := by decide +kernel
theorem dX7_print_36 : decode cX7_print 36 = .ok (.putfield 35, 3) := by decide +kernel
theorem dX7_print_39 : decode cX7_print 39 = .ok (.return_, 1) := by decide +kernel
theorem dX7_stamps_0 : decode cX7_stamps 0 = .ok (.aload_n 0, 1) := by decide +kernel
theorem dX7_stamps_1 : decode cX7_stamps 1 = .ok (.getfield 35, 3) := by decide +kernel
theorem dX7_stamps_4 : decode cX7_stamps 4 = .ok (.ireturn, 1) := by decide +kernel
theorem dX7_isStamp_0 : decode cX7_isStamp 0 = .ok (.iload_n 1, 1) := by decide +kernel
theorem dX7_isStamp_1 : decode cX7_isStamp 1 = .ok (.ifCond .lt 21, 3) := by decide +kernel
theorem dX7_isStamp_4 : decode cX7_isStamp 4 = .ok (.iload_n 1, 1) := by decide +kernel
theorem dX7_isStamp_5 : decode cX7_isStamp 5 = .ok (.aload_n 0, 1) := by decide +kernel
theorem dX7_isStamp_6 : decode cX7_isStamp 6 = .ok (.getfield 35, 3) := by decide +kernel
theorem dX7_isStamp_9 : decode cX7_isStamp 9 = .ok (.if_icmp .ge 13, 3) := by decide +kernel
theorem dX7_isStamp_12 : decode cX7_isStamp 12 = .ok (.iload_n 1, 1) := by decide +kernel
theorem dX7_isStamp_13 : decode cX7_isStamp 13 = .ok (.bipush 48, 2) := by decide +kernel
theorem dX7_isStamp_15 : decode cX7_isStamp 15 = .ok (.if_icmp .ge 7, 3) := by decide +kernel
theorem dX7_isStamp_18 : decode cX7_isStamp 18 = .ok (.iconst 1, 1) := by decide +kernel
theorem dX7_isStamp_19 : decode cX7_isStamp 19 = .ok (.goto 4, 3) := by decide +kernel
theorem dX7_isStamp_22 : decode cX7_isStamp 22 = .ok (.iconst 0, 1) := by decide +kernel
theorem dX7_isStamp_23 : decode cX7_isStamp 23 = .ok (.ireturn, 1) := by decide +kernel
theorem dX7_mintOf_0 : decode cX7_mintOf 0 = .ok (.aload_n 0, 1) := by decide +kernel
theorem dX7_mintOf_1 : decode cX7_mintOf 1 = .ok (.iload_n 1, 1) := by decide +kernel
theorem dX7_mintOf_2 : decode cX7_mintOf 2 = .ok (.invokevirtual 46, 3) := by decide +kernel
theorem dX7_mintOf_5 : decode cX7_mintOf 5 = .ok (.ifCond .eq 12, 3) := by decide +kernel
theorem dX7_mintOf_8 : decode cX7_mintOf 8 = .ok (.aload_n 0, 1) := by decide +kernel
theorem dX7_mintOf_9 : decode cX7_mintOf 9 = .ok (.getfield 22, 3) := by decide +kernel
theorem dX7_mintOf_12 : decode cX7_mintOf 12 = .ok (.iload_n 1, 1) := by decide +kernel
theorem dX7_mintOf_13 : decode cX7_mintOf 13 = .ok (.iaload, 1) := by decide +kernel
theorem dX7_mintOf_14 : decode cX7_mintOf 14 = .ok (.goto 4, 3) := by decide +kernel
theorem dX7_mintOf_17 : decode cX7_mintOf 17 = .ok (.iconst (-1), 1) := by decide +kernel
theorem dX7_mintOf_18 : decode cX7_mintOf 18 = .ok (.ireturn, 1) := by decide +kernel
theorem dX7_grainsOf_0 : decode cX7_grainsOf 0 = .ok (.aload_n 0, 1) := by decide +kernel
theorem dX7_grainsOf_1 : decode cX7_grainsOf 1 = .ok (.iload_n 1, 1) := by decide +kernel
theorem dX7_grainsOf_2 : decode cX7_grainsOf 2 = .ok (.invokevirtual 46, 3) := by decide +kernel
theorem dX7_grainsOf_5 : decode cX7_grainsOf 5 = .ok (.ifCond .eq 12, 3) := by decide +kernel
theorem dX7_grainsOf_8 : decode cX7_grainsOf 8 = .ok (.aload_n 0, 1) := by decide +kernel
theorem dX7_grainsOf_9 : decode cX7_grainsOf 9 = .ok (.getfield 25, 3) := by decide +kernel
theorem dX7_grainsOf_12 : decode cX7_grainsOf 12 = .ok (.iload_n 1, 1) := by decide +kernel
theorem dX7_grainsOf_13 : decode cX7_grainsOf 13 = .ok (.iaload, 1) := by decide +kernel
theorem dX7_grainsOf_14 : decode cX7_grainsOf 14 = .ok (.goto 4, 3) := by decide +kernel
theorem dX7_grainsOf_17 : decode cX7_grainsOf 17 = .ok (.iconst 0, 1) := by decide +kernel
theorem dX7_grainsOf_18 : decode cX7_grainsOf 18 = .ok (.ireturn, 1) := by decide +kernel
theorem dX7_isPulling_0 : decode cX7_isPulling 0 = .ok (.aload_n 0, 1) := by decide +kernel
theorem dX7_isPulling_1 : decode cX7_isPulling 1 = .ok (.aload_n 0, 1) := by decide +kernel
theorem dX7_isPulling_2 : decode cX7_isPulling 2 = .ok (.iload_n 1, 1) := by decide +kernel
theorem dX7_isPulling_3 : decode cX7_isPulling 3 = .ok (.invokevirtual 49, 3) := by decide +kernel
theorem dX7_isPulling_6 : decode cX7_isPulling 6 = .ok (.invokevirtual 52, 3) := by decide +kernel
theorem dX7_isPulling_9 : decode cX7_isPulling 9 = .ok (.ireturn, 1) := by decide +kernel
theorem dX7_across_0 : decode cX7_across 0 = .ok (.aload_n 0, 1) := by decide +kernel
theorem dX7_across_1 : decode cX7_across 1 = .ok (.iload_n 1, 1) := by decide +kernel
theorem dX7_across_2 : decode cX7_across 2 = .ok (.invokevirtual 49, 3) := by decide +kernel
theorem dX7_across_5 : decode cX7_across 5 = .ok (.istore_n 3, 1) := by decide +kernel
theorem dX7_across_6 : decode cX7_across 6 = .ok (.iload_n 3, 1) := by decide +kernel
theorem dX7_across_7 : decode cX7_across 7 = .ok (.iconst 0, 1) := by decide +kernel
theorem dX7_across_8 : decode cX7_across 8 = .ok (.bipush 7, 2) := by decide +kernel
theorem dX7_across_10 : decode cX7_across 10 = .ok (.invokestatic 38, 3) := by decide +kernel
theorem dX7_across_13 : decode cX7_across 13 = .ok (.ifCond .eq 19, 3) := by decide +kernel
theorem dX7_across_16 : decode cX7_across 16 = .ok (.iload_n 2, 1) := by decide +kernel
theorem dX7_across_17 : decode cX7_across 17 = .ok (.bipush 24, 2) := by decide +kernel
theorem dX7_across_19 : decode cX7_across 19 = .ok (.irem, 1) := by decide +kernel
theorem dX7_across_20 : decode cX7_across 20 = .ok (.aload_n 0, 1) := by decide +kernel
theorem dX7_across_21 : decode cX7_across 21 = .ok (.getfield 9, 3) := by decide +kernel
theorem dX7_across_24 : decode cX7_across 24 = .ok (.iload_n 3, 1) := by decide +kernel
theorem dX7_across_25 : decode cX7_across 25 = .ok (.iaload, 1) := by decide +kernel
theorem dX7_across_26 : decode cX7_across 26 = .ok (.invokestatic 55, 3) := by decide +kernel
theorem dX7_across_29 : decode cX7_across 29 = .ok (.goto 4, 3) := by decide +kernel
theorem dX7_across_32 : decode cX7_across 32 = .ok (.iconst 0, 1) := by decide +kernel
theorem dX7_across_33 : decode cX7_across 33 = .ok (.ireturn, 1) := by decide +kernel
theorem dX7_along_0 : decode cX7_along 0 = .ok (.aload_n 0, 1) := by decide +kernel
theorem dX7_along_1 : decode cX7_along 1 = .ok (.iload_n 1, 1) := by decide +kernel
theorem dX7_along_2 : decode cX7_along 2 = .ok (.invokevirtual 49, 3) := by decide +kernel
theorem dX7_along_5 : decode cX7_along 5 = .ok (.istore_n 3, 1) := by decide +kernel
theorem dX7_along_6 : decode cX7_along 6 = .ok (.iload_n 3, 1) := by decide +kernel
theorem dX7_along_7 : decode cX7_along 7 = .ok (.iconst 0, 1) := by decide +kernel
theorem dX7_along_8 : decode cX7_along 8 = .ok (.bipush 7, 2) := by decide +kernel
theorem dX7_along_10 : decode cX7_along 10 = .ok (.invokestatic 38, 3) := by decide +kernel
theorem dX7_along_13 : decode cX7_along 13 = .ok (.ifCond .eq 19, 3) := by decide +kernel
theorem dX7_along_16 : decode cX7_along 16 = .ok (.iload_n 2, 1) := by decide +kernel
theorem dX7_along_17 : decode cX7_along 17 = .ok (.bipush 24, 2) := by decide +kernel
theorem dX7_along_19 : decode cX7_along 19 = .ok (.idiv, 1) := by decide +kernel
theorem dX7_along_20 : decode cX7_along 20 = .ok (.aload_n 0, 1) := by decide +kernel
theorem dX7_along_21 : decode cX7_along 21 = .ok (.getfield 15, 3) := by decide +kernel
theorem dX7_along_24 : decode cX7_along 24 = .ok (.iload_n 3, 1) := by decide +kernel
theorem dX7_along_25 : decode cX7_along 25 = .ok (.iaload, 1) := by decide +kernel
theorem dX7_along_26 : decode cX7_along 26 = .ok (.invokestatic 55, 3) := by decide +kernel
theorem dX7_along_29 : decode cX7_along 29 = .ok (.goto 4, 3) := by decide +kernel
theorem dX7_along_32 : decode cX7_along 32 = .ok (.iconst 0, 1) := by decide +kernel
theorem dX7_along_33 : decode cX7_along 33 = .ok (.ireturn, 1) := by decide +kernel
theorem dX7_stepsHome_0 : decode cX7_stepsHome 0 = .ok (.aload_n 0, 1) := by decide +kernel
theorem dX7_stepsHome_1 : decode cX7_stepsHome 1 = .ok (.iload_n 1, 1) := by decide +kernel
theorem dX7_stepsHome_2 : decode cX7_stepsHome 2 = .ok (.invokevirtual 49, 3) := by decide +kernel
theorem dX7_stepsHome_5 : decode cX7_stepsHome 5 = .ok (.istore_n 3, 1) := by decide +kernel
theorem dX7_stepsHome_6 : decode cX7_stepsHome 6 = .ok (.iload_n 3, 1) := by decide +kernel
theorem dX7_stepsHome_7 : decode cX7_stepsHome 7 = .ok (.iconst 0, 1) := by decide +kernel
theorem dX7_stepsHome_8 : decode cX7_stepsHome 8 = .ok (.bipush 7, 2) := by decide +kernel
theorem dX7_stepsHome_10 : decode cX7_stepsHome 10 = .ok (.invokestatic 38, 3) := by decide +kernel
theorem dX7_stepsHome_13 : decode cX7_stepsHome 13 = .ok (.ifCond .ne 5, 3) := by decide +kernel
theorem dX7_stepsHome_16 : decode cX7_stepsHome 16 = .ok (.iconst 0, 1) := by decide +kernel
theorem dX7_stepsHome_17 : decode cX7_stepsHome 17 = .ok (.ireturn, 1) := by decide +kernel
theorem dX7_stepsHome_18 : decode cX7_stepsHome 18 = .ok (.aload_n 0, 1) := by decide +kernel
theorem dX7_stepsHome_19 : decode cX7_stepsHome 19 = .ok (.getfield 9, 3) := by decide +kernel
theorem dX7_stepsHome_22 : decode cX7_stepsHome 22 = .ok (.iload_n 3, 1) := by decide +kernel
theorem dX7_stepsHome_23 : decode cX7_stepsHome 23 = .ok (.iaload, 1) := by decide +kernel
theorem dX7_stepsHome_24 : decode cX7_stepsHome 24 = .ok (.iload_n 2, 1) := by decide +kernel
theorem dX7_stepsHome_25 : decode cX7_stepsHome 25 = .ok (.bipush 24, 2) := by decide +kernel
theorem dX7_stepsHome_27 : decode cX7_stepsHome 27 = .ok (.irem, 1) := by decide +kernel
theorem dX7_stepsHome_28 : decode cX7_stepsHome 28 = .ok (.isub, 1) := by decide +kernel
theorem dX7_stepsHome_29 : decode cX7_stepsHome 29 = .ok (.invokestatic 59, 3) := by decide +kernel
theorem dX7_stepsHome_32 : decode cX7_stepsHome 32 = .ok (.aload_n 0, 1) := by decide +kernel
theorem dX7_stepsHome_33 : decode cX7_stepsHome 33 = .ok (.getfield 15, 3) := by decide +kernel
theorem dX7_stepsHome_36 : decode cX7_stepsHome 36 = .ok (.iload_n 3, 1) := by decide +kernel
theorem dX7_stepsHome_37 : decode cX7_stepsHome 37 = .ok (.iaload, 1) := by decide +kernel
theorem dX7_stepsHome_38 : decode cX7_stepsHome 38 = .ok (.iload_n 2, 1) := by decide +kernel
theorem dX7_stepsHome_39 : decode cX7_stepsHome 39 = .ok (.bipush 24, 2) := by decide +kernel
theorem dX7_stepsHome_41 : decode cX7_stepsHome 41 = .ok (.idiv, 1) := by decide +kernel
theorem dX7_stepsHome_42 : decode cX7_stepsHome 42 = .ok (.isub, 1) := by decide +kernel
theorem dX7_stepsHome_43 : decode cX7_stepsHome 43 = .ok (.invokestatic 59, 3) := by decide +kernel
theorem dX7_stepsHome_46 : decode cX7_stepsHome 46 = .ok (.iadd, 1) := by decide +kernel
theorem dX7_stepsHome_47 : decode cX7_stepsHome 47 = .ok (.ireturn, 1) := by decide +kernel
theorem dX7_wayTo_0 : decode cX7_wayTo 0 = .ok (.iload_n 1, 1) := by decide +kernel
theorem dX7_wayTo_1 : decode cX7_wayTo 1 = .ok (.iconst 0, 1) := by decide +kernel
theorem dX7_wayTo_2 : decode cX7_wayTo 2 = .ok (.bipush 7, 2) := by decide +kernel
theorem dX7_wayTo_4 : decode cX7_wayTo 4 = .ok (.invokestatic 38, 3) := by decide +kernel
theorem dX7_wayTo_7 : decode cX7_wayTo 7 = .ok (.ifCond .eq 29, 3) := by decide +kernel
theorem dX7_wayTo_10 : decode cX7_wayTo 10 = .ok (.iload_n 2, 1) := by decide +kernel
theorem dX7_wayTo_11 : decode cX7_wayTo 11 = .ok (.aload_n 0, 1) := by decide +kernel
theorem dX7_wayTo_12 : decode cX7_wayTo 12 = .ok (.getfield 9, 3) := by decide +kernel
theorem dX7_wayTo_15 : decode cX7_wayTo 15 = .ok (.iload_n 1, 1) := by decide +kernel
theorem dX7_wayTo_16 : decode cX7_wayTo 16 = .ok (.iaload, 1) := by decide +kernel
theorem dX7_wayTo_17 : decode cX7_wayTo 17 = .ok (.invokestatic 55, 3) := by decide +kernel
theorem dX7_wayTo_20 : decode cX7_wayTo 20 = .ok (.iload_n 3, 1) := by decide +kernel
theorem dX7_wayTo_21 : decode cX7_wayTo 21 = .ok (.aload_n 0, 1) := by decide +kernel
theorem dX7_wayTo_22 : decode cX7_wayTo 22 = .ok (.getfield 15, 3) := by decide +kernel
theorem dX7_wayTo_25 : decode cX7_wayTo 25 = .ok (.iload_n 1, 1) := by decide +kernel
theorem dX7_wayTo_26 : decode cX7_wayTo 26 = .ok (.iaload, 1) := by decide +kernel
theorem dX7_wayTo_27 : decode cX7_wayTo 27 = .ok (.invokestatic 55, 3) := by decide +kernel
theorem dX7_wayTo_30 : decode cX7_wayTo 30 = .ok (.invokestatic 64, 3) := by decide +kernel
theorem dX7_wayTo_33 : decode cX7_wayTo 33 = .ok (.goto 4, 3) := by decide +kernel
theorem dX7_wayTo_36 : decode cX7_wayTo 36 = .ok (.iconst 0, 1) := by decide +kernel
theorem dX7_wayTo_37 : decode cX7_wayTo 37 = .ok (.ireturn, 1) := by decide +kernel
theorem dX8_init_0 : decode cX8_init 0 = .ok (.aload_n 0, 1) := by decide +kernel
theorem dX8_init_1 : decode cX8_init 1 = .ok (.invokespecial 3, 3) := by decide +kernel
theorem dX8_init_4 : decode cX8_init 4 = .ok (.aload_n 0, 1) := by decide +kernel
theorem dX8_init_5 : decode cX8_init 5 = .ok (.sipush 601, 3) := by decide +kernel
theorem dX8_init_8 : decode cX8_init 8 = .ok (.newarray .int, 2) := by decide +kernel
theorem dX8_init_10 : decode cX8_init 10 = .ok (.putfield 11, 3) := by decide +kernel
theorem dX8_init_13 : decode cX8_init 13 = .ok (.aload_n 0, 1) := by decide +kernel
theorem dX8_init_14 : decode cX8_init 14 = .ok (.bipush 6, 2) := by decide +kernel
theorem dX8_init_16 : decode cX8_init 16 = .ok (.newarray .int, 2) := by decide +kernel
theorem dX8_init_18 : decode cX8_init 18 = .ok (.putfield 15, 3) := by decide +kernel
theorem dX8_init_21 : decode cX8_init 21 = .ok (.aload_n 0, 1) := by decide +kernel
theorem dX8_init_22 : decode cX8_init 22 = .ok (.iconst 0, 1) := by decide +kernel
theorem dX8_init_23 : decode cX8_init 23 = .ok (.putfield 18, 3) := by decide +kernel
theorem dX8_init_26 : decode cX8_init 26 = .ok (.aload_n 0, 1) := by decide +kernel
theorem dX8_init_27 : decode cX8_init 27 = .ok (.iconst 0, 1) := by decide +kernel
theorem dX8_init_28 : decode cX8_init 28 = .ok (.putfield 22, 3) := by decide +kernel
theorem dX8_init_31 : decode cX8_init 31 = .ok (.aload_n 0, 1) := by decide +kernel
theorem dX8_init_32 : decode cX8_init 32 = .ok (.aload_n 1, 1) := by decide +kernel
theorem dX8_init_33 : decode cX8_init 33 = .ok (.putfield 25, 3) := by decide +kernel
theorem dX8_init_36 : decode cX8_init 36 = .ok (.return_, 1) := by decide +kernel
theorem dX8_bits_0 : decode cX8_bits 0 = .ok (.aload_n 0, 1) := by decide +kernel
theorem dX8_bits_1 : decode cX8_bits 1 = .ok (.getfield 18, 3) := by decide +kernel
theorem dX8_bits_4 : decode cX8_bits 4 = .ok (.ireturn, 1) := by decide +kernel
theorem dX8_grains_0 : decode cX8_grains 0 = .ok (.aload_n 0, 1) := by decide +kernel
theorem dX8_grains_1 : decode cX8_grains 1 = .ok (.getfield 22, 3) := by decide +kernel
theorem dX8_grains_4 : decode cX8_grains 4 = .ok (.ireturn, 1) := by decide +kernel
theorem dX8_weightOf_0 : decode cX8_weightOf 0 = .ok (.iconst 0, 1) := by decide +kernel
theorem dX8_weightOf_1 : decode cX8_weightOf 1 = .ok (.istore_n 3, 1) := by decide +kernel
theorem dX8_weightOf_2 : decode cX8_weightOf 2 = .ok (.iconst 0, 1) := by decide +kernel
theorem dX8_weightOf_3 : decode cX8_weightOf 3 = .ok (.istore 4, 2) := by decide +kernel
theorem dX8_weightOf_5 : decode cX8_weightOf 5 = .ok (.iload 4, 2) := by decide +kernel
theorem dX8_weightOf_7 : decode cX8_weightOf 7 = .ok (.iload_n 2, 1) := by decide +kernel
theorem dX8_weightOf_8 : decode cX8_weightOf 8 = .ok (.if_icmp .ge 28, 3) := by decide +kernel
theorem dX8_weightOf_11 : decode cX8_weightOf 11 = .ok (.iload_n 3, 1) := by decide +kernel
theorem dX8_weightOf_12 : decode cX8_weightOf 12 = .ok (.iload_n 1, 1) := by decide +kernel
theorem dX8_weightOf_13 : decode cX8_weightOf 13 = .ok (.iload 4, 2) := by decide +kernel
theorem dX8_weightOf_15 : decode cX8_weightOf 15 = .ok (.ishr, 1) := by decide +kernel
theorem dX8_weightOf_16 : decode cX8_weightOf 16 = .ok (.iconst 1, 1) := by decide +kernel
theorem dX8_weightOf_17 : decode cX8_weightOf 17 = .ok (.iand, 1) := by decide +kernel
theorem dX8_weightOf_18 : decode cX8_weightOf 18 = .ok (.aload_n 0, 1) := by decide +kernel
theorem dX8_weightOf_19 : decode cX8_weightOf 19 = .ok (.getfield 25, 3) := by decide +kernel
theorem dX8_weightOf_22 : decode cX8_weightOf 22 = .ok (.iload 4, 2) := by decide +kernel
theorem dX8_weightOf_24 : decode cX8_weightOf 24 = .ok (.invokevirtual 29, 3) := by decide +kernel
theorem dX8_weightOf_27 : decode cX8_weightOf 27 = .ok (.imul, 1) := by decide +kernel
theorem dX8_weightOf_28 : decode cX8_weightOf 28 = .ok (.iadd, 1) := by decide +kernel
theorem dX8_weightOf_29 : decode cX8_weightOf 29 = .ok (.istore_n 3, 1) := by decide +kernel
theorem dX8_weightOf_30 : decode cX8_weightOf 30 = .ok (.iinc 4 1, 3) := by decide +kernel
theorem dX8_weightOf_33 : decode cX8_weightOf 33 = .ok (.goto (-28), 3) := by decide +kernel
theorem dX8_weightOf_36 : decode cX8_weightOf 36 = .ok (.iload_n 3, 1) := by decide +kernel
theorem dX8_weightOf_37 : decode cX8_weightOf 37 = .ok (.ireturn, 1) := by decide +kernel
theorem dX8_loadShip_0 : decode cX8_loadShip 0 = .ok (.aload_n 0, 1) := by decide +kernel
theorem dX8_loadShip_1 : decode cX8_loadShip 1 = .ok (.iconst 1, 1) := by decide +kernel
theorem dX8_loadShip_2 : decode cX8_loadShip 2 = .ok (.iload_n 1, 1) := by decide +kernel
theorem dX8_loadShip_3 : decode cX8_loadShip 3 = .ok (.ishl, 1) := by decide +kernel
theorem dX8_loadShip_4 : decode cX8_loadShip 4 = .ok (.iconst 1, 1) := by decide +kernel
theorem dX8_loadShip_5 : decode cX8_loadShip 5 = .ok (.isub, 1) := by decide +kernel
theorem dX8_loadShip_6 : decode cX8_loadShip 6 = .ok (.iload_n 1, 1) := by decide +kernel
theorem dX8_loadShip_7 : decode cX8_loadShip 7 = .ok (.invokevirtual 35, 3) := by decide +kernel
theorem dX8_loadShip_10 : decode cX8_loadShip 10 = .ok (.istore_n 2, 1) := by decide +kernel
theorem dX8_loadShip_11 : decode cX8_loadShip 11 = .ok (.aload_n 0, 1) := by decide +kernel
theorem dX8_loadShip_12 : decode cX8_loadShip 12 = .ok (.iload_n 2, 1) := by decide +kernel
theorem dX8_loadShip_13 : decode cX8_loadShip 13 = .ok (.putfield 22, 3) := by decide +kernel
theorem dX8_loadShip_16 : decode cX8_loadShip 16 = .ok (.aload_n 0, 1) := by decide +kernel
theorem dX8_loadShip_17 : decode cX8_loadShip 17 = .ok (.iconst 1, 1) := by decide +kernel
theorem dX8_loadShip_18 : decode cX8_loadShip 18 = .ok (.iload_n 1, 1) := by decide +kernel
theorem dX8_loadShip_19 : decode cX8_loadShip 19 = .ok (.ishl, 1) := by decide +kernel
theorem dX8_loadShip_20 : decode cX8_loadShip 20 = .ok (.iconst 1, 1) := by decide +kernel
theorem dX8_loadShip_21 : decode cX8_loadShip 21 = .ok (.isub, 1) := by decide +kernel
theorem dX8_loadShip_22 : decode cX8_loadShip 22 = .ok (.putfield 18, 3) := by decide +kernel
theorem dX8_loadShip_25 : decode cX8_loadShip 25 = .ok (.iconst 1, 1) := by decide +kernel
theorem dX8_loadShip_26 : decode cX8_loadShip 26 = .ok (.istore_n 3, 1) := by decide +kernel
theorem dX8_loadShip_27 : decode cX8_loadShip 27 = .ok (.iload_n 3, 1) := by decide +kernel
theorem dX8_loadShip_28 : decode cX8_loadShip 28 = .ok (.iconst 1, 1) := by decide +kernel
theorem dX8_loadShip_29 : decode cX8_loadShip 29 = .ok (.iload_n 1, 1) := by decide +kernel
theorem dX8_loadShip_30 : decode cX8_loadShip 30 = .ok (.ishl, 1) := by decide +kernel
theorem dX8_loadShip_31 : decode cX8_loadShip 31 = .ok (.if_icmp .ge 61, 3) := by decide +kernel
theorem dX8_loadShip_34 : decode cX8_loadShip 34 = .ok (.iconst 2, 1) := by decide +kernel
theorem dX8_loadShip_35 : decode cX8_loadShip 35 = .ok (.aload_n 0, 1) := by decide +kernel
theorem dX8_loadShip_36 : decode cX8_loadShip 36 = .ok (.iload_n 3, 1) := by decide +kernel
theorem dX8_loadShip_37 : decode cX8_loadShip 37 = .ok (.iload_n 1, 1) := by decide +kernel
theorem dX8_loadShip_38 : decode cX8_loadShip 38 = .ok (.invokevirtual 35, 3) := by decide +kernel
theorem dX8_loadShip_41 : decode cX8_loadShip 41 = .ok (.imul, 1) := by decide +kernel
theorem dX8_loadShip_42 : decode cX8_loadShip 42 = .ok (.iload_n 2, 1) := by decide +kernel
theorem dX8_loadShip_43 : decode cX8_loadShip 43 = .ok (.isub, 1) := by decide +kernel
theorem dX8_loadShip_44 : decode cX8_loadShip 44 = .ok (.invokestatic 39, 3) := by decide +kernel
theorem dX8_loadShip_47 : decode cX8_loadShip 47 = .ok (.istore 4, 2) := by decide +kernel
theorem dX8_loadShip_49 : decode cX8_loadShip 49 = .ok (.iload 4, 2) := by decide +kernel
theorem dX8_loadShip_51 : decode cX8_loadShip 51 = .ok (.aload_n 0, 1) := by decide +kernel
theorem dX8_loadShip_52 : decode cX8_loadShip 52 = .ok (.getfield 22, 3) := by decide +kernel
theorem dX8_loadShip_55 : decode cX8_loadShip 55 = .ok (.if_icmp .lt 20, 3) := by decide +kernel
theorem dX8_loadShip_58 : decode cX8_loadShip 58 = .ok (.iload 4, 2) := by decide +kernel
theorem dX8_loadShip_60 : decode cX8_loadShip 60 = .ok (.aload_n 0, 1) := by decide +kernel
theorem dX8_loadShip_61 : decode cX8_loadShip 61 = .ok (.getfield 22, 3) := by decide +kernel
theorem dX8_loadShip_64 : decode cX8_loadShip 64 = .ok (.if_icmp .ne 22, 3) := by decide +kernel
theorem dX8_loadShip_67 : decode cX8_loadShip 67 = .ok (.iload_n 3, 1) := by decide +kernel
theorem dX8_loadShip_68 : decode cX8_loadShip 68 = .ok (.aload_n 0, 1) := by decide +kernel
theorem dX8_loadShip_69 : decode cX8_loadShip 69 = .ok (.getfield 18, 3) := by decide +kernel
theorem dX8_loadShip_72 : decode cX8_loadShip 72 = .ok (.if_icmp .ge 14, 3) := by decide +kernel
theorem dX8_loadShip_75 : decode cX8_loadShip 75 = .ok (.aload_n 0, 1) := by decide +kernel
theorem dX8_loadShip_76 : decode cX8_loadShip 76 = .ok (.iload 4, 2) := by decide +kernel
theorem dX8_loadShip_78 : decode cX8_loadShip 78 = .ok (.putfield 22, 3) := by decide +kernel
theorem dX8_loadShip_81 : decode cX8_loadShip 81 = .ok (.aload_n 0, 1) := by decide +kernel
theorem dX8_loadShip_82 : decode cX8_loadShip 82 = .ok (.iload_n 3, 1) := by decide +kernel
theorem dX8_loadShip_83 : decode cX8_loadShip 83 = .ok (.putfield 18, 3) := by decide +kernel
theorem dX8_loadShip_86 : decode cX8_loadShip 86 = .ok (.iinc 3 2, 3) := by decide +kernel
theorem dX8_loadShip_89 : decode cX8_loadShip 89 = .ok (.goto (-62), 3) := by decide +kernel
theorem dX8_loadShip_92 : decode cX8_loadShip 92 = .ok (.return_, 1) := by decide +kernel
theorem dX8_loadMule_0 : decode cX8_loadMule 0 = .ok (.aload_n 0, 1) := by decide +kernel
theorem dX8_loadMule_1 : decode cX8_loadMule 1 = .ok (.iconst (-1), 1) := by decide +kernel
theorem dX8_loadMule_2 : decode cX8_loadMule 2 = .ok (.putfield 18, 3) := by decide +kernel
theorem dX8_loadMule_5 : decode cX8_loadMule 5 = .ok (.iconst 0, 1) := by decide +kernel
theorem dX8_loadMule_6 : decode cX8_loadMule 6 = .ok (.istore_n 3, 1) := by decide +kernel
theorem dX8_loadMule_7 : decode cX8_loadMule 7 = .ok (.iload_n 3, 1) := by decide +kernel
theorem dX8_loadMule_8 : decode cX8_loadMule 8 = .ok (.iconst 1, 1) := by decide +kernel
theorem dX8_loadMule_9 : decode cX8_loadMule 9 = .ok (.iload_n 1, 1) := by decide +kernel
theorem dX8_loadMule_10 : decode cX8_loadMule 10 = .ok (.ishl, 1) := by decide +kernel
theorem dX8_loadMule_11 : decode cX8_loadMule 11 = .ok (.if_icmp .ge 52, 3) := by decide +kernel
theorem dX8_loadMule_14 : decode cX8_loadMule 14 = .ok (.aload_n 0, 1) := by decide +kernel
theorem dX8_loadMule_15 : decode cX8_loadMule 15 = .ok (.iload_n 3, 1) := by decide +kernel
theorem dX8_loadMule_16 : decode cX8_loadMule 16 = .ok (.iload_n 1, 1) := by decide +kernel
theorem dX8_loadMule_17 : decode cX8_loadMule 17 = .ok (.invokevirtual 35, 3) := by decide +kernel
theorem dX8_loadMule_20 : decode cX8_loadMule 20 = .ok (.istore 4, 2) := by decide +kernel
theorem dX8_loadMule_22 : decode cX8_loadMule 22 = .ok (.iload 4, 2) := by decide +kernel
theorem dX8_loadMule_24 : decode cX8_loadMule 24 = .ok (.iload_n 2, 1) := by decide +kernel
theorem dX8_loadMule_25 : decode cX8_loadMule 25 = .ok (.if_icmp .lt 32, 3) := by decide +kernel
theorem dX8_loadMule_28 : decode cX8_loadMule 28 = .ok (.aload_n 0, 1) := by decide +kernel
theorem dX8_loadMule_29 : decode cX8_loadMule 29 = .ok (.getfield 18, 3) := by decide +kernel
theorem dX8_loadMule_32 : decode cX8_loadMule 32 = .ok (.iconst (-1), 1) := by decide +kernel
theorem dX8_loadMule_33 : decode cX8_loadMule 33 = .ok (.if_icmp .eq 13, 3) := by decide +kernel
theorem dX8_loadMule_36 : decode cX8_loadMule 36 = .ok (.aload_n 0, 1) := by decide +kernel
theorem dX8_loadMule_37 : decode cX8_loadMule 37 = .ok (.iload_n 3, 1) := by decide +kernel
theorem dX8_loadMule_38 : decode cX8_loadMule 38 = .ok (.iload 4, 2) := by decide +kernel
theorem dX8_loadMule_40 : decode cX8_loadMule 40 = .ok (.invokevirtual 44, 3) := by decide +kernel
theorem dX8_loadMule_43 : decode cX8_loadMule 43 = .ok (.ifCond .eq 14, 3) := by decide +kernel
theorem dX8_loadMule_46 : decode cX8_loadMule 46 = .ok (.aload_n 0, 1) := by decide +kernel
theorem dX8_loadMule_47 : decode cX8_loadMule 47 = .ok (.iload_n 3, 1) := by decide +kernel
theorem dX8_loadMule_48 : decode cX8_loadMule 48 = .ok (.putfield 18, 3) := by decide +kernel
theorem dX8_loadMule_51 : decode cX8_loadMule 51 = .ok (.aload_n 0, 1) := by decide +kernel
theorem dX8_loadMule_52 : decode cX8_loadMule 52 = .ok (.iload 4, 2) := by decide +kernel
theorem dX8_loadMule_54 : decode cX8_loadMule 54 = .ok (.putfield 22, 3) := by decide +kernel
theorem dX8_loadMule_57 : decode cX8_loadMule 57 = .ok (.iinc 3 1, 3) := by decide +kernel
theorem dX8_loadMule_60 : decode cX8_loadMule 60 = .ok (.goto (-53), 3) := by decide +kernel
theorem dX8_loadMule_63 : decode cX8_loadMule 63 = .ok (.aload_n 0, 1) := by decide +kernel
theorem dX8_loadMule_64 : decode cX8_loadMule 64 = .ok (.getfield 18, 3) := by decide +kernel
theorem dX8_loadMule_67 : decode cX8_loadMule 67 = .ok (.iconst (-1), 1) := by decide +kernel
theorem dX8_loadMule_68 : decode cX8_loadMule 68 = .ok (.if_icmp .eq 7, 3) := by decide +kernel
theorem dX8_loadMule_71 : decode cX8_loadMule 71 = .ok (.iconst 1, 1) := by decide +kernel
theorem dX8_loadMule_72 : decode cX8_loadMule 72 = .ok (.goto 4, 3) := by decide +kernel
theorem dX8_loadMule_75 : decode cX8_loadMule 75 = .ok (.iconst 0, 1) := by decide +kernel
theorem dX8_loadMule_76 : decode cX8_loadMule 76 = .ok (.ireturn, 1) := by decide +kernel
theorem dX8_isBetterLoad_0 : decode cX8_isBetterLoad 0 = .ok (.aload_n 0, 1) := by decide +kernel
theorem dX8_isBetterLoad_1 : decode cX8_isBetterLoad 1 = .ok (.getfield 18, 3) := by decide +kernel
theorem dX8_isBetterLoad_4 : decode cX8_isBetterLoad 4 = .ok (.invokestatic 48, 3) := by decide +kernel
theorem dX8_isBetterLoad_7 : decode cX8_isBetterLoad 7 = .ok (.iload_n 1, 1) := by decide +kernel
theorem dX8_isBetterLoad_8 : decode cX8_isBetterLoad 8 = .ok (.invokestatic 48, 3) := by decide +kernel
theorem dX8_isBetterLoad_11 : decode cX8_isBetterLoad 11 = .ok (.isub, 1) := by decide +kernel
theorem dX8_isBetterLoad_12 : decode cX8_isBetterLoad 12 = .ok (.istore_n 3, 1) := by decide +kernel
theorem dX8_isBetterLoad_13 : decode cX8_isBetterLoad 13 = .ok (.iload_n 3, 1) := by decide +kernel
theorem dX8_isBetterLoad_14 : decode cX8_isBetterLoad 14 = .ok (.ifCond .gt 15, 3) := by decide +kernel
theorem dX8_isBetterLoad_17 : decode cX8_isBetterLoad 17 = .ok (.iload_n 3, 1) := by decide +kernel
theorem dX8_isBetterLoad_18 : decode cX8_isBetterLoad 18 = .ok (.ifCond .ne 15, 3) := by decide +kernel
theorem dX8_isBetterLoad_21 : decode cX8_isBetterLoad 21 = .ok (.iload_n 2, 1) := by decide +kernel
theorem dX8_isBetterLoad_22 : decode cX8_isBetterLoad 22 = .ok (.aload_n 0, 1) := by decide +kernel
theorem dX8_isBetterLoad_23 : decode cX8_isBetterLoad 23 = .ok (.getfield 22, 3) := by decide +kernel
theorem dX8_isBetterLoad_26 : decode cX8_isBetterLoad 26 = .ok (.if_icmp .ge 7, 3) := by decide +kernel
theorem dX8_isBetterLoad_29 : decode cX8_isBetterLoad 29 = .ok (.iconst 1, 1) := by decide +kernel
theorem dX8_isBetterLoad_30 : decode cX8_isBetterLoad 30 = .ok (.goto 4, 3) := by decide +kernel
theorem dX8_isBetterLoad_33 : decode cX8_isBetterLoad 33 = .ok (.iconst 0, 1) := by decide +kernel
theorem dX8_isBetterLoad_34 : decode cX8_isBetterLoad 34 = .ok (.ireturn, 1) := by decide +kernel
theorem dX8_reckonStamps_0 : decode cX8_reckonStamps 0 = .ok (.iconst 0, 1) := by decide +kernel
theorem dX8_reckonStamps_1 : decode cX8_reckonStamps 1 = .ok (.istore_n 2, 1) := by decide +kernel
theorem dX8_reckonStamps_2 : decode cX8_reckonStamps 2 = .ok (.iload_n 2, 1) := by decide +kernel
theorem dX8_reckonStamps_3 : decode cX8_reckonStamps 3 = .ok (.iload_n 1, 1) := by decide +kernel
theorem dX8_reckonStamps_4 : decode cX8_reckonStamps 4 = .ok (.if_icmp .ge 28, 3) := by decide +kernel
theorem dX8_reckonStamps_7 : decode cX8_reckonStamps 7 = .ok (.aload_n 0, 1) := by decide +kernel
theorem dX8_reckonStamps_8 : decode cX8_reckonStamps 8 = .ok (.getfield 25, 3) := by decide +kernel
theorem dX8_reckonStamps_11 : decode cX8_reckonStamps 11 = .ok (.iload_n 2, 1) := by decide +kernel
theorem dX8_reckonStamps_12 : decode cX8_reckonStamps 12 = .ok (.invokevirtual 29, 3) := by decide +kernel
theorem dX8_reckonStamps_15 : decode cX8_reckonStamps 15 = .ok (.iconst 1, 1) := by decide +kernel
theorem dX8_reckonStamps_16 : decode cX8_reckonStamps 16 = .ok (.bipush 100, 2) := by decide +kernel
theorem dX8_reckonStamps_18 : decode cX8_reckonStamps 18 = .ok (.invokestatic 53, 3) := by decide +kernel
theorem dX8_reckonStamps_21 : decode cX8_reckonStamps 21 = .ok (.ifCond .ne 5, 3) := by decide +kernel
theorem dX8_reckonStamps_24 : decode cX8_reckonStamps 24 = .ok (.iconst 0, 1) := by decide +kernel
theorem dX8_reckonStamps_25 : decode cX8_reckonStamps 25 = .ok (.ireturn, 1) := by decide +kernel
theorem dX8_reckonStamps_26 : decode cX8_reckonStamps 26 = .ok (.iinc 2 1, 3) := by decide +kernel
theorem dX8_reckonStamps_29 : decode cX8_reckonStamps 29 = .ok (.goto (-27), 3) := by decide +kernel
theorem dX8_reckonStamps_32 : decode cX8_reckonStamps 32 = .ok (.iconst 1, 1) := by decide +kernel
theorem dX8_reckonStamps_33 : decode cX8_reckonStamps 33 = .ok (.istore_n 2, 1) := by decide +kernel
theorem dX8_reckonStamps_34 : decode cX8_reckonStamps 34 = .ok (.iload_n 2, 1) := by decide +kernel
theorem dX8_reckonStamps_35 : decode cX8_reckonStamps 35 = .ok (.sipush 600, 3) := by decide +kernel
theorem dX8_reckonStamps_38 : decode cX8_reckonStamps 38 = .ok (.if_icmp .gt 74, 3) := by decide +kernel
theorem dX8_reckonStamps_41 : decode cX8_reckonStamps 41 = .ok (.sipush 1000, 3) := by decide +kernel
theorem dX8_reckonStamps_44 : decode cX8_reckonStamps 44 = .ok (.istore_n 3, 1) := by decide +kernel
theorem dX8_reckonStamps_45 : decode cX8_reckonStamps 45 = .ok (.iconst 0, 1) := by decide +kernel
theorem dX8_reckonStamps_46 : decode cX8_reckonStamps 46 = .ok (.istore 4, 2) := by decide +kernel
theorem dX8_reckonStamps_48 : decode cX8_reckonStamps 48 = .ok (.iload 4, 2) := by decide +kernel
theorem dX8_reckonStamps_50 : decode cX8_reckonStamps 50 = .ok (.iload_n 1, 1) := by decide +kernel
theorem dX8_reckonStamps_51 : decode cX8_reckonStamps 51 = .ok (.if_icmp .ge 48, 3) := by decide +kernel
theorem dX8_reckonStamps_54 : decode cX8_reckonStamps 54 = .ok (.iload_n 2, 1) := by decide +kernel
theorem dX8_reckonStamps_55 : decode cX8_reckonStamps 55 = .ok (.aload_n 0, 1) := by decide +kernel
theorem dX8_reckonStamps_56 : decode cX8_reckonStamps 56 = .ok (.getfield 25, 3) := by decide +kernel
theorem dX8_reckonStamps_59 : decode cX8_reckonStamps 59 = .ok (.iload 4, 2) := by decide +kernel
theorem dX8_reckonStamps_61 : decode cX8_reckonStamps 61 = .ok (.invokevirtual 29, 3) := by decide +kernel
theorem dX8_reckonStamps_64 : decode cX8_reckonStamps 64 = .ok (.isub, 1) := by decide +kernel
theorem dX8_reckonStamps_65 : decode cX8_reckonStamps 65 = .ok (.istore 5, 2) := by decide +kernel
theorem dX8_reckonStamps_67 : decode cX8_reckonStamps 67 = .ok (.iload 5, 2) := by decide +kernel
theorem dX8_reckonStamps_69 : decode cX8_reckonStamps 69 = .ok (.iconst 0, 1) := by decide +kernel
theorem dX8_reckonStamps_70 : decode cX8_reckonStamps 70 = .ok (.iload_n 2, 1) := by decide +kernel
theorem dX8_reckonStamps_71 : decode cX8_reckonStamps 71 = .ok (.iconst 1, 1) := by decide +kernel
theorem dX8_reckonStamps_72 : decode cX8_reckonStamps 72 = .ok (.isub, 1) := by decide +kernel
theorem dX8_reckonStamps_73 : decode cX8_reckonStamps 73 = .ok (.invokestatic 53, 3) := by decide +kernel
theorem dX8_reckonStamps_76 : decode cX8_reckonStamps 76 = .ok (.ifCond .eq 17, 3) := by decide +kernel
theorem dX8_reckonStamps_79 : decode cX8_reckonStamps 79 = .ok (.iload_n 3, 1) := by decide +kernel
theorem dX8_reckonStamps_80 : decode cX8_reckonStamps 80 = .ok (.aload_n 0, 1) := by decide +kernel
theorem dX8_reckonStamps_81 : decode cX8_reckonStamps 81 = .ok (.getfield 11, 3) := by decide +kernel
theorem dX8_reckonStamps_84 : decode cX8_reckonStamps 84 = .ok (.iload 5, 2) := by decide +kernel
theorem dX8_reckonStamps_86 : decode cX8_reckonStamps 86 = .ok (.iaload, 1) := by decide +kernel
theorem dX8_reckonStamps_87 : decode cX8_reckonStamps 87 = .ok (.iconst 1, 1) := by decide +kernel
theorem dX8_reckonStamps_88 : decode cX8_reckonStamps 88 = .ok (.iadd, 1) := by decide +kernel
theorem dX8_reckonStamps_89 : decode cX8_reckonStamps 89 = .ok (.invokestatic 57, 3) := by decide +kernel
theorem dX8_reckonStamps_92 : decode cX8_reckonStamps 92 = .ok (.istore_n 3, 1) := by decide +kernel
theorem dX8_reckonStamps_93 : decode cX8_reckonStamps 93 = .ok (.iinc 4 1, 3) := by decide +kernel
theorem dX8_reckonStamps_96 : decode cX8_reckonStamps 96 = .ok (.goto (-48), 3) := by decide +kernel
theorem dX8_reckonStamps_99 : decode cX8_reckonStamps 99 = .ok (.aload_n 0, 1) := by decide +kernel
theorem dX8_reckonStamps_100 : decode cX8_reckonStamps 100 = .ok (.getfield 11, 3) := by decide +kernel
theorem dX8_reckonStamps_103 : decode cX8_reckonStamps 103 = .ok (.iload_n 2, 1) := by decide +kernel
theorem dX8_reckonStamps_104 : decode cX8_reckonStamps 104 = .ok (.iload_n 3, 1) := by decide +kernel
theorem dX8_reckonStamps_105 : decode cX8_reckonStamps 105 = .ok (.iastore, 1) := by decide +kernel
theorem dX8_reckonStamps_106 : decode cX8_reckonStamps 106 = .ok (.iinc 2 1, 3) := by decide +kernel
theorem dX8_reckonStamps_109 : decode cX8_reckonStamps 109 = .ok (.goto (-75), 3) := by decide +kernel
theorem dX8_reckonStamps_112 : decode cX8_reckonStamps 112 = .ok (.iconst 1, 1) := by decide +kernel
theorem dX8_reckonStamps_113 : decode cX8_reckonStamps 113 = .ok (.ireturn, 1) := by decide +kernel
theorem dX8_frankedUpTo_0 : decode cX8_frankedUpTo 0 = .ok (.iconst 1, 1) := by decide +kernel
theorem dX8_frankedUpTo_1 : decode cX8_frankedUpTo 1 = .ok (.istore_n 2, 1) := by decide +kernel
theorem dX8_frankedUpTo_2 : decode cX8_frankedUpTo 2 = .ok (.iload_n 2, 1) := by decide +kernel
theorem dX8_frankedUpTo_3 : decode cX8_frankedUpTo 3 = .ok (.sipush 600, 3) := by decide +kernel
theorem dX8_frankedUpTo_6 : decode cX8_frankedUpTo 6 = .ok (.if_icmp .gt 23, 3) := by decide +kernel
theorem dX8_frankedUpTo_9 : decode cX8_frankedUpTo 9 = .ok (.aload_n 0, 1) := by decide +kernel
theorem dX8_frankedUpTo_10 : decode cX8_frankedUpTo 10 = .ok (.getfield 11, 3) := by decide +kernel
theorem dX8_frankedUpTo_13 : decode cX8_frankedUpTo 13 = .ok (.iload_n 2, 1) := by decide +kernel
theorem dX8_frankedUpTo_14 : decode cX8_frankedUpTo 14 = .ok (.iaload, 1) := by decide +kernel
theorem dX8_frankedUpTo_15 : decode cX8_frankedUpTo 15 = .ok (.iload_n 1, 1) := by decide +kernel
theorem dX8_frankedUpTo_16 : decode cX8_frankedUpTo 16 = .ok (.if_icmp .le 7, 3) := by decide +kernel
theorem dX8_frankedUpTo_19 : decode cX8_frankedUpTo 19 = .ok (.iload_n 2, 1) := by decide +kernel
theorem dX8_frankedUpTo_20 : decode cX8_frankedUpTo 20 = .ok (.iconst 1, 1) := by decide +kernel
theorem dX8_frankedUpTo_21 : decode cX8_frankedUpTo 21 = .ok (.isub, 1) := by decide +kernel
theorem dX8_frankedUpTo_22 : decode cX8_frankedUpTo 22 = .ok (.ireturn, 1) := by decide +kernel
theorem dX8_frankedUpTo_23 : decode cX8_frankedUpTo 23 = .ok (.iinc 2 1, 3) := by decide +kernel
theorem dX8_frankedUpTo_26 : decode cX8_frankedUpTo 26 = .ok (.goto (-24), 3) := by decide +kernel
theorem dX8_frankedUpTo_29 : decode cX8_frankedUpTo 29 = .ok (.sipush 600, 3) := by decide +kernel
theorem dX8_frankedUpTo_32 : decode cX8_frankedUpTo 32 = .ok (.ireturn, 1) := by decide +kernel
theorem dX8_stampsFor_0 : decode cX8_stampsFor 0 = .ok (.iload_n 1, 1) := by decide +kernel
theorem dX8_stampsFor_1 : decode cX8_stampsFor 1 = .ok (.iconst 0, 1) := by decide +kernel
theorem dX8_stampsFor_2 : decode cX8_stampsFor 2 = .ok (.sipush 600, 3) := by decide +kernel
theorem dX8_stampsFor_5 : decode cX8_stampsFor 5 = .ok (.invokestatic 53, 3) := by decide +kernel
theorem dX8_stampsFor_8 : decode cX8_stampsFor 8 = .ok (.ifCond .eq 19, 3) := by decide +kernel
theorem dX8_stampsFor_11 : decode cX8_stampsFor 11 = .ok (.aload_n 0, 1) := by decide +kernel
theorem dX8_stampsFor_12 : decode cX8_stampsFor 12 = .ok (.getfield 11, 3) := by decide +kernel
theorem dX8_stampsFor_15 : decode cX8_stampsFor 15 = .ok (.iload_n 1, 1) := by decide +kernel
theorem dX8_stampsFor_16 : decode cX8_stampsFor 16 = .ok (.iaload, 1) := by decide +kernel
theorem dX8_stampsFor_17 : decode cX8_stampsFor 17 = .ok (.sipush 1000, 3) := by decide +kernel
theorem dX8_stampsFor_20 : decode cX8_stampsFor 20 = .ok (.if_icmp .ge 7, 3) := by decide +kernel
theorem dX8_stampsFor_23 : decode cX8_stampsFor 23 = .ok (.iconst 1, 1) := by decide +kernel
theorem dX8_stampsFor_24 : decode cX8_stampsFor 24 = .ok (.goto 4, 3) := by decide +kernel
theorem dX8_stampsFor_27 : decode cX8_stampsFor 27 = .ok (.iconst 0, 1) := by decide +kernel
theorem dX8_stampsFor_28 : decode cX8_stampsFor 28 = .ok (.istore_n 2, 1) := by decide +kernel
theorem dX8_stampsFor_29 : decode cX8_stampsFor 29 = .ok (.iload_n 2, 1) := by decide +kernel
theorem dX8_stampsFor_30 : decode cX8_stampsFor 30 = .ok (.ifCond .eq 12, 3) := by decide +kernel
theorem dX8_stampsFor_33 : decode cX8_stampsFor 33 = .ok (.aload_n 0, 1) := by decide +kernel
theorem dX8_stampsFor_34 : decode cX8_stampsFor 34 = .ok (.getfield 11, 3) := by decide +kernel
theorem dX8_stampsFor_37 : decode cX8_stampsFor 37 = .ok (.iload_n 1, 1) := by decide +kernel
theorem dX8_stampsFor_38 : decode cX8_stampsFor 38 = .ok (.iaload, 1) := by decide +kernel
theorem dX8_stampsFor_39 : decode cX8_stampsFor 39 = .ok (.goto 5, 3) := by decide +kernel
theorem dX8_stampsFor_42 : decode cX8_stampsFor 42 = .ok (.bipush (-3), 2) := by decide +kernel
theorem dX8_stampsFor_44 : decode cX8_stampsFor 44 = .ok (.ireturn, 1) := by decide +kernel
theorem dX8_exchangeStamps_0 : decode cX8_exchangeStamps 0 = .ok (.aload_n 0, 1) := by decide +kernel
theorem dX8_exchangeStamps_1 : decode cX8_exchangeStamps 1 = .ok (.iload_n 1, 1) := by decide +kernel
theorem dX8_exchangeStamps_2 : decode cX8_exchangeStamps 2 = .ok (.invokevirtual 60, 3) := by decide +kernel
theorem dX8_exchangeStamps_5 : decode cX8_exchangeStamps 5 = .ok (.ifCond .ne 5, 3) := by decide +kernel
theorem dX8_exchangeStamps_8 : decode cX8_exchangeStamps 8 = .ok (.iconst 0, 1) := by decide +kernel
theorem dX8_exchangeStamps_9 : decode cX8_exchangeStamps 9 = .ok (.ireturn, 1) := by decide +kernel
theorem dX8_exchangeStamps_10 : decode cX8_exchangeStamps 10 = .ok (.iconst 1, 1) := by decide +kernel
theorem dX8_exchangeStamps_11 : decode cX8_exchangeStamps 11 = .ok (.iload_n 1, 1) := by decide +kernel
theorem dX8_exchangeStamps_12 : decode cX8_exchangeStamps 12 = .ok (.ishl, 1) := by decide +kernel
theorem dX8_exchangeStamps_13 : decode cX8_exchangeStamps 13 = .ok (.iconst 1, 1) := by decide +kernel
theorem dX8_exchangeStamps_14 : decode cX8_exchangeStamps 14 = .ok (.isub, 1) := by decide +kernel
theorem dX8_exchangeStamps_15 : decode cX8_exchangeStamps 15 = .ok (.istore_n 2, 1) := by decide +kernel
theorem dX8_exchangeStamps_16 : decode cX8_exchangeStamps 16 = .ok (.iconst 0, 1) := by decide +kernel
theorem dX8_exchangeStamps_17 : decode cX8_exchangeStamps 17 = .ok (.istore_n 3, 1) := by decide +kernel
theorem dX8_exchangeStamps_18 : decode cX8_exchangeStamps 18 = .ok (.iload_n 3, 1) := by decide +kernel
theorem dX8_exchangeStamps_19 : decode cX8_exchangeStamps 19 = .ok (.iload_n 1, 1) := by decide +kernel
theorem dX8_exchangeStamps_20 : decode cX8_exchangeStamps 20 = .ok (.if_icmp .ge 24, 3) := by decide +kernel
theorem dX8_exchangeStamps_23 : decode cX8_exchangeStamps 23 = .ok (.iload_n 2, 1) := by decide +kernel
theorem dX8_exchangeStamps_24 : decode cX8_exchangeStamps 24 = .ok (.ifCond .eq 20, 3) := by decide +kernel
theorem dX8_exchangeStamps_27 : decode cX8_exchangeStamps 27 = .ok (.iload_n 2, 1) := by decide +kernel
theorem dX8_exchangeStamps_28 : decode cX8_exchangeStamps 28 = .ok (.aload_n 0, 1) := by decide +kernel
theorem dX8_exchangeStamps_29 : decode cX8_exchangeStamps 29 = .ok (.iload_n 2, 1) := by decide +kernel
theorem dX8_exchangeStamps_30 : decode cX8_exchangeStamps 30 = .ok (.iload_n 1, 1) := by decide +kernel
theorem dX8_exchangeStamps_31 : decode cX8_exchangeStamps 31 = .ok (.invokevirtual 64, 3) := by decide +kernel
theorem dX8_exchangeStamps_34 : decode cX8_exchangeStamps 34 = .ok (.iconst (-1), 1) := by decide +kernel
theorem dX8_exchangeStamps_35 : decode cX8_exchangeStamps 35 = .ok (.ixor, 1) := by decide +kernel
theorem dX8_exchangeStamps_36 : decode cX8_exchangeStamps 36 = .ok (.iand, 1) := by decide +kernel
theorem dX8_exchangeStamps_37 : decode cX8_exchangeStamps 37 = .ok (.istore_n 2, 1) := by decide +kernel
theorem dX8_exchangeStamps_38 : decode cX8_exchangeStamps 38 = .ok (.iinc 3 1, 3) := by decide +kernel
theorem dX8_exchangeStamps_41 : decode cX8_exchangeStamps 41 = .ok (.goto (-23), 3) := by decide +kernel
theorem dX8_exchangeStamps_44 : decode cX8_exchangeStamps 44 = .ok (.iconst 1, 1) := by decide +kernel
theorem dX8_exchangeStamps_45 : decode cX8_exchangeStamps 45 = .ok (.ireturn, 1) := by decide +kernel
theorem dX8_rowsNameEachOnce_0 : decode cX8_rowsNameEachOnce 0 = .ok (.iconst 0, 1) := by decide +kernel
theorem dX8_rowsNameEachOnce_1 : decode cX8_rowsNameEachOnce 1 = .ok (.istore_n 2, 1) := by decide +kernel
theorem dX8_rowsNameEachOnce_2 : decode cX8_rowsNameEachOnce 2 = .ok (.iload_n 2, 1) := by decide +kernel
theorem dX8_rowsNameEachOnce_3 : decode cX8_rowsNameEachOnce 3 = .ok (.iload_n 1, 1) := by decide +kernel
theorem dX8_rowsNameEachOnce_4 : decode cX8_rowsNameEachOnce 4 = .ok (.if_icmp .ge 75, 3) := by decide +kernel
theorem dX8_rowsNameEachOnce_7 : decode cX8_rowsNameEachOnce 7 = .ok (.iconst 0, 1) := by decide +kernel
theorem dX8_rowsNameEachOnce_8 : decode cX8_rowsNameEachOnce 8 = .ok (.istore_n 3, 1) := by decide +kernel
theorem dX8_rowsNameEachOnce_9 : decode cX8_rowsNameEachOnce 9 = .ok (.iconst 0, 1) := by decide +kernel
theorem dX8_rowsNameEachOnce_10 : decode cX8_rowsNameEachOnce 10 = .ok (.istore 4, 2) := by decide +kernel
theorem dX8_rowsNameEachOnce_12 : decode cX8_rowsNameEachOnce 12 = .ok (.iload 4, 2) := by decide +kernel
theorem dX8_rowsNameEachOnce_14 : decode cX8_rowsNameEachOnce 14 = .ok (.iload_n 1, 1) := by decide +kernel
theorem dX8_rowsNameEachOnce_15 : decode cX8_rowsNameEachOnce 15 = .ok (.if_icmp .ge 47, 3) := by decide +kernel
theorem dX8_rowsNameEachOnce_18 : decode cX8_rowsNameEachOnce 18 = .ok (.aload_n 0, 1) := by decide +kernel
theorem dX8_rowsNameEachOnce_19 : decode cX8_rowsNameEachOnce 19 = .ok (.getfield 25, 3) := by decide +kernel
theorem dX8_rowsNameEachOnce_22 : decode cX8_rowsNameEachOnce 22 = .ok (.iload_n 2, 1) := by decide +kernel
theorem dX8_rowsNameEachOnce_23 : decode cX8_rowsNameEachOnce 23 = .ok (.iload_n 1, 1) := by decide +kernel
theorem dX8_rowsNameEachOnce_24 : decode cX8_rowsNameEachOnce 24 = .ok (.imul, 1) := by decide +kernel
theorem dX8_rowsNameEachOnce_25 : decode cX8_rowsNameEachOnce 25 = .ok (.iload 4, 2) := by decide +kernel
theorem dX8_rowsNameEachOnce_27 : decode cX8_rowsNameEachOnce 27 = .ok (.iadd, 1) := by decide +kernel
theorem dX8_rowsNameEachOnce_28 : decode cX8_rowsNameEachOnce 28 = .ok (.invokevirtual 29, 3) := by decide +kernel
theorem dX8_rowsNameEachOnce_31 : decode cX8_rowsNameEachOnce 31 = .ok (.istore 5, 2) := by decide +kernel
theorem dX8_rowsNameEachOnce_33 : decode cX8_rowsNameEachOnce 33 = .ok (.iload_n 3, 1) := by decide +kernel
theorem dX8_rowsNameEachOnce_34 : decode cX8_rowsNameEachOnce 34 = .ok (.iload 5, 2) := by decide +kernel
theorem dX8_rowsNameEachOnce_36 : decode cX8_rowsNameEachOnce 36 = .ok (.iconst 0, 1) := by decide +kernel
theorem dX8_rowsNameEachOnce_37 : decode cX8_rowsNameEachOnce 37 = .ok (.iload_n 1, 1) := by decide +kernel
theorem dX8_rowsNameEachOnce_38 : decode cX8_rowsNameEachOnce 38 = .ok (.iconst 1, 1) := by decide +kernel
theorem dX8_rowsNameEachOnce_39 : decode cX8_rowsNameEachOnce 39 = .ok (.isub, 1) := by decide +kernel
theorem dX8_rowsNameEachOnce_40 : decode cX8_rowsNameEachOnce 40 = .ok (.invokestatic 53, 3) := by decide +kernel
theorem dX8_rowsNameEachOnce_43 : decode cX8_rowsNameEachOnce 43 = .ok (.ifCond .eq 10, 3) := by decide +kernel
theorem dX8_rowsNameEachOnce_46 : decode cX8_rowsNameEachOnce 46 = .ok (.iconst 1, 1) := by decide +kernel
theorem dX8_rowsNameEachOnce_47 : decode cX8_rowsNameEachOnce 47 = .ok (.iload 5, 2) := by decide +kernel
theorem dX8_rowsNameEachOnce_49 : decode cX8_rowsNameEachOnce 49 = .ok (.ishl, 1) := by decide +kernel
theorem dX8_rowsNameEachOnce_50 : decode cX8_rowsNameEachOnce 50 = .ok (.goto 4, 3) := by decide +kernel
theorem dX8_rowsNameEachOnce_53 : decode cX8_rowsNameEachOnce 53 = .ok (.iconst 0, 1) := by decide +kernel
theorem dX8_rowsNameEachOnce_54 : decode cX8_rowsNameEachOnce 54 = .ok (.ior, 1) := by decide +kernel
theorem dX8_rowsNameEachOnce_55 : decode cX8_rowsNameEachOnce 55 = .ok (.istore_n 3, 1) := by decide +kernel
theorem dX8_rowsNameEachOnce_56 : decode cX8_rowsNameEachOnce 56 = .ok (.iinc 4 1, 3) := by decide +kernel
theorem dX8_rowsNameEachOnce_59 : decode cX8_rowsNameEachOnce 59 = .ok (.goto (-47), 3) := by decide +kernel
theorem dX8_rowsNameEachOnce_62 : decode cX8_rowsNameEachOnce 62 = .ok (.iload_n 3, 1) := by decide +kernel
theorem dX8_rowsNameEachOnce_63 : decode cX8_rowsNameEachOnce 63 = .ok (.iconst 1, 1) := by decide +kernel
theorem dX8_rowsNameEachOnce_64 : decode cX8_rowsNameEachOnce 64 = .ok (.iload_n 1, 1) := by decide +kernel
theorem dX8_rowsNameEachOnce_65 : decode cX8_rowsNameEachOnce 65 = .ok (.ishl, 1) := by decide +kernel
theorem dX8_rowsNameEachOnce_66 : decode cX8_rowsNameEachOnce 66 = .ok (.iconst 1, 1) := by decide +kernel
theorem dX8_rowsNameEachOnce_67 : decode cX8_rowsNameEachOnce 67 = .ok (.isub, 1) := by decide +kernel
theorem dX8_rowsNameEachOnce_68 : decode cX8_rowsNameEachOnce 68 = .ok (.if_icmp .eq 5, 3) := by decide +kernel
theorem dX8_rowsNameEachOnce_71 : decode cX8_rowsNameEachOnce 71 = .ok (.iconst 0, 1) := by decide +kernel
theorem dX8_rowsNameEachOnce_72 : decode cX8_rowsNameEachOnce 72 = .ok (.ireturn, 1) := by decide +kernel
theorem dX8_rowsNameEachOnce_73 : decode cX8_rowsNameEachOnce 73 = .ok (.iinc 2 1, 3) := by decide +kernel
theorem dX8_rowsNameEachOnce_76 : decode cX8_rowsNameEachOnce 76 = .ok (.goto (-74), 3) := by decide +kernel
theorem dX8_rowsNameEachOnce_79 : decode cX8_rowsNameEachOnce 79 = .ok (.iconst 1, 1) := by decide +kernel
theorem dX8_rowsNameEachOnce_80 : decode cX8_rowsNameEachOnce 80 = .ok (.ireturn, 1) := by decide +kernel
theorem dX8_changeInRing_0 : decode cX8_changeInRing 0 = .ok (.iload_n 1, 1) := by decide +kernel
theorem dX8_changeInRing_1 : decode cX8_changeInRing 1 = .ok (.invokestatic 67, 3) := by decide +kernel
theorem dX8_changeInRing_4 : decode cX8_changeInRing 4 = .ok (.istore_n 3, 1) := by decide +kernel
theorem dX8_changeInRing_5 : decode cX8_changeInRing 5 = .ok (.iconst 0, 1) := by decide +kernel
theorem dX8_changeInRing_6 : decode cX8_changeInRing 6 = .ok (.istore 4, 2) := by decide +kernel
theorem dX8_changeInRing_8 : decode cX8_changeInRing 8 = .ok (.iload 4, 2) := by decide +kernel
theorem dX8_changeInRing_10 : decode cX8_changeInRing 10 = .ok (.iload_n 2, 1) := by decide +kernel
theorem dX8_changeInRing_11 : decode cX8_changeInRing 11 = .ok (.if_icmp .ge 17, 3) := by decide +kernel
theorem dX8_changeInRing_14 : decode cX8_changeInRing 14 = .ok (.aload_n 0, 1) := by decide +kernel
theorem dX8_changeInRing_15 : decode cX8_changeInRing 15 = .ok (.iload_n 3, 1) := by decide +kernel
theorem dX8_changeInRing_16 : decode cX8_changeInRing 16 = .ok (.iload_n 1, 1) := by decide +kernel
theorem dX8_changeInRing_17 : decode cX8_changeInRing 17 = .ok (.iload_n 2, 1) := by decide +kernel
theorem dX8_changeInRing_18 : decode cX8_changeInRing 18 = .ok (.invokevirtual 70, 3) := by decide +kernel
theorem dX8_changeInRing_21 : decode cX8_changeInRing 21 = .ok (.istore_n 3, 1) := by decide +kernel
theorem dX8_changeInRing_22 : decode cX8_changeInRing 22 = .ok (.iinc 4 1, 3) := by decide +kernel
theorem dX8_changeInRing_25 : decode cX8_changeInRing 25 = .ok (.goto (-17), 3) := by decide +kernel
theorem dX8_changeInRing_28 : decode cX8_changeInRing 28 = .ok (.iconst 0, 1) := by decide +kernel
theorem dX8_changeInRing_29 : decode cX8_changeInRing 29 = .ok (.istore 4, 2) := by decide +kernel
theorem dX8_changeInRing_31 : decode cX8_changeInRing 31 = .ok (.iconst 0, 1) := by decide +kernel
theorem dX8_changeInRing_32 : decode cX8_changeInRing 32 = .ok (.istore 5, 2) := by decide +kernel
theorem dX8_changeInRing_34 : decode cX8_changeInRing 34 = .ok (.iload 5, 2) := by decide +kernel
theorem dX8_changeInRing_36 : decode cX8_changeInRing 36 = .ok (.iload_n 2, 1) := by decide +kernel
theorem dX8_changeInRing_37 : decode cX8_changeInRing 37 = .ok (.if_icmp .ge 55, 3) := by decide +kernel
theorem dX8_changeInRing_40 : decode cX8_changeInRing 40 = .ok (.iload 4, 2) := by decide +kernel
theorem dX8_changeInRing_42 : decode cX8_changeInRing 42 = .ok (.iload_n 3, 1) := by decide +kernel
theorem dX8_changeInRing_43 : decode cX8_changeInRing 43 = .ok (.ishr, 1) := by decide +kernel
theorem dX8_changeInRing_44 : decode cX8_changeInRing 44 = .ok (.iconst 1, 1) := by decide +kernel
theorem dX8_changeInRing_45 : decode cX8_changeInRing 45 = .ok (.iand, 1) := by decide +kernel
theorem dX8_changeInRing_46 : decode cX8_changeInRing 46 = .ok (.ifCond .ne 46, 3) := by decide +kernel
theorem dX8_changeInRing_49 : decode cX8_changeInRing 49 = .ok (.aload_n 0, 1) := by decide +kernel
theorem dX8_changeInRing_50 : decode cX8_changeInRing 50 = .ok (.iload_n 3, 1) := by decide +kernel
theorem dX8_changeInRing_51 : decode cX8_changeInRing 51 = .ok (.iload_n 1, 1) := by decide +kernel
theorem dX8_changeInRing_52 : decode cX8_changeInRing 52 = .ok (.iload_n 2, 1) := by decide +kernel
theorem dX8_changeInRing_53 : decode cX8_changeInRing 53 = .ok (.invokevirtual 70, 3) := by decide +kernel
theorem dX8_changeInRing_56 : decode cX8_changeInRing 56 = .ok (.istore 6, 2) := by decide +kernel
theorem dX8_changeInRing_58 : decode cX8_changeInRing 58 = .ok (.iload_n 3, 1) := by decide +kernel
theorem dX8_changeInRing_59 : decode cX8_changeInRing 59 = .ok (.iconst 0, 1) := by decide +kernel
theorem dX8_changeInRing_60 : decode cX8_changeInRing 60 = .ok (.iconst 5, 1) := by decide +kernel
theorem dX8_changeInRing_61 : decode cX8_changeInRing 61 = .ok (.invokestatic 53, 3) := by decide +kernel
theorem dX8_changeInRing_64 : decode cX8_changeInRing 64 = .ok (.ifCond .eq 11, 3) := by decide +kernel
theorem dX8_changeInRing_67 : decode cX8_changeInRing 67 = .ok (.aload_n 0, 1) := by decide +kernel
theorem dX8_changeInRing_68 : decode cX8_changeInRing 68 = .ok (.getfield 15, 3) := by decide +kernel
theorem dX8_changeInRing_71 : decode cX8_changeInRing 71 = .ok (.iload_n 3, 1) := by decide +kernel
theorem dX8_changeInRing_72 : decode cX8_changeInRing 72 = .ok (.iload 6, 2) := by decide +kernel
theorem dX8_changeInRing_74 : decode cX8_changeInRing 74 = .ok (.iastore, 1) := by decide +kernel
theorem dX8_changeInRing_75 : decode cX8_changeInRing 75 = .ok (.iload 4, 2) := by decide +kernel
theorem dX8_changeInRing_77 : decode cX8_changeInRing 77 = .ok (.iconst 1, 1) := by decide +kernel
theorem dX8_changeInRing_78 : decode cX8_changeInRing 78 = .ok (.iload_n 3, 1) := by decide +kernel
theorem dX8_changeInRing_79 : decode cX8_changeInRing 79 = .ok (.ishl, 1) := by decide +kernel
theorem dX8_changeInRing_80 : decode cX8_changeInRing 80 = .ok (.ior, 1) := by decide +kernel
theorem dX8_changeInRing_81 : decode cX8_changeInRing 81 = .ok (.istore 4, 2) := by decide +kernel
theorem dX8_changeInRing_83 : decode cX8_changeInRing 83 = .ok (.iload 6, 2) := by decide +kernel
theorem dX8_changeInRing_85 : decode cX8_changeInRing 85 = .ok (.istore_n 3, 1) := by decide +kernel
theorem dX8_changeInRing_86 : decode cX8_changeInRing 86 = .ok (.iinc 5 1, 3) := by decide +kernel
theorem dX8_changeInRing_89 : decode cX8_changeInRing 89 = .ok (.goto (-55), 3) := by decide +kernel
theorem dX8_changeInRing_92 : decode cX8_changeInRing 92 = .ok (.iload 4, 2) := by decide +kernel
theorem dX8_changeInRing_94 : decode cX8_changeInRing 94 = .ok (.ireturn, 1) := by decide +kernel
theorem dX8_likedMost_0 : decode cX8_likedMost 0 = .ok (.iconst 0, 1) := by decide +kernel
theorem dX8_likedMost_1 : decode cX8_likedMost 1 = .ok (.istore 4, 2) := by decide +kernel
theorem dX8_likedMost_3 : decode cX8_likedMost 3 = .ok (.iload 4, 2) := by decide +kernel
theorem dX8_likedMost_5 : decode cX8_likedMost 5 = .ok (.iload_n 3, 1) := by decide +kernel
theorem dX8_likedMost_6 : decode cX8_likedMost 6 = .ok (.if_icmp .ge 49, 3) := by decide +kernel
theorem dX8_likedMost_9 : decode cX8_likedMost 9 = .ok (.aload_n 0, 1) := by decide +kernel
theorem dX8_likedMost_10 : decode cX8_likedMost 10 = .ok (.getfield 25, 3) := by decide +kernel
theorem dX8_likedMost_13 : decode cX8_likedMost 13 = .ok (.iload_n 1, 1) := by decide +kernel
theorem dX8_likedMost_14 : decode cX8_likedMost 14 = .ok (.iload_n 3, 1) := by decide +kernel
theorem dX8_likedMost_15 : decode cX8_likedMost 15 = .ok (.imul, 1) := by decide +kernel
theorem dX8_likedMost_16 : decode cX8_likedMost 16 = .ok (.iload 4, 2) := by decide +kernel
theorem dX8_likedMost_18 : decode cX8_likedMost 18 = .ok (.iadd, 1) := by decide +kernel
theorem dX8_likedMost_19 : decode cX8_likedMost 19 = .ok (.invokevirtual 29, 3) := by decide +kernel
theorem dX8_likedMost_22 : decode cX8_likedMost 22 = .ok (.istore 5, 2) := by decide +kernel
theorem dX8_likedMost_24 : decode cX8_likedMost 24 = .ok (.iload 5, 2) := by decide +kernel
theorem dX8_likedMost_26 : decode cX8_likedMost 26 = .ok (.iconst 0, 1) := by decide +kernel
theorem dX8_likedMost_27 : decode cX8_likedMost 27 = .ok (.iload_n 3, 1) := by decide +kernel
theorem dX8_likedMost_28 : decode cX8_likedMost 28 = .ok (.iconst 1, 1) := by decide +kernel
theorem dX8_likedMost_29 : decode cX8_likedMost 29 = .ok (.isub, 1) := by decide +kernel
theorem dX8_likedMost_30 : decode cX8_likedMost 30 = .ok (.invokestatic 53, 3) := by decide +kernel
theorem dX8_likedMost_33 : decode cX8_likedMost 33 = .ok (.ifCond .eq 16, 3) := by decide +kernel
theorem dX8_likedMost_36 : decode cX8_likedMost 36 = .ok (.iload_n 2, 1) := by decide +kernel
theorem dX8_likedMost_37 : decode cX8_likedMost 37 = .ok (.iload 5, 2) := by decide +kernel
theorem dX8_likedMost_39 : decode cX8_likedMost 39 = .ok (.ishr, 1) := by decide +kernel
theorem dX8_likedMost_40 : decode cX8_likedMost 40 = .ok (.iconst 1, 1) := by decide +kernel
theorem dX8_likedMost_41 : decode cX8_likedMost 41 = .ok (.iand, 1) := by decide +kernel
theorem dX8_likedMost_42 : decode cX8_likedMost 42 = .ok (.iconst 1, 1) := by decide +kernel
theorem dX8_likedMost_43 : decode cX8_likedMost 43 = .ok (.if_icmp .ne 6, 3) := by decide +kernel
theorem dX8_likedMost_46 : decode cX8_likedMost 46 = .ok (.iload 5, 2) := by decide +kernel
theorem dX8_likedMost_48 : decode cX8_likedMost 48 = .ok (.ireturn, 1) := by decide +kernel
theorem dX8_likedMost_49 : decode cX8_likedMost 49 = .ok (.iinc 4 1, 3) := by decide +kernel
theorem dX8_likedMost_52 : decode cX8_likedMost 52 = .ok (.goto (-49), 3) := by decide +kernel
theorem dX8_likedMost_55 : decode cX8_likedMost 55 = .ok (.iload_n 1, 1) := by decide +kernel
theorem dX8_likedMost_56 : decode cX8_likedMost 56 = .ok (.ireturn, 1) := by decide +kernel
theorem dX8_stampGotBy_0 : decode cX8_stampGotBy 0 = .ok (.iload_n 1, 1) := by decide +kernel
theorem dX8_stampGotBy_1 : decode cX8_stampGotBy 1 = .ok (.iconst 0, 1) := by decide +kernel
theorem dX8_stampGotBy_2 : decode cX8_stampGotBy 2 = .ok (.iconst 5, 1) := by decide +kernel
theorem dX8_stampGotBy_3 : decode cX8_stampGotBy 3 = .ok (.invokestatic 53, 3) := by decide +kernel
theorem dX8_stampGotBy_6 : decode cX8_stampGotBy 6 = .ok (.ifCond .eq 12, 3) := by decide +kernel
theorem dX8_stampGotBy_9 : decode cX8_stampGotBy 9 = .ok (.aload_n 0, 1) := by decide +kernel
theorem dX8_stampGotBy_10 : decode cX8_stampGotBy 10 = .ok (.getfield 15, 3) := by decide +kernel
theorem dX8_stampGotBy_13 : decode cX8_stampGotBy 13 = .ok (.iload_n 1, 1) := by decide +kernel
theorem dX8_stampGotBy_14 : decode cX8_stampGotBy 14 = .ok (.iaload, 1) := by decide +kernel
theorem dX8_stampGotBy_15 : decode cX8_stampGotBy 15 = .ok (.goto 5, 3) := by decide +kernel
theorem dX8_stampGotBy_18 : decode cX8_stampGotBy 18 = .ok (.bipush (-2), 2) := by decide +kernel
theorem dX8_stampGotBy_20 : decode cX8_stampGotBy 20 = .ok (.ireturn, 1) := by decide +kernel
theorem dX9_init_0 : decode cX9_init 0 = .ok (.aload_n 0, 1) := by decide +kernel
theorem dX9_init_1 : decode cX9_init 1 = .ok (.aload_n 1, 1) := by decide +kernel
theorem dX9_init_2 : decode cX9_init 2 = .ok (.invokespecial 3, 3) := by decide +kernel
theorem dX9_init_5 : decode cX9_init 5 = .ok (.aload_n 0, 1) := by decide +kernel
theorem dX9_init_6 : decode cX9_init 6 = .ok (.bipush 48, 2) := by decide +kernel
theorem dX9_init_8 : decode cX9_init 8 = .ok (.newarray .int, 2) := by decide +kernel
theorem dX9_init_10 : decode cX9_init 10 = .ok (.putfield 9, 3) := by decide +kernel
theorem dX9_init_13 : decode cX9_init 13 = .ok (.aload_n 0, 1) := by decide +kernel
theorem dX9_init_14 : decode cX9_init 14 = .ok (.bipush 48, 2) := by decide +kernel
theorem dX9_init_16 : decode cX9_init 16 = .ok (.newarray .int, 2) := by decide +kernel
theorem dX9_init_18 : decode cX9_init 18 = .ok (.putfield 15, 3) := by decide +kernel
theorem dX9_init_21 : decode cX9_init 21 = .ok (.aload_n 0, 1) := by decide +kernel
theorem dX9_init_22 : decode cX9_init 22 = .ok (.iconst 0, 1) := by decide +kernel
theorem dX9_init_23 : decode cX9_init 23 = .ok (.putfield 18, 3) := by decide +kernel
theorem dX9_init_26 : decode cX9_init 26 = .ok (.return_, 1) := by decide +kernel
theorem dX9_read_0 : decode cX9_read 0 = .ok (.aload_n 0, 1) := by decide +kernel
theorem dX9_read_1 : decode cX9_read 1 = .ok (.iload_n 1, 1) := by decide +kernel
theorem dX9_read_2 : decode cX9_read 2 = .ok (.invokevirtual 22, 3) := by decide +kernel
theorem dX9_read_5 : decode cX9_read 5 = .ok (.aload_n 0, 1) := by decide +kernel
theorem dX9_read_6 : decode cX9_read 6 = .ok (.iconst 0, 1) := by decide +kernel
theorem dX9_read_7 : decode cX9_read 7 = .ok (.putfield 18, 3) := by decide +kernel
theorem dX9_read_10 : decode cX9_read 10 = .ok (.aload_n 0, 1) := by decide +kernel
theorem dX9_read_11 : decode cX9_read 11 = .ok (.iconst 0, 1) := by decide +kernel
theorem dX9_read_12 : decode cX9_read 12 = .ok (.invokevirtual 26, 3) := by decide +kernel
theorem dX9_read_15 : decode cX9_read 15 = .ok (.ifCond .eq 10, 3) := by decide +kernel
theorem dX9_read_18 : decode cX9_read 18 = .ok (.aload_n 0, 1) := by decide +kernel
theorem dX9_read_19 : decode cX9_read 19 = .ok (.getfield 18, 3) := by decide +kernel
theorem dX9_read_22 : decode cX9_read 22 = .ok (.goto 7, 3) := by decide +kernel
theorem dX9_read_25 : decode cX9_read 25 = .ok (.aload_n 0, 1) := by decide +kernel
theorem dX9_read_26 : decode cX9_read 26 = .ok (.invokevirtual 30, 3) := by decide +kernel
theorem dX9_read_29 : decode cX9_read 29 = .ok (.ireturn, 1) := by decide +kernel
theorem dX9_printInto_0 : decode cX9_printInto 0 = .ok (.aload_n 1, 1) := by decide +kernel
theorem dX9_printInto_1 : decode cX9_printInto 1 = .ok (.invokevirtual 34, 3) := by decide +kernel
theorem dX9_printInto_4 : decode cX9_printInto 4 = .ok (.iconst 0, 1) := by decide +kernel
theorem dX9_printInto_5 : decode cX9_printInto 5 = .ok (.istore_n 2, 1) := by decide +kernel
theorem dX9_printInto_6 : decode cX9_printInto 6 = .ok (.iload_n 2, 1) := by decide +kernel
theorem dX9_printInto_7 : decode cX9_printInto 7 = .ok (.aload_n 0, 1) := by decide +kernel
theorem dX9_printInto_8 : decode cX9_printInto 8 = .ok (.getfield 18, 3) := by decide +kernel
theorem dX9_printInto_11 : decode cX9_printInto 11 = .ok (.if_icmp .ge 31, 3) := by decide +kernel
theorem dX9_printInto_14 : decode cX9_printInto 14 = .ok (.iload_n 2, 1) := by decide +kernel
theorem dX9_printInto_15 : decode cX9_printInto 15 = .ok (.bipush 48, 2) := by decide +kernel
theorem dX9_printInto_17 : decode cX9_printInto 17 = .ok (.if_icmp .ge 25, 3) := by decide +kernel
theorem dX9_printInto_20 : decode cX9_printInto 20 = .ok (.aload_n 1, 1) := by decide +kernel
theorem dX9_printInto_21 : decode cX9_printInto 21 = .ok (.aload_n 0, 1) := by decide +kernel
theorem dX9_printInto_22 : decode cX9_printInto 22 = .ok (.getfield 9, 3) := by decide +kernel
theorem dX9_printInto_25 : decode cX9_printInto 25 = .ok (.iload_n 2, 1) := by decide +kernel
theorem dX9_printInto_26 : decode cX9_printInto 26 = .ok (.iaload, 1) := by decide +kernel
theorem dX9_printInto_27 : decode cX9_printInto 27 = .ok (.aload_n 0, 1) := by decide +kernel
theorem dX9_printInto_28 : decode cX9_printInto 28 = .ok (.getfield 15, 3) := by decide +kernel
theorem dX9_printInto_31 : decode cX9_printInto 31 = .ok (.iload_n 2, 1) := by decide +kernel
theorem dX9_printInto_32 : decode cX9_printInto 32 = .ok (.iaload, 1) := by decide +kernel
theorem dX9_printInto_33 : decode cX9_printInto 33 = .ok (.invokevirtual 40, 3) := by decide +kernel
theorem dX9_printInto_36 : decode cX9_printInto 36 = .ok (.iinc 2 1, 3) := by decide +kernel
theorem dX9_printInto_39 : decode cX9_printInto 39 = .ok (.goto (-33), 3) := by decide +kernel
theorem dX9_printInto_42 : decode cX9_printInto 42 = .ok (.return_, 1) := by decide +kernel
theorem dX9_readStamps_0 : decode cX9_readStamps 0 = .ok (.iconst 0, 1) := by decide +kernel
theorem dX9_readStamps_1 : decode cX9_readStamps 1 = .ok (.istore_n 2, 1) := by decide +kernel
theorem dX9_readStamps_2 : decode cX9_readStamps 2 = .ok (.iload_n 2, 1) := by decide +kernel
theorem dX9_readStamps_3 : decode cX9_readStamps 3 = .ok (.bipush 60, 2) := by decide +kernel
theorem dX9_readStamps_5 : decode cX9_readStamps 5 = .ok (.if_icmp .gt 44, 3) := by decide +kernel
theorem dX9_readStamps_8 : decode cX9_readStamps 8 = .ok (.aload_n 0, 1) := by decide +kernel
theorem dX9_readStamps_9 : decode cX9_readStamps 9 = .ok (.iload_n 1, 1) := by decide +kernel
theorem dX9_readStamps_10 : decode cX9_readStamps 10 = .ok (.invokevirtual 44, 3) := by decide +kernel
theorem dX9_readStamps_13 : decode cX9_readStamps 13 = .ok (.ifCond .ne 5, 3) := by decide +kernel
theorem dX9_readStamps_16 : decode cX9_readStamps 16 = .ok (.iconst 0, 1) := by decide +kernel
theorem dX9_readStamps_17 : decode cX9_readStamps 17 = .ok (.ireturn, 1) := by decide +kernel
theorem dX9_readStamps_18 : decode cX9_readStamps 18 = .ok (.iload_n 1, 1) := by decide +kernel
theorem dX9_readStamps_19 : decode cX9_readStamps 19 = .ok (.ifCond .ne 13, 3) := by decide +kernel
theorem dX9_readStamps_22 : decode cX9_readStamps 22 = .ok (.aload_n 0, 1) := by decide +kernel
theorem dX9_readStamps_23 : decode cX9_readStamps 23 = .ok (.invokevirtual 47, 3) := by decide +kernel
theorem dX9_readStamps_26 : decode cX9_readStamps 26 = .ok (.ifCond .eq 17, 3) := by decide +kernel
theorem dX9_readStamps_29 : decode cX9_readStamps 29 = .ok (.goto 12, 3) := by decide +kernel
theorem dX9_readStamps_32 : decode cX9_readStamps 32 = .ok (.aload_n 0, 1) := by decide +kernel
theorem dX9_readStamps_33 : decode cX9_readStamps 33 = .ok (.invokevirtual 51, 3) := by decide +kernel
theorem dX9_readStamps_36 : decode cX9_readStamps 36 = .ok (.bipush 41, 2) := by decide +kernel
theorem dX9_readStamps_38 : decode cX9_readStamps 38 = .ok (.if_icmp .ne 5, 3) := by decide +kernel
theorem dX9_readStamps_41 : decode cX9_readStamps 41 = .ok (.iconst 1, 1) := by decide +kernel
theorem dX9_readStamps_42 : decode cX9_readStamps 42 = .ok (.ireturn, 1) := by decide +kernel
theorem dX9_readStamps_43 : decode cX9_readStamps 43 = .ok (.iinc 2 1, 3) := by decide +kernel
theorem dX9_readStamps_46 : decode cX9_readStamps 46 = .ok (.goto (-44), 3) := by decide +kernel
theorem dX9_readStamps_49 : decode cX9_readStamps 49 = .ok (.aload_n 0, 1) := by decide +kernel
theorem dX9_readStamps_50 : decode cX9_readStamps 50 = .ok (.iconst 1, 1) := by decide +kernel
theorem dX9_readStamps_51 : decode cX9_readStamps 51 = .ok (.aload_n 0, 1) := by decide +kernel
theorem dX9_readStamps_52 : decode cX9_readStamps 52 = .ok (.invokevirtual 54, 3) := by decide +kernel
theorem dX9_readStamps_55 : decode cX9_readStamps 55 = .ok (.invokevirtual 57, 3) := by decide +kernel
theorem dX9_readStamps_58 : decode cX9_readStamps 58 = .ok (.ireturn, 1) := by decide +kernel
theorem dX9_readOne_0 : decode cX9_readOne 0 = .ok (.aload_n 0, 1) := by decide +kernel
theorem dX9_readOne_1 : decode cX9_readOne 1 = .ok (.invokevirtual 54, 3) := by decide +kernel
theorem dX9_readOne_4 : decode cX9_readOne 4 = .ok (.istore_n 2, 1) := by decide +kernel
theorem dX9_readOne_5 : decode cX9_readOne 5 = .ok (.iconst 1, 1) := by decide +kernel
theorem dX9_readOne_6 : decode cX9_readOne 6 = .ok (.istore_n 3, 1) := by decide +kernel
theorem dX9_readOne_7 : decode cX9_readOne 7 = .ok (.aload_n 0, 1) := by decide +kernel
theorem dX9_readOne_8 : decode cX9_readOne 8 = .ok (.invokevirtual 51, 3) := by decide +kernel
theorem dX9_readOne_11 : decode cX9_readOne 11 = .ok (.bipush 50, 2) := by decide +kernel
theorem dX9_readOne_13 : decode cX9_readOne 13 = .ok (.bipush 57, 2) := by decide +kernel
theorem dX9_readOne_15 : decode cX9_readOne 15 = .ok (.invokestatic 61, 3) := by decide +kernel
theorem dX9_readOne_18 : decode cX9_readOne 18 = .ok (.ifCond .eq 15, 3) := by decide +kernel
theorem dX9_readOne_21 : decode cX9_readOne 21 = .ok (.aload_n 0, 1) := by decide +kernel
theorem dX9_readOne_22 : decode cX9_readOne 22 = .ok (.invokevirtual 51, 3) := by decide +kernel
theorem dX9_readOne_25 : decode cX9_readOne 25 = .ok (.bipush 48, 2) := by decide +kernel
theorem dX9_readOne_27 : decode cX9_readOne 27 = .ok (.isub, 1) := by decide +kernel
theorem dX9_readOne_28 : decode cX9_readOne 28 = .ok (.istore_n 3, 1) := by decide +kernel
theorem dX9_readOne_29 : decode cX9_readOne 29 = .ok (.aload_n 0, 1) := by decide +kernel
theorem dX9_readOne_30 : decode cX9_readOne 30 = .ok (.invokevirtual 65, 3) := by decide +kernel
theorem dX9_readOne_33 : decode cX9_readOne 33 = .ok (.aload_n 0, 1) := by decide +kernel
theorem dX9_readOne_34 : decode cX9_readOne 34 = .ok (.invokevirtual 51, 3) := by decide +kernel
theorem dX9_readOne_37 : decode cX9_readOne 37 = .ok (.bipush 40, 2) := by decide +kernel
theorem dX9_readOne_39 : decode cX9_readOne 39 = .ok (.if_icmp .ne 13, 3) := by decide +kernel
theorem dX9_readOne_42 : decode cX9_readOne 42 = .ok (.aload_n 0, 1) := by decide +kernel
theorem dX9_readOne_43 : decode cX9_readOne 43 = .ok (.iload_n 1, 1) := by decide +kernel
theorem dX9_readOne_44 : decode cX9_readOne 44 = .ok (.iload_n 2, 1) := by decide +kernel
theorem dX9_readOne_45 : decode cX9_readOne 45 = .ok (.iload_n 3, 1) := by decide +kernel
theorem dX9_readOne_46 : decode cX9_readOne 46 = .ok (.invokevirtual 68, 3) := by decide +kernel
theorem dX9_readOne_49 : decode cX9_readOne 49 = .ok (.goto 9, 3) := by decide +kernel
theorem dX9_readOne_52 : decode cX9_readOne 52 = .ok (.aload_n 0, 1) := by decide +kernel
theorem dX9_readOne_53 : decode cX9_readOne 53 = .ok (.iload_n 2, 1) := by decide +kernel
theorem dX9_readOne_54 : decode cX9_readOne 54 = .ok (.iload_n 3, 1) := by decide +kernel
theorem dX9_readOne_55 : decode cX9_readOne 55 = .ok (.invokevirtual 71, 3) := by decide +kernel
theorem dX9_readOne_58 : decode cX9_readOne 58 = .ok (.ireturn, 1) := by decide +kernel
theorem dX9_readStamp_0 : decode cX9_readStamp 0 = .ok (.aload_n 0, 1) := by decide +kernel
theorem dX9_readStamp_1 : decode cX9_readStamp 1 = .ok (.invokevirtual 51, 3) := by decide +kernel
theorem dX9_readStamp_4 : decode cX9_readStamp 4 = .ok (.bipush 97, 2) := by decide +kernel
theorem dX9_readStamp_6 : decode cX9_readStamp 6 = .ok (.bipush 104, 2) := by decide +kernel
theorem dX9_readStamp_8 : decode cX9_readStamp 8 = .ok (.invokestatic 61, 3) := by decide +kernel
theorem dX9_readStamp_11 : decode cX9_readStamp 11 = .ok (.ifCond .ne 13, 3) := by decide +kernel
theorem dX9_readStamp_14 : decode cX9_readStamp 14 = .ok (.aload_n 0, 1) := by decide +kernel
theorem dX9_readStamp_15 : decode cX9_readStamp 15 = .ok (.iconst 1, 1) := by decide +kernel
theorem dX9_readStamp_16 : decode cX9_readStamp 16 = .ok (.aload_n 0, 1) := by decide +kernel
theorem dX9_readStamp_17 : decode cX9_readStamp 17 = .ok (.invokevirtual 54, 3) := by decide +kernel
theorem dX9_readStamp_20 : decode cX9_readStamp 20 = .ok (.invokevirtual 57, 3) := by decide +kernel
theorem dX9_readStamp_23 : decode cX9_readStamp 23 = .ok (.ireturn, 1) := by decide +kernel
theorem dX9_readStamp_24 : decode cX9_readStamp 24 = .ok (.aload_n 0, 1) := by decide +kernel
theorem dX9_readStamp_25 : decode cX9_readStamp 25 = .ok (.invokevirtual 51, 3) := by decide +kernel
theorem dX9_readStamp_28 : decode cX9_readStamp 28 = .ok (.bipush 97, 2) := by decide +kernel
theorem dX9_readStamp_30 : decode cX9_readStamp 30 = .ok (.isub, 1) := by decide +kernel
theorem dX9_readStamp_31 : decode cX9_readStamp 31 = .ok (.istore_n 3, 1) := by decide +kernel
theorem dX9_readStamp_32 : decode cX9_readStamp 32 = .ok (.aload_n 0, 1) := by decide +kernel
theorem dX9_readStamp_33 : decode cX9_readStamp 33 = .ok (.invokevirtual 65, 3) := by decide +kernel
theorem dX9_readStamp_36 : decode cX9_readStamp 36 = .ok (.iconst 2, 1) := by decide +kernel
theorem dX9_readStamp_37 : decode cX9_readStamp 37 = .ok (.istore 4, 2) := by decide +kernel
theorem dX9_readStamp_39 : decode cX9_readStamp 39 = .ok (.aload_n 0, 1) := by decide +kernel
theorem dX9_readStamp_40 : decode cX9_readStamp 40 = .ok (.invokevirtual 51, 3) := by decide +kernel
theorem dX9_readStamp_43 : decode cX9_readStamp 43 = .ok (.bipush 116, 2) := by decide +kernel
theorem dX9_readStamp_45 : decode cX9_readStamp 45 = .ok (.if_icmp .eq 12, 3) := by decide +kernel
theorem dX9_readStamp_48 : decode cX9_readStamp 48 = .ok (.aload_n 0, 1) := by decide +kernel
theorem dX9_readStamp_49 : decode cX9_readStamp 49 = .ok (.invokevirtual 51, 3) := by decide +kernel
theorem dX9_readStamp_52 : decode cX9_readStamp 52 = .ok (.bipush 102, 2) := by decide +kernel
theorem dX9_readStamp_54 : decode cX9_readStamp 54 = .ok (.if_icmp .ne 23, 3) := by decide +kernel
theorem dX9_readStamp_57 : decode cX9_readStamp 57 = .ok (.aload_n 0, 1) := by decide +kernel
theorem dX9_readStamp_58 : decode cX9_readStamp 58 = .ok (.invokevirtual 51, 3) := by decide +kernel
theorem dX9_readStamp_61 : decode cX9_readStamp 61 = .ok (.bipush 116, 2) := by decide +kernel
theorem dX9_readStamp_63 : decode cX9_readStamp 63 = .ok (.if_icmp .ne 7, 3) := by decide +kernel
theorem dX9_readStamp_66 : decode cX9_readStamp 66 = .ok (.iconst 1, 1) := by decide +kernel
theorem dX9_readStamp_67 : decode cX9_readStamp 67 = .ok (.goto 4, 3) := by decide +kernel
theorem dX9_readStamp_70 : decode cX9_readStamp 70 = .ok (.iconst 0, 1) := by decide +kernel
theorem dX9_readStamp_71 : decode cX9_readStamp 71 = .ok (.istore 4, 2) := by decide +kernel
theorem dX9_readStamp_73 : decode cX9_readStamp 73 = .ok (.aload_n 0, 1) := by decide +kernel
theorem dX9_readStamp_74 : decode cX9_readStamp 74 = .ok (.invokevirtual 65, 3) := by decide +kernel
theorem dX9_readStamp_77 : decode cX9_readStamp 77 = .ok (.aload_n 0, 1) := by decide +kernel
theorem dX9_readStamp_78 : decode cX9_readStamp 78 = .ok (.getfield 18, 3) := by decide +kernel
theorem dX9_readStamp_81 : decode cX9_readStamp 81 = .ok (.iload_n 2, 1) := by decide +kernel
theorem dX9_readStamp_82 : decode cX9_readStamp 82 = .ok (.iadd, 1) := by decide +kernel
theorem dX9_readStamp_83 : decode cX9_readStamp 83 = .ok (.bipush 48, 2) := by decide +kernel
theorem dX9_readStamp_85 : decode cX9_readStamp 85 = .ok (.if_icmp .le 11, 3) := by decide +kernel
theorem dX9_readStamp_88 : decode cX9_readStamp 88 = .ok (.aload_n 0, 1) := by decide +kernel
theorem dX9_readStamp_89 : decode cX9_readStamp 89 = .ok (.bipush 6, 2) := by decide +kernel
theorem dX9_readStamp_91 : decode cX9_readStamp 91 = .ok (.iload_n 1, 1) := by decide +kernel
theorem dX9_readStamp_92 : decode cX9_readStamp 92 = .ok (.invokevirtual 57, 3) := by decide +kernel
theorem dX9_readStamp_95 : decode cX9_readStamp 95 = .ok (.ireturn, 1) := by decide +kernel
theorem dX9_readStamp_96 : decode cX9_readStamp 96 = .ok (.iconst 0, 1) := by decide +kernel
theorem dX9_readStamp_97 : decode cX9_readStamp 97 = .ok (.istore 5, 2) := by decide +kernel
theorem dX9_readStamp_99 : decode cX9_readStamp 99 = .ok (.iload 5, 2) := by decide +kernel
theorem dX9_readStamp_101 : decode cX9_readStamp 101 = .ok (.iload_n 2, 1) := by decide +kernel
theorem dX9_readStamp_102 : decode cX9_readStamp 102 = .ok (.if_icmp .ge 16, 3) := by decide +kernel
theorem dX9_readStamp_105 : decode cX9_readStamp 105 = .ok (.aload_n 0, 1) := by decide +kernel
theorem dX9_readStamp_106 : decode cX9_readStamp 106 = .ok (.iload_n 3, 1) := by decide +kernel
theorem dX9_readStamp_107 : decode cX9_readStamp 107 = .ok (.iload 4, 2) := by decide +kernel
theorem dX9_readStamp_109 : decode cX9_readStamp 109 = .ok (.invokevirtual 74, 3) := by decide +kernel
theorem dX9_readStamp_112 : decode cX9_readStamp 112 = .ok (.iinc 5 1, 3) := by decide +kernel
theorem dX9_readStamp_115 : decode cX9_readStamp 115 = .ok (.goto (-16), 3) := by decide +kernel
theorem dX9_readStamp_118 : decode cX9_readStamp 118 = .ok (.iconst 1, 1) := by decide +kernel
theorem dX9_readStamp_119 : decode cX9_readStamp 119 = .ok (.ireturn, 1) := by decide +kernel
theorem dX9_readRound_0 : decode cX9_readRound 0 = .ok (.iload_n 1, 1) := by decide +kernel
theorem dX9_readRound_1 : decode cX9_readRound 1 = .ok (.iconst 2, 1) := by decide +kernel
theorem dX9_readRound_2 : decode cX9_readRound 2 = .ok (.if_icmp .lt 13, 3) := by decide +kernel
theorem dX9_readRound_5 : decode cX9_readRound 5 = .ok (.aload_n 0, 1) := by decide +kernel
theorem dX9_readRound_6 : decode cX9_readRound 6 = .ok (.iconst 5, 1) := by decide +kernel
theorem dX9_readRound_7 : decode cX9_readRound 7 = .ok (.aload_n 0, 1) := by decide +kernel
theorem dX9_readRound_8 : decode cX9_readRound 8 = .ok (.invokevirtual 54, 3) := by decide +kernel
theorem dX9_readRound_11 : decode cX9_readRound 11 = .ok (.invokevirtual 57, 3) := by decide +kernel
theorem dX9_readRound_14 : decode cX9_readRound 14 = .ok (.ireturn, 1) := by decide +kernel
theorem dX9_readRound_15 : decode cX9_readRound 15 = .ok (.aload_n 0, 1) := by decide +kernel
theorem dX9_readRound_16 : decode cX9_readRound 16 = .ok (.invokevirtual 65, 3) := by decide +kernel
theorem dX9_readRound_19 : decode cX9_readRound 19 = .ok (.aload_n 0, 1) := by decide +kernel
theorem dX9_readRound_20 : decode cX9_readRound 20 = .ok (.getfield 18, 3) := by decide +kernel
theorem dX9_readRound_23 : decode cX9_readRound 23 = .ok (.istore 4, 2) := by decide +kernel
theorem dX9_readRound_25 : decode cX9_readRound 25 = .ok (.aload_n 0, 1) := by decide +kernel
theorem dX9_readRound_26 : decode cX9_readRound 26 = .ok (.iload_n 1, 1) := by decide +kernel
theorem dX9_readRound_27 : decode cX9_readRound 27 = .ok (.iconst 1, 1) := by decide +kernel
theorem dX9_readRound_28 : decode cX9_readRound 28 = .ok (.iadd, 1) := by decide +kernel
theorem dX9_readRound_29 : decode cX9_readRound 29 = .ok (.invokevirtual 26, 3) := by decide +kernel
theorem dX9_readRound_32 : decode cX9_readRound 32 = .ok (.ifCond .ne 5, 3) := by decide +kernel
theorem dX9_readRound_35 : decode cX9_readRound 35 = .ok (.iconst 0, 1) := by decide +kernel
theorem dX9_readRound_36 : decode cX9_readRound 36 = .ok (.ireturn, 1) := by decide +kernel
theorem dX9_readRound_37 : decode cX9_readRound 37 = .ok (.aload_n 0, 1) := by decide +kernel
theorem dX9_readRound_38 : decode cX9_readRound 38 = .ok (.invokevirtual 65, 3) := by decide +kernel
theorem dX9_readRound_41 : decode cX9_readRound 41 = .ok (.aload_n 0, 1) := by decide +kernel
theorem dX9_readRound_42 : decode cX9_readRound 42 = .ok (.getfield 18, 3) := by decide +kernel
theorem dX9_readRound_45 : decode cX9_readRound 45 = .ok (.iload 4, 2) := by decide +kernel
theorem dX9_readRound_47 : decode cX9_readRound 47 = .ok (.isub, 1) := by decide +kernel
theorem dX9_readRound_48 : decode cX9_readRound 48 = .ok (.iload_n 3, 1) := by decide +kernel
theorem dX9_readRound_49 : decode cX9_readRound 49 = .ok (.iconst 1, 1) := by decide +kernel
theorem dX9_readRound_50 : decode cX9_readRound 50 = .ok (.isub, 1) := by decide +kernel
theorem dX9_readRound_51 : decode cX9_readRound 51 = .ok (.imul, 1) := by decide +kernel
theorem dX9_readRound_52 : decode cX9_readRound 52 = .ok (.istore 5, 2) := by decide +kernel
theorem dX9_readRound_54 : decode cX9_readRound 54 = .ok (.aload_n 0, 1) := by decide +kernel
theorem dX9_readRound_55 : decode cX9_readRound 55 = .ok (.getfield 18, 3) := by decide +kernel
theorem dX9_readRound_58 : decode cX9_readRound 58 = .ok (.iload 5, 2) := by decide +kernel
theorem dX9_readRound_60 : decode cX9_readRound 60 = .ok (.iadd, 1) := by decide +kernel
theorem dX9_readRound_61 : decode cX9_readRound 61 = .ok (.bipush 48, 2) := by decide +kernel
theorem dX9_readRound_63 : decode cX9_readRound 63 = .ok (.if_icmp .le 11, 3) := by decide +kernel
theorem dX9_readRound_66 : decode cX9_readRound 66 = .ok (.aload_n 0, 1) := by decide +kernel
theorem dX9_readRound_67 : decode cX9_readRound 67 = .ok (.bipush 6, 2) := by decide +kernel
theorem dX9_readRound_69 : decode cX9_readRound 69 = .ok (.iload_n 2, 1) := by decide +kernel
theorem dX9_readRound_70 : decode cX9_readRound 70 = .ok (.invokevirtual 57, 3) := by decide +kernel
theorem dX9_readRound_73 : decode cX9_readRound 73 = .ok (.ireturn, 1) := by decide +kernel
theorem dX9_readRound_74 : decode cX9_readRound 74 = .ok (.iload 4, 2) := by decide +kernel
theorem dX9_readRound_76 : decode cX9_readRound 76 = .ok (.istore 6, 2) := by decide +kernel
theorem dX9_readRound_78 : decode cX9_readRound 78 = .ok (.iload 6, 2) := by decide +kernel
theorem dX9_readRound_80 : decode cX9_readRound 80 = .ok (.iload 4, 2) := by decide +kernel
theorem dX9_readRound_82 : decode cX9_readRound 82 = .ok (.iload 5, 2) := by decide +kernel
theorem dX9_readRound_84 : decode cX9_readRound 84 = .ok (.iadd, 1) := by decide +kernel
theorem dX9_readRound_85 : decode cX9_readRound 85 = .ok (.if_icmp .ge 36, 3) := by decide +kernel
theorem dX9_readRound_88 : decode cX9_readRound 88 = .ok (.iload 6, 2) := by decide +kernel
theorem dX9_readRound_90 : decode cX9_readRound 90 = .ok (.aload_n 0, 1) := by decide +kernel
theorem dX9_readRound_91 : decode cX9_readRound 91 = .ok (.getfield 18, 3) := by decide +kernel
theorem dX9_readRound_94 : decode cX9_readRound 94 = .ok (.if_icmp .ge 27, 3) := by decide +kernel
theorem dX9_readRound_97 : decode cX9_readRound 97 = .ok (.aload_n 0, 1) := by decide +kernel
theorem dX9_readRound_98 : decode cX9_readRound 98 = .ok (.aload_n 0, 1) := by decide +kernel
theorem dX9_readRound_99 : decode cX9_readRound 99 = .ok (.getfield 9, 3) := by decide +kernel
theorem dX9_readRound_102 : decode cX9_readRound 102 = .ok (.iload 6, 2) := by decide +kernel
theorem dX9_readRound_104 : decode cX9_readRound 104 = .ok (.iaload, 1) := by decide +kernel
theorem dX9_readRound_105 : decode cX9_readRound 105 = .ok (.aload_n 0, 1) := by decide +kernel
theorem dX9_readRound_106 : decode cX9_readRound 106 = .ok (.getfield 15, 3) := by decide +kernel
theorem dX9_readRound_109 : decode cX9_readRound 109 = .ok (.iload 6, 2) := by decide +kernel
theorem dX9_readRound_111 : decode cX9_readRound 111 = .ok (.iaload, 1) := by decide +kernel
theorem dX9_readRound_112 : decode cX9_readRound 112 = .ok (.invokevirtual 74, 3) := by decide +kernel
theorem dX9_readRound_115 : decode cX9_readRound 115 = .ok (.iinc 6 1, 3) := by decide +kernel
theorem dX9_readRound_118 : decode cX9_readRound 118 = .ok (.goto (-40), 3) := by decide +kernel
theorem dX9_readRound_121 : decode cX9_readRound 121 = .ok (.iconst 1, 1) := by decide +kernel
theorem dX9_readRound_122 : decode cX9_readRound 122 = .ok (.ireturn, 1) := by decide +kernel
theorem dX9_add_0 : decode cX9_add 0 = .ok (.aload_n 0, 1) := by decide +kernel
theorem dX9_add_1 : decode cX9_add 1 = .ok (.getfield 18, 3) := by decide +kernel
theorem dX9_add_4 : decode cX9_add 4 = .ok (.bipush 48, 2) := by decide +kernel
theorem dX9_add_6 : decode cX9_add 6 = .ok (.if_icmp .ge 33, 3) := by decide +kernel
theorem dX9_add_9 : decode cX9_add 9 = .ok (.aload_n 0, 1) := by decide +kernel
theorem dX9_add_10 : decode cX9_add 10 = .ok (.getfield 9, 3) := by decide +kernel
theorem dX9_add_13 : decode cX9_add 13 = .ok (.aload_n 0, 1) := by decide +kernel
theorem dX9_add_14 : decode cX9_add 14 = .ok (.getfield 18, 3) := by decide +kernel
theorem dX9_add_17 : decode cX9_add 17 = .ok (.iload_n 1, 1) := by decide +kernel
theorem dX9_add_18 : decode cX9_add 18 = .ok (.iastore, 1) := by decide +kernel
theorem dX9_add_19 : decode cX9_add 19 = .ok (.aload_n 0, 1) := by decide +kernel
theorem dX9_add_20 : decode cX9_add 20 = .ok (.getfield 15, 3) := by decide +kernel
theorem dX9_add_23 : decode cX9_add 23 = .ok (.aload_n 0, 1) := by decide +kernel
theorem dX9_add_24 : decode cX9_add 24 = .ok (.getfield 18, 3) := by decide +kernel
theorem dX9_add_27 : decode cX9_add 27 = .ok (.iload_n 2, 1) := by decide +kernel
theorem dX9_add_28 : decode cX9_add 28 = .ok (.iastore, 1) := by decide +kernel
theorem dX9_add_29 : decode cX9_add 29 = .ok (.aload_n 0, 1) := by decide +kernel
theorem dX9_add_30 : decode cX9_add 30 = .ok (.dup, 1) := by decide +kernel
theorem dX9_add_31 : decode cX9_add 31 = .ok (.getfield 18, 3) := by decide +kernel
theorem dX9_add_34 : decode cX9_add 34 = .ok (.iconst 1, 1) := by decide +kernel
theorem dX9_add_35 : decode cX9_add 35 = .ok (.iadd, 1) := by decide +kernel
theorem dX9_add_36 : decode cX9_add 36 = .ok (.putfield 18, 3) := by decide +kernel
theorem dX9_add_39 : decode cX9_add 39 = .ok (.return_, 1) := by decide +kernel
theorem dX10_init_0 : decode cX10_init 0 = .ok (.aload_n 0, 1) := by decide +kernel
theorem dX10_init_1 : decode cX10_init 1 = .ok (.invokespecial 3, 3) := by decide +kernel
theorem dX10_init_4 : decode cX10_init 4 = .ok (.aload_n 0, 1) := by decide +kernel
theorem dX10_init_5 : decode cX10_init 5 = .ok (.sipush 260, 3) := by decide +kernel
theorem dX10_init_8 : decode cX10_init 8 = .ok (.newarray .int, 2) := by decide +kernel
theorem dX10_init_10 : decode cX10_init 10 = .ok (.putfield 9, 3) := by decide +kernel
theorem dX10_init_13 : decode cX10_init 13 = .ok (.aload_n 0, 1) := by decide +kernel
theorem dX10_init_14 : decode cX10_init 14 = .ok (.iconst 0, 1) := by decide +kernel
theorem dX10_init_15 : decode cX10_init 15 = .ok (.putfield 15, 3) := by decide +kernel
theorem dX10_init_18 : decode cX10_init 18 = .ok (.return_, 1) := by decide +kernel
theorem dX10_size_0 : decode cX10_size 0 = .ok (.aload_n 0, 1) := by decide +kernel
theorem dX10_size_1 : decode cX10_size 1 = .ok (.getfield 15, 3) := by decide +kernel
theorem dX10_size_4 : decode cX10_size 4 = .ok (.ireturn, 1) := by decide +kernel
theorem dX10_hasRoom_0 : decode cX10_hasRoom 0 = .ok (.aload_n 0, 1) := by decide +kernel
theorem dX10_hasRoom_1 : decode cX10_hasRoom 1 = .ok (.getfield 15, 3) := by decide +kernel
theorem dX10_hasRoom_4 : decode cX10_hasRoom 4 = .ok (.iload_n 1, 1) := by decide +kernel
theorem dX10_hasRoom_5 : decode cX10_hasRoom 5 = .ok (.iadd, 1) := by decide +kernel
theorem dX10_hasRoom_6 : decode cX10_hasRoom 6 = .ok (.aload_n 0, 1) := by decide +kernel
theorem dX10_hasRoom_7 : decode cX10_hasRoom 7 = .ok (.getfield 9, 3) := by decide +kernel
theorem dX10_hasRoom_10 : decode cX10_hasRoom 10 = .ok (.arraylength, 1) := by decide +kernel
theorem dX10_hasRoom_11 : decode cX10_hasRoom 11 = .ok (.if_icmp .gt 7, 3) := by decide +kernel
theorem dX10_hasRoom_14 : decode cX10_hasRoom 14 = .ok (.iconst 1, 1) := by decide +kernel
theorem dX10_hasRoom_15 : decode cX10_hasRoom 15 = .ok (.goto 4, 3) := by decide +kernel
theorem dX10_hasRoom_18 : decode cX10_hasRoom 18 = .ok (.iconst 0, 1) := by decide +kernel
theorem dX10_hasRoom_19 : decode cX10_hasRoom 19 = .ok (.ireturn, 1) := by decide +kernel
theorem dX10_canGive_0 : decode cX10_canGive 0 = .ok (.iload_n 1, 1) := by decide +kernel
theorem dX10_canGive_1 : decode cX10_canGive 1 = .ok (.iload_n 2, 1) := by decide +kernel
theorem dX10_canGive_2 : decode cX10_canGive 2 = .ok (.iload_n 3, 1) := by decide +kernel
theorem dX10_canGive_3 : decode cX10_canGive 3 = .ok (.invokestatic 19, 3) := by decide +kernel
theorem dX10_canGive_6 : decode cX10_canGive 6 = .ok (.ifCond .eq 15, 3) := by decide +kernel
theorem dX10_canGive_9 : decode cX10_canGive 9 = .ok (.iload_n 1, 1) := by decide +kernel
theorem dX10_canGive_10 : decode cX10_canGive 10 = .ok (.aload_n 0, 1) := by decide +kernel
theorem dX10_canGive_11 : decode cX10_canGive 11 = .ok (.getfield 15, 3) := by decide +kernel
theorem dX10_canGive_14 : decode cX10_canGive 14 = .ok (.if_icmp .gt 7, 3) := by decide +kernel
theorem dX10_canGive_17 : decode cX10_canGive 17 = .ok (.iconst 1, 1) := by decide +kernel
theorem dX10_canGive_18 : decode cX10_canGive 18 = .ok (.goto 4, 3) := by decide +kernel
theorem dX10_canGive_21 : decode cX10_canGive 21 = .ok (.iconst 0, 1) := by decide +kernel
theorem dX10_canGive_22 : decode cX10_canGive 22 = .ok (.ireturn, 1) := by decide +kernel
theorem dX10_takeWord_0 : decode cX10_takeWord 0 = .ok (.aload_n 0, 1) := by decide +kernel
theorem dX10_takeWord_1 : decode cX10_takeWord 1 = .ok (.iload_n 1, 1) := by decide +kernel
theorem dX10_takeWord_2 : decode cX10_takeWord 2 = .ok (.bipush 24, 2) := by decide +kernel
theorem dX10_takeWord_4 : decode cX10_takeWord 4 = .ok (.iushr, 1) := by decide +kernel
theorem dX10_takeWord_5 : decode cX10_takeWord 5 = .ok (.invokevirtual 23, 3) := by decide +kernel
theorem dX10_takeWord_8 : decode cX10_takeWord 8 = .ok (.aload_n 0, 1) := by decide +kernel
theorem dX10_takeWord_9 : decode cX10_takeWord 9 = .ok (.iload_n 1, 1) := by decide +kernel
theorem dX10_takeWord_10 : decode cX10_takeWord 10 = .ok (.bipush 16, 2) := by decide +kernel
theorem dX10_takeWord_12 : decode cX10_takeWord 12 = .ok (.iushr, 1) := by decide +kernel
theorem dX10_takeWord_13 : decode cX10_takeWord 13 = .ok (.invokevirtual 23, 3) := by decide +kernel
theorem dX10_takeWord_16 : decode cX10_takeWord 16 = .ok (.aload_n 0, 1) := by decide +kernel
theorem dX10_takeWord_17 : decode cX10_takeWord 17 = .ok (.iload_n 1, 1) := by decide +kernel
theorem dX10_takeWord_18 : decode cX10_takeWord 18 = .ok (.bipush 8, 2) := by decide +kernel
theorem dX10_takeWord_20 : decode cX10_takeWord 20 = .ok (.iushr, 1) := by decide +kernel
theorem dX10_takeWord_21 : decode cX10_takeWord 21 = .ok (.invokevirtual 23, 3) := by decide +kernel
theorem dX10_takeWord_24 : decode cX10_takeWord 24 = .ok (.aload_n 0, 1) := by decide +kernel
theorem dX10_takeWord_25 : decode cX10_takeWord 25 = .ok (.iload_n 1, 1) := by decide +kernel
theorem dX10_takeWord_26 : decode cX10_takeWord 26 = .ok (.invokevirtual 23, 3) := by decide +kernel
theorem dX10_takeWord_29 : decode cX10_takeWord 29 = .ok (.return_, 1) := by decide +kernel
theorem dX10_takeByte_0 : decode cX10_takeByte 0 = .ok (.aload_n 0, 1) := by decide +kernel
theorem dX10_takeByte_1 : decode cX10_takeByte 1 = .ok (.getfield 15, 3) := by decide +kernel
theorem dX10_takeByte_4 : decode cX10_takeByte 4 = .ok (.aload_n 0, 1) := by decide +kernel
theorem dX10_takeByte_5 : decode cX10_takeByte 5 = .ok (.getfield 9, 3) := by decide +kernel
theorem dX10_takeByte_8 : decode cX10_takeByte 8 = .ok (.arraylength, 1) := by decide +kernel
theorem dX10_takeByte_9 : decode cX10_takeByte 9 = .ok (.if_icmp .ge 27, 3) := by decide +kernel
theorem dX10_takeByte_12 : decode cX10_takeByte 12 = .ok (.aload_n 0, 1) := by decide +kernel
theorem dX10_takeByte_13 : decode cX10_takeByte 13 = .ok (.getfield 9, 3) := by decide +kernel
theorem dX10_takeByte_16 : decode cX10_takeByte 16 = .ok (.aload_n 0, 1) := by decide +kernel
theorem dX10_takeByte_17 : decode cX10_takeByte 17 = .ok (.getfield 15, 3) := by decide +kernel
theorem dX10_takeByte_20 : decode cX10_takeByte 20 = .ok (.iload_n 1, 1) := by decide +kernel
theorem dX10_takeByte_21 : decode cX10_takeByte 21 = .ok (.sipush 255, 3) := by decide +kernel
theorem dX10_takeByte_24 : decode cX10_takeByte 24 = .ok (.iand, 1) := by decide +kernel
theorem dX10_takeByte_25 : decode cX10_takeByte 25 = .ok (.iastore, 1) := by decide +kernel
theorem dX10_takeByte_26 : decode cX10_takeByte 26 = .ok (.aload_n 0, 1) := by decide +kernel
theorem dX10_takeByte_27 : decode cX10_takeByte 27 = .ok (.dup, 1) := by decide +kernel
theorem dX10_takeByte_28 : decode cX10_takeByte 28 = .ok (.getfield 15, 3) := by decide +kernel
theorem dX10_takeByte_31 : decode cX10_takeByte 31 = .ok (.iconst 1, 1) := by decide +kernel
theorem dX10_takeByte_32 : decode cX10_takeByte 32 = .ok (.iadd, 1) := by decide +kernel
theorem dX10_takeByte_33 : decode cX10_takeByte 33 = .ok (.putfield 15, 3) := by decide +kernel
theorem dX10_takeByte_36 : decode cX10_takeByte 36 = .ok (.return_, 1) := by decide +kernel
theorem dX10_at_0 : decode cX10_at 0 = .ok (.iload_n 1, 1) := by decide +kernel
theorem dX10_at_1 : decode cX10_at 1 = .ok (.iconst 0, 1) := by decide +kernel
theorem dX10_at_2 : decode cX10_at 2 = .ok (.aload_n 0, 1) := by decide +kernel
theorem dX10_at_3 : decode cX10_at 3 = .ok (.getfield 15, 3) := by decide +kernel
theorem dX10_at_6 : decode cX10_at 6 = .ok (.iconst 1, 1) := by decide +kernel
theorem dX10_at_7 : decode cX10_at 7 = .ok (.isub, 1) := by decide +kernel
theorem dX10_at_8 : decode cX10_at 8 = .ok (.invokestatic 19, 3) := by decide +kernel
theorem dX10_at_11 : decode cX10_at 11 = .ok (.ifCond .eq 12, 3) := by decide +kernel
theorem dX10_at_14 : decode cX10_at 14 = .ok (.aload_n 0, 1) := by decide +kernel
theorem dX10_at_15 : decode cX10_at 15 = .ok (.getfield 9, 3) := by decide +kernel
theorem dX10_at_18 : decode cX10_at 18 = .ok (.iload_n 1, 1) := by decide +kernel
theorem dX10_at_19 : decode cX10_at 19 = .ok (.iaload, 1) := by decide +kernel
theorem dX10_at_20 : decode cX10_at 20 = .ok (.goto 4, 3) := by decide +kernel
theorem dX10_at_23 : decode cX10_at 23 = .ok (.iconst (-1), 1) := by decide +kernel
theorem dX10_at_24 : decode cX10_at 24 = .ok (.ireturn, 1) := by decide +kernel
theorem dX10_empty_0 : decode cX10_empty 0 = .ok (.aload_n 0, 1) := by decide +kernel
theorem dX10_empty_1 : decode cX10_empty 1 = .ok (.iconst 0, 1) := by decide +kernel
theorem dX10_empty_2 : decode cX10_empty 2 = .ok (.putfield 15, 3) := by decide +kernel
theorem dX10_empty_5 : decode cX10_empty 5 = .ok (.return_, 1) := by decide +kernel
