theorem dJ0_length_8abf5_0 : decode cJ0_length_8abf5 0 = .ok (.aload_n 0, 1) := by decide +kernel
theorem dJ0_length_8abf5_1 : decode cJ0_length_8abf5 1 = .ok (.getfield 9, 3) := by decide +kernel
theorem dJ0_length_8abf5_4 : decode cJ0_length_8abf5 4 = .ok (.arraylength, 1) := by decide +kernel
theorem dJ0_length_8abf5_5 : decode cJ0_length_8abf5 5 = .ok (.aload_n 0, 1) := by decide +kernel
theorem dJ0_length_8abf5_6 : decode cJ0_length_8abf5 6 = .ok (.invokevirtual 335, 3) := by decide +kernel
theorem dJ0_length_8abf5_9 : decode cJ0_length_8abf5 9 = .ok (.ishr, 1) := by decide +kernel
theorem dJ0_length_8abf5_10 : decode cJ0_length_8abf5 10 = .ok (.ireturn, 1) := by decide +kernel
set_option maxRecDepth 20000 in
theorem dJ0_indexOf_0f7a4_0 : decode cJ0_indexOf_0f7a4 0 = .ok (.aload_n 0, 1) := by decide +kernel
theorem dJ0_indexOf_0f7a4_1 : decode cJ0_indexOf_0f7a4 1 = .ok (.iload_n 1, 1) := by decide +kernel
theorem dJ0_indexOf_0f7a4_2 : decode cJ0_indexOf_0f7a4 2 = .ok (.iconst 0, 1) := by decide +kernel
theorem dJ0_indexOf_0f7a4_3 : decode cJ0_indexOf_0f7a4 3 = .ok (.invokevirtual 633, 3) := by decide +kernel
theorem dJ0_indexOf_0f7a4_6 : decode cJ0_indexOf_0f7a4 6 = .ok (.ireturn, 1) := by decide +kernel
set_option maxRecDepth 20000 in
theorem dJ0_indexOf_7cf53_0 : decode cJ0_indexOf_7cf53 0 = .ok (.aload_n 0, 1) := by decide +kernel
theorem dJ0_indexOf_7cf53_1 : decode cJ0_indexOf_7cf53 1 = .ok (.invokevirtual 492, 3) := by decide +kernel
theorem dJ0_indexOf_7cf53_4 : decode cJ0_indexOf_7cf53 4 = .ok (.ifCond .eq 19, 3) := by decide +kernel
theorem dJ0_indexOf_7cf53_7 : decode cJ0_indexOf_7cf53 7 = .ok (.aload_n 0, 1) := by decide +kernel
theorem dJ0_indexOf_7cf53_8 : decode cJ0_indexOf_7cf53 8 = .ok (.getfield 9, 3) := by decide +kernel
theorem dJ0_indexOf_7cf53_11 : decode cJ0_indexOf_7cf53 11 = .ok (.iload_n 1, 1) := by decide +kernel
theorem dJ0_indexOf_7cf53_12 : decode cJ0_indexOf_7cf53 12 = .ok (.iload_n 2, 1) := by decide +kernel
theorem dJ0_indexOf_7cf53_13 : decode cJ0_indexOf_7cf53 13 = .ok (.aload_n 0, 1) := by decide +kernel
theorem dJ0_indexOf_7cf53_14 : decode cJ0_indexOf_7cf53 14 = .ok (.invokevirtual 505, 3) := by decide +kernel
theorem dJ0_indexOf_7cf53_17 : decode cJ0_indexOf_7cf53 17 = .ok (.invokestatic 637, 3) := by decide +kernel
theorem dJ0_indexOf_7cf53_20 : decode cJ0_indexOf_7cf53 20 = .ok (.goto 16, 3) := by decide +kernel
theorem dJ0_indexOf_7cf53_23 : decode cJ0_indexOf_7cf53 23 = .ok (.aload_n 0, 1) := by decide +kernel
theorem dJ0_indexOf_7cf53_24 : decode cJ0_indexOf_7cf53 24 = .ok (.getfield 9, 3) := by decide +kernel
theorem dJ0_indexOf_7cf53_27 : decode cJ0_indexOf_7cf53 27 = .ok (.iload_n 1, 1) := by decide +kernel
theorem dJ0_indexOf_7cf53_28 : decode cJ0_indexOf_7cf53 28 = .ok (.iload_n 2, 1) := by decide +kernel
theorem dJ0_indexOf_7cf53_29 : decode cJ0_indexOf_7cf53 29 = .ok (.aload_n 0, 1) := by decide +kernel
theorem dJ0_indexOf_7cf53_30 : decode cJ0_indexOf_7cf53 30 = .ok (.invokevirtual 505, 3) := by decide +kernel
theorem dJ0_indexOf_7cf53_33 : decode cJ0_indexOf_7cf53 33 = .ok (.invokestatic 640, 3) := by decide +kernel
theorem dJ0_indexOf_7cf53_36 : decode cJ0_indexOf_7cf53 36 = .ok (.ireturn, 1) := by decide +kernel
theorem dJ0_coder_7d493_0 : decode cJ0_coder_7d493 0 = .ok (.getstatic 38, 3) := by decide +kernel
theorem dJ0_coder_7d493_3 : decode cJ0_coder_7d493 3 = .ok (.ifCond .eq 10, 3) := by decide +kernel
theorem dJ0_coder_7d493_6 : decode cJ0_coder_7d493 6 = .ok (.aload_n 0, 1) := by decide +kernel
theorem dJ0_coder_7d493_7 : decode cJ0_coder_7d493 7 = .ok (.getfield 15, 3) := by decide +kernel
theorem dJ0_coder_7d493_10 : decode cJ0_coder_7d493 10 = .ok (.goto 4, 3) := by decide +kernel
theorem dJ0_coder_7d493_13 : decode cJ0_coder_7d493 13 = .ok (.iconst 1, 1) := by decide +kernel
theorem dJ0_coder_7d493_14 : decode cJ0_coder_7d493 14 = .ok (.ireturn, 1) := by decide +kernel
theorem dJ0_isLatin1_aae02_0 : decode cJ0_isLatin1_aae02 0 = .ok (.getstatic 38, 3) := by decide +kernel
theorem dJ0_isLatin1_aae02_3 : decode cJ0_isLatin1_aae02 3 = .ok (.ifCond .eq 14, 3) := by decide +kernel
theorem dJ0_isLatin1_aae02_6 : decode cJ0_isLatin1_aae02 6 = .ok (.aload_n 0, 1) := by decide +kernel
theorem dJ0_isLatin1_aae02_7 : decode cJ0_isLatin1_aae02 7 = .ok (.getfield 15, 3) := by decide +kernel
theorem dJ0_isLatin1_aae02_10 : decode cJ0_isLatin1_aae02 10 = .ok (.ifCond .ne 7, 3) := by decide +kernel
theorem dJ0_isLatin1_aae02_13 : decode cJ0_isLatin1_aae02 13 = .ok (.iconst 1, 1) := by decide +kernel
theorem dJ0_isLatin1_aae02_14 : decode cJ0_isLatin1_aae02 14 = .ok (.goto 4, 3) := by decide +kernel
theorem dJ0_isLatin1_aae02_17 : decode cJ0_isLatin1_aae02 17 = .ok (.iconst 0, 1) := by decide +kernel
theorem dJ0_isLatin1_aae02_18 : decode cJ0_isLatin1_aae02 18 = .ok (.ireturn, 1) := by decide +kernel
set_option maxRecDepth 20000 in
theorem dJ0_checkBoundsBeginEnd_23922_0 : decode cJ0_checkBoundsBeginEnd_23922 0 = .ok (.iload_n 0, 1) := by decide +kernel
theorem dJ0_checkBoundsBeginEnd_23922_1 : decode cJ0_checkBoundsBeginEnd_23922 1 = .ok (.iload_n 1, 1) := by decide +kernel
theorem dJ0_checkBoundsBeginEnd_23922_2 : decode cJ0_checkBoundsBeginEnd_23922 2 = .ok (.iload_n 2, 1) := by decide +kernel
theorem dJ0_checkBoundsBeginEnd_23922_3 : decode cJ0_checkBoundsBeginEnd_23922 3 = .ok (.getstatic 1053, 3) := by decide +kernel
theorem dJ0_checkBoundsBeginEnd_23922_6 : decode cJ0_checkBoundsBeginEnd_23922 6 = .ok (.invokestatic 1062, 3) := by decide +kernel
theorem dJ0_checkBoundsBeginEnd_23922_9 : decode cJ0_checkBoundsBeginEnd_23922 9 = .ok (.pop, 1) := by decide +kernel
theorem dJ0_checkBoundsBeginEnd_23922_10 : decode cJ0_checkBoundsBeginEnd_23922 10 = .ok (.return_, 1) := by decide +kernel
theorem dJ1_canEncode_9a6ad_0 : decode cJ1_canEncode_9a6ad 0 = .ok (.iload_n 0, 1) := by decide +kernel
theorem dJ1_canEncode_9a6ad_1 : decode cJ1_canEncode_9a6ad 1 = .ok (.ifCond .lt 14, 3) := by decide +kernel
theorem dJ1_canEncode_9a6ad_4 : decode cJ1_canEncode_9a6ad 4 = .ok (.iload_n 0, 1) := by decide +kernel
theorem dJ1_canEncode_9a6ad_5 : decode cJ1_canEncode_9a6ad 5 = .ok (.sipush 255, 3) := by decide +kernel
theorem dJ1_canEncode_9a6ad_8 : decode cJ1_canEncode_9a6ad 8 = .ok (.if_icmp .gt 7, 3) := by decide +kernel
theorem dJ1_canEncode_9a6ad_11 : decode cJ1_canEncode_9a6ad 11 = .ok (.iconst 1, 1) := by decide +kernel
theorem dJ1_canEncode_9a6ad_12 : decode cJ1_canEncode_9a6ad 12 = .ok (.goto 4, 3) := by decide +kernel
theorem dJ1_canEncode_9a6ad_15 : decode cJ1_canEncode_9a6ad 15 = .ok (.iconst 0, 1) := by decide +kernel
theorem dJ1_canEncode_9a6ad_16 : decode cJ1_canEncode_9a6ad 16 = .ok (.ireturn, 1) := by decide +kernel
set_option maxRecDepth 20000 in
theorem dJ1_indexOf_4cfef_0 : decode cJ1_indexOf_4cfef 0 = .ok (.iload_n 1, 1) := by decide +kernel
theorem dJ1_indexOf_4cfef_1 : decode cJ1_indexOf_4cfef 1 = .ok (.invokestatic 88, 3) := by decide +kernel
theorem dJ1_indexOf_4cfef_4 : decode cJ1_indexOf_4cfef 4 = .ok (.ifCond .ne 5, 3) := by decide +kernel
theorem dJ1_indexOf_4cfef_7 : decode cJ1_indexOf_4cfef 7 = .ok (.iconst (-1), 1) := by decide +kernel
theorem dJ1_indexOf_4cfef_8 : decode cJ1_indexOf_4cfef 8 = .ok (.ireturn, 1) := by decide +kernel
theorem dJ1_indexOf_4cfef_9 : decode cJ1_indexOf_4cfef 9 = .ok (.iload_n 2, 1) := by decide +kernel
theorem dJ1_indexOf_4cfef_10 : decode cJ1_indexOf_4cfef 10 = .ok (.iconst 0, 1) := by decide +kernel
theorem dJ1_indexOf_4cfef_11 : decode cJ1_indexOf_4cfef 11 = .ok (.invokestatic 92, 3) := by decide +kernel
theorem dJ1_indexOf_4cfef_14 : decode cJ1_indexOf_4cfef 14 = .ok (.istore_n 2, 1) := by decide +kernel
theorem dJ1_indexOf_4cfef_15 : decode cJ1_indexOf_4cfef 15 = .ok (.iload_n 3, 1) := by decide +kernel
theorem dJ1_indexOf_4cfef_16 : decode cJ1_indexOf_4cfef 16 = .ok (.aload_n 0, 1) := by decide +kernel
theorem dJ1_indexOf_4cfef_17 : decode cJ1_indexOf_4cfef 17 = .ok (.arraylength, 1) := by decide +kernel
theorem dJ1_indexOf_4cfef_18 : decode cJ1_indexOf_4cfef 18 = .ok (.invokestatic 38, 3) := by decide +kernel
theorem dJ1_indexOf_4cfef_21 : decode cJ1_indexOf_4cfef 21 = .ok (.istore_n 3, 1) := by decide +kernel
theorem dJ1_indexOf_4cfef_22 : decode cJ1_indexOf_4cfef 22 = .ok (.iload_n 2, 1) := by decide +kernel
theorem dJ1_indexOf_4cfef_23 : decode cJ1_indexOf_4cfef 23 = .ok (.iload_n 3, 1) := by decide +kernel
theorem dJ1_indexOf_4cfef_24 : decode cJ1_indexOf_4cfef 24 = .ok (.if_icmp .lt 5, 3) := by decide +kernel
theorem dJ1_indexOf_4cfef_27 : decode cJ1_indexOf_4cfef 27 = .ok (.iconst (-1), 1) := by decide +kernel
theorem dJ1_indexOf_4cfef_28 : decode cJ1_indexOf_4cfef 28 = .ok (.ireturn, 1) := by decide +kernel
theorem dJ1_indexOf_4cfef_29 : decode cJ1_indexOf_4cfef 29 = .ok (.aload_n 0, 1) := by decide +kernel
theorem dJ1_indexOf_4cfef_30 : decode cJ1_indexOf_4cfef 30 = .ok (.iload_n 1, 1) := by decide +kernel
theorem dJ1_indexOf_4cfef_31 : decode cJ1_indexOf_4cfef 31 = .ok (.iload_n 2, 1) := by decide +kernel
theorem dJ1_indexOf_4cfef_32 : decode cJ1_indexOf_4cfef 32 = .ok (.iload_n 3, 1) := by decide +kernel
theorem dJ1_indexOf_4cfef_33 : decode cJ1_indexOf_4cfef 33 = .ok (.invokestatic 95, 3) := by decide +kernel
theorem dJ1_indexOf_4cfef_36 : decode cJ1_indexOf_4cfef 36 = .ok (.ireturn, 1) := by decide +kernel
theorem dJ1_indexOfChar_4cfef_0 : decode cJ1_indexOfChar_4cfef 0 = .ok (.iload_n 1, 1) := by decide +kernel
theorem dJ1_indexOfChar_4cfef_1 : decode cJ1_indexOfChar_4cfef 1 = .ok (.i2b, 1) := by decide +kernel
theorem dJ1_indexOfChar_4cfef_2 : decode cJ1_indexOfChar_4cfef 2 = .ok (.istore 4, 2) := by decide +kernel
theorem dJ1_indexOfChar_4cfef_4 : decode cJ1_indexOfChar_4cfef 4 = .ok (.iload_n 2, 1) := by decide +kernel
theorem dJ1_indexOfChar_4cfef_5 : decode cJ1_indexOfChar_4cfef 5 = .ok (.istore 5, 2) := by decide +kernel
theorem dJ1_indexOfChar_4cfef_7 : decode cJ1_indexOfChar_4cfef 7 = .ok (.iload 5, 2) := by decide +kernel
theorem dJ1_indexOfChar_4cfef_9 : decode cJ1_indexOfChar_4cfef 9 = .ok (.iload_n 3, 1) := by decide +kernel
theorem dJ1_indexOfChar_4cfef_10 : decode cJ1_indexOfChar_4cfef 10 = .ok (.if_icmp .ge 21, 3) := by decide +kernel
theorem dJ1_indexOfChar_4cfef_13 : decode cJ1_indexOfChar_4cfef 13 = .ok (.aload_n 0, 1) := by decide +kernel
theorem dJ1_indexOfChar_4cfef_14 : decode cJ1_indexOfChar_4cfef 14 = .ok (.iload 5, 2) := by decide +kernel
theorem dJ1_indexOfChar_4cfef_16 : decode cJ1_indexOfChar_4cfef 16 = .ok (.baload, 1) := by decide +kernel
theorem dJ1_indexOfChar_4cfef_17 : decode cJ1_indexOfChar_4cfef 17 = .ok (.iload 4, 2) := by decide +kernel
theorem dJ1_indexOfChar_4cfef_19 : decode cJ1_indexOfChar_4cfef 19 = .ok (.if_icmp .ne 6, 3) := by decide +kernel
theorem dJ1_indexOfChar_4cfef_22 : decode cJ1_indexOfChar_4cfef 22 = .ok (.iload 5, 2) := by decide +kernel
theorem dJ1_indexOfChar_4cfef_24 : decode cJ1_indexOfChar_4cfef 24 = .ok (.ireturn, 1) := by decide +kernel
theorem dJ1_indexOfChar_4cfef_25 : decode cJ1_indexOfChar_4cfef 25 = .ok (.iinc 5 1, 3) := by decide +kernel
theorem dJ1_indexOfChar_4cfef_28 : decode cJ1_indexOfChar_4cfef 28 = .ok (.goto (-21), 3) := by decide +kernel
theorem dJ1_indexOfChar_4cfef_31 : decode cJ1_indexOfChar_4cfef 31 = .ok (.iconst (-1), 1) := by decide +kernel
theorem dJ1_indexOfChar_4cfef_32 : decode cJ1_indexOfChar_4cfef 32 = .ok (.ireturn, 1) := by decide +kernel
set_option maxRecDepth 20000 in
theorem dJ2_getChar_3b067_0 : decode cJ2_getChar_3b067 0 = .ok (.getstatic 44, 3) := by decide +kernel
theorem dJ2_getChar_3b067_3 : decode cJ2_getChar_3b067 3 = .ok (.ifCond .ne 25, 3) := by decide +kernel
theorem dJ2_getChar_3b067_6 : decode cJ2_getChar_3b067 6 = .ok (.iload_n 1, 1) := by decide +kernel
theorem dJ2_getChar_3b067_7 : decode cJ2_getChar_3b067 7 = .ok (.ifCond .lt 11, 3) := by decide +kernel
theorem dJ2_getChar_3b067_10 : decode cJ2_getChar_3b067 10 = .ok (.iload_n 1, 1) := by decide +kernel
theorem dJ2_getChar_3b067_11 : decode cJ2_getChar_3b067 11 = .ok (.aload_n 0, 1) := by decide +kernel
theorem dJ2_getChar_3b067_12 : decode cJ2_getChar_3b067 12 = .ok (.invokestatic 48, 3) := by decide +kernel
theorem dJ2_getChar_3b067_15 : decode cJ2_getChar_3b067 15 = .ok (.if_icmp .lt 13, 3) := by decide +kernel
theorem dJ2_getChar_3b067_18 : decode cJ2_getChar_3b067 18 = .ok (.new 52, 3) := by decide +kernel
theorem dJ2_getChar_3b067_21 : decode cJ2_getChar_3b067 21 = .ok (.dup, 1) := by decide +kernel
theorem dJ2_getChar_3b067_22 : decode cJ2_getChar_3b067 22 = .ok (.ldc 54, 2) := by decide +kernel
theorem dJ2_getChar_3b067_24 : decode cJ2_getChar_3b067 24 = .ok (.invokespecial 56, 3) := by decide +kernel
theorem dJ2_getChar_3b067_27 : decode cJ2_getChar_3b067 27 = .ok (.athrow, 1) := by decide +kernel
theorem dJ2_getChar_3b067_28 : decode cJ2_getChar_3b067 28 = .ok (.iload_n 1, 1) := by decide +kernel
theorem dJ2_getChar_3b067_29 : decode cJ2_getChar_3b067 29 = .ok (.iconst 1, 1) := by decide +kernel
theorem dJ2_getChar_3b067_30 : decode cJ2_getChar_3b067 30 = .ok (.ishl, 1) := by decide +kernel
theorem dJ2_getChar_3b067_31 : decode cJ2_getChar_3b067 31 = .ok (.istore_n 1, 1) := by decide +kernel
theorem dJ2_getChar_3b067_32 : decode cJ2_getChar_3b067 32 = .ok (.aload_n 0, 1) := by decide +kernel
theorem dJ2_getChar_3b067_33 : decode cJ2_getChar_3b067 33 = .ok (.iload_n 1, 1) := by decide +kernel
theorem dJ2_getChar_3b067_34 : decode cJ2_getChar_3b067 34 = .ok (.iinc 1 1, 3) := by decide +kernel
theorem dJ2_getChar_3b067_37 : decode cJ2_getChar_3b067 37 = .ok (.baload, 1) := by decide +kernel
theorem dJ2_getChar_3b067_38 : decode cJ2_getChar_3b067 38 = .ok (.sipush 255, 3) := by decide +kernel
theorem dJ2_getChar_3b067_41 : decode cJ2_getChar_3b067 41 = .ok (.iand, 1) := by decide +kernel
theorem dJ2_getChar_3b067_42 : decode cJ2_getChar_3b067 42 = .ok (.getstatic 59, 3) := by decide +kernel
theorem dJ2_getChar_3b067_45 : decode cJ2_getChar_3b067 45 = .ok (.ishl, 1) := by decide +kernel
theorem dJ2_getChar_3b067_46 : decode cJ2_getChar_3b067 46 = .ok (.aload_n 0, 1) := by decide +kernel
theorem dJ2_getChar_3b067_47 : decode cJ2_getChar_3b067 47 = .ok (.iload_n 1, 1) := by decide +kernel
theorem dJ2_getChar_3b067_48 : decode cJ2_getChar_3b067 48 = .ok (.baload, 1) := by decide +kernel
theorem dJ2_getChar_3b067_49 : decode cJ2_getChar_3b067 49 = .ok (.sipush 255, 3) := by decide +kernel
theorem dJ2_getChar_3b067_52 : decode cJ2_getChar_3b067 52 = .ok (.iand, 1) := by decide +kernel
theorem dJ2_getChar_3b067_53 : decode cJ2_getChar_3b067 53 = .ok (.getstatic 63, 3) := by decide +kernel
theorem dJ2_getChar_3b067_56 : decode cJ2_getChar_3b067 56 = .ok (.ishl, 1) := by decide +kernel
theorem dJ2_getChar_3b067_57 : decode cJ2_getChar_3b067 57 = .ok (.ior, 1) := by decide +kernel
theorem dJ2_getChar_3b067_58 : decode cJ2_getChar_3b067 58 = .ok (.i2c, 1) := by decide +kernel
theorem dJ2_getChar_3b067_59 : decode cJ2_getChar_3b067 59 = .ok (.ireturn, 1) := by decide +kernel
theorem dJ2_length_9d52b_0 : decode cJ2_length_9d52b 0 = .ok (.aload_n 0, 1) := by decide +kernel
theorem dJ2_length_9d52b_1 : decode cJ2_length_9d52b 1 = .ok (.arraylength, 1) := by decide +kernel
theorem dJ2_length_9d52b_2 : decode cJ2_length_9d52b 2 = .ok (.iconst 1, 1) := by decide +kernel
theorem dJ2_length_9d52b_3 : decode cJ2_length_9d52b 3 = .ok (.ishr, 1) := by decide +kernel
theorem dJ2_length_9d52b_4 : decode cJ2_length_9d52b 4 = .ok (.ireturn, 1) := by decide +kernel
set_option maxRecDepth 20000 in
theorem dJ2_indexOf_4cfef_0 : decode cJ2_indexOf_4cfef 0 = .ok (.iload_n 2, 1) := by decide +kernel
theorem dJ2_indexOf_4cfef_1 : decode cJ2_indexOf_4cfef 1 = .ok (.iconst 0, 1) := by decide +kernel
theorem dJ2_indexOf_4cfef_2 : decode cJ2_indexOf_4cfef 2 = .ok (.invokestatic 224, 3) := by decide +kernel
theorem dJ2_indexOf_4cfef_5 : decode cJ2_indexOf_4cfef 5 = .ok (.istore_n 2, 1) := by decide +kernel
theorem dJ2_indexOf_4cfef_6 : decode cJ2_indexOf_4cfef 6 = .ok (.iload_n 3, 1) := by decide +kernel
theorem dJ2_indexOf_4cfef_7 : decode cJ2_indexOf_4cfef 7 = .ok (.aload_n 0, 1) := by decide +kernel
theorem dJ2_indexOf_4cfef_8 : decode cJ2_indexOf_4cfef 8 = .ok (.arraylength, 1) := by decide +kernel
theorem dJ2_indexOf_4cfef_9 : decode cJ2_indexOf_4cfef 9 = .ok (.iconst 1, 1) := by decide +kernel
theorem dJ2_indexOf_4cfef_10 : decode cJ2_indexOf_4cfef 10 = .ok (.ishr, 1) := by decide +kernel
theorem dJ2_indexOf_4cfef_11 : decode cJ2_indexOf_4cfef 11 = .ok (.invokestatic 183, 3) := by decide +kernel
theorem dJ2_indexOf_4cfef_14 : decode cJ2_indexOf_4cfef 14 = .ok (.istore_n 3, 1) := by decide +kernel
theorem dJ2_indexOf_4cfef_15 : decode cJ2_indexOf_4cfef 15 = .ok (.iload_n 2, 1) := by decide +kernel
theorem dJ2_indexOf_4cfef_16 : decode cJ2_indexOf_4cfef 16 = .ok (.iload_n 3, 1) := by decide +kernel
theorem dJ2_indexOf_4cfef_17 : decode cJ2_indexOf_4cfef 17 = .ok (.if_icmp .lt 5, 3) := by decide +kernel
theorem dJ2_indexOf_4cfef_20 : decode cJ2_indexOf_4cfef 20 = .ok (.iconst (-1), 1) := by decide +kernel
theorem dJ2_indexOf_4cfef_21 : decode cJ2_indexOf_4cfef 21 = .ok (.ireturn, 1) := by decide +kernel
theorem dJ2_indexOf_4cfef_22 : decode cJ2_indexOf_4cfef 22 = .ok (.iload_n 1, 1) := by decide +kernel
theorem dJ2_indexOf_4cfef_23 : decode cJ2_indexOf_4cfef 23 = .ok (.ldc 227, 2) := by decide +kernel
theorem dJ2_indexOf_4cfef_25 : decode cJ2_indexOf_4cfef 25 = .ok (.if_icmp .ge 11, 3) := by decide +kernel
theorem dJ2_indexOf_4cfef_28 : decode cJ2_indexOf_4cfef 28 = .ok (.aload_n 0, 1) := by decide +kernel
theorem dJ2_indexOf_4cfef_29 : decode cJ2_indexOf_4cfef 29 = .ok (.iload_n 1, 1) := by decide +kernel
theorem dJ2_indexOf_4cfef_30 : decode cJ2_indexOf_4cfef 30 = .ok (.iload_n 2, 1) := by decide +kernel
theorem dJ2_indexOf_4cfef_31 : decode cJ2_indexOf_4cfef 31 = .ok (.iload_n 3, 1) := by decide +kernel
theorem dJ2_indexOf_4cfef_32 : decode cJ2_indexOf_4cfef 32 = .ok (.invokestatic 228, 3) := by decide +kernel
theorem dJ2_indexOf_4cfef_35 : decode cJ2_indexOf_4cfef 35 = .ok (.ireturn, 1) := by decide +kernel
theorem dJ2_indexOf_4cfef_36 : decode cJ2_indexOf_4cfef 36 = .ok (.aload_n 0, 1) := by decide +kernel
theorem dJ2_indexOf_4cfef_37 : decode cJ2_indexOf_4cfef 37 = .ok (.iload_n 1, 1) := by decide +kernel
theorem dJ2_indexOf_4cfef_38 : decode cJ2_indexOf_4cfef 38 = .ok (.iload_n 2, 1) := by decide +kernel
theorem dJ2_indexOf_4cfef_39 : decode cJ2_indexOf_4cfef 39 = .ok (.iload_n 3, 1) := by decide +kernel
theorem dJ2_indexOf_4cfef_40 : decode cJ2_indexOf_4cfef 40 = .ok (.invokestatic 232, 3) := by decide +kernel
theorem dJ2_indexOf_4cfef_43 : decode cJ2_indexOf_4cfef 43 = .ok (.ireturn, 1) := by decide +kernel
set_option maxRecDepth 20000 in
theorem dJ2_indexOfChar_4cfef_0 : decode cJ2_indexOfChar_4cfef 0 = .ok (.iload_n 2, 1) := by decide +kernel
theorem dJ2_indexOfChar_4cfef_1 : decode cJ2_indexOfChar_4cfef 1 = .ok (.iload_n 3, 1) := by decide +kernel
theorem dJ2_indexOfChar_4cfef_2 : decode cJ2_indexOfChar_4cfef 2 = .ok (.aload_n 0, 1) := by decide +kernel
theorem dJ2_indexOfChar_4cfef_3 : decode cJ2_indexOfChar_4cfef 3 = .ok (.invokestatic 96, 3) := by decide +kernel
theorem dJ2_indexOfChar_4cfef_6 : decode cJ2_indexOfChar_4cfef 6 = .ok (.aload_n 0, 1) := by decide +kernel
theorem dJ2_indexOfChar_4cfef_7 : decode cJ2_indexOfChar_4cfef 7 = .ok (.iload_n 1, 1) := by decide +kernel
theorem dJ2_indexOfChar_4cfef_8 : decode cJ2_indexOfChar_4cfef 8 = .ok (.iload_n 2, 1) := by decide +kernel
theorem dJ2_indexOfChar_4cfef_9 : decode cJ2_indexOfChar_4cfef 9 = .ok (.iload_n 3, 1) := by decide +kernel
theorem dJ2_indexOfChar_4cfef_10 : decode cJ2_indexOfChar_4cfef 10 = .ok (.invokestatic 244, 3) := by decide +kernel
theorem dJ2_indexOfChar_4cfef_13 : decode cJ2_indexOfChar_4cfef 13 = .ok (.ireturn, 1) := by decide +kernel
set_option maxRecDepth 20000 in
theorem dJ2_indexOfCharUnsafe_4cfef_0 : decode cJ2_indexOfCharUnsafe_4cfef 0 = .ok (.iload_n 2, 1) := by decide +kernel
theorem dJ2_indexOfCharUnsafe_4cfef_1 : decode cJ2_indexOfCharUnsafe_4cfef 1 = .ok (.istore 4, 2) := by decide +kernel
theorem dJ2_indexOfCharUnsafe_4cfef_3 : decode cJ2_indexOfCharUnsafe_4cfef 3 = .ok (.iload 4, 2) := by decide +kernel
theorem dJ2_indexOfCharUnsafe_4cfef_5 : decode cJ2_indexOfCharUnsafe_4cfef 5 = .ok (.iload_n 3, 1) := by decide +kernel
theorem dJ2_indexOfCharUnsafe_4cfef_6 : decode cJ2_indexOfCharUnsafe_4cfef 6 = .ok (.if_icmp .ge 22, 3) := by decide +kernel
theorem dJ2_indexOfCharUnsafe_4cfef_9 : decode cJ2_indexOfCharUnsafe_4cfef 9 = .ok (.aload_n 0, 1) := by decide +kernel
theorem dJ2_indexOfCharUnsafe_4cfef_10 : decode cJ2_indexOfCharUnsafe_4cfef 10 = .ok (.iload 4, 2) := by decide +kernel
theorem dJ2_indexOfCharUnsafe_4cfef_12 : decode cJ2_indexOfCharUnsafe_4cfef 12 = .ok (.invokestatic 71, 3) := by decide +kernel
theorem dJ2_indexOfCharUnsafe_4cfef_15 : decode cJ2_indexOfCharUnsafe_4cfef 15 = .ok (.iload_n 1, 1) := by decide +kernel
theorem dJ2_indexOfCharUnsafe_4cfef_16 : decode cJ2_indexOfCharUnsafe_4cfef 16 = .ok (.if_icmp .ne 6, 3) := by decide +kernel
theorem dJ2_indexOfCharUnsafe_4cfef_19 : decode cJ2_indexOfCharUnsafe_4cfef 19 = .ok (.iload 4, 2) := by decide +kernel
theorem dJ2_indexOfCharUnsafe_4cfef_21 : decode cJ2_indexOfCharUnsafe_4cfef 21 = .ok (.ireturn, 1) := by decide +kernel
theorem dJ2_indexOfCharUnsafe_4cfef_22 : decode cJ2_indexOfCharUnsafe_4cfef 22 = .ok (.iinc 4 1, 3) := by decide +kernel
theorem dJ2_indexOfCharUnsafe_4cfef_25 : decode cJ2_indexOfCharUnsafe_4cfef 25 = .ok (.goto (-22), 3) := by decide +kernel
theorem dJ2_indexOfCharUnsafe_4cfef_28 : decode cJ2_indexOfCharUnsafe_4cfef 28 = .ok (.iconst (-1), 1) := by decide +kernel
theorem dJ2_indexOfCharUnsafe_4cfef_29 : decode cJ2_indexOfCharUnsafe_4cfef 29 = .ok (.ireturn, 1) := by decide +kernel
set_option maxRecDepth 20000 in
theorem dJ2_indexOfSupplementary_4cfef_0 : decode cJ2_indexOfSupplementary_4cfef 0 = .ok (.iload_n 1, 1) := by decide +kernel
theorem dJ2_indexOfSupplementary_4cfef_1 : decode cJ2_indexOfSupplementary_4cfef 1 = .ok (.invokestatic 164, 3) := by decide +kernel
theorem dJ2_indexOfSupplementary_4cfef_4 : decode cJ2_indexOfSupplementary_4cfef 4 = .ok (.ifCond .eq 65, 3) := by decide +kernel
theorem dJ2_indexOfSupplementary_4cfef_7 : decode cJ2_indexOfSupplementary_4cfef 7 = .ok (.iload_n 1, 1) := by decide +kernel
theorem dJ2_indexOfSupplementary_4cfef_8 : decode cJ2_indexOfSupplementary_4cfef 8 = .ok (.invokestatic 157, 3) := by decide +kernel
theorem dJ2_indexOfSupplementary_4cfef_11 : decode cJ2_indexOfSupplementary_4cfef 11 = .ok (.istore 4, 2) := by decide +kernel
theorem dJ2_indexOfSupplementary_4cfef_13 : decode cJ2_indexOfSupplementary_4cfef 13 = .ok (.iload_n 1, 1) := by decide +kernel
theorem dJ2_indexOfSupplementary_4cfef_14 : decode cJ2_indexOfSupplementary_4cfef 14 = .ok (.invokestatic 161, 3) := by decide +kernel
theorem dJ2_indexOfSupplementary_4cfef_17 : decode cJ2_indexOfSupplementary_4cfef 17 = .ok (.istore 5, 2) := by decide +kernel
theorem dJ2_indexOfSupplementary_4cfef_19 : decode cJ2_indexOfSupplementary_4cfef 19 = .ok (.iload_n 2, 1) := by decide +kernel
theorem dJ2_indexOfSupplementary_4cfef_20 : decode cJ2_indexOfSupplementary_4cfef 20 = .ok (.iload_n 3, 1) := by decide +kernel
theorem dJ2_indexOfSupplementary_4cfef_21 : decode cJ2_indexOfSupplementary_4cfef 21 = .ok (.aload_n 0, 1) := by decide +kernel
theorem dJ2_indexOfSupplementary_4cfef_22 : decode cJ2_indexOfSupplementary_4cfef 22 = .ok (.invokestatic 96, 3) := by decide +kernel
theorem dJ2_indexOfSupplementary_4cfef_25 : decode cJ2_indexOfSupplementary_4cfef 25 = .ok (.iload_n 2, 1) := by decide +kernel
theorem dJ2_indexOfSupplementary_4cfef_26 : decode cJ2_indexOfSupplementary_4cfef 26 = .ok (.istore 6, 2) := by decide +kernel
theorem dJ2_indexOfSupplementary_4cfef_28 : decode cJ2_indexOfSupplementary_4cfef 28 = .ok (.iload 6, 2) := by decide +kernel
theorem dJ2_indexOfSupplementary_4cfef_30 : decode cJ2_indexOfSupplementary_4cfef 30 = .ok (.iload_n 3, 1) := by decide +kernel
theorem dJ2_indexOfSupplementary_4cfef_31 : decode cJ2_indexOfSupplementary_4cfef 31 = .ok (.iconst 1, 1) := by decide +kernel
theorem dJ2_indexOfSupplementary_4cfef_32 : decode cJ2_indexOfSupplementary_4cfef 32 = .ok (.isub, 1) := by decide +kernel
theorem dJ2_indexOfSupplementary_4cfef_33 : decode cJ2_indexOfSupplementary_4cfef 33 = .ok (.if_icmp .ge 36, 3) := by decide +kernel
theorem dJ2_indexOfSupplementary_4cfef_36 : decode cJ2_indexOfSupplementary_4cfef 36 = .ok (.aload_n 0, 1) := by decide +kernel
theorem dJ2_indexOfSupplementary_4cfef_37 : decode cJ2_indexOfSupplementary_4cfef 37 = .ok (.iload 6, 2) := by decide +kernel
theorem dJ2_indexOfSupplementary_4cfef_39 : decode cJ2_indexOfSupplementary_4cfef 39 = .ok (.invokestatic 71, 3) := by decide +kernel
theorem dJ2_indexOfSupplementary_4cfef_42 : decode cJ2_indexOfSupplementary_4cfef 42 = .ok (.iload 4, 2) := by decide +kernel
theorem dJ2_indexOfSupplementary_4cfef_44 : decode cJ2_indexOfSupplementary_4cfef 44 = .ok (.if_icmp .ne 19, 3) := by decide +kernel
theorem dJ2_indexOfSupplementary_4cfef_47 : decode cJ2_indexOfSupplementary_4cfef 47 = .ok (.aload_n 0, 1) := by decide +kernel
theorem dJ2_indexOfSupplementary_4cfef_48 : decode cJ2_indexOfSupplementary_4cfef 48 = .ok (.iload 6, 2) := by decide +kernel
theorem dJ2_indexOfSupplementary_4cfef_50 : decode cJ2_indexOfSupplementary_4cfef 50 = .ok (.iconst 1, 1) := by decide +kernel
theorem dJ2_indexOfSupplementary_4cfef_51 : decode cJ2_indexOfSupplementary_4cfef 51 = .ok (.iadd, 1) := by decide +kernel
theorem dJ2_indexOfSupplementary_4cfef_52 : decode cJ2_indexOfSupplementary_4cfef 52 = .ok (.invokestatic 71, 3) := by decide +kernel
theorem dJ2_indexOfSupplementary_4cfef_55 : decode cJ2_indexOfSupplementary_4cfef 55 = .ok (.iload 5, 2) := by decide +kernel
theorem dJ2_indexOfSupplementary_4cfef_57 : decode cJ2_indexOfSupplementary_4cfef 57 = .ok (.if_icmp .ne 6, 3) := by decide +kernel
theorem dJ2_indexOfSupplementary_4cfef_60 : decode cJ2_indexOfSupplementary_4cfef 60 = .ok (.iload 6, 2) := by decide +kernel
theorem dJ2_indexOfSupplementary_4cfef_62 : decode cJ2_indexOfSupplementary_4cfef 62 = .ok (.ireturn, 1) := by decide +kernel
theorem dJ2_indexOfSupplementary_4cfef_63 : decode cJ2_indexOfSupplementary_4cfef 63 = .ok (.iinc 6 1, 3) := by decide +kernel
theorem dJ2_indexOfSupplementary_4cfef_66 : decode cJ2_indexOfSupplementary_4cfef 66 = .ok (.goto (-38), 3) := by decide +kernel
theorem dJ2_indexOfSupplementary_4cfef_69 : decode cJ2_indexOfSupplementary_4cfef 69 = .ok (.iconst (-1), 1) := by decide +kernel
theorem dJ2_indexOfSupplementary_4cfef_70 : decode cJ2_indexOfSupplementary_4cfef 70 = .ok (.ireturn, 1) := by decide +kernel
set_option maxRecDepth 20000 in
theorem dJ2_checkBoundsBeginEnd_d044e_0 : decode cJ2_checkBoundsBeginEnd_d044e 0 = .ok (.iload_n 0, 1) := by decide +kernel
theorem dJ2_checkBoundsBeginEnd_d044e_1 : decode cJ2_checkBoundsBeginEnd_d044e 1 = .ok (.iload_n 1, 1) := by decide +kernel
theorem dJ2_checkBoundsBeginEnd_d044e_2 : decode cJ2_checkBoundsBeginEnd_d044e 2 = .ok (.aload_n 2, 1) := by decide +kernel
theorem dJ2_checkBoundsBeginEnd_d044e_3 : decode cJ2_checkBoundsBeginEnd_d044e 3 = .ok (.invokestatic 48, 3) := by decide +kernel
theorem dJ2_checkBoundsBeginEnd_d044e_6 : decode cJ2_checkBoundsBeginEnd_d044e 6 = .ok (.invokestatic 241, 3) := by decide +kernel
theorem dJ2_checkBoundsBeginEnd_d044e_9 : decode cJ2_checkBoundsBeginEnd_d044e 9 = .ok (.return_, 1) := by decide +kernel
theorem dJ3_checkFromToIndex_8c36e_0 : decode cJ3_checkFromToIndex_8c36e 0 = .ok (.iload_n 0, 1) := by decide +kernel
theorem dJ3_checkFromToIndex_8c36e_1 : decode cJ3_checkFromToIndex_8c36e 1 = .ok (.ifCond .lt 13, 3) := by decide +kernel
theorem dJ3_checkFromToIndex_8c36e_4 : decode cJ3_checkFromToIndex_8c36e 4 = .ok (.iload_n 0, 1) := by decide +kernel
theorem dJ3_checkFromToIndex_8c36e_5 : decode cJ3_checkFromToIndex_8c36e 5 = .ok (.iload_n 1, 1) := by decide +kernel
theorem dJ3_checkFromToIndex_8c36e_6 : decode cJ3_checkFromToIndex_8c36e 6 = .ok (.if_icmp .gt 8, 3) := by decide +kernel
theorem dJ3_checkFromToIndex_8c36e_9 : decode cJ3_checkFromToIndex_8c36e 9 = .ok (.iload_n 1, 1) := by decide +kernel
theorem dJ3_checkFromToIndex_8c36e_10 : decode cJ3_checkFromToIndex_8c36e 10 = .ok (.iload_n 2, 1) := by decide +kernel
theorem dJ3_checkFromToIndex_8c36e_11 : decode cJ3_checkFromToIndex_8c36e 11 = .ok (.if_icmp .le 11, 3) := by decide +kernel
theorem dJ3_checkFromToIndex_8c36e_14 : decode cJ3_checkFromToIndex_8c36e 14 = .ok (.aload_n 3, 1) := by decide +kernel
theorem dJ3_checkFromToIndex_8c36e_15 : decode cJ3_checkFromToIndex_8c36e 15 = .ok (.iload_n 0, 1) := by decide +kernel
theorem dJ3_checkFromToIndex_8c36e_16 : decode cJ3_checkFromToIndex_8c36e 16 = .ok (.iload_n 1, 1) := by decide +kernel
theorem dJ3_checkFromToIndex_8c36e_17 : decode cJ3_checkFromToIndex_8c36e 17 = .ok (.iload_n 2, 1) := by decide +kernel
theorem dJ3_checkFromToIndex_8c36e_18 : decode cJ3_checkFromToIndex_8c36e 18 = .ok (.invokestatic 99, 3) := by decide +kernel
theorem dJ3_checkFromToIndex_8c36e_21 : decode cJ3_checkFromToIndex_8c36e 21 = .ok (.athrow, 1) := by decide +kernel
theorem dJ3_checkFromToIndex_8c36e_22 : decode cJ3_checkFromToIndex_8c36e 22 = .ok (.iload_n 0, 1) := by decide +kernel
theorem dJ3_checkFromToIndex_8c36e_23 : decode cJ3_checkFromToIndex_8c36e 23 = .ok (.ireturn, 1) := by decide +kernel
set_option maxRecDepth 20000 in
theorem dJ6_bitCount_0f7a4_0 : decode cJ6_bitCount_0f7a4 0 = .ok (.iload_n 0, 1) := by decide +kernel
theorem dJ6_bitCount_0f7a4_1 : decode cJ6_bitCount_0f7a4 1 = .ok (.iload_n 0, 1) := by decide +kernel
theorem dJ6_bitCount_0f7a4_2 : decode cJ6_bitCount_0f7a4 2 = .ok (.iconst 1, 1) := by decide +kernel
theorem dJ6_bitCount_0f7a4_3 : decode cJ6_bitCount_0f7a4 3 = .ok (.iushr, 1) := by decide +kernel
theorem dJ6_bitCount_0f7a4_4 : decode cJ6_bitCount_0f7a4 4 = .ok (.ldc_w 265, 3) := by decide +kernel
theorem dJ6_bitCount_0f7a4_7 : decode cJ6_bitCount_0f7a4 7 = .ok (.iand, 1) := by decide +kernel
theorem dJ6_bitCount_0f7a4_8 : decode cJ6_bitCount_0f7a4 8 = .ok (.isub, 1) := by decide +kernel
theorem dJ6_bitCount_0f7a4_9 : decode cJ6_bitCount_0f7a4 9 = .ok (.istore_n 0, 1) := by decide +kernel
theorem dJ6_bitCount_0f7a4_10 : decode cJ6_bitCount_0f7a4 10 = .ok (.iload_n 0, 1) := by decide +kernel
theorem dJ6_bitCount_0f7a4_11 : decode cJ6_bitCount_0f7a4 11 = .ok (.ldc_w 266, 3) := by decide +kernel
theorem dJ6_bitCount_0f7a4_14 : decode cJ6_bitCount_0f7a4 14 = .ok (.iand, 1) := by decide +kernel
theorem dJ6_bitCount_0f7a4_15 : decode cJ6_bitCount_0f7a4 15 = .ok (.iload_n 0, 1) := by decide +kernel
theorem dJ6_bitCount_0f7a4_16 : decode cJ6_bitCount_0f7a4 16 = .ok (.iconst 2, 1) := by decide +kernel
theorem dJ6_bitCount_0f7a4_17 : decode cJ6_bitCount_0f7a4 17 = .ok (.iushr, 1) := by decide +kernel
theorem dJ6_bitCount_0f7a4_18 : decode cJ6_bitCount_0f7a4 18 = .ok (.ldc_w 266, 3) := by decide +kernel
theorem dJ6_bitCount_0f7a4_21 : decode cJ6_bitCount_0f7a4 21 = .ok (.iand, 1) := by decide +kernel
theorem dJ6_bitCount_0f7a4_22 : decode cJ6_bitCount_0f7a4 22 = .ok (.iadd, 1) := by decide +kernel
theorem dJ6_bitCount_0f7a4_23 : decode cJ6_bitCount_0f7a4 23 = .ok (.istore_n 0, 1) := by decide +kernel
theorem dJ6_bitCount_0f7a4_24 : decode cJ6_bitCount_0f7a4 24 = .ok (.iload_n 0, 1) := by decide +kernel
theorem dJ6_bitCount_0f7a4_25 : decode cJ6_bitCount_0f7a4 25 = .ok (.iload_n 0, 1) := by decide +kernel
theorem dJ6_bitCount_0f7a4_26 : decode cJ6_bitCount_0f7a4 26 = .ok (.iconst 4, 1) := by decide +kernel
theorem dJ6_bitCount_0f7a4_27 : decode cJ6_bitCount_0f7a4 27 = .ok (.iushr, 1) := by decide +kernel
theorem dJ6_bitCount_0f7a4_28 : decode cJ6_bitCount_0f7a4 28 = .ok (.iadd, 1) := by decide +kernel
theorem dJ6_bitCount_0f7a4_29 : decode cJ6_bitCount_0f7a4 29 = .ok (.ldc_w 267, 3) := by decide +kernel
theorem dJ6_bitCount_0f7a4_32 : decode cJ6_bitCount_0f7a4 32 = .ok (.iand, 1) := by decide +kernel
theorem dJ6_bitCount_0f7a4_33 : decode cJ6_bitCount_0f7a4 33 = .ok (.istore_n 0, 1) := by decide +kernel
theorem dJ6_bitCount_0f7a4_34 : decode cJ6_bitCount_0f7a4 34 = .ok (.iload_n 0, 1) := by decide +kernel
theorem dJ6_bitCount_0f7a4_35 : decode cJ6_bitCount_0f7a4 35 = .ok (.iload_n 0, 1) := by decide +kernel
theorem dJ6_bitCount_0f7a4_36 : decode cJ6_bitCount_0f7a4 36 = .ok (.bipush 8, 2) := by decide +kernel
theorem dJ6_bitCount_0f7a4_38 : decode cJ6_bitCount_0f7a4 38 = .ok (.iushr, 1) := by decide +kernel
theorem dJ6_bitCount_0f7a4_39 : decode cJ6_bitCount_0f7a4 39 = .ok (.iadd, 1) := by decide +kernel
theorem dJ6_bitCount_0f7a4_40 : decode cJ6_bitCount_0f7a4 40 = .ok (.istore_n 0, 1) := by decide +kernel
theorem dJ6_bitCount_0f7a4_41 : decode cJ6_bitCount_0f7a4 41 = .ok (.iload_n 0, 1) := by decide +kernel
theorem dJ6_bitCount_0f7a4_42 : decode cJ6_bitCount_0f7a4 42 = .ok (.iload_n 0, 1) := by decide +kernel
theorem dJ6_bitCount_0f7a4_43 : decode cJ6_bitCount_0f7a4 43 = .ok (.bipush 16, 2) := by decide +kernel
theorem dJ6_bitCount_0f7a4_45 : decode cJ6_bitCount_0f7a4 45 = .ok (.iushr, 1) := by decide +kernel
theorem dJ6_bitCount_0f7a4_46 : decode cJ6_bitCount_0f7a4 46 = .ok (.iadd, 1) := by decide +kernel
theorem dJ6_bitCount_0f7a4_47 : decode cJ6_bitCount_0f7a4 47 = .ok (.istore_n 0, 1) := by decide +kernel
theorem dJ6_bitCount_0f7a4_48 : decode cJ6_bitCount_0f7a4 48 = .ok (.iload_n 0, 1) := by decide +kernel
theorem dJ6_bitCount_0f7a4_49 : decode cJ6_bitCount_0f7a4 49 = .ok (.bipush 63, 2) := by decide +kernel
theorem dJ6_bitCount_0f7a4_51 : decode cJ6_bitCount_0f7a4 51 = .ok (.iand, 1) := by decide +kernel
theorem dJ6_bitCount_0f7a4_52 : decode cJ6_bitCount_0f7a4 52 = .ok (.ireturn, 1) := by decide +kernel
theorem dJ9_abs_0f7a4_0 : decode cJ9_abs_0f7a4 0 = .ok (.iload_n 0, 1) := by decide +kernel
theorem dJ9_abs_0f7a4_1 : decode cJ9_abs_0f7a4 1 = .ok (.ifCond .ge 8, 3) := by decide +kernel
theorem dJ9_abs_0f7a4_4 : decode cJ9_abs_0f7a4 4 = .ok (.iload_n 0, 1) := by decide +kernel
theorem dJ9_abs_0f7a4_5 : decode cJ9_abs_0f7a4 5 = .ok (.ineg, 1) := by decide +kernel
theorem dJ9_abs_0f7a4_6 : decode cJ9_abs_0f7a4 6 = .ok (.goto 4, 3) := by decide +kernel
theorem dJ9_abs_0f7a4_9 : decode cJ9_abs_0f7a4 9 = .ok (.iload_n 0, 1) := by decide +kernel
theorem dJ9_abs_0f7a4_10 : decode cJ9_abs_0f7a4 10 = .ok (.ireturn, 1) := by decide +kernel
theorem dJ9_max_7cf53_0 : decode cJ9_max_7cf53 0 = .ok (.iload_n 0, 1) := by decide +kernel
theorem dJ9_max_7cf53_1 : decode cJ9_max_7cf53 1 = .ok (.iload_n 1, 1) := by decide +kernel
theorem dJ9_max_7cf53_2 : decode cJ9_max_7cf53 2 = .ok (.if_icmp .lt 7, 3) := by decide +kernel
theorem dJ9_max_7cf53_5 : decode cJ9_max_7cf53 5 = .ok (.iload_n 0, 1) := by decide +kernel
theorem dJ9_max_7cf53_6 : decode cJ9_max_7cf53 6 = .ok (.goto 4, 3) := by decide +kernel
theorem dJ9_max_7cf53_9 : decode cJ9_max_7cf53 9 = .ok (.iload_n 1, 1) := by decide +kernel
theorem dJ9_max_7cf53_10 : decode cJ9_max_7cf53 10 = .ok (.ireturn, 1) := by decide +kernel
theorem dJ9_min_7cf53_0 : decode cJ9_min_7cf53 0 = .ok (.iload_n 0, 1) := by decide +kernel
theorem dJ9_min_7cf53_1 : decode cJ9_min_7cf53 1 = .ok (.iload_n 1, 1) := by decide +kernel
theorem dJ9_min_7cf53_2 : decode cJ9_min_7cf53 2 = .ok (.if_icmp .gt 7, 3) := by decide +kernel
theorem dJ9_min_7cf53_5 : decode cJ9_min_7cf53 5 = .ok (.iload_n 0, 1) := by decide +kernel
theorem dJ9_min_7cf53_6 : decode cJ9_min_7cf53 6 = .ok (.goto 4, 3) := by decide +kernel
theorem dJ9_min_7cf53_9 : decode cJ9_min_7cf53 9 = .ok (.iload_n 1, 1) := by decide +kernel
theorem dJ9_min_7cf53_10 : decode cJ9_min_7cf53 10 = .ok (.ireturn, 1) := by decide +kernel
set_option maxRecDepth 20000 in
theorem dJ11_isValidCodePoint_9a6ad_0 : decode cJ11_isValidCodePoint_9a6ad 0 = .ok (.iload_n 0, 1) := by decide +kernel
theorem dJ11_isValidCodePoint_9a6ad_1 : decode cJ11_isValidCodePoint_9a6ad 1 = .ok (.bipush 16, 2) := by decide +kernel
theorem dJ11_isValidCodePoint_9a6ad_3 : decode cJ11_isValidCodePoint_9a6ad 3 = .ok (.iushr, 1) := by decide +kernel
theorem dJ11_isValidCodePoint_9a6ad_4 : decode cJ11_isValidCodePoint_9a6ad 4 = .ok (.istore_n 1, 1) := by decide +kernel
theorem dJ11_isValidCodePoint_9a6ad_5 : decode cJ11_isValidCodePoint_9a6ad 5 = .ok (.iload_n 1, 1) := by decide +kernel
theorem dJ11_isValidCodePoint_9a6ad_6 : decode cJ11_isValidCodePoint_9a6ad 6 = .ok (.bipush 17, 2) := by decide +kernel
theorem dJ11_isValidCodePoint_9a6ad_8 : decode cJ11_isValidCodePoint_9a6ad 8 = .ok (.if_icmp .ge 7, 3) := by decide +kernel
theorem dJ11_isValidCodePoint_9a6ad_11 : decode cJ11_isValidCodePoint_9a6ad 11 = .ok (.iconst 1, 1) := by decide +kernel
theorem dJ11_isValidCodePoint_9a6ad_12 : decode cJ11_isValidCodePoint_9a6ad 12 = .ok (.goto 4, 3) := by decide +kernel
theorem dJ11_isValidCodePoint_9a6ad_15 : decode cJ11_isValidCodePoint_9a6ad 15 = .ok (.iconst 0, 1) := by decide +kernel
theorem dJ11_isValidCodePoint_9a6ad_16 : decode cJ11_isValidCodePoint_9a6ad 16 = .ok (.ireturn, 1) := by decide +kernel
theorem dJ11_highSurrogate_5068e_0 : decode cJ11_highSurrogate_5068e 0 = .ok (.iload_n 0, 1) := by decide +kernel
theorem dJ11_highSurrogate_5068e_1 : decode cJ11_highSurrogate_5068e 1 = .ok (.bipush 10, 2) := by decide +kernel
theorem dJ11_highSurrogate_5068e_3 : decode cJ11_highSurrogate_5068e 3 = .ok (.iushr, 1) := by decide +kernel
theorem dJ11_highSurrogate_5068e_4 : decode cJ11_highSurrogate_5068e 4 = .ok (.ldc 110, 2) := by decide +kernel
theorem dJ11_highSurrogate_5068e_6 : decode cJ11_highSurrogate_5068e 6 = .ok (.iadd, 1) := by decide +kernel
theorem dJ11_highSurrogate_5068e_7 : decode cJ11_highSurrogate_5068e 7 = .ok (.i2c, 1) := by decide +kernel
theorem dJ11_highSurrogate_5068e_8 : decode cJ11_highSurrogate_5068e 8 = .ok (.ireturn, 1) := by decide +kernel
theorem dJ11_lowSurrogate_5068e_0 : decode cJ11_lowSurrogate_5068e 0 = .ok (.iload_n 0, 1) := by decide +kernel
theorem dJ11_lowSurrogate_5068e_1 : decode cJ11_lowSurrogate_5068e 1 = .ok (.sipush 1023, 3) := by decide +kernel
theorem dJ11_lowSurrogate_5068e_4 : decode cJ11_lowSurrogate_5068e 4 = .ok (.iand, 1) := by decide +kernel
theorem dJ11_lowSurrogate_5068e_5 : decode cJ11_lowSurrogate_5068e 5 = .ok (.ldc 76, 2) := by decide +kernel
theorem dJ11_lowSurrogate_5068e_7 : decode cJ11_lowSurrogate_5068e 7 = .ok (.iadd, 1) := by decide +kernel
theorem dJ11_lowSurrogate_5068e_8 : decode cJ11_lowSurrogate_5068e 8 = .ok (.i2c, 1) := by decide +kernel
theorem dJ11_lowSurrogate_5068e_9 : decode cJ11_lowSurrogate_5068e 9 = .ok (.ireturn, 1) := by decide +kernel
theorem dL_law_0 : decode cL_law 0 = .ok (.new 7, 3) := by decide +kernel
theorem dL_law_3 : decode cL_law 3 = .ok (.dup, 1) := by decide +kernel
theorem dL_law_4 : decode cL_law 4 = .ok (.invokespecial 9, 3) := by decide +kernel
theorem dL_law_7 : decode cL_law 7 = .ok (.astore_n 1, 1) := by decide +kernel
theorem dL_law_8 : decode cL_law 8 = .ok (.new 10, 3) := by decide +kernel
theorem dL_law_11 : decode cL_law 11 = .ok (.dup, 1) := by decide +kernel
theorem dL_law_12 : decode cL_law 12 = .ok (.invokespecial 12, 3) := by decide +kernel
theorem dL_law_15 : decode cL_law 15 = .ok (.astore_n 2, 1) := by decide +kernel
theorem dL_law_16 : decode cL_law 16 = .ok (.iconst 0, 1) := by decide +kernel
theorem dL_law_17 : decode cL_law 17 = .ok (.istore_n 3, 1) := by decide +kernel
theorem dL_law_18 : decode cL_law 18 = .ok (.iload_n 3, 1) := by decide +kernel
theorem dL_law_19 : decode cL_law 19 = .ok (.aload_n 0, 1) := by decide +kernel
theorem dL_law_20 : decode cL_law 20 = .ok (.arraylength, 1) := by decide +kernel
theorem dL_law_21 : decode cL_law 21 = .ok (.bipush 6, 2) := by decide +kernel
theorem dL_law_23 : decode cL_law 23 = .ok (.isub, 1) := by decide +kernel
theorem dL_law_24 : decode cL_law 24 = .ok (.if_icmp .gt 1726, 3) := by decide +kernel
theorem dL_law_27 : decode cL_law 27 = .ok (.aload_n 0, 1) := by decide +kernel
theorem dL_law_28 : decode cL_law 28 = .ok (.iload_n 3, 1) := by decide +kernel
theorem dL_law_29 : decode cL_law 29 = .ok (.iaload, 1) := by decide +kernel
theorem dL_law_30 : decode cL_law 30 = .ok (.bipush 63, 2) := by decide +kernel
theorem dL_law_32 : decode cL_law 32 = .ok (.iand, 1) := by decide +kernel
theorem dL_law_33 : decode cL_law 33 = .ok (.tableswitch 1711 0 44 #[195, 218, 261, 304, 337, 360, 373, 406, 439, 482, 535, 588, 621, 654, 677, 710, 743, 796, 829, 872, 925, 978, 1021, 1054, 1077, 1110, 1143, 1186, 1209, 1232, 1245, 1268, 1281, 1294, 1307, 1320, 1343, 1386, 1409, 1442, 1485, 1558, 1592, 1655, 1688], 195) := by decide +kernel
theorem dL_law_228 : decode cL_law 228 = .ok (.aload_n 1, 1) := by decide +kernel
theorem dL_law_229 : decode cL_law 229 = .ok (.aload_n 0, 1) := by decide +kernel
theorem dL_law_230 : decode cL_law 230 = .ok (.iload_n 3, 1) := by decide +kernel
theorem dL_law_231 : decode cL_law 231 = .ok (.iconst 1, 1) := by decide +kernel
theorem dL_law_232 : decode cL_law 232 = .ok (.iadd, 1) := by decide +kernel
theorem dL_law_233 : decode cL_law 233 = .ok (.iaload, 1) := by decide +kernel
theorem dL_law_234 : decode cL_law 234 = .ok (.invokevirtual 13, 3) := by decide +kernel
theorem dL_law_237 : decode cL_law 237 = .ok (.aload_n 2, 1) := by decide +kernel
theorem dL_law_238 : decode cL_law 238 = .ok (.aload_n 0, 1) := by decide +kernel
theorem dL_law_239 : decode cL_law 239 = .ok (.iload_n 3, 1) := by decide +kernel
theorem dL_law_240 : decode cL_law 240 = .ok (.iconst 1, 1) := by decide +kernel
theorem dL_law_241 : decode cL_law 241 = .ok (.iadd, 1) := by decide +kernel
theorem dL_law_242 : decode cL_law 242 = .ok (.iaload, 1) := by decide +kernel
theorem dL_law_243 : decode cL_law 243 = .ok (.invokevirtual 17, 3) := by decide +kernel
theorem dL_law_246 : decode cL_law 246 = .ok (.if_icmp .eq 1498, 3) := by decide +kernel
theorem dL_law_249 : decode cL_law 249 = .ok (.iconst 0, 1) := by decide +kernel
theorem dL_law_250 : decode cL_law 250 = .ok (.ireturn, 1) := by decide +kernel
theorem dL_law_251 : decode cL_law 251 = .ok (.aload_n 1, 1) := by decide +kernel
theorem dL_law_252 : decode cL_law 252 = .ok (.aload_n 0, 1) := by decide +kernel
theorem dL_law_253 : decode cL_law 253 = .ok (.iload_n 3, 1) := by decide +kernel
theorem dL_law_254 : decode cL_law 254 = .ok (.iconst 1, 1) := by decide +kernel
theorem dL_law_255 : decode cL_law 255 = .ok (.iadd, 1) := by decide +kernel
theorem dL_law_256 : decode cL_law 256 = .ok (.iaload, 1) := by decide +kernel
theorem dL_law_257 : decode cL_law 257 = .ok (.aload_n 0, 1) := by decide +kernel
theorem dL_law_258 : decode cL_law 258 = .ok (.iload_n 3, 1) := by decide +kernel
theorem dL_law_259 : decode cL_law 259 = .ok (.iconst 2, 1) := by decide +kernel
theorem dL_law_260 : decode cL_law 260 = .ok (.iadd, 1) := by decide +kernel
theorem dL_law_261 : decode cL_law 261 = .ok (.iaload, 1) := by decide +kernel
theorem dL_law_262 : decode cL_law 262 = .ok (.aload_n 0, 1) := by decide +kernel
theorem dL_law_263 : decode cL_law 263 = .ok (.iload_n 3, 1) := by decide +kernel
theorem dL_law_264 : decode cL_law 264 = .ok (.iconst 3, 1) := by decide +kernel
theorem dL_law_265 : decode cL_law 265 = .ok (.iadd, 1) := by decide +kernel
theorem dL_law_266 : decode cL_law 266 = .ok (.iaload, 1) := by decide +kernel
theorem dL_law_267 : decode cL_law 267 = .ok (.invokevirtual 18, 3) := by decide +kernel
theorem dL_law_270 : decode cL_law 270 = .ok (.aload_n 2, 1) := by decide +kernel
theorem dL_law_271 : decode cL_law 271 = .ok (.aload_n 0, 1) := by decide +kernel
theorem dL_law_272 : decode cL_law 272 = .ok (.iload_n 3, 1) := by decide +kernel
theorem dL_law_273 : decode cL_law 273 = .ok (.iconst 1, 1) := by decide +kernel
theorem dL_law_274 : decode cL_law 274 = .ok (.iadd, 1) := by decide +kernel
theorem dL_law_275 : decode cL_law 275 = .ok (.iaload, 1) := by decide +kernel
theorem dL_law_276 : decode cL_law 276 = .ok (.aload_n 0, 1) := by decide +kernel
theorem dL_law_277 : decode cL_law 277 = .ok (.iload_n 3, 1) := by decide +kernel
theorem dL_law_278 : decode cL_law 278 = .ok (.iconst 2, 1) := by decide +kernel
theorem dL_law_279 : decode cL_law 279 = .ok (.iadd, 1) := by decide +kernel
theorem dL_law_280 : decode cL_law 280 = .ok (.iaload, 1) := by decide +kernel
theorem dL_law_281 : decode cL_law 281 = .ok (.aload_n 0, 1) := by decide +kernel
theorem dL_law_282 : decode cL_law 282 = .ok (.iload_n 3, 1) := by decide +kernel
theorem dL_law_283 : decode cL_law 283 = .ok (.iconst 3, 1) := by decide +kernel
theorem dL_law_284 : decode cL_law 284 = .ok (.iadd, 1) := by decide +kernel
theorem dL_law_285 : decode cL_law 285 = .ok (.iaload, 1) := by decide +kernel
theorem dL_law_286 : decode cL_law 286 = .ok (.invokevirtual 22, 3) := by decide +kernel
theorem dL_law_289 : decode cL_law 289 = .ok (.if_icmp .eq 1455, 3) := by decide +kernel
theorem dL_law_292 : decode cL_law 292 = .ok (.iconst 0, 1) := by decide +kernel
theorem dL_law_293 : decode cL_law 293 = .ok (.ireturn, 1) := by decide +kernel
theorem dL_law_294 : decode cL_law 294 = .ok (.aload_n 1, 1) := by decide +kernel
theorem dL_law_295 : decode cL_law 295 = .ok (.aload_n 0, 1) := by decide +kernel
theorem dL_law_296 : decode cL_law 296 = .ok (.iload_n 3, 1) := by decide +kernel
theorem dL_law_297 : decode cL_law 297 = .ok (.iconst 1, 1) := by decide +kernel
theorem dL_law_298 : decode cL_law 298 = .ok (.iadd, 1) := by decide +kernel
theorem dL_law_299 : decode cL_law 299 = .ok (.iaload, 1) := by decide +kernel
theorem dL_law_300 : decode cL_law 300 = .ok (.aload_n 0, 1) := by decide +kernel
theorem dL_law_301 : decode cL_law 301 = .ok (.iload_n 3, 1) := by decide +kernel
theorem dL_law_302 : decode cL_law 302 = .ok (.iconst 2, 1) := by decide +kernel
theorem dL_law_303 : decode cL_law 303 = .ok (.iadd, 1) := by decide +kernel
theorem dL_law_304 : decode cL_law 304 = .ok (.iaload, 1) := by decide +kernel
theorem dL_law_305 : decode cL_law 305 = .ok (.aload_n 0, 1) := by decide +kernel
theorem dL_law_306 : decode cL_law 306 = .ok (.iload_n 3, 1) := by decide +kernel
theorem dL_law_307 : decode cL_law 307 = .ok (.iconst 3, 1) := by decide +kernel
theorem dL_law_308 : decode cL_law 308 = .ok (.iadd, 1) := by decide +kernel
theorem dL_law_309 : decode cL_law 309 = .ok (.iaload, 1) := by decide +kernel
theorem dL_law_310 : decode cL_law 310 = .ok (.invokevirtual 23, 3) := by decide +kernel
theorem dL_law_313 : decode cL_law 313 = .ok (.aload_n 2, 1) := by decide +kernel
theorem dL_law_314 : decode cL_law 314 = .ok (.aload_n 0, 1) := by decide +kernel
theorem dL_law_315 : decode cL_law 315 = .ok (.iload_n 3, 1) := by decide +kernel
theorem dL_law_316 : decode cL_law 316 = .ok (.iconst 1, 1) := by decide +kernel
theorem dL_law_317 : decode cL_law 317 = .ok (.iadd, 1) := by decide +kernel
theorem dL_law_318 : decode cL_law 318 = .ok (.iaload, 1) := by decide +kernel
theorem dL_law_319 : decode cL_law 319 = .ok (.aload_n 0, 1) := by decide +kernel
theorem dL_law_320 : decode cL_law 320 = .ok (.iload_n 3, 1) := by decide +kernel
theorem dL_law_321 : decode cL_law 321 = .ok (.iconst 2, 1) := by decide +kernel
theorem dL_law_322 : decode cL_law 322 = .ok (.iadd, 1) := by decide +kernel
theorem dL_law_323 : decode cL_law 323 = .ok (.iaload, 1) := by decide +kernel
theorem dL_law_324 : decode cL_law 324 = .ok (.aload_n 0, 1) := by decide +kernel
theorem dL_law_325 : decode cL_law 325 = .ok (.iload_n 3, 1) := by decide +kernel
theorem dL_law_326 : decode cL_law 326 = .ok (.iconst 3, 1) := by decide +kernel
theorem dL_law_327 : decode cL_law 327 = .ok (.iadd, 1) := by decide +kernel
theorem dL_law_328 : decode cL_law 328 = .ok (.iaload, 1) := by decide +kernel
theorem dL_law_329 : decode cL_law 329 = .ok (.invokevirtual 26, 3) := by decide +kernel
theorem dL_law_332 : decode cL_law 332 = .ok (.if_icmp .eq 1412, 3) := by decide +kernel
theorem dL_law_335 : decode cL_law 335 = .ok (.iconst 0, 1) := by decide +kernel
theorem dL_law_336 : decode cL_law 336 = .ok (.ireturn, 1) := by decide +kernel
theorem dL_law_337 : decode cL_law 337 = .ok (.aload_n 1, 1) := by decide +kernel
theorem dL_law_338 : decode cL_law 338 = .ok (.aload_n 0, 1) := by decide +kernel
theorem dL_law_339 : decode cL_law 339 = .ok (.iload_n 3, 1) := by decide +kernel
theorem dL_law_340 : decode cL_law 340 = .ok (.iconst 1, 1) := by decide +kernel
theorem dL_law_341 : decode cL_law 341 = .ok (.iadd, 1) := by decide +kernel
theorem dL_law_342 : decode cL_law 342 = .ok (.iaload, 1) := by decide +kernel
theorem dL_law_343 : decode cL_law 343 = .ok (.aload_n 0, 1) := by decide +kernel
theorem dL_law_344 : decode cL_law 344 = .ok (.iload_n 3, 1) := by decide +kernel
theorem dL_law_345 : decode cL_law 345 = .ok (.iconst 2, 1) := by decide +kernel
theorem dL_law_346 : decode cL_law 346 = .ok (.iadd, 1) := by decide +kernel
theorem dL_law_347 : decode cL_law 347 = .ok (.iaload, 1) := by decide +kernel
theorem dL_law_348 : decode cL_law 348 = .ok (.invokevirtual 27, 3) := by decide +kernel
theorem dL_law_351 : decode cL_law 351 = .ok (.aload_n 2, 1) := by decide +kernel
theorem dL_law_352 : decode cL_law 352 = .ok (.aload_n 0, 1) := by decide +kernel
theorem dL_law_353 : decode cL_law 353 = .ok (.iload_n 3, 1) := by decide +kernel
theorem dL_law_354 : decode cL_law 354 = .ok (.iconst 1, 1) := by decide +kernel
theorem dL_law_355 : decode cL_law 355 = .ok (.iadd, 1) := by decide +kernel
theorem dL_law_356 : decode cL_law 356 = .ok (.iaload, 1) := by decide +kernel
theorem dL_law_357 : decode cL_law 357 = .ok (.aload_n 0, 1) := by decide +kernel
theorem dL_law_358 : decode cL_law 358 = .ok (.iload_n 3, 1) := by decide +kernel
theorem dL_law_359 : decode cL_law 359 = .ok (.iconst 2, 1) := by decide +kernel
theorem dL_law_360 : decode cL_law 360 = .ok (.iadd, 1) := by decide +kernel
theorem dL_law_361 : decode cL_law 361 = .ok (.iaload, 1) := by decide +kernel
theorem dL_law_362 : decode cL_law 362 = .ok (.invokevirtual 31, 3) := by decide +kernel
theorem dL_law_365 : decode cL_law 365 = .ok (.if_icmp .eq 1379, 3) := by decide +kernel
theorem dL_law_368 : decode cL_law 368 = .ok (.iconst 0, 1) := by decide +kernel
theorem dL_law_369 : decode cL_law 369 = .ok (.ireturn, 1) := by decide +kernel
theorem dL_law_370 : decode cL_law 370 = .ok (.aload_n 1, 1) := by decide +kernel
theorem dL_law_371 : decode cL_law 371 = .ok (.aload_n 0, 1) := by decide +kernel
theorem dL_law_372 : decode cL_law 372 = .ok (.iload_n 3, 1) := by decide +kernel
theorem dL_law_373 : decode cL_law 373 = .ok (.iconst 1, 1) := by decide +kernel
theorem dL_law_374 : decode cL_law 374 = .ok (.iadd, 1) := by decide +kernel
theorem dL_law_375 : decode cL_law 375 = .ok (.iaload, 1) := by decide +kernel
theorem dL_law_376 : decode cL_law 376 = .ok (.invokevirtual 32, 3) := by decide +kernel
theorem dL_law_379 : decode cL_law 379 = .ok (.aload_n 2, 1) := by decide +kernel
theorem dL_law_380 : decode cL_law 380 = .ok (.aload_n 0, 1) := by decide +kernel
theorem dL_law_381 : decode cL_law 381 = .ok (.iload_n 3, 1) := by decide +kernel
theorem dL_law_382 : decode cL_law 382 = .ok (.iconst 1, 1) := by decide +kernel
theorem dL_law_383 : decode cL_law 383 = .ok (.iadd, 1) := by decide +kernel
theorem dL_law_384 : decode cL_law 384 = .ok (.iaload, 1) := by decide +kernel
theorem dL_law_385 : decode cL_law 385 = .ok (.invokevirtual 35, 3) := by decide +kernel
theorem dL_law_388 : decode cL_law 388 = .ok (.if_icmp .eq 1356, 3) := by decide +kernel
theorem dL_law_391 : decode cL_law 391 = .ok (.iconst 0, 1) := by decide +kernel
theorem dL_law_392 : decode cL_law 392 = .ok (.ireturn, 1) := by decide +kernel
theorem dL_law_393 : decode cL_law 393 = .ok (.aload_n 1, 1) := by decide +kernel
theorem dL_law_394 : decode cL_law 394 = .ok (.invokevirtual 36, 3) := by decide +kernel
theorem dL_law_397 : decode cL_law 397 = .ok (.aload_n 2, 1) := by decide +kernel
theorem dL_law_398 : decode cL_law 398 = .ok (.invokevirtual 40, 3) := by decide +kernel
theorem dL_law_401 : decode cL_law 401 = .ok (.if_icmp .eq 1343, 3) := by decide +kernel
theorem dL_law_404 : decode cL_law 404 = .ok (.iconst 0, 1) := by decide +kernel
theorem dL_law_405 : decode cL_law 405 = .ok (.ireturn, 1) := by decide +kernel
theorem dL_law_406 : decode cL_law 406 = .ok (.aload_n 1, 1) := by decide +kernel
theorem dL_law_407 : decode cL_law 407 = .ok (.aload_n 0, 1) := by decide +kernel
theorem dL_law_408 : decode cL_law 408 = .ok (.iload_n 3, 1) := by decide +kernel
theorem dL_law_409 : decode cL_law 409 = .ok (.iconst 1, 1) := by decide +kernel
theorem dL_law_410 : decode cL_law 410 = .ok (.iadd, 1) := by decide +kernel
theorem dL_law_411 : decode cL_law 411 = .ok (.iaload, 1) := by decide +kernel
theorem dL_law_412 : decode cL_law 412 = .ok (.aload_n 0, 1) := by decide +kernel
theorem dL_law_413 : decode cL_law 413 = .ok (.iload_n 3, 1) := by decide +kernel
theorem dL_law_414 : decode cL_law 414 = .ok (.iconst 2, 1) := by decide +kernel
theorem dL_law_415 : decode cL_law 415 = .ok (.iadd, 1) := by decide +kernel
theorem dL_law_416 : decode cL_law 416 = .ok (.iaload, 1) := by decide +kernel
theorem dL_law_417 : decode cL_law 417 = .ok (.invokevirtual 41, 3) := by decide +kernel
theorem dL_law_420 : decode cL_law 420 = .ok (.aload_n 2, 1) := by decide +kernel
theorem dL_law_421 : decode cL_law 421 = .ok (.aload_n 0, 1) := by decide +kernel
theorem dL_law_422 : decode cL_law 422 = .ok (.iload_n 3, 1) := by decide +kernel
theorem dL_law_423 : decode cL_law 423 = .ok (.iconst 1, 1) := by decide +kernel
theorem dL_law_424 : decode cL_law 424 = .ok (.iadd, 1) := by decide +kernel
theorem dL_law_425 : decode cL_law 425 = .ok (.iaload, 1) := by decide +kernel
theorem dL_law_426 : decode cL_law 426 = .ok (.aload_n 0, 1) := by decide +kernel
theorem dL_law_427 : decode cL_law 427 = .ok (.iload_n 3, 1) := by decide +kernel
theorem dL_law_428 : decode cL_law 428 = .ok (.iconst 2, 1) := by decide +kernel
theorem dL_law_429 : decode cL_law 429 = .ok (.iadd, 1) := by decide +kernel
theorem dL_law_430 : decode cL_law 430 = .ok (.iaload, 1) := by decide +kernel
theorem dL_law_431 : decode cL_law 431 = .ok (.invokevirtual 44, 3) := by decide +kernel
theorem dL_law_434 : decode cL_law 434 = .ok (.if_icmp .eq 1310, 3) := by decide +kernel
theorem dL_law_437 : decode cL_law 437 = .ok (.iconst 0, 1) := by decide +kernel
theorem dL_law_438 : decode cL_law 438 = .ok (.ireturn, 1) := by decide +kernel
theorem dL_law_439 : decode cL_law 439 = .ok (.aload_n 1, 1) := by decide +kernel
theorem dL_law_440 : decode cL_law 440 = .ok (.aload_n 0, 1) := by decide +kernel
theorem dL_law_441 : decode cL_law 441 = .ok (.iload_n 3, 1) := by decide +kernel
theorem dL_law_442 : decode cL_law 442 = .ok (.iconst 1, 1) := by decide +kernel
theorem dL_law_443 : decode cL_law 443 = .ok (.iadd, 1) := by decide +kernel
theorem dL_law_444 : decode cL_law 444 = .ok (.iaload, 1) := by decide +kernel
theorem dL_law_445 : decode cL_law 445 = .ok (.aload_n 0, 1) := by decide +kernel
theorem dL_law_446 : decode cL_law 446 = .ok (.iload_n 3, 1) := by decide +kernel
theorem dL_law_447 : decode cL_law 447 = .ok (.iconst 2, 1) := by decide +kernel
theorem dL_law_448 : decode cL_law 448 = .ok (.iadd, 1) := by decide +kernel
theorem dL_law_449 : decode cL_law 449 = .ok (.iaload, 1) := by decide +kernel
theorem dL_law_450 : decode cL_law 450 = .ok (.invokevirtual 45, 3) := by decide +kernel
theorem dL_law_453 : decode cL_law 453 = .ok (.aload_n 2, 1) := by decide +kernel
theorem dL_law_454 : decode cL_law 454 = .ok (.aload_n 0, 1) := by decide +kernel
theorem dL_law_455 : decode cL_law 455 = .ok (.iload_n 3, 1) := by decide +kernel
theorem dL_law_456 : decode cL_law 456 = .ok (.iconst 1, 1) := by decide +kernel
theorem dL_law_457 : decode cL_law 457 = .ok (.iadd, 1) := by decide +kernel
theorem dL_law_458 : decode cL_law 458 = .ok (.iaload, 1) := by decide +kernel
theorem dL_law_459 : decode cL_law 459 = .ok (.aload_n 0, 1) := by decide +kernel
theorem dL_law_460 : decode cL_law 460 = .ok (.iload_n 3, 1) := by decide +kernel
theorem dL_law_461 : decode cL_law 461 = .ok (.iconst 2, 1) := by decide +kernel
theorem dL_law_462 : decode cL_law 462 = .ok (.iadd, 1) := by decide +kernel
theorem dL_law_463 : decode cL_law 463 = .ok (.iaload, 1) := by decide +kernel
theorem dL_law_464 : decode cL_law 464 = .ok (.invokevirtual 48, 3) := by decide +kernel
theorem dL_law_467 : decode cL_law 467 = .ok (.if_icmp .eq 1277, 3) := by decide +kernel
theorem dL_law_470 : decode cL_law 470 = .ok (.iconst 0, 1) := by decide +kernel
theorem dL_law_471 : decode cL_law 471 = .ok (.ireturn, 1) := by decide +kernel
theorem dL_law_472 : decode cL_law 472 = .ok (.aload_n 1, 1) := by decide +kernel
theorem dL_law_473 : decode cL_law 473 = .ok (.aload_n 0, 1) := by decide +kernel
theorem dL_law_474 : decode cL_law 474 = .ok (.iload_n 3, 1) := by decide +kernel
theorem dL_law_475 : decode cL_law 475 = .ok (.iconst 1, 1) := by decide +kernel
theorem dL_law_476 : decode cL_law 476 = .ok (.iadd, 1) := by decide +kernel
theorem dL_law_477 : decode cL_law 477 = .ok (.iaload, 1) := by decide +kernel
theorem dL_law_478 : decode cL_law 478 = .ok (.aload_n 0, 1) := by decide +kernel
theorem dL_law_479 : decode cL_law 479 = .ok (.iload_n 3, 1) := by decide +kernel
theorem dL_law_480 : decode cL_law 480 = .ok (.iconst 2, 1) := by decide +kernel
theorem dL_law_481 : decode cL_law 481 = .ok (.iadd, 1) := by decide +kernel
theorem dL_law_482 : decode cL_law 482 = .ok (.iaload, 1) := by decide +kernel
theorem dL_law_483 : decode cL_law 483 = .ok (.aload_n 0, 1) := by decide +kernel
theorem dL_law_484 : decode cL_law 484 = .ok (.iload_n 3, 1) := by decide +kernel
theorem dL_law_485 : decode cL_law 485 = .ok (.iconst 3, 1) := by decide +kernel
theorem dL_law_486 : decode cL_law 486 = .ok (.iadd, 1) := by decide +kernel
theorem dL_law_487 : decode cL_law 487 = .ok (.iaload, 1) := by decide +kernel
theorem dL_law_488 : decode cL_law 488 = .ok (.invokevirtual 49, 3) := by decide +kernel
theorem dL_law_491 : decode cL_law 491 = .ok (.aload_n 2, 1) := by decide +kernel
theorem dL_law_492 : decode cL_law 492 = .ok (.aload_n 0, 1) := by decide +kernel
theorem dL_law_493 : decode cL_law 493 = .ok (.iload_n 3, 1) := by decide +kernel
theorem dL_law_494 : decode cL_law 494 = .ok (.iconst 1, 1) := by decide +kernel
theorem dL_law_495 : decode cL_law 495 = .ok (.iadd, 1) := by decide +kernel
theorem dL_law_496 : decode cL_law 496 = .ok (.iaload, 1) := by decide +kernel
theorem dL_law_497 : decode cL_law 497 = .ok (.aload_n 0, 1) := by decide +kernel
theorem dL_law_498 : decode cL_law 498 = .ok (.iload_n 3, 1) := by decide +kernel
theorem dL_law_499 : decode cL_law 499 = .ok (.iconst 2, 1) := by decide +kernel
theorem dL_law_500 : decode cL_law 500 = .ok (.iadd, 1) := by decide +kernel
theorem dL_law_501 : decode cL_law 501 = .ok (.iaload, 1) := by decide +kernel
theorem dL_law_502 : decode cL_law 502 = .ok (.aload_n 0, 1) := by decide +kernel
theorem dL_law_503 : decode cL_law 503 = .ok (.iload_n 3, 1) := by decide +kernel
theorem dL_law_504 : decode cL_law 504 = .ok (.iconst 3, 1) := by decide +kernel
theorem dL_law_505 : decode cL_law 505 = .ok (.iadd, 1) := by decide +kernel
theorem dL_law_506 : decode cL_law 506 = .ok (.iaload, 1) := by decide +kernel
theorem dL_law_507 : decode cL_law 507 = .ok (.invokevirtual 52, 3) := by decide +kernel
theorem dL_law_510 : decode cL_law 510 = .ok (.if_icmp .eq 1234, 3) := by decide +kernel
theorem dL_law_513 : decode cL_law 513 = .ok (.iconst 0, 1) := by decide +kernel
theorem dL_law_514 : decode cL_law 514 = .ok (.ireturn, 1) := by decide +kernel
theorem dL_law_515 : decode cL_law 515 = .ok (.aload_n 1, 1) := by decide +kernel
theorem dL_law_516 : decode cL_law 516 = .ok (.aload_n 0, 1) := by decide +kernel
theorem dL_law_517 : decode cL_law 517 = .ok (.iload_n 3, 1) := by decide +kernel
theorem dL_law_518 : decode cL_law 518 = .ok (.iconst 1, 1) := by decide +kernel
theorem dL_law_519 : decode cL_law 519 = .ok (.iadd, 1) := by decide +kernel
theorem dL_law_520 : decode cL_law 520 = .ok (.iaload, 1) := by decide +kernel
theorem dL_law_521 : decode cL_law 521 = .ok (.aload_n 0, 1) := by decide +kernel
theorem dL_law_522 : decode cL_law 522 = .ok (.iload_n 3, 1) := by decide +kernel
theorem dL_law_523 : decode cL_law 523 = .ok (.iconst 2, 1) := by decide +kernel
theorem dL_law_524 : decode cL_law 524 = .ok (.iadd, 1) := by decide +kernel
theorem dL_law_525 : decode cL_law 525 = .ok (.iaload, 1) := by decide +kernel
theorem dL_law_526 : decode cL_law 526 = .ok (.aload_n 0, 1) := by decide +kernel
theorem dL_law_527 : decode cL_law 527 = .ok (.iload_n 3, 1) := by decide +kernel
theorem dL_law_528 : decode cL_law 528 = .ok (.iconst 3, 1) := by decide +kernel
theorem dL_law_529 : decode cL_law 529 = .ok (.iadd, 1) := by decide +kernel
theorem dL_law_530 : decode cL_law 530 = .ok (.iaload, 1) := by decide +kernel
theorem dL_law_531 : decode cL_law 531 = .ok (.aload_n 0, 1) := by decide +kernel
theorem dL_law_532 : decode cL_law 532 = .ok (.iload_n 3, 1) := by decide +kernel
theorem dL_law_533 : decode cL_law 533 = .ok (.iconst 4, 1) := by decide +kernel
theorem dL_law_534 : decode cL_law 534 = .ok (.iadd, 1) := by decide +kernel
theorem dL_law_535 : decode cL_law 535 = .ok (.iaload, 1) := by decide +kernel
theorem dL_law_536 : decode cL_law 536 = .ok (.invokevirtual 53, 3) := by decide +kernel
theorem dL_law_539 : decode cL_law 539 = .ok (.aload_n 2, 1) := by decide +kernel
theorem dL_law_540 : decode cL_law 540 = .ok (.aload_n 0, 1) := by decide +kernel
theorem dL_law_541 : decode cL_law 541 = .ok (.iload_n 3, 1) := by decide +kernel
theorem dL_law_542 : decode cL_law 542 = .ok (.iconst 1, 1) := by decide +kernel
theorem dL_law_543 : decode cL_law 543 = .ok (.iadd, 1) := by decide +kernel
theorem dL_law_544 : decode cL_law 544 = .ok (.iaload, 1) := by decide +kernel
theorem dL_law_545 : decode cL_law 545 = .ok (.aload_n 0, 1) := by decide +kernel
theorem dL_law_546 : decode cL_law 546 = .ok (.iload_n 3, 1) := by decide +kernel
theorem dL_law_547 : decode cL_law 547 = .ok (.iconst 2, 1) := by decide +kernel
theorem dL_law_548 : decode cL_law 548 = .ok (.iadd, 1) := by decide +kernel
theorem dL_law_549 : decode cL_law 549 = .ok (.iaload, 1) := by decide +kernel
theorem dL_law_550 : decode cL_law 550 = .ok (.aload_n 0, 1) := by decide +kernel
theorem dL_law_551 : decode cL_law 551 = .ok (.iload_n 3, 1) := by decide +kernel
theorem dL_law_552 : decode cL_law 552 = .ok (.iconst 3, 1) := by decide +kernel
theorem dL_law_553 : decode cL_law 553 = .ok (.iadd, 1) := by decide +kernel
theorem dL_law_554 : decode cL_law 554 = .ok (.iaload, 1) := by decide +kernel
theorem dL_law_555 : decode cL_law 555 = .ok (.aload_n 0, 1) := by decide +kernel
theorem dL_law_556 : decode cL_law 556 = .ok (.iload_n 3, 1) := by decide +kernel
theorem dL_law_557 : decode cL_law 557 = .ok (.iconst 4, 1) := by decide +kernel
theorem dL_law_558 : decode cL_law 558 = .ok (.iadd, 1) := by decide +kernel
theorem dL_law_559 : decode cL_law 559 = .ok (.iaload, 1) := by decide +kernel
theorem dL_law_560 : decode cL_law 560 = .ok (.invokevirtual 57, 3) := by decide +kernel
theorem dL_law_563 : decode cL_law 563 = .ok (.if_icmp .eq 1181, 3) := by decide +kernel
theorem dL_law_566 : decode cL_law 566 = .ok (.iconst 0, 1) := by decide +kernel
theorem dL_law_567 : decode cL_law 567 = .ok (.ireturn, 1) := by decide +kernel
theorem dL_law_568 : decode cL_law 568 = .ok (.aload_n 1, 1) := by decide +kernel
theorem dL_law_569 : decode cL_law 569 = .ok (.aload_n 0, 1) := by decide +kernel
theorem dL_law_570 : decode cL_law 570 = .ok (.iload_n 3, 1) := by decide +kernel
theorem dL_law_571 : decode cL_law 571 = .ok (.iconst 1, 1) := by decide +kernel
theorem dL_law_572 : decode cL_law 572 = .ok (.iadd, 1) := by decide +kernel
theorem dL_law_573 : decode cL_law 573 = .ok (.iaload, 1) := by decide +kernel
theorem dL_law_574 : decode cL_law 574 = .ok (.aload_n 0, 1) := by decide +kernel
theorem dL_law_575 : decode cL_law 575 = .ok (.iload_n 3, 1) := by decide +kernel
theorem dL_law_576 : decode cL_law 576 = .ok (.iconst 2, 1) := by decide +kernel
theorem dL_law_577 : decode cL_law 577 = .ok (.iadd, 1) := by decide +kernel
theorem dL_law_578 : decode cL_law 578 = .ok (.iaload, 1) := by decide +kernel
theorem dL_law_579 : decode cL_law 579 = .ok (.aload_n 0, 1) := by decide +kernel
theorem dL_law_580 : decode cL_law 580 = .ok (.iload_n 3, 1) := by decide +kernel
theorem dL_law_581 : decode cL_law 581 = .ok (.iconst 3, 1) := by decide +kernel
theorem dL_law_582 : decode cL_law 582 = .ok (.iadd, 1) := by decide +kernel
theorem dL_law_583 : decode cL_law 583 = .ok (.iaload, 1) := by decide +kernel
theorem dL_law_584 : decode cL_law 584 = .ok (.aload_n 0, 1) := by decide +kernel
theorem dL_law_585 : decode cL_law 585 = .ok (.iload_n 3, 1) := by decide +kernel
theorem dL_law_586 : decode cL_law 586 = .ok (.iconst 4, 1) := by decide +kernel
theorem dL_law_587 : decode cL_law 587 = .ok (.iadd, 1) := by decide +kernel
theorem dL_law_588 : decode cL_law 588 = .ok (.iaload, 1) := by decide +kernel
theorem dL_law_589 : decode cL_law 589 = .ok (.invokevirtual 58, 3) := by decide +kernel
theorem dL_law_592 : decode cL_law 592 = .ok (.aload_n 2, 1) := by decide +kernel
theorem dL_law_593 : decode cL_law 593 = .ok (.aload_n 0, 1) := by decide +kernel
theorem dL_law_594 : decode cL_law 594 = .ok (.iload_n 3, 1) := by decide +kernel
theorem dL_law_595 : decode cL_law 595 = .ok (.iconst 1, 1) := by decide +kernel
theorem dL_law_596 : decode cL_law 596 = .ok (.iadd, 1) := by decide +kernel
theorem dL_law_597 : decode cL_law 597 = .ok (.iaload, 1) := by decide +kernel
theorem dL_law_598 : decode cL_law 598 = .ok (.aload_n 0, 1) := by decide +kernel
theorem dL_law_599 : decode cL_law 599 = .ok (.iload_n 3, 1) := by decide +kernel
theorem dL_law_600 : decode cL_law 600 = .ok (.iconst 2, 1) := by decide +kernel
theorem dL_law_601 : decode cL_law 601 = .ok (.iadd, 1) := by decide +kernel
theorem dL_law_602 : decode cL_law 602 = .ok (.iaload, 1) := by decide +kernel
theorem dL_law_603 : decode cL_law 603 = .ok (.aload_n 0, 1) := by decide +kernel
theorem dL_law_604 : decode cL_law 604 = .ok (.iload_n 3, 1) := by decide +kernel
theorem dL_law_605 : decode cL_law 605 = .ok (.iconst 3, 1) := by decide +kernel
theorem dL_law_606 : decode cL_law 606 = .ok (.iadd, 1) := by decide +kernel
theorem dL_law_607 : decode cL_law 607 = .ok (.iaload, 1) := by decide +kernel
theorem dL_law_608 : decode cL_law 608 = .ok (.aload_n 0, 1) := by decide +kernel
theorem dL_law_609 : decode cL_law 609 = .ok (.iload_n 3, 1) := by decide +kernel
theorem dL_law_610 : decode cL_law 610 = .ok (.iconst 4, 1) := by decide +kernel
theorem dL_law_611 : decode cL_law 611 = .ok (.iadd, 1) := by decide +kernel
theorem dL_law_612 : decode cL_law 612 = .ok (.iaload, 1) := by decide +kernel
theorem dL_law_613 : decode cL_law 613 = .ok (.invokevirtual 61, 3) := by decide +kernel
theorem dL_law_616 : decode cL_law 616 = .ok (.if_icmp .eq 1128, 3) := by decide +kernel
theorem dL_law_619 : decode cL_law 619 = .ok (.iconst 0, 1) := by decide +kernel
theorem dL_law_620 : decode cL_law 620 = .ok (.ireturn, 1) := by decide +kernel
theorem dL_law_621 : decode cL_law 621 = .ok (.aload_n 1, 1) := by decide +kernel
theorem dL_law_622 : decode cL_law 622 = .ok (.aload_n 0, 1) := by decide +kernel
theorem dL_law_623 : decode cL_law 623 = .ok (.iload_n 3, 1) := by decide +kernel
theorem dL_law_624 : decode cL_law 624 = .ok (.iconst 1, 1) := by decide +kernel
theorem dL_law_625 : decode cL_law 625 = .ok (.iadd, 1) := by decide +kernel
theorem dL_law_626 : decode cL_law 626 = .ok (.iaload, 1) := by decide +kernel
theorem dL_law_627 : decode cL_law 627 = .ok (.aload_n 0, 1) := by decide +kernel
theorem dL_law_628 : decode cL_law 628 = .ok (.iload_n 3, 1) := by decide +kernel
theorem dL_law_629 : decode cL_law 629 = .ok (.iconst 2, 1) := by decide +kernel
theorem dL_law_630 : decode cL_law 630 = .ok (.iadd, 1) := by decide +kernel
theorem dL_law_631 : decode cL_law 631 = .ok (.iaload, 1) := by decide +kernel
theorem dL_law_632 : decode cL_law 632 = .ok (.invokevirtual 62, 3) := by decide +kernel
theorem dL_law_635 : decode cL_law 635 = .ok (.aload_n 2, 1) := by decide +kernel
theorem dL_law_636 : decode cL_law 636 = .ok (.aload_n 0, 1) := by decide +kernel
theorem dL_law_637 : decode cL_law 637 = .ok (.iload_n 3, 1) := by decide +kernel
theorem dL_law_638 : decode cL_law 638 = .ok (.iconst 1, 1) := by decide +kernel
theorem dL_law_639 : decode cL_law 639 = .ok (.iadd, 1) := by decide +kernel
theorem dL_law_640 : decode cL_law 640 = .ok (.iaload, 1) := by decide +kernel
theorem dL_law_641 : decode cL_law 641 = .ok (.aload_n 0, 1) := by decide +kernel
theorem dL_law_642 : decode cL_law 642 = .ok (.iload_n 3, 1) := by decide +kernel
theorem dL_law_643 : decode cL_law 643 = .ok (.iconst 2, 1) := by decide +kernel
theorem dL_law_644 : decode cL_law 644 = .ok (.iadd, 1) := by decide +kernel
theorem dL_law_645 : decode cL_law 645 = .ok (.iaload, 1) := by decide +kernel
theorem dL_law_646 : decode cL_law 646 = .ok (.invokevirtual 65, 3) := by decide +kernel
theorem dL_law_649 : decode cL_law 649 = .ok (.if_icmp .eq 1095, 3) := by decide +kernel
theorem dL_law_652 : decode cL_law 652 = .ok (.iconst 0, 1) := by decide +kernel
theorem dL_law_653 : decode cL_law 653 = .ok (.ireturn, 1) := by decide +kernel
theorem dL_law_654 : decode cL_law 654 = .ok (.aload_n 1, 1) := by decide +kernel
theorem dL_law_655 : decode cL_law 655 = .ok (.aload_n 0, 1) := by decide +kernel
theorem dL_law_656 : decode cL_law 656 = .ok (.iload_n 3, 1) := by decide +kernel
theorem dL_law_657 : decode cL_law 657 = .ok (.iconst 1, 1) := by decide +kernel
theorem dL_law_658 : decode cL_law 658 = .ok (.iadd, 1) := by decide +kernel
theorem dL_law_659 : decode cL_law 659 = .ok (.iaload, 1) := by decide +kernel
theorem dL_law_660 : decode cL_law 660 = .ok (.aload_n 0, 1) := by decide +kernel
theorem dL_law_661 : decode cL_law 661 = .ok (.iload_n 3, 1) := by decide +kernel
theorem dL_law_662 : decode cL_law 662 = .ok (.iconst 2, 1) := by decide +kernel
theorem dL_law_663 : decode cL_law 663 = .ok (.iadd, 1) := by decide +kernel
theorem dL_law_664 : decode cL_law 664 = .ok (.iaload, 1) := by decide +kernel
theorem dL_law_665 : decode cL_law 665 = .ok (.invokevirtual 66, 3) := by decide +kernel
theorem dL_law_668 : decode cL_law 668 = .ok (.aload_n 2, 1) := by decide +kernel
theorem dL_law_669 : decode cL_law 669 = .ok (.aload_n 0, 1) := by decide +kernel
theorem dL_law_670 : decode cL_law 670 = .ok (.iload_n 3, 1) := by decide +kernel
theorem dL_law_671 : decode cL_law 671 = .ok (.iconst 1, 1) := by decide +kernel
theorem dL_law_672 : decode cL_law 672 = .ok (.iadd, 1) := by decide +kernel
theorem dL_law_673 : decode cL_law 673 = .ok (.iaload, 1) := by decide +kernel
theorem dL_law_674 : decode cL_law 674 = .ok (.aload_n 0, 1) := by decide +kernel
theorem dL_law_675 : decode cL_law 675 = .ok (.iload_n 3, 1) := by decide +kernel
theorem dL_law_676 : decode cL_law 676 = .ok (.iconst 2, 1) := by decide +kernel
theorem dL_law_677 : decode cL_law 677 = .ok (.iadd, 1) := by decide +kernel
theorem dL_law_678 : decode cL_law 678 = .ok (.iaload, 1) := by decide +kernel
theorem dL_law_679 : decode cL_law 679 = .ok (.invokevirtual 69, 3) := by decide +kernel
theorem dL_law_682 : decode cL_law 682 = .ok (.if_icmp .eq 1062, 3) := by decide +kernel
theorem dL_law_685 : decode cL_law 685 = .ok (.iconst 0, 1) := by decide +kernel
theorem dL_law_686 : decode cL_law 686 = .ok (.ireturn, 1) := by decide +kernel
theorem dL_law_687 : decode cL_law 687 = .ok (.aload_n 1, 1) := by decide +kernel
theorem dL_law_688 : decode cL_law 688 = .ok (.aload_n 0, 1) := by decide +kernel
theorem dL_law_689 : decode cL_law 689 = .ok (.iload_n 3, 1) := by decide +kernel
theorem dL_law_690 : decode cL_law 690 = .ok (.iconst 1, 1) := by decide +kernel
theorem dL_law_691 : decode cL_law 691 = .ok (.iadd, 1) := by decide +kernel
theorem dL_law_692 : decode cL_law 692 = .ok (.iaload, 1) := by decide +kernel
theorem dL_law_693 : decode cL_law 693 = .ok (.invokevirtual 70, 3) := by decide +kernel
theorem dL_law_696 : decode cL_law 696 = .ok (.aload_n 2, 1) := by decide +kernel
theorem dL_law_697 : decode cL_law 697 = .ok (.aload_n 0, 1) := by decide +kernel
theorem dL_law_698 : decode cL_law 698 = .ok (.iload_n 3, 1) := by decide +kernel
theorem dL_law_699 : decode cL_law 699 = .ok (.iconst 1, 1) := by decide +kernel
theorem dL_law_700 : decode cL_law 700 = .ok (.iadd, 1) := by decide +kernel
theorem dL_law_701 : decode cL_law 701 = .ok (.iaload, 1) := by decide +kernel
theorem dL_law_702 : decode cL_law 702 = .ok (.invokevirtual 73, 3) := by decide +kernel
theorem dL_law_705 : decode cL_law 705 = .ok (.if_icmp .eq 1039, 3) := by decide +kernel
theorem dL_law_708 : decode cL_law 708 = .ok (.iconst 0, 1) := by decide +kernel
theorem dL_law_709 : decode cL_law 709 = .ok (.ireturn, 1) := by decide +kernel
theorem dL_law_710 : decode cL_law 710 = .ok (.aload_n 1, 1) := by decide +kernel
theorem dL_law_711 : decode cL_law 711 = .ok (.aload_n 0, 1) := by decide +kernel
theorem dL_law_712 : decode cL_law 712 = .ok (.iload_n 3, 1) := by decide +kernel
theorem dL_law_713 : decode cL_law 713 = .ok (.iconst 1, 1) := by decide +kernel
theorem dL_law_714 : decode cL_law 714 = .ok (.iadd, 1) := by decide +kernel
theorem dL_law_715 : decode cL_law 715 = .ok (.iaload, 1) := by decide +kernel
theorem dL_law_716 : decode cL_law 716 = .ok (.aload_n 0, 1) := by decide +kernel
theorem dL_law_717 : decode cL_law 717 = .ok (.iload_n 3, 1) := by decide +kernel
theorem dL_law_718 : decode cL_law 718 = .ok (.iconst 2, 1) := by decide +kernel
theorem dL_law_719 : decode cL_law 719 = .ok (.iadd, 1) := by decide +kernel
theorem dL_law_720 : decode cL_law 720 = .ok (.iaload, 1) := by decide +kernel
theorem dL_law_721 : decode cL_law 721 = .ok (.invokevirtual 74, 3) := by decide +kernel
theorem dL_law_724 : decode cL_law 724 = .ok (.aload_n 2, 1) := by decide +kernel
theorem dL_law_725 : decode cL_law 725 = .ok (.aload_n 0, 1) := by decide +kernel
theorem dL_law_726 : decode cL_law 726 = .ok (.iload_n 3, 1) := by decide +kernel
theorem dL_law_727 : decode cL_law 727 = .ok (.iconst 1, 1) := by decide +kernel
theorem dL_law_728 : decode cL_law 728 = .ok (.iadd, 1) := by decide +kernel
theorem dL_law_729 : decode cL_law 729 = .ok (.iaload, 1) := by decide +kernel
theorem dL_law_730 : decode cL_law 730 = .ok (.aload_n 0, 1) := by decide +kernel
theorem dL_law_731 : decode cL_law 731 = .ok (.iload_n 3, 1) := by decide +kernel
theorem dL_law_732 : decode cL_law 732 = .ok (.iconst 2, 1) := by decide +kernel
theorem dL_law_733 : decode cL_law 733 = .ok (.iadd, 1) := by decide +kernel
theorem dL_law_734 : decode cL_law 734 = .ok (.iaload, 1) := by decide +kernel
theorem dL_law_735 : decode cL_law 735 = .ok (.invokevirtual 77, 3) := by decide +kernel
theorem dL_law_738 : decode cL_law 738 = .ok (.if_icmp .eq 1006, 3) := by decide +kernel
theorem dL_law_741 : decode cL_law 741 = .ok (.iconst 0, 1) := by decide +kernel
theorem dL_law_742 : decode cL_law 742 = .ok (.ireturn, 1) := by decide +kernel
theorem dL_law_743 : decode cL_law 743 = .ok (.aload_n 1, 1) := by decide +kernel
theorem dL_law_744 : decode cL_law 744 = .ok (.aload_n 0, 1) := by decide +kernel
theorem dL_law_745 : decode cL_law 745 = .ok (.iload_n 3, 1) := by decide +kernel
theorem dL_law_746 : decode cL_law 746 = .ok (.iconst 1, 1) := by decide +kernel
theorem dL_law_747 : decode cL_law 747 = .ok (.iadd, 1) := by decide +kernel
theorem dL_law_748 : decode cL_law 748 = .ok (.iaload, 1) := by decide +kernel
theorem dL_law_749 : decode cL_law 749 = .ok (.aload_n 0, 1) := by decide +kernel
theorem dL_law_750 : decode cL_law 750 = .ok (.iload_n 3, 1) := by decide +kernel
theorem dL_law_751 : decode cL_law 751 = .ok (.iconst 2, 1) := by decide +kernel
theorem dL_law_752 : decode cL_law 752 = .ok (.iadd, 1) := by decide +kernel
theorem dL_law_753 : decode cL_law 753 = .ok (.iaload, 1) := by decide +kernel
theorem dL_law_754 : decode cL_law 754 = .ok (.invokevirtual 78, 3) := by decide +kernel
theorem dL_law_757 : decode cL_law 757 = .ok (.aload_n 2, 1) := by decide +kernel
theorem dL_law_758 : decode cL_law 758 = .ok (.aload_n 0, 1) := by decide +kernel
theorem dL_law_759 : decode cL_law 759 = .ok (.iload_n 3, 1) := by decide +kernel
theorem dL_law_760 : decode cL_law 760 = .ok (.iconst 1, 1) := by decide +kernel
theorem dL_law_761 : decode cL_law 761 = .ok (.iadd, 1) := by decide +kernel
theorem dL_law_762 : decode cL_law 762 = .ok (.iaload, 1) := by decide +kernel
theorem dL_law_763 : decode cL_law 763 = .ok (.aload_n 0, 1) := by decide +kernel
theorem dL_law_764 : decode cL_law 764 = .ok (.iload_n 3, 1) := by decide +kernel
theorem dL_law_765 : decode cL_law 765 = .ok (.iconst 2, 1) := by decide +kernel
theorem dL_law_766 : decode cL_law 766 = .ok (.iadd, 1) := by decide +kernel
theorem dL_law_767 : decode cL_law 767 = .ok (.iaload, 1) := by decide +kernel
theorem dL_law_768 : decode cL_law 768 = .ok (.invokevirtual 81, 3) := by decide +kernel
theorem dL_law_771 : decode cL_law 771 = .ok (.if_icmp .eq 973, 3) := by decide +kernel
theorem dL_law_774 : decode cL_law 774 = .ok (.iconst 0, 1) := by decide +kernel
theorem dL_law_775 : decode cL_law 775 = .ok (.ireturn, 1) := by decide +kernel
theorem dL_law_776 : decode cL_law 776 = .ok (.aload_n 1, 1) := by decide +kernel
theorem dL_law_777 : decode cL_law 777 = .ok (.aload_n 0, 1) := by decide +kernel
theorem dL_law_778 : decode cL_law 778 = .ok (.iload_n 3, 1) := by decide +kernel
theorem dL_law_779 : decode cL_law 779 = .ok (.iconst 1, 1) := by decide +kernel
theorem dL_law_780 : decode cL_law 780 = .ok (.iadd, 1) := by decide +kernel
theorem dL_law_781 : decode cL_law 781 = .ok (.iaload, 1) := by decide +kernel
theorem dL_law_782 : decode cL_law 782 = .ok (.aload_n 0, 1) := by decide +kernel
theorem dL_law_783 : decode cL_law 783 = .ok (.iload_n 3, 1) := by decide +kernel
theorem dL_law_784 : decode cL_law 784 = .ok (.iconst 2, 1) := by decide +kernel
theorem dL_law_785 : decode cL_law 785 = .ok (.iadd, 1) := by decide +kernel
theorem dL_law_786 : decode cL_law 786 = .ok (.iaload, 1) := by decide +kernel
theorem dL_law_787 : decode cL_law 787 = .ok (.aload_n 0, 1) := by decide +kernel
theorem dL_law_788 : decode cL_law 788 = .ok (.iload_n 3, 1) := by decide +kernel
theorem dL_law_789 : decode cL_law 789 = .ok (.iconst 3, 1) := by decide +kernel
theorem dL_law_790 : decode cL_law 790 = .ok (.iadd, 1) := by decide +kernel
theorem dL_law_791 : decode cL_law 791 = .ok (.iaload, 1) := by decide +kernel
theorem dL_law_792 : decode cL_law 792 = .ok (.aload_n 0, 1) := by decide +kernel
theorem dL_law_793 : decode cL_law 793 = .ok (.iload_n 3, 1) := by decide +kernel
theorem dL_law_794 : decode cL_law 794 = .ok (.iconst 4, 1) := by decide +kernel
theorem dL_law_795 : decode cL_law 795 = .ok (.iadd, 1) := by decide +kernel
theorem dL_law_796 : decode cL_law 796 = .ok (.iaload, 1) := by decide +kernel
theorem dL_law_797 : decode cL_law 797 = .ok (.invokevirtual 82, 3) := by decide +kernel
theorem dL_law_800 : decode cL_law 800 = .ok (.aload_n 2, 1) := by decide +kernel
theorem dL_law_801 : decode cL_law 801 = .ok (.aload_n 0, 1) := by decide +kernel
theorem dL_law_802 : decode cL_law 802 = .ok (.iload_n 3, 1) := by decide +kernel
theorem dL_law_803 : decode cL_law 803 = .ok (.iconst 1, 1) := by decide +kernel
theorem dL_law_804 : decode cL_law 804 = .ok (.iadd, 1) := by decide +kernel
theorem dL_law_805 : decode cL_law 805 = .ok (.iaload, 1) := by decide +kernel
theorem dL_law_806 : decode cL_law 806 = .ok (.aload_n 0, 1) := by decide +kernel
theorem dL_law_807 : decode cL_law 807 = .ok (.iload_n 3, 1) := by decide +kernel
theorem dL_law_808 : decode cL_law 808 = .ok (.iconst 2, 1) := by decide +kernel
theorem dL_law_809 : decode cL_law 809 = .ok (.iadd, 1) := by decide +kernel
theorem dL_law_810 : decode cL_law 810 = .ok (.iaload, 1) := by decide +kernel
theorem dL_law_811 : decode cL_law 811 = .ok (.aload_n 0, 1) := by decide +kernel
theorem dL_law_812 : decode cL_law 812 = .ok (.iload_n 3, 1) := by decide +kernel
theorem dL_law_813 : decode cL_law 813 = .ok (.iconst 3, 1) := by decide +kernel
theorem dL_law_814 : decode cL_law 814 = .ok (.iadd, 1) := by decide +kernel
theorem dL_law_815 : decode cL_law 815 = .ok (.iaload, 1) := by decide +kernel
theorem dL_law_816 : decode cL_law 816 = .ok (.aload_n 0, 1) := by decide +kernel
theorem dL_law_817 : decode cL_law 817 = .ok (.iload_n 3, 1) := by decide +kernel
theorem dL_law_818 : decode cL_law 818 = .ok (.iconst 4, 1) := by decide +kernel
theorem dL_law_819 : decode cL_law 819 = .ok (.iadd, 1) := by decide +kernel
theorem dL_law_820 : decode cL_law 820 = .ok (.iaload, 1) := by decide +kernel
theorem dL_law_821 : decode cL_law 821 = .ok (.invokevirtual 85, 3) := by decide +kernel
theorem dL_law_824 : decode cL_law 824 = .ok (.if_icmp .eq 920, 3) := by decide +kernel
theorem dL_law_827 : decode cL_law 827 = .ok (.iconst 0, 1) := by decide +kernel
theorem dL_law_828 : decode cL_law 828 = .ok (.ireturn, 1) := by decide +kernel
theorem dL_law_829 : decode cL_law 829 = .ok (.aload_n 1, 1) := by decide +kernel
theorem dL_law_830 : decode cL_law 830 = .ok (.aload_n 0, 1) := by decide +kernel
theorem dL_law_831 : decode cL_law 831 = .ok (.iload_n 3, 1) := by decide +kernel
theorem dL_law_832 : decode cL_law 832 = .ok (.iconst 1, 1) := by decide +kernel
theorem dL_law_833 : decode cL_law 833 = .ok (.iadd, 1) := by decide +kernel
theorem dL_law_834 : decode cL_law 834 = .ok (.iaload, 1) := by decide +kernel
theorem dL_law_835 : decode cL_law 835 = .ok (.aload_n 0, 1) := by decide +kernel
theorem dL_law_836 : decode cL_law 836 = .ok (.iload_n 3, 1) := by decide +kernel
theorem dL_law_837 : decode cL_law 837 = .ok (.iconst 2, 1) := by decide +kernel
theorem dL_law_838 : decode cL_law 838 = .ok (.iadd, 1) := by decide +kernel
theorem dL_law_839 : decode cL_law 839 = .ok (.iaload, 1) := by decide +kernel
theorem dL_law_840 : decode cL_law 840 = .ok (.invokevirtual 86, 3) := by decide +kernel
theorem dL_law_843 : decode cL_law 843 = .ok (.aload_n 2, 1) := by decide +kernel
theorem dL_law_844 : decode cL_law 844 = .ok (.aload_n 0, 1) := by decide +kernel
theorem dL_law_845 : decode cL_law 845 = .ok (.iload_n 3, 1) := by decide +kernel
theorem dL_law_846 : decode cL_law 846 = .ok (.iconst 1, 1) := by decide +kernel
theorem dL_law_847 : decode cL_law 847 = .ok (.iadd, 1) := by decide +kernel
theorem dL_law_848 : decode cL_law 848 = .ok (.iaload, 1) := by decide +kernel
theorem dL_law_849 : decode cL_law 849 = .ok (.aload_n 0, 1) := by decide +kernel
theorem dL_law_850 : decode cL_law 850 = .ok (.iload_n 3, 1) := by decide +kernel
theorem dL_law_851 : decode cL_law 851 = .ok (.iconst 2, 1) := by decide +kernel
theorem dL_law_852 : decode cL_law 852 = .ok (.iadd, 1) := by decide +kernel
theorem dL_law_853 : decode cL_law 853 = .ok (.iaload, 1) := by decide +kernel
theorem dL_law_854 : decode cL_law 854 = .ok (.invokevirtual 89, 3) := by decide +kernel
theorem dL_law_857 : decode cL_law 857 = .ok (.if_icmp .eq 887, 3) := by decide +kernel
theorem dL_law_860 : decode cL_law 860 = .ok (.iconst 0, 1) := by decide +kernel
theorem dL_law_861 : decode cL_law 861 = .ok (.ireturn, 1) := by decide +kernel
theorem dL_law_862 : decode cL_law 862 = .ok (.aload_n 1, 1) := by decide +kernel
theorem dL_law_863 : decode cL_law 863 = .ok (.aload_n 0, 1) := by decide +kernel
theorem dL_law_864 : decode cL_law 864 = .ok (.iload_n 3, 1) := by decide +kernel
theorem dL_law_865 : decode cL_law 865 = .ok (.iconst 1, 1) := by decide +kernel
theorem dL_law_866 : decode cL_law 866 = .ok (.iadd, 1) := by decide +kernel
theorem dL_law_867 : decode cL_law 867 = .ok (.iaload, 1) := by decide +kernel
theorem dL_law_868 : decode cL_law 868 = .ok (.aload_n 0, 1) := by decide +kernel
theorem dL_law_869 : decode cL_law 869 = .ok (.iload_n 3, 1) := by decide +kernel
theorem dL_law_870 : decode cL_law 870 = .ok (.iconst 2, 1) := by decide +kernel
theorem dL_law_871 : decode cL_law 871 = .ok (.iadd, 1) := by decide +kernel
theorem dL_law_872 : decode cL_law 872 = .ok (.iaload, 1) := by decide +kernel
theorem dL_law_873 : decode cL_law 873 = .ok (.aload_n 0, 1) := by decide +kernel
theorem dL_law_874 : decode cL_law 874 = .ok (.iload_n 3, 1) := by decide +kernel
theorem dL_law_875 : decode cL_law 875 = .ok (.iconst 3, 1) := by decide +kernel
theorem dL_law_876 : decode cL_law 876 = .ok (.iadd, 1) := by decide +kernel
theorem dL_law_877 : decode cL_law 877 = .ok (.iaload, 1) := by decide +kernel
theorem dL_law_878 : decode cL_law 878 = .ok (.invokevirtual 90, 3) := by decide +kernel
theorem dL_law_881 : decode cL_law 881 = .ok (.aload_n 2, 1) := by decide +kernel
theorem dL_law_882 : decode cL_law 882 = .ok (.aload_n 0, 1) := by decide +kernel
theorem dL_law_883 : decode cL_law 883 = .ok (.iload_n 3, 1) := by decide +kernel
theorem dL_law_884 : decode cL_law 884 = .ok (.iconst 1, 1) := by decide +kernel
theorem dL_law_885 : decode cL_law 885 = .ok (.iadd, 1) := by decide +kernel
theorem dL_law_886 : decode cL_law 886 = .ok (.iaload, 1) := by decide +kernel
theorem dL_law_887 : decode cL_law 887 = .ok (.aload_n 0, 1) := by decide +kernel
theorem dL_law_888 : decode cL_law 888 = .ok (.iload_n 3, 1) := by decide +kernel
theorem dL_law_889 : decode cL_law 889 = .ok (.iconst 2, 1) := by decide +kernel
theorem dL_law_890 : decode cL_law 890 = .ok (.iadd, 1) := by decide +kernel
theorem dL_law_891 : decode cL_law 891 = .ok (.iaload, 1) := by decide +kernel
theorem dL_law_892 : decode cL_law 892 = .ok (.aload_n 0, 1) := by decide +kernel
theorem dL_law_893 : decode cL_law 893 = .ok (.iload_n 3, 1) := by decide +kernel
theorem dL_law_894 : decode cL_law 894 = .ok (.iconst 3, 1) := by decide +kernel
theorem dL_law_895 : decode cL_law 895 = .ok (.iadd, 1) := by decide +kernel
theorem dL_law_896 : decode cL_law 896 = .ok (.iaload, 1) := by decide +kernel
theorem dL_law_897 : decode cL_law 897 = .ok (.invokevirtual 93, 3) := by decide +kernel
theorem dL_law_900 : decode cL_law 900 = .ok (.if_icmp .eq 844, 3) := by decide +kernel
theorem dL_law_903 : decode cL_law 903 = .ok (.iconst 0, 1) := by decide +kernel
theorem dL_law_904 : decode cL_law 904 = .ok (.ireturn, 1) := by decide +kernel
theorem dL_law_905 : decode cL_law 905 = .ok (.aload_n 1, 1) := by decide +kernel
theorem dL_law_906 : decode cL_law 906 = .ok (.aload_n 0, 1) := by decide +kernel
theorem dL_law_907 : decode cL_law 907 = .ok (.iload_n 3, 1) := by decide +kernel
theorem dL_law_908 : decode cL_law 908 = .ok (.iconst 1, 1) := by decide +kernel
theorem dL_law_909 : decode cL_law 909 = .ok (.iadd, 1) := by decide +kernel
theorem dL_law_910 : decode cL_law 910 = .ok (.iaload, 1) := by decide +kernel
theorem dL_law_911 : decode cL_law 911 = .ok (.aload_n 0, 1) := by decide +kernel
theorem dL_law_912 : decode cL_law 912 = .ok (.iload_n 3, 1) := by decide +kernel
theorem dL_law_913 : decode cL_law 913 = .ok (.iconst 2, 1) := by decide +kernel
theorem dL_law_914 : decode cL_law 914 = .ok (.iadd, 1) := by decide +kernel
theorem dL_law_915 : decode cL_law 915 = .ok (.iaload, 1) := by decide +kernel
theorem dL_law_916 : decode cL_law 916 = .ok (.aload_n 0, 1) := by decide +kernel
theorem dL_law_917 : decode cL_law 917 = .ok (.iload_n 3, 1) := by decide +kernel
theorem dL_law_918 : decode cL_law 918 = .ok (.iconst 3, 1) := by decide +kernel
theorem dL_law_919 : decode cL_law 919 = .ok (.iadd, 1) := by decide +kernel
theorem dL_law_920 : decode cL_law 920 = .ok (.iaload, 1) := by decide +kernel
theorem dL_law_921 : decode cL_law 921 = .ok (.aload_n 0, 1) := by decide +kernel
theorem dL_law_922 : decode cL_law 922 = .ok (.iload_n 3, 1) := by decide +kernel
theorem dL_law_923 : decode cL_law 923 = .ok (.iconst 4, 1) := by decide +kernel
theorem dL_law_924 : decode cL_law 924 = .ok (.iadd, 1) := by decide +kernel
theorem dL_law_925 : decode cL_law 925 = .ok (.iaload, 1) := by decide +kernel
theorem dL_law_926 : decode cL_law 926 = .ok (.invokevirtual 94, 3) := by decide +kernel
theorem dL_law_929 : decode cL_law 929 = .ok (.aload_n 2, 1) := by decide +kernel
theorem dL_law_930 : decode cL_law 930 = .ok (.aload_n 0, 1) := by decide +kernel
theorem dL_law_931 : decode cL_law 931 = .ok (.iload_n 3, 1) := by decide +kernel
theorem dL_law_932 : decode cL_law 932 = .ok (.iconst 1, 1) := by decide +kernel
theorem dL_law_933 : decode cL_law 933 = .ok (.iadd, 1) := by decide +kernel
theorem dL_law_934 : decode cL_law 934 = .ok (.iaload, 1) := by decide +kernel
theorem dL_law_935 : decode cL_law 935 = .ok (.aload_n 0, 1) := by decide +kernel
theorem dL_law_936 : decode cL_law 936 = .ok (.iload_n 3, 1) := by decide +kernel
theorem dL_law_937 : decode cL_law 937 = .ok (.iconst 2, 1) := by decide +kernel
theorem dL_law_938 : decode cL_law 938 = .ok (.iadd, 1) := by decide +kernel
theorem dL_law_939 : decode cL_law 939 = .ok (.iaload, 1) := by decide +kernel
theorem dL_law_940 : decode cL_law 940 = .ok (.aload_n 0, 1) := by decide +kernel
theorem dL_law_941 : decode cL_law 941 = .ok (.iload_n 3, 1) := by decide +kernel
theorem dL_law_942 : decode cL_law 942 = .ok (.iconst 3, 1) := by decide +kernel
theorem dL_law_943 : decode cL_law 943 = .ok (.iadd, 1) := by decide +kernel
theorem dL_law_944 : decode cL_law 944 = .ok (.iaload, 1) := by decide +kernel
theorem dL_law_945 : decode cL_law 945 = .ok (.aload_n 0, 1) := by decide +kernel
theorem dL_law_946 : decode cL_law 946 = .ok (.iload_n 3, 1) := by decide +kernel
theorem dL_law_947 : decode cL_law 947 = .ok (.iconst 4, 1) := by decide +kernel
theorem dL_law_948 : decode cL_law 948 = .ok (.iadd, 1) := by decide +kernel
theorem dL_law_949 : decode cL_law 949 = .ok (.iaload, 1) := by decide +kernel
theorem dL_law_950 : decode cL_law 950 = .ok (.invokevirtual 97, 3) := by decide +kernel
theorem dL_law_953 : decode cL_law 953 = .ok (.if_icmp .eq 791, 3) := by decide +kernel
theorem dL_law_956 : decode cL_law 956 = .ok (.iconst 0, 1) := by decide +kernel
theorem dL_law_957 : decode cL_law 957 = .ok (.ireturn, 1) := by decide +kernel
theorem dL_law_958 : decode cL_law 958 = .ok (.aload_n 1, 1) := by decide +kernel
theorem dL_law_959 : decode cL_law 959 = .ok (.aload_n 0, 1) := by decide +kernel
theorem dL_law_960 : decode cL_law 960 = .ok (.iload_n 3, 1) := by decide +kernel
theorem dL_law_961 : decode cL_law 961 = .ok (.iconst 1, 1) := by decide +kernel
theorem dL_law_962 : decode cL_law 962 = .ok (.iadd, 1) := by decide +kernel
theorem dL_law_963 : decode cL_law 963 = .ok (.iaload, 1) := by decide +kernel
theorem dL_law_964 : decode cL_law 964 = .ok (.aload_n 0, 1) := by decide +kernel
theorem dL_law_965 : decode cL_law 965 = .ok (.iload_n 3, 1) := by decide +kernel
theorem dL_law_966 : decode cL_law 966 = .ok (.iconst 2, 1) := by decide +kernel
theorem dL_law_967 : decode cL_law 967 = .ok (.iadd, 1) := by decide +kernel
theorem dL_law_968 : decode cL_law 968 = .ok (.iaload, 1) := by decide +kernel
theorem dL_law_969 : decode cL_law 969 = .ok (.aload_n 0, 1) := by decide +kernel
theorem dL_law_970 : decode cL_law 970 = .ok (.iload_n 3, 1) := by decide +kernel
theorem dL_law_971 : decode cL_law 971 = .ok (.iconst 3, 1) := by decide +kernel
theorem dL_law_972 : decode cL_law 972 = .ok (.iadd, 1) := by decide +kernel
theorem dL_law_973 : decode cL_law 973 = .ok (.iaload, 1) := by decide +kernel
theorem dL_law_974 : decode cL_law 974 = .ok (.aload_n 0, 1) := by decide +kernel
theorem dL_law_975 : decode cL_law 975 = .ok (.iload_n 3, 1) := by decide +kernel
theorem dL_law_976 : decode cL_law 976 = .ok (.iconst 4, 1) := by decide +kernel
theorem dL_law_977 : decode cL_law 977 = .ok (.iadd, 1) := by decide +kernel
theorem dL_law_978 : decode cL_law 978 = .ok (.iaload, 1) := by decide +kernel
theorem dL_law_979 : decode cL_law 979 = .ok (.invokevirtual 98, 3) := by decide +kernel
theorem dL_law_982 : decode cL_law 982 = .ok (.aload_n 2, 1) := by decide +kernel
theorem dL_law_983 : decode cL_law 983 = .ok (.aload_n 0, 1) := by decide +kernel
theorem dL_law_984 : decode cL_law 984 = .ok (.iload_n 3, 1) := by decide +kernel
theorem dL_law_985 : decode cL_law 985 = .ok (.iconst 1, 1) := by decide +kernel
theorem dL_law_986 : decode cL_law 986 = .ok (.iadd, 1) := by decide +kernel
theorem dL_law_987 : decode cL_law 987 = .ok (.iaload, 1) := by decide +kernel
theorem dL_law_988 : decode cL_law 988 = .ok (.aload_n 0, 1) := by decide +kernel
theorem dL_law_989 : decode cL_law 989 = .ok (.iload_n 3, 1) := by decide +kernel
theorem dL_law_990 : decode cL_law 990 = .ok (.iconst 2, 1) := by decide +kernel
theorem dL_law_991 : decode cL_law 991 = .ok (.iadd, 1) := by decide +kernel
theorem dL_law_992 : decode cL_law 992 = .ok (.iaload, 1) := by decide +kernel
theorem dL_law_993 : decode cL_law 993 = .ok (.aload_n 0, 1) := by decide +kernel
theorem dL_law_994 : decode cL_law 994 = .ok (.iload_n 3, 1) := by decide +kernel
theorem dL_law_995 : decode cL_law 995 = .ok (.iconst 3, 1) := by decide +kernel
theorem dL_law_996 : decode cL_law 996 = .ok (.iadd, 1) := by decide +kernel
theorem dL_law_997 : decode cL_law 997 = .ok (.iaload, 1) := by decide +kernel
theorem dL_law_998 : decode cL_law 998 = .ok (.aload_n 0, 1) := by decide +kernel
theorem dL_law_999 : decode cL_law 999 = .ok (.iload_n 3, 1) := by decide +kernel
theorem dL_law_1000 : decode cL_law 1000 = .ok (.iconst 4, 1) := by decide +kernel
theorem dL_law_1001 : decode cL_law 1001 = .ok (.iadd, 1) := by decide +kernel
theorem dL_law_1002 : decode cL_law 1002 = .ok (.iaload, 1) := by decide +kernel
theorem dL_law_1003 : decode cL_law 1003 = .ok (.invokevirtual 101, 3) := by decide +kernel
theorem dL_law_1006 : decode cL_law 1006 = .ok (.if_icmp .eq 738, 3) := by decide +kernel
theorem dL_law_1009 : decode cL_law 1009 = .ok (.iconst 0, 1) := by decide +kernel
theorem dL_law_1010 : decode cL_law 1010 = .ok (.ireturn, 1) := by decide +kernel
theorem dL_law_1011 : decode cL_law 1011 = .ok (.aload_n 1, 1) := by decide +kernel
theorem dL_law_1012 : decode cL_law 1012 = .ok (.aload_n 0, 1) := by decide +kernel
theorem dL_law_1013 : decode cL_law 1013 = .ok (.iload_n 3, 1) := by decide +kernel
theorem dL_law_1014 : decode cL_law 1014 = .ok (.iconst 1, 1) := by decide +kernel
theorem dL_law_1015 : decode cL_law 1015 = .ok (.iadd, 1) := by decide +kernel
theorem dL_law_1016 : decode cL_law 1016 = .ok (.iaload, 1) := by decide +kernel
theorem dL_law_1017 : decode cL_law 1017 = .ok (.aload_n 0, 1) := by decide +kernel
theorem dL_law_1018 : decode cL_law 1018 = .ok (.iload_n 3, 1) := by decide +kernel
theorem dL_law_1019 : decode cL_law 1019 = .ok (.iconst 2, 1) := by decide +kernel
theorem dL_law_1020 : decode cL_law 1020 = .ok (.iadd, 1) := by decide +kernel
theorem dL_law_1021 : decode cL_law 1021 = .ok (.iaload, 1) := by decide +kernel
theorem dL_law_1022 : decode cL_law 1022 = .ok (.aload_n 0, 1) := by decide +kernel
theorem dL_law_1023 : decode cL_law 1023 = .ok (.iload_n 3, 1) := by decide +kernel
theorem dL_law_1024 : decode cL_law 1024 = .ok (.iconst 3, 1) := by decide +kernel
theorem dL_law_1025 : decode cL_law 1025 = .ok (.iadd, 1) := by decide +kernel
theorem dL_law_1026 : decode cL_law 1026 = .ok (.iaload, 1) := by decide +kernel
theorem dL_law_1027 : decode cL_law 1027 = .ok (.invokevirtual 102, 3) := by decide +kernel
theorem dL_law_1030 : decode cL_law 1030 = .ok (.aload_n 2, 1) := by decide +kernel
theorem dL_law_1031 : decode cL_law 1031 = .ok (.aload_n 0, 1) := by decide +kernel
theorem dL_law_1032 : decode cL_law 1032 = .ok (.iload_n 3, 1) := by decide +kernel
theorem dL_law_1033 : decode cL_law 1033 = .ok (.iconst 1, 1) := by decide +kernel
theorem dL_law_1034 : decode cL_law 1034 = .ok (.iadd, 1) := by decide +kernel
theorem dL_law_1035 : decode cL_law 1035 = .ok (.iaload, 1) := by decide +kernel
theorem dL_law_1036 : decode cL_law 1036 = .ok (.aload_n 0, 1) := by decide +kernel
theorem dL_law_1037 : decode cL_law 1037 = .ok (.iload_n 3, 1) := by decide +kernel
theorem dL_law_1038 : decode cL_law 1038 = .ok (.iconst 2, 1) := by decide +kernel
theorem dL_law_1039 : decode cL_law 1039 = .ok (.iadd, 1) := by decide +kernel
theorem dL_law_1040 : decode cL_law 1040 = .ok (.iaload, 1) := by decide +kernel
theorem dL_law_1041 : decode cL_law 1041 = .ok (.aload_n 0, 1) := by decide +kernel
theorem dL_law_1042 : decode cL_law 1042 = .ok (.iload_n 3, 1) := by decide +kernel
theorem dL_law_1043 : decode cL_law 1043 = .ok (.iconst 3, 1) := by decide +kernel
theorem dL_law_1044 : decode cL_law 1044 = .ok (.iadd, 1) := by decide +kernel
theorem dL_law_1045 : decode cL_law 1045 = .ok (.iaload, 1) := by decide +kernel
theorem dL_law_1046 : decode cL_law 1046 = .ok (.invokevirtual 105, 3) := by decide +kernel
theorem dL_law_1049 : decode cL_law 1049 = .ok (.if_icmp .eq 695, 3) := by decide +kernel
theorem dL_law_1052 : decode cL_law 1052 = .ok (.iconst 0, 1) := by decide +kernel
theorem dL_law_1053 : decode cL_law 1053 = .ok (.ireturn, 1) := by decide +kernel
theorem dL_law_1054 : decode cL_law 1054 = .ok (.aload_n 1, 1) := by decide +kernel
theorem dL_law_1055 : decode cL_law 1055 = .ok (.aload_n 0, 1) := by decide +kernel
theorem dL_law_1056 : decode cL_law 1056 = .ok (.iload_n 3, 1) := by decide +kernel
theorem dL_law_1057 : decode cL_law 1057 = .ok (.iconst 1, 1) := by decide +kernel
theorem dL_law_1058 : decode cL_law 1058 = .ok (.iadd, 1) := by decide +kernel
theorem dL_law_1059 : decode cL_law 1059 = .ok (.iaload, 1) := by decide +kernel
theorem dL_law_1060 : decode cL_law 1060 = .ok (.aload_n 0, 1) := by decide +kernel
theorem dL_law_1061 : decode cL_law 1061 = .ok (.iload_n 3, 1) := by decide +kernel
theorem dL_law_1062 : decode cL_law 1062 = .ok (.iconst 2, 1) := by decide +kernel
theorem dL_law_1063 : decode cL_law 1063 = .ok (.iadd, 1) := by decide +kernel
theorem dL_law_1064 : decode cL_law 1064 = .ok (.iaload, 1) := by decide +kernel
theorem dL_law_1065 : decode cL_law 1065 = .ok (.invokevirtual 106, 3) := by decide +kernel
theorem dL_law_1068 : decode cL_law 1068 = .ok (.aload_n 2, 1) := by decide +kernel
theorem dL_law_1069 : decode cL_law 1069 = .ok (.aload_n 0, 1) := by decide +kernel
theorem dL_law_1070 : decode cL_law 1070 = .ok (.iload_n 3, 1) := by decide +kernel
theorem dL_law_1071 : decode cL_law 1071 = .ok (.iconst 1, 1) := by decide +kernel
theorem dL_law_1072 : decode cL_law 1072 = .ok (.iadd, 1) := by decide +kernel
theorem dL_law_1073 : decode cL_law 1073 = .ok (.iaload, 1) := by decide +kernel
theorem dL_law_1074 : decode cL_law 1074 = .ok (.aload_n 0, 1) := by decide +kernel
theorem dL_law_1075 : decode cL_law 1075 = .ok (.iload_n 3, 1) := by decide +kernel
theorem dL_law_1076 : decode cL_law 1076 = .ok (.iconst 2, 1) := by decide +kernel
theorem dL_law_1077 : decode cL_law 1077 = .ok (.iadd, 1) := by decide +kernel
theorem dL_law_1078 : decode cL_law 1078 = .ok (.iaload, 1) := by decide +kernel
theorem dL_law_1079 : decode cL_law 1079 = .ok (.invokevirtual 109, 3) := by decide +kernel
theorem dL_law_1082 : decode cL_law 1082 = .ok (.if_icmp .eq 662, 3) := by decide +kernel
theorem dL_law_1085 : decode cL_law 1085 = .ok (.iconst 0, 1) := by decide +kernel
theorem dL_law_1086 : decode cL_law 1086 = .ok (.ireturn, 1) := by decide +kernel
theorem dL_law_1087 : decode cL_law 1087 = .ok (.aload_n 1, 1) := by decide +kernel
theorem dL_law_1088 : decode cL_law 1088 = .ok (.aload_n 0, 1) := by decide +kernel
theorem dL_law_1089 : decode cL_law 1089 = .ok (.iload_n 3, 1) := by decide +kernel
theorem dL_law_1090 : decode cL_law 1090 = .ok (.iconst 1, 1) := by decide +kernel
theorem dL_law_1091 : decode cL_law 1091 = .ok (.iadd, 1) := by decide +kernel
theorem dL_law_1092 : decode cL_law 1092 = .ok (.iaload, 1) := by decide +kernel
theorem dL_law_1093 : decode cL_law 1093 = .ok (.invokevirtual 110, 3) := by decide +kernel
theorem dL_law_1096 : decode cL_law 1096 = .ok (.aload_n 2, 1) := by decide +kernel
theorem dL_law_1097 : decode cL_law 1097 = .ok (.aload_n 0, 1) := by decide +kernel
theorem dL_law_1098 : decode cL_law 1098 = .ok (.iload_n 3, 1) := by decide +kernel
theorem dL_law_1099 : decode cL_law 1099 = .ok (.iconst 1, 1) := by decide +kernel
theorem dL_law_1100 : decode cL_law 1100 = .ok (.iadd, 1) := by decide +kernel
theorem dL_law_1101 : decode cL_law 1101 = .ok (.iaload, 1) := by decide +kernel
theorem dL_law_1102 : decode cL_law 1102 = .ok (.invokevirtual 113, 3) := by decide +kernel
theorem dL_law_1105 : decode cL_law 1105 = .ok (.if_icmp .eq 639, 3) := by decide +kernel
theorem dL_law_1108 : decode cL_law 1108 = .ok (.iconst 0, 1) := by decide +kernel
theorem dL_law_1109 : decode cL_law 1109 = .ok (.ireturn, 1) := by decide +kernel
theorem dL_law_1110 : decode cL_law 1110 = .ok (.aload_n 1, 1) := by decide +kernel
theorem dL_law_1111 : decode cL_law 1111 = .ok (.aload_n 0, 1) := by decide +kernel
theorem dL_law_1112 : decode cL_law 1112 = .ok (.iload_n 3, 1) := by decide +kernel
theorem dL_law_1113 : decode cL_law 1113 = .ok (.iconst 1, 1) := by decide +kernel
theorem dL_law_1114 : decode cL_law 1114 = .ok (.iadd, 1) := by decide +kernel
theorem dL_law_1115 : decode cL_law 1115 = .ok (.iaload, 1) := by decide +kernel
theorem dL_law_1116 : decode cL_law 1116 = .ok (.aload_n 0, 1) := by decide +kernel
theorem dL_law_1117 : decode cL_law 1117 = .ok (.iload_n 3, 1) := by decide +kernel
theorem dL_law_1118 : decode cL_law 1118 = .ok (.iconst 2, 1) := by decide +kernel
theorem dL_law_1119 : decode cL_law 1119 = .ok (.iadd, 1) := by decide +kernel
theorem dL_law_1120 : decode cL_law 1120 = .ok (.iaload, 1) := by decide +kernel
theorem dL_law_1121 : decode cL_law 1121 = .ok (.invokevirtual 114, 3) := by decide +kernel
theorem dL_law_1124 : decode cL_law 1124 = .ok (.aload_n 2, 1) := by decide +kernel
theorem dL_law_1125 : decode cL_law 1125 = .ok (.aload_n 0, 1) := by decide +kernel
theorem dL_law_1126 : decode cL_law 1126 = .ok (.iload_n 3, 1) := by decide +kernel
theorem dL_law_1127 : decode cL_law 1127 = .ok (.iconst 1, 1) := by decide +kernel
theorem dL_law_1128 : decode cL_law 1128 = .ok (.iadd, 1) := by decide +kernel
theorem dL_law_1129 : decode cL_law 1129 = .ok (.iaload, 1) := by decide +kernel
theorem dL_law_1130 : decode cL_law 1130 = .ok (.aload_n 0, 1) := by decide +kernel
theorem dL_law_1131 : decode cL_law 1131 = .ok (.iload_n 3, 1) := by decide +kernel
theorem dL_law_1132 : decode cL_law 1132 = .ok (.iconst 2, 1) := by decide +kernel
theorem dL_law_1133 : decode cL_law 1133 = .ok (.iadd, 1) := by decide +kernel
theorem dL_law_1134 : decode cL_law 1134 = .ok (.iaload, 1) := by decide +kernel
theorem dL_law_1135 : decode cL_law 1135 = .ok (.invokevirtual 117, 3) := by decide +kernel
theorem dL_law_1138 : decode cL_law 1138 = .ok (.if_icmp .eq 606, 3) := by decide +kernel
theorem dL_law_1141 : decode cL_law 1141 = .ok (.iconst 0, 1) := by decide +kernel
theorem dL_law_1142 : decode cL_law 1142 = .ok (.ireturn, 1) := by decide +kernel
theorem dL_law_1143 : decode cL_law 1143 = .ok (.aload_n 1, 1) := by decide +kernel
theorem dL_law_1144 : decode cL_law 1144 = .ok (.aload_n 0, 1) := by decide +kernel
theorem dL_law_1145 : decode cL_law 1145 = .ok (.iload_n 3, 1) := by decide +kernel
theorem dL_law_1146 : decode cL_law 1146 = .ok (.iconst 1, 1) := by decide +kernel
theorem dL_law_1147 : decode cL_law 1147 = .ok (.iadd, 1) := by decide +kernel
theorem dL_law_1148 : decode cL_law 1148 = .ok (.iaload, 1) := by decide +kernel
theorem dL_law_1149 : decode cL_law 1149 = .ok (.aload_n 0, 1) := by decide +kernel
theorem dL_law_1150 : decode cL_law 1150 = .ok (.iload_n 3, 1) := by decide +kernel
theorem dL_law_1151 : decode cL_law 1151 = .ok (.iconst 2, 1) := by decide +kernel
theorem dL_law_1152 : decode cL_law 1152 = .ok (.iadd, 1) := by decide +kernel
theorem dL_law_1153 : decode cL_law 1153 = .ok (.iaload, 1) := by decide +kernel
theorem dL_law_1154 : decode cL_law 1154 = .ok (.invokevirtual 118, 3) := by decide +kernel
theorem dL_law_1157 : decode cL_law 1157 = .ok (.aload_n 2, 1) := by decide +kernel
theorem dL_law_1158 : decode cL_law 1158 = .ok (.aload_n 0, 1) := by decide +kernel
theorem dL_law_1159 : decode cL_law 1159 = .ok (.iload_n 3, 1) := by decide +kernel
theorem dL_law_1160 : decode cL_law 1160 = .ok (.iconst 1, 1) := by decide +kernel
theorem dL_law_1161 : decode cL_law 1161 = .ok (.iadd, 1) := by decide +kernel
theorem dL_law_1162 : decode cL_law 1162 = .ok (.iaload, 1) := by decide +kernel
theorem dL_law_1163 : decode cL_law 1163 = .ok (.aload_n 0, 1) := by decide +kernel
theorem dL_law_1164 : decode cL_law 1164 = .ok (.iload_n 3, 1) := by decide +kernel
theorem dL_law_1165 : decode cL_law 1165 = .ok (.iconst 2, 1) := by decide +kernel
theorem dL_law_1166 : decode cL_law 1166 = .ok (.iadd, 1) := by decide +kernel
theorem dL_law_1167 : decode cL_law 1167 = .ok (.iaload, 1) := by decide +kernel
theorem dL_law_1168 : decode cL_law 1168 = .ok (.invokevirtual 121, 3) := by decide +kernel
theorem dL_law_1171 : decode cL_law 1171 = .ok (.if_icmp .eq 573, 3) := by decide +kernel
theorem dL_law_1174 : decode cL_law 1174 = .ok (.iconst 0, 1) := by decide +kernel
theorem dL_law_1175 : decode cL_law 1175 = .ok (.ireturn, 1) := by decide +kernel
theorem dL_law_1176 : decode cL_law 1176 = .ok (.aload_n 1, 1) := by decide +kernel
theorem dL_law_1177 : decode cL_law 1177 = .ok (.aload_n 0, 1) := by decide +kernel
theorem dL_law_1178 : decode cL_law 1178 = .ok (.iload_n 3, 1) := by decide +kernel
theorem dL_law_1179 : decode cL_law 1179 = .ok (.iconst 1, 1) := by decide +kernel
theorem dL_law_1180 : decode cL_law 1180 = .ok (.iadd, 1) := by decide +kernel
theorem dL_law_1181 : decode cL_law 1181 = .ok (.iaload, 1) := by decide +kernel
theorem dL_law_1182 : decode cL_law 1182 = .ok (.aload_n 0, 1) := by decide +kernel
theorem dL_law_1183 : decode cL_law 1183 = .ok (.iload_n 3, 1) := by decide +kernel
theorem dL_law_1184 : decode cL_law 1184 = .ok (.iconst 2, 1) := by decide +kernel
theorem dL_law_1185 : decode cL_law 1185 = .ok (.iadd, 1) := by decide +kernel
theorem dL_law_1186 : decode cL_law 1186 = .ok (.iaload, 1) := by decide +kernel
theorem dL_law_1187 : decode cL_law 1187 = .ok (.aload_n 0, 1) := by decide +kernel
theorem dL_law_1188 : decode cL_law 1188 = .ok (.iload_n 3, 1) := by decide +kernel
theorem dL_law_1189 : decode cL_law 1189 = .ok (.iconst 3, 1) := by decide +kernel
theorem dL_law_1190 : decode cL_law 1190 = .ok (.iadd, 1) := by decide +kernel
theorem dL_law_1191 : decode cL_law 1191 = .ok (.iaload, 1) := by decide +kernel
theorem dL_law_1192 : decode cL_law 1192 = .ok (.invokevirtual 122, 3) := by decide +kernel
theorem dL_law_1195 : decode cL_law 1195 = .ok (.aload_n 2, 1) := by decide +kernel
theorem dL_law_1196 : decode cL_law 1196 = .ok (.aload_n 0, 1) := by decide +kernel
theorem dL_law_1197 : decode cL_law 1197 = .ok (.iload_n 3, 1) := by decide +kernel
theorem dL_law_1198 : decode cL_law 1198 = .ok (.iconst 1, 1) := by decide +kernel
theorem dL_law_1199 : decode cL_law 1199 = .ok (.iadd, 1) := by decide +kernel
theorem dL_law_1200 : decode cL_law 1200 = .ok (.iaload, 1) := by decide +kernel
theorem dL_law_1201 : decode cL_law 1201 = .ok (.aload_n 0, 1) := by decide +kernel
theorem dL_law_1202 : decode cL_law 1202 = .ok (.iload_n 3, 1) := by decide +kernel
theorem dL_law_1203 : decode cL_law 1203 = .ok (.iconst 2, 1) := by decide +kernel
theorem dL_law_1204 : decode cL_law 1204 = .ok (.iadd, 1) := by decide +kernel
theorem dL_law_1205 : decode cL_law 1205 = .ok (.iaload, 1) := by decide +kernel
theorem dL_law_1206 : decode cL_law 1206 = .ok (.aload_n 0, 1) := by decide +kernel
theorem dL_law_1207 : decode cL_law 1207 = .ok (.iload_n 3, 1) := by decide +kernel
theorem dL_law_1208 : decode cL_law 1208 = .ok (.iconst 3, 1) := by decide +kernel
theorem dL_law_1209 : decode cL_law 1209 = .ok (.iadd, 1) := by decide +kernel
theorem dL_law_1210 : decode cL_law 1210 = .ok (.iaload, 1) := by decide +kernel
theorem dL_law_1211 : decode cL_law 1211 = .ok (.invokevirtual 125, 3) := by decide +kernel
theorem dL_law_1214 : decode cL_law 1214 = .ok (.if_icmp .eq 530, 3) := by decide +kernel
theorem dL_law_1217 : decode cL_law 1217 = .ok (.iconst 0, 1) := by decide +kernel
theorem dL_law_1218 : decode cL_law 1218 = .ok (.ireturn, 1) := by decide +kernel
theorem dL_law_1219 : decode cL_law 1219 = .ok (.aload_n 1, 1) := by decide +kernel
theorem dL_law_1220 : decode cL_law 1220 = .ok (.aload_n 0, 1) := by decide +kernel
theorem dL_law_1221 : decode cL_law 1221 = .ok (.iload_n 3, 1) := by decide +kernel
theorem dL_law_1222 : decode cL_law 1222 = .ok (.iconst 1, 1) := by decide +kernel
theorem dL_law_1223 : decode cL_law 1223 = .ok (.iadd, 1) := by decide +kernel
theorem dL_law_1224 : decode cL_law 1224 = .ok (.iaload, 1) := by decide +kernel
theorem dL_law_1225 : decode cL_law 1225 = .ok (.invokevirtual 126, 3) := by decide +kernel
theorem dL_law_1228 : decode cL_law 1228 = .ok (.aload_n 2, 1) := by decide +kernel
theorem dL_law_1229 : decode cL_law 1229 = .ok (.aload_n 0, 1) := by decide +kernel
theorem dL_law_1230 : decode cL_law 1230 = .ok (.iload_n 3, 1) := by decide +kernel
theorem dL_law_1231 : decode cL_law 1231 = .ok (.iconst 1, 1) := by decide +kernel
theorem dL_law_1232 : decode cL_law 1232 = .ok (.iadd, 1) := by decide +kernel
theorem dL_law_1233 : decode cL_law 1233 = .ok (.iaload, 1) := by decide +kernel
theorem dL_law_1234 : decode cL_law 1234 = .ok (.invokevirtual 129, 3) := by decide +kernel
theorem dL_law_1237 : decode cL_law 1237 = .ok (.if_icmp .eq 507, 3) := by decide +kernel
theorem dL_law_1240 : decode cL_law 1240 = .ok (.iconst 0, 1) := by decide +kernel
theorem dL_law_1241 : decode cL_law 1241 = .ok (.ireturn, 1) := by decide +kernel
theorem dL_law_1242 : decode cL_law 1242 = .ok (.aload_n 1, 1) := by decide +kernel
theorem dL_law_1243 : decode cL_law 1243 = .ok (.aload_n 0, 1) := by decide +kernel
theorem dL_law_1244 : decode cL_law 1244 = .ok (.iload_n 3, 1) := by decide +kernel
theorem dL_law_1245 : decode cL_law 1245 = .ok (.iconst 1, 1) := by decide +kernel
theorem dL_law_1246 : decode cL_law 1246 = .ok (.iadd, 1) := by decide +kernel
theorem dL_law_1247 : decode cL_law 1247 = .ok (.iaload, 1) := by decide +kernel
theorem dL_law_1248 : decode cL_law 1248 = .ok (.invokevirtual 130, 3) := by decide +kernel
theorem dL_law_1251 : decode cL_law 1251 = .ok (.aload_n 2, 1) := by decide +kernel
theorem dL_law_1252 : decode cL_law 1252 = .ok (.aload_n 0, 1) := by decide +kernel
theorem dL_law_1253 : decode cL_law 1253 = .ok (.iload_n 3, 1) := by decide +kernel
theorem dL_law_1254 : decode cL_law 1254 = .ok (.iconst 1, 1) := by decide +kernel
theorem dL_law_1255 : decode cL_law 1255 = .ok (.iadd, 1) := by decide +kernel
theorem dL_law_1256 : decode cL_law 1256 = .ok (.iaload, 1) := by decide +kernel
theorem dL_law_1257 : decode cL_law 1257 = .ok (.invokevirtual 133, 3) := by decide +kernel
theorem dL_law_1260 : decode cL_law 1260 = .ok (.if_icmp .eq 484, 3) := by decide +kernel
theorem dL_law_1263 : decode cL_law 1263 = .ok (.iconst 0, 1) := by decide +kernel
theorem dL_law_1264 : decode cL_law 1264 = .ok (.ireturn, 1) := by decide +kernel
theorem dL_law_1265 : decode cL_law 1265 = .ok (.aload_n 1, 1) := by decide +kernel
theorem dL_law_1266 : decode cL_law 1266 = .ok (.invokevirtual 134, 3) := by decide +kernel
theorem dL_law_1269 : decode cL_law 1269 = .ok (.aload_n 2, 1) := by decide +kernel
theorem dL_law_1270 : decode cL_law 1270 = .ok (.invokevirtual 137, 3) := by decide +kernel
theorem dL_law_1273 : decode cL_law 1273 = .ok (.if_icmp .eq 471, 3) := by decide +kernel
theorem dL_law_1276 : decode cL_law 1276 = .ok (.iconst 0, 1) := by decide +kernel
theorem dL_law_1277 : decode cL_law 1277 = .ok (.ireturn, 1) := by decide +kernel
theorem dL_law_1278 : decode cL_law 1278 = .ok (.aload_n 1, 1) := by decide +kernel
theorem dL_law_1279 : decode cL_law 1279 = .ok (.aload_n 0, 1) := by decide +kernel
theorem dL_law_1280 : decode cL_law 1280 = .ok (.iload_n 3, 1) := by decide +kernel
theorem dL_law_1281 : decode cL_law 1281 = .ok (.iconst 1, 1) := by decide +kernel
theorem dL_law_1282 : decode cL_law 1282 = .ok (.iadd, 1) := by decide +kernel
theorem dL_law_1283 : decode cL_law 1283 = .ok (.iaload, 1) := by decide +kernel
theorem dL_law_1284 : decode cL_law 1284 = .ok (.invokevirtual 138, 3) := by decide +kernel
theorem dL_law_1287 : decode cL_law 1287 = .ok (.aload_n 2, 1) := by decide +kernel
theorem dL_law_1288 : decode cL_law 1288 = .ok (.aload_n 0, 1) := by decide +kernel
theorem dL_law_1289 : decode cL_law 1289 = .ok (.iload_n 3, 1) := by decide +kernel
theorem dL_law_1290 : decode cL_law 1290 = .ok (.iconst 1, 1) := by decide +kernel
theorem dL_law_1291 : decode cL_law 1291 = .ok (.iadd, 1) := by decide +kernel
theorem dL_law_1292 : decode cL_law 1292 = .ok (.iaload, 1) := by decide +kernel
theorem dL_law_1293 : decode cL_law 1293 = .ok (.invokevirtual 141, 3) := by decide +kernel
theorem dL_law_1296 : decode cL_law 1296 = .ok (.if_icmp .eq 448, 3) := by decide +kernel
theorem dL_law_1299 : decode cL_law 1299 = .ok (.iconst 0, 1) := by decide +kernel
theorem dL_law_1300 : decode cL_law 1300 = .ok (.ireturn, 1) := by decide +kernel
theorem dL_law_1301 : decode cL_law 1301 = .ok (.aload_n 1, 1) := by decide +kernel
theorem dL_law_1302 : decode cL_law 1302 = .ok (.invokevirtual 142, 3) := by decide +kernel
theorem dL_law_1305 : decode cL_law 1305 = .ok (.aload_n 2, 1) := by decide +kernel
theorem dL_law_1306 : decode cL_law 1306 = .ok (.invokevirtual 145, 3) := by decide +kernel
theorem dL_law_1309 : decode cL_law 1309 = .ok (.if_icmp .eq 435, 3) := by decide +kernel
theorem dL_law_1312 : decode cL_law 1312 = .ok (.iconst 0, 1) := by decide +kernel
theorem dL_law_1313 : decode cL_law 1313 = .ok (.ireturn, 1) := by decide +kernel
theorem dL_law_1314 : decode cL_law 1314 = .ok (.aload_n 1, 1) := by decide +kernel
theorem dL_law_1315 : decode cL_law 1315 = .ok (.invokevirtual 146, 3) := by decide +kernel
theorem dL_law_1318 : decode cL_law 1318 = .ok (.aload_n 2, 1) := by decide +kernel
theorem dL_law_1319 : decode cL_law 1319 = .ok (.invokevirtual 149, 3) := by decide +kernel
theorem dL_law_1322 : decode cL_law 1322 = .ok (.if_icmp .eq 422, 3) := by decide +kernel
theorem dL_law_1325 : decode cL_law 1325 = .ok (.iconst 0, 1) := by decide +kernel
theorem dL_law_1326 : decode cL_law 1326 = .ok (.ireturn, 1) := by decide +kernel
theorem dL_law_1327 : decode cL_law 1327 = .ok (.aload_n 1, 1) := by decide +kernel
theorem dL_law_1328 : decode cL_law 1328 = .ok (.invokevirtual 150, 3) := by decide +kernel
theorem dL_law_1331 : decode cL_law 1331 = .ok (.aload_n 2, 1) := by decide +kernel
theorem dL_law_1332 : decode cL_law 1332 = .ok (.invokevirtual 153, 3) := by decide +kernel
theorem dL_law_1335 : decode cL_law 1335 = .ok (.if_icmp .eq 409, 3) := by decide +kernel
theorem dL_law_1338 : decode cL_law 1338 = .ok (.iconst 0, 1) := by decide +kernel
theorem dL_law_1339 : decode cL_law 1339 = .ok (.ireturn, 1) := by decide +kernel
theorem dL_law_1340 : decode cL_law 1340 = .ok (.aload_n 1, 1) := by decide +kernel
theorem dL_law_1341 : decode cL_law 1341 = .ok (.invokevirtual 154, 3) := by decide +kernel
theorem dL_law_1344 : decode cL_law 1344 = .ok (.aload_n 2, 1) := by decide +kernel
theorem dL_law_1345 : decode cL_law 1345 = .ok (.invokevirtual 157, 3) := by decide +kernel
theorem dL_law_1348 : decode cL_law 1348 = .ok (.if_icmp .eq 396, 3) := by decide +kernel
theorem dL_law_1351 : decode cL_law 1351 = .ok (.iconst 0, 1) := by decide +kernel
theorem dL_law_1352 : decode cL_law 1352 = .ok (.ireturn, 1) := by decide +kernel
theorem dL_law_1353 : decode cL_law 1353 = .ok (.aload_n 1, 1) := by decide +kernel
theorem dL_law_1354 : decode cL_law 1354 = .ok (.aload_n 0, 1) := by decide +kernel
theorem dL_law_1355 : decode cL_law 1355 = .ok (.iload_n 3, 1) := by decide +kernel
theorem dL_law_1356 : decode cL_law 1356 = .ok (.iconst 1, 1) := by decide +kernel
theorem dL_law_1357 : decode cL_law 1357 = .ok (.iadd, 1) := by decide +kernel
theorem dL_law_1358 : decode cL_law 1358 = .ok (.iaload, 1) := by decide +kernel
theorem dL_law_1359 : decode cL_law 1359 = .ok (.invokevirtual 158, 3) := by decide +kernel
theorem dL_law_1362 : decode cL_law 1362 = .ok (.aload_n 2, 1) := by decide +kernel
theorem dL_law_1363 : decode cL_law 1363 = .ok (.aload_n 0, 1) := by decide +kernel
theorem dL_law_1364 : decode cL_law 1364 = .ok (.iload_n 3, 1) := by decide +kernel
theorem dL_law_1365 : decode cL_law 1365 = .ok (.iconst 1, 1) := by decide +kernel
theorem dL_law_1366 : decode cL_law 1366 = .ok (.iadd, 1) := by decide +kernel
theorem dL_law_1367 : decode cL_law 1367 = .ok (.iaload, 1) := by decide +kernel
theorem dL_law_1368 : decode cL_law 1368 = .ok (.invokevirtual 161, 3) := by decide +kernel
theorem dL_law_1371 : decode cL_law 1371 = .ok (.if_icmp .eq 373, 3) := by decide +kernel
theorem dL_law_1374 : decode cL_law 1374 = .ok (.iconst 0, 1) := by decide +kernel
theorem dL_law_1375 : decode cL_law 1375 = .ok (.ireturn, 1) := by decide +kernel
theorem dL_law_1376 : decode cL_law 1376 = .ok (.aload_n 1, 1) := by decide +kernel
theorem dL_law_1377 : decode cL_law 1377 = .ok (.aload_n 0, 1) := by decide +kernel
theorem dL_law_1378 : decode cL_law 1378 = .ok (.iload_n 3, 1) := by decide +kernel
theorem dL_law_1379 : decode cL_law 1379 = .ok (.iconst 1, 1) := by decide +kernel
theorem dL_law_1380 : decode cL_law 1380 = .ok (.iadd, 1) := by decide +kernel
theorem dL_law_1381 : decode cL_law 1381 = .ok (.iaload, 1) := by decide +kernel
theorem dL_law_1382 : decode cL_law 1382 = .ok (.aload_n 0, 1) := by decide +kernel
theorem dL_law_1383 : decode cL_law 1383 = .ok (.iload_n 3, 1) := by decide +kernel
theorem dL_law_1384 : decode cL_law 1384 = .ok (.iconst 2, 1) := by decide +kernel
theorem dL_law_1385 : decode cL_law 1385 = .ok (.iadd, 1) := by decide +kernel
theorem dL_law_1386 : decode cL_law 1386 = .ok (.iaload, 1) := by decide +kernel
theorem dL_law_1387 : decode cL_law 1387 = .ok (.aload_n 0, 1) := by decide +kernel
theorem dL_law_1388 : decode cL_law 1388 = .ok (.iload_n 3, 1) := by decide +kernel
theorem dL_law_1389 : decode cL_law 1389 = .ok (.iconst 3, 1) := by decide +kernel
theorem dL_law_1390 : decode cL_law 1390 = .ok (.iadd, 1) := by decide +kernel
theorem dL_law_1391 : decode cL_law 1391 = .ok (.iaload, 1) := by decide +kernel
theorem dL_law_1392 : decode cL_law 1392 = .ok (.invokevirtual 162, 3) := by decide +kernel
theorem dL_law_1395 : decode cL_law 1395 = .ok (.aload_n 2, 1) := by decide +kernel
theorem dL_law_1396 : decode cL_law 1396 = .ok (.aload_n 0, 1) := by decide +kernel
theorem dL_law_1397 : decode cL_law 1397 = .ok (.iload_n 3, 1) := by decide +kernel
theorem dL_law_1398 : decode cL_law 1398 = .ok (.iconst 1, 1) := by decide +kernel
theorem dL_law_1399 : decode cL_law 1399 = .ok (.iadd, 1) := by decide +kernel
theorem dL_law_1400 : decode cL_law 1400 = .ok (.iaload, 1) := by decide +kernel
theorem dL_law_1401 : decode cL_law 1401 = .ok (.aload_n 0, 1) := by decide +kernel
theorem dL_law_1402 : decode cL_law 1402 = .ok (.iload_n 3, 1) := by decide +kernel
theorem dL_law_1403 : decode cL_law 1403 = .ok (.iconst 2, 1) := by decide +kernel
theorem dL_law_1404 : decode cL_law 1404 = .ok (.iadd, 1) := by decide +kernel
theorem dL_law_1405 : decode cL_law 1405 = .ok (.iaload, 1) := by decide +kernel
theorem dL_law_1406 : decode cL_law 1406 = .ok (.aload_n 0, 1) := by decide +kernel
theorem dL_law_1407 : decode cL_law 1407 = .ok (.iload_n 3, 1) := by decide +kernel
theorem dL_law_1408 : decode cL_law 1408 = .ok (.iconst 3, 1) := by decide +kernel
theorem dL_law_1409 : decode cL_law 1409 = .ok (.iadd, 1) := by decide +kernel
theorem dL_law_1410 : decode cL_law 1410 = .ok (.iaload, 1) := by decide +kernel
theorem dL_law_1411 : decode cL_law 1411 = .ok (.invokevirtual 165, 3) := by decide +kernel
theorem dL_law_1414 : decode cL_law 1414 = .ok (.if_icmp .eq 330, 3) := by decide +kernel
theorem dL_law_1417 : decode cL_law 1417 = .ok (.iconst 0, 1) := by decide +kernel
theorem dL_law_1418 : decode cL_law 1418 = .ok (.ireturn, 1) := by decide +kernel
theorem dL_law_1419 : decode cL_law 1419 = .ok (.aload_n 1, 1) := by decide +kernel
theorem dL_law_1420 : decode cL_law 1420 = .ok (.aload_n 0, 1) := by decide +kernel
theorem dL_law_1421 : decode cL_law 1421 = .ok (.iload_n 3, 1) := by decide +kernel
theorem dL_law_1422 : decode cL_law 1422 = .ok (.iconst 1, 1) := by decide +kernel
theorem dL_law_1423 : decode cL_law 1423 = .ok (.iadd, 1) := by decide +kernel
theorem dL_law_1424 : decode cL_law 1424 = .ok (.iaload, 1) := by decide +kernel
theorem dL_law_1425 : decode cL_law 1425 = .ok (.invokevirtual 166, 3) := by decide +kernel
theorem dL_law_1428 : decode cL_law 1428 = .ok (.aload_n 2, 1) := by decide +kernel
theorem dL_law_1429 : decode cL_law 1429 = .ok (.aload_n 0, 1) := by decide +kernel
theorem dL_law_1430 : decode cL_law 1430 = .ok (.iload_n 3, 1) := by decide +kernel
theorem dL_law_1431 : decode cL_law 1431 = .ok (.iconst 1, 1) := by decide +kernel
theorem dL_law_1432 : decode cL_law 1432 = .ok (.iadd, 1) := by decide +kernel
theorem dL_law_1433 : decode cL_law 1433 = .ok (.iaload, 1) := by decide +kernel
theorem dL_law_1434 : decode cL_law 1434 = .ok (.invokevirtual 169, 3) := by decide +kernel
theorem dL_law_1437 : decode cL_law 1437 = .ok (.if_icmp .eq 307, 3) := by decide +kernel
theorem dL_law_1440 : decode cL_law 1440 = .ok (.iconst 0, 1) := by decide +kernel
theorem dL_law_1441 : decode cL_law 1441 = .ok (.ireturn, 1) := by decide +kernel
theorem dL_law_1442 : decode cL_law 1442 = .ok (.aload_n 1, 1) := by decide +kernel
theorem dL_law_1443 : decode cL_law 1443 = .ok (.aload_n 0, 1) := by decide +kernel
theorem dL_law_1444 : decode cL_law 1444 = .ok (.iload_n 3, 1) := by decide +kernel
theorem dL_law_1445 : decode cL_law 1445 = .ok (.iconst 1, 1) := by decide +kernel
theorem dL_law_1446 : decode cL_law 1446 = .ok (.iadd, 1) := by decide +kernel
theorem dL_law_1447 : decode cL_law 1447 = .ok (.iaload, 1) := by decide +kernel
theorem dL_law_1448 : decode cL_law 1448 = .ok (.aload_n 0, 1) := by decide +kernel
theorem dL_law_1449 : decode cL_law 1449 = .ok (.iload_n 3, 1) := by decide +kernel
theorem dL_law_1450 : decode cL_law 1450 = .ok (.iconst 2, 1) := by decide +kernel
theorem dL_law_1451 : decode cL_law 1451 = .ok (.iadd, 1) := by decide +kernel
theorem dL_law_1452 : decode cL_law 1452 = .ok (.iaload, 1) := by decide +kernel
theorem dL_law_1453 : decode cL_law 1453 = .ok (.invokevirtual 170, 3) := by decide +kernel
theorem dL_law_1456 : decode cL_law 1456 = .ok (.aload_n 2, 1) := by decide +kernel
theorem dL_law_1457 : decode cL_law 1457 = .ok (.aload_n 0, 1) := by decide +kernel
theorem dL_law_1458 : decode cL_law 1458 = .ok (.iload_n 3, 1) := by decide +kernel
theorem dL_law_1459 : decode cL_law 1459 = .ok (.iconst 1, 1) := by decide +kernel
theorem dL_law_1460 : decode cL_law 1460 = .ok (.iadd, 1) := by decide +kernel
theorem dL_law_1461 : decode cL_law 1461 = .ok (.iaload, 1) := by decide +kernel
theorem dL_law_1462 : decode cL_law 1462 = .ok (.aload_n 0, 1) := by decide +kernel
theorem dL_law_1463 : decode cL_law 1463 = .ok (.iload_n 3, 1) := by decide +kernel
theorem dL_law_1464 : decode cL_law 1464 = .ok (.iconst 2, 1) := by decide +kernel
theorem dL_law_1465 : decode cL_law 1465 = .ok (.iadd, 1) := by decide +kernel
theorem dL_law_1466 : decode cL_law 1466 = .ok (.iaload, 1) := by decide +kernel
theorem dL_law_1467 : decode cL_law 1467 = .ok (.invokevirtual 173, 3) := by decide +kernel
theorem dL_law_1470 : decode cL_law 1470 = .ok (.if_icmp .eq 274, 3) := by decide +kernel
theorem dL_law_1473 : decode cL_law 1473 = .ok (.iconst 0, 1) := by decide +kernel
theorem dL_law_1474 : decode cL_law 1474 = .ok (.ireturn, 1) := by decide +kernel
theorem dL_law_1475 : decode cL_law 1475 = .ok (.aload_n 1, 1) := by decide +kernel
theorem dL_law_1476 : decode cL_law 1476 = .ok (.aload_n 0, 1) := by decide +kernel
theorem dL_law_1477 : decode cL_law 1477 = .ok (.iload_n 3, 1) := by decide +kernel
theorem dL_law_1478 : decode cL_law 1478 = .ok (.iconst 1, 1) := by decide +kernel
theorem dL_law_1479 : decode cL_law 1479 = .ok (.iadd, 1) := by decide +kernel
theorem dL_law_1480 : decode cL_law 1480 = .ok (.iaload, 1) := by decide +kernel
theorem dL_law_1481 : decode cL_law 1481 = .ok (.aload_n 0, 1) := by decide +kernel
theorem dL_law_1482 : decode cL_law 1482 = .ok (.iload_n 3, 1) := by decide +kernel
theorem dL_law_1483 : decode cL_law 1483 = .ok (.iconst 2, 1) := by decide +kernel
theorem dL_law_1484 : decode cL_law 1484 = .ok (.iadd, 1) := by decide +kernel
theorem dL_law_1485 : decode cL_law 1485 = .ok (.iaload, 1) := by decide +kernel
theorem dL_law_1486 : decode cL_law 1486 = .ok (.aload_n 0, 1) := by decide +kernel
theorem dL_law_1487 : decode cL_law 1487 = .ok (.iload_n 3, 1) := by decide +kernel
theorem dL_law_1488 : decode cL_law 1488 = .ok (.iconst 3, 1) := by decide +kernel
theorem dL_law_1489 : decode cL_law 1489 = .ok (.iadd, 1) := by decide +kernel
theorem dL_law_1490 : decode cL_law 1490 = .ok (.iaload, 1) := by decide +kernel
theorem dL_law_1491 : decode cL_law 1491 = .ok (.invokevirtual 174, 3) := by decide +kernel
theorem dL_law_1494 : decode cL_law 1494 = .ok (.aload_n 2, 1) := by decide +kernel
theorem dL_law_1495 : decode cL_law 1495 = .ok (.aload_n 0, 1) := by decide +kernel
theorem dL_law_1496 : decode cL_law 1496 = .ok (.iload_n 3, 1) := by decide +kernel
theorem dL_law_1497 : decode cL_law 1497 = .ok (.iconst 1, 1) := by decide +kernel
theorem dL_law_1498 : decode cL_law 1498 = .ok (.iadd, 1) := by decide +kernel
theorem dL_law_1499 : decode cL_law 1499 = .ok (.iaload, 1) := by decide +kernel
theorem dL_law_1500 : decode cL_law 1500 = .ok (.aload_n 0, 1) := by decide +kernel
theorem dL_law_1501 : decode cL_law 1501 = .ok (.iload_n 3, 1) := by decide +kernel
theorem dL_law_1502 : decode cL_law 1502 = .ok (.iconst 2, 1) := by decide +kernel
theorem dL_law_1503 : decode cL_law 1503 = .ok (.iadd, 1) := by decide +kernel
theorem dL_law_1504 : decode cL_law 1504 = .ok (.iaload, 1) := by decide +kernel
theorem dL_law_1505 : decode cL_law 1505 = .ok (.aload_n 0, 1) := by decide +kernel
theorem dL_law_1506 : decode cL_law 1506 = .ok (.iload_n 3, 1) := by decide +kernel
theorem dL_law_1507 : decode cL_law 1507 = .ok (.iconst 3, 1) := by decide +kernel
theorem dL_law_1508 : decode cL_law 1508 = .ok (.iadd, 1) := by decide +kernel
theorem dL_law_1509 : decode cL_law 1509 = .ok (.iaload, 1) := by decide +kernel
theorem dL_law_1510 : decode cL_law 1510 = .ok (.invokevirtual 177, 3) := by decide +kernel
theorem dL_law_1513 : decode cL_law 1513 = .ok (.if_icmp .eq 231, 3) := by decide +kernel
theorem dL_law_1516 : decode cL_law 1516 = .ok (.iconst 0, 1) := by decide +kernel
theorem dL_law_1517 : decode cL_law 1517 = .ok (.ireturn, 1) := by decide +kernel
theorem dL_law_1518 : decode cL_law 1518 = .ok (.aload_n 1, 1) := by decide +kernel
theorem dL_law_1519 : decode cL_law 1519 = .ok (.aload_n 0, 1) := by decide +kernel
theorem dL_law_1520 : decode cL_law 1520 = .ok (.iload_n 3, 1) := by decide +kernel
theorem dL_law_1521 : decode cL_law 1521 = .ok (.iconst 1, 1) := by decide +kernel
theorem dL_law_1522 : decode cL_law 1522 = .ok (.iadd, 1) := by decide +kernel
theorem dL_law_1523 : decode cL_law 1523 = .ok (.iaload, 1) := by decide +kernel
theorem dL_law_1524 : decode cL_law 1524 = .ok (.aload_n 0, 1) := by decide +kernel
theorem dL_law_1525 : decode cL_law 1525 = .ok (.iload_n 3, 1) := by decide +kernel
theorem dL_law_1526 : decode cL_law 1526 = .ok (.iconst 2, 1) := by decide +kernel
theorem dL_law_1527 : decode cL_law 1527 = .ok (.iadd, 1) := by decide +kernel
theorem dL_law_1528 : decode cL_law 1528 = .ok (.iaload, 1) := by decide +kernel
theorem dL_law_1529 : decode cL_law 1529 = .ok (.aload_n 0, 1) := by decide +kernel
theorem dL_law_1530 : decode cL_law 1530 = .ok (.iload_n 3, 1) := by decide +kernel
theorem dL_law_1531 : decode cL_law 1531 = .ok (.iconst 3, 1) := by decide +kernel
theorem dL_law_1532 : decode cL_law 1532 = .ok (.iadd, 1) := by decide +kernel
theorem dL_law_1533 : decode cL_law 1533 = .ok (.iaload, 1) := by decide +kernel
theorem dL_law_1534 : decode cL_law 1534 = .ok (.i2l, 1) := by decide +kernel
theorem dL_law_1535 : decode cL_law 1535 = .ok (.bipush 32, 2) := by decide +kernel
theorem dL_law_1537 : decode cL_law 1537 = .ok (.lshl, 1) := by decide +kernel
theorem dL_law_1538 : decode cL_law 1538 = .ok (.aload_n 0, 1) := by decide +kernel
theorem dL_law_1539 : decode cL_law 1539 = .ok (.iload_n 3, 1) := by decide +kernel
theorem dL_law_1540 : decode cL_law 1540 = .ok (.iconst 4, 1) := by decide +kernel
theorem dL_law_1541 : decode cL_law 1541 = .ok (.iadd, 1) := by decide +kernel
theorem dL_law_1542 : decode cL_law 1542 = .ok (.iaload, 1) := by decide +kernel
theorem dL_law_1543 : decode cL_law 1543 = .ok (.i2l, 1) := by decide +kernel
theorem dL_law_1544 : decode cL_law 1544 = .ok (.ldc2_w 178, 3) := by decide +kernel
theorem dL_law_1547 : decode cL_law 1547 = .ok (.land, 1) := by decide +kernel
theorem dL_law_1548 : decode cL_law 1548 = .ok (.lor, 1) := by decide +kernel
theorem dL_law_1549 : decode cL_law 1549 = .ok (.invokevirtual 180, 3) := by decide +kernel
theorem dL_law_1552 : decode cL_law 1552 = .ok (.aload_n 2, 1) := by decide +kernel
theorem dL_law_1553 : decode cL_law 1553 = .ok (.aload_n 0, 1) := by decide +kernel
theorem dL_law_1554 : decode cL_law 1554 = .ok (.iload_n 3, 1) := by decide +kernel
theorem dL_law_1555 : decode cL_law 1555 = .ok (.iconst 1, 1) := by decide +kernel
theorem dL_law_1556 : decode cL_law 1556 = .ok (.iadd, 1) := by decide +kernel
theorem dL_law_1557 : decode cL_law 1557 = .ok (.iaload, 1) := by decide +kernel
theorem dL_law_1558 : decode cL_law 1558 = .ok (.aload_n 0, 1) := by decide +kernel
theorem dL_law_1559 : decode cL_law 1559 = .ok (.iload_n 3, 1) := by decide +kernel
theorem dL_law_1560 : decode cL_law 1560 = .ok (.iconst 2, 1) := by decide +kernel
theorem dL_law_1561 : decode cL_law 1561 = .ok (.iadd, 1) := by decide +kernel
theorem dL_law_1562 : decode cL_law 1562 = .ok (.iaload, 1) := by decide +kernel
theorem dL_law_1563 : decode cL_law 1563 = .ok (.aload_n 0, 1) := by decide +kernel
theorem dL_law_1564 : decode cL_law 1564 = .ok (.iload_n 3, 1) := by decide +kernel
theorem dL_law_1565 : decode cL_law 1565 = .ok (.iconst 3, 1) := by decide +kernel
theorem dL_law_1566 : decode cL_law 1566 = .ok (.iadd, 1) := by decide +kernel
theorem dL_law_1567 : decode cL_law 1567 = .ok (.iaload, 1) := by decide +kernel
theorem dL_law_1568 : decode cL_law 1568 = .ok (.i2l, 1) := by decide +kernel
theorem dL_law_1569 : decode cL_law 1569 = .ok (.bipush 32, 2) := by decide +kernel
theorem dL_law_1571 : decode cL_law 1571 = .ok (.lshl, 1) := by decide +kernel
theorem dL_law_1572 : decode cL_law 1572 = .ok (.aload_n 0, 1) := by decide +kernel
theorem dL_law_1573 : decode cL_law 1573 = .ok (.iload_n 3, 1) := by decide +kernel
theorem dL_law_1574 : decode cL_law 1574 = .ok (.iconst 4, 1) := by decide +kernel
theorem dL_law_1575 : decode cL_law 1575 = .ok (.iadd, 1) := by decide +kernel
theorem dL_law_1576 : decode cL_law 1576 = .ok (.iaload, 1) := by decide +kernel
theorem dL_law_1577 : decode cL_law 1577 = .ok (.i2l, 1) := by decide +kernel
theorem dL_law_1578 : decode cL_law 1578 = .ok (.ldc2_w 178, 3) := by decide +kernel
theorem dL_law_1581 : decode cL_law 1581 = .ok (.land, 1) := by decide +kernel
theorem dL_law_1582 : decode cL_law 1582 = .ok (.lor, 1) := by decide +kernel
theorem dL_law_1583 : decode cL_law 1583 = .ok (.invokevirtual 184, 3) := by decide +kernel
theorem dL_law_1586 : decode cL_law 1586 = .ok (.if_icmp .eq 158, 3) := by decide +kernel
theorem dL_law_1589 : decode cL_law 1589 = .ok (.iconst 0, 1) := by decide +kernel
theorem dL_law_1590 : decode cL_law 1590 = .ok (.ireturn, 1) := by decide +kernel
theorem dL_law_1591 : decode cL_law 1591 = .ok (.aload_n 1, 1) := by decide +kernel
theorem dL_law_1592 : decode cL_law 1592 = .ok (.aload_n 0, 1) := by decide +kernel
theorem dL_law_1593 : decode cL_law 1593 = .ok (.iload_n 3, 1) := by decide +kernel
theorem dL_law_1594 : decode cL_law 1594 = .ok (.iconst 1, 1) := by decide +kernel
theorem dL_law_1595 : decode cL_law 1595 = .ok (.iadd, 1) := by decide +kernel
theorem dL_law_1596 : decode cL_law 1596 = .ok (.iaload, 1) := by decide +kernel
theorem dL_law_1597 : decode cL_law 1597 = .ok (.aload_n 0, 1) := by decide +kernel
theorem dL_law_1598 : decode cL_law 1598 = .ok (.iload_n 3, 1) := by decide +kernel
theorem dL_law_1599 : decode cL_law 1599 = .ok (.iconst 2, 1) := by decide +kernel
theorem dL_law_1600 : decode cL_law 1600 = .ok (.iadd, 1) := by decide +kernel
theorem dL_law_1601 : decode cL_law 1601 = .ok (.iaload, 1) := by decide +kernel
theorem dL_law_1602 : decode cL_law 1602 = .ok (.invokevirtual 185, 3) := by decide +kernel
theorem dL_law_1605 : decode cL_law 1605 = .ok (.aload_n 2, 1) := by decide +kernel
theorem dL_law_1606 : decode cL_law 1606 = .ok (.aload_n 0, 1) := by decide +kernel
theorem dL_law_1607 : decode cL_law 1607 = .ok (.iload_n 3, 1) := by decide +kernel
theorem dL_law_1608 : decode cL_law 1608 = .ok (.iconst 1, 1) := by decide +kernel
theorem dL_law_1609 : decode cL_law 1609 = .ok (.iadd, 1) := by decide +kernel
theorem dL_law_1610 : decode cL_law 1610 = .ok (.iaload, 1) := by decide +kernel
theorem dL_law_1611 : decode cL_law 1611 = .ok (.aload_n 0, 1) := by decide +kernel
theorem dL_law_1612 : decode cL_law 1612 = .ok (.iload_n 3, 1) := by decide +kernel
theorem dL_law_1613 : decode cL_law 1613 = .ok (.iconst 2, 1) := by decide +kernel
theorem dL_law_1614 : decode cL_law 1614 = .ok (.iadd, 1) := by decide +kernel
theorem dL_law_1615 : decode cL_law 1615 = .ok (.iaload, 1) := by decide +kernel
theorem dL_law_1616 : decode cL_law 1616 = .ok (.invokevirtual 189, 3) := by decide +kernel
theorem dL_law_1619 : decode cL_law 1619 = .ok (.lcmp, 1) := by decide +kernel
theorem dL_law_1620 : decode cL_law 1620 = .ok (.ifCond .eq 124, 3) := by decide +kernel
theorem dL_law_1623 : decode cL_law 1623 = .ok (.iconst 0, 1) := by decide +kernel
theorem dL_law_1624 : decode cL_law 1624 = .ok (.ireturn, 1) := by decide +kernel
theorem dL_law_1625 : decode cL_law 1625 = .ok (.aload_n 1, 1) := by decide +kernel
theorem dL_law_1626 : decode cL_law 1626 = .ok (.aload_n 0, 1) := by decide +kernel
theorem dL_law_1627 : decode cL_law 1627 = .ok (.iload_n 3, 1) := by decide +kernel
theorem dL_law_1628 : decode cL_law 1628 = .ok (.iconst 1, 1) := by decide +kernel
theorem dL_law_1629 : decode cL_law 1629 = .ok (.iadd, 1) := by decide +kernel
theorem dL_law_1630 : decode cL_law 1630 = .ok (.iaload, 1) := by decide +kernel
theorem dL_law_1631 : decode cL_law 1631 = .ok (.aload_n 0, 1) := by decide +kernel
theorem dL_law_1632 : decode cL_law 1632 = .ok (.iload_n 3, 1) := by decide +kernel
theorem dL_law_1633 : decode cL_law 1633 = .ok (.iconst 2, 1) := by decide +kernel
theorem dL_law_1634 : decode cL_law 1634 = .ok (.iadd, 1) := by decide +kernel
theorem dL_law_1635 : decode cL_law 1635 = .ok (.iaload, 1) := by decide +kernel
theorem dL_law_1636 : decode cL_law 1636 = .ok (.aload_n 0, 1) := by decide +kernel
theorem dL_law_1637 : decode cL_law 1637 = .ok (.iload_n 3, 1) := by decide +kernel
theorem dL_law_1638 : decode cL_law 1638 = .ok (.iconst 3, 1) := by decide +kernel
theorem dL_law_1639 : decode cL_law 1639 = .ok (.iadd, 1) := by decide +kernel
theorem dL_law_1640 : decode cL_law 1640 = .ok (.iaload, 1) := by decide +kernel
theorem dL_law_1641 : decode cL_law 1641 = .ok (.aload_n 0, 1) := by decide +kernel
theorem dL_law_1642 : decode cL_law 1642 = .ok (.iload_n 3, 1) := by decide +kernel
theorem dL_law_1643 : decode cL_law 1643 = .ok (.iconst 4, 1) := by decide +kernel
theorem dL_law_1644 : decode cL_law 1644 = .ok (.iadd, 1) := by decide +kernel
theorem dL_law_1645 : decode cL_law 1645 = .ok (.iaload, 1) := by decide +kernel
theorem dL_law_1646 : decode cL_law 1646 = .ok (.aload_n 0, 1) := by decide +kernel
theorem dL_law_1647 : decode cL_law 1647 = .ok (.iload_n 3, 1) := by decide +kernel
theorem dL_law_1648 : decode cL_law 1648 = .ok (.iconst 5, 1) := by decide +kernel
theorem dL_law_1649 : decode cL_law 1649 = .ok (.iadd, 1) := by decide +kernel
theorem dL_law_1650 : decode cL_law 1650 = .ok (.iaload, 1) := by decide +kernel
theorem dL_law_1651 : decode cL_law 1651 = .ok (.invokevirtual 190, 3) := by decide +kernel
theorem dL_law_1654 : decode cL_law 1654 = .ok (.aload_n 2, 1) := by decide +kernel
theorem dL_law_1655 : decode cL_law 1655 = .ok (.aload_n 0, 1) := by decide +kernel
theorem dL_law_1656 : decode cL_law 1656 = .ok (.iload_n 3, 1) := by decide +kernel
theorem dL_law_1657 : decode cL_law 1657 = .ok (.iconst 1, 1) := by decide +kernel
theorem dL_law_1658 : decode cL_law 1658 = .ok (.iadd, 1) := by decide +kernel
theorem dL_law_1659 : decode cL_law 1659 = .ok (.iaload, 1) := by decide +kernel
theorem dL_law_1660 : decode cL_law 1660 = .ok (.aload_n 0, 1) := by decide +kernel
theorem dL_law_1661 : decode cL_law 1661 = .ok (.iload_n 3, 1) := by decide +kernel
theorem dL_law_1662 : decode cL_law 1662 = .ok (.iconst 2, 1) := by decide +kernel
theorem dL_law_1663 : decode cL_law 1663 = .ok (.iadd, 1) := by decide +kernel
theorem dL_law_1664 : decode cL_law 1664 = .ok (.iaload, 1) := by decide +kernel
theorem dL_law_1665 : decode cL_law 1665 = .ok (.aload_n 0, 1) := by decide +kernel
theorem dL_law_1666 : decode cL_law 1666 = .ok (.iload_n 3, 1) := by decide +kernel
theorem dL_law_1667 : decode cL_law 1667 = .ok (.iconst 3, 1) := by decide +kernel
theorem dL_law_1668 : decode cL_law 1668 = .ok (.iadd, 1) := by decide +kernel
theorem dL_law_1669 : decode cL_law 1669 = .ok (.iaload, 1) := by decide +kernel
theorem dL_law_1670 : decode cL_law 1670 = .ok (.aload_n 0, 1) := by decide +kernel
theorem dL_law_1671 : decode cL_law 1671 = .ok (.iload_n 3, 1) := by decide +kernel
theorem dL_law_1672 : decode cL_law 1672 = .ok (.iconst 4, 1) := by decide +kernel
theorem dL_law_1673 : decode cL_law 1673 = .ok (.iadd, 1) := by decide +kernel
theorem dL_law_1674 : decode cL_law 1674 = .ok (.iaload, 1) := by decide +kernel
theorem dL_law_1675 : decode cL_law 1675 = .ok (.aload_n 0, 1) := by decide +kernel
theorem dL_law_1676 : decode cL_law 1676 = .ok (.iload_n 3, 1) := by decide +kernel
theorem dL_law_1677 : decode cL_law 1677 = .ok (.iconst 5, 1) := by decide +kernel
theorem dL_law_1678 : decode cL_law 1678 = .ok (.iadd, 1) := by decide +kernel
theorem dL_law_1679 : decode cL_law 1679 = .ok (.iaload, 1) := by decide +kernel
theorem dL_law_1680 : decode cL_law 1680 = .ok (.invokevirtual 194, 3) := by decide +kernel
theorem dL_law_1683 : decode cL_law 1683 = .ok (.if_icmp .eq 61, 3) := by decide +kernel
theorem dL_law_1686 : decode cL_law 1686 = .ok (.iconst 0, 1) := by decide +kernel
theorem dL_law_1687 : decode cL_law 1687 = .ok (.ireturn, 1) := by decide +kernel
theorem dL_law_1688 : decode cL_law 1688 = .ok (.aload_n 1, 1) := by decide +kernel
theorem dL_law_1689 : decode cL_law 1689 = .ok (.aload_n 0, 1) := by decide +kernel
theorem dL_law_1690 : decode cL_law 1690 = .ok (.iload_n 3, 1) := by decide +kernel
theorem dL_law_1691 : decode cL_law 1691 = .ok (.iconst 1, 1) := by decide +kernel
theorem dL_law_1692 : decode cL_law 1692 = .ok (.iadd, 1) := by decide +kernel
theorem dL_law_1693 : decode cL_law 1693 = .ok (.iaload, 1) := by decide +kernel
theorem dL_law_1694 : decode cL_law 1694 = .ok (.aload_n 0, 1) := by decide +kernel
theorem dL_law_1695 : decode cL_law 1695 = .ok (.iload_n 3, 1) := by decide +kernel
theorem dL_law_1696 : decode cL_law 1696 = .ok (.iconst 2, 1) := by decide +kernel
theorem dL_law_1697 : decode cL_law 1697 = .ok (.iadd, 1) := by decide +kernel
theorem dL_law_1698 : decode cL_law 1698 = .ok (.iaload, 1) := by decide +kernel
theorem dL_law_1699 : decode cL_law 1699 = .ok (.invokevirtual 195, 3) := by decide +kernel
theorem dL_law_1702 : decode cL_law 1702 = .ok (.aload_n 2, 1) := by decide +kernel
theorem dL_law_1703 : decode cL_law 1703 = .ok (.aload_n 0, 1) := by decide +kernel
theorem dL_law_1704 : decode cL_law 1704 = .ok (.iload_n 3, 1) := by decide +kernel
theorem dL_law_1705 : decode cL_law 1705 = .ok (.iconst 1, 1) := by decide +kernel
theorem dL_law_1706 : decode cL_law 1706 = .ok (.iadd, 1) := by decide +kernel
theorem dL_law_1707 : decode cL_law 1707 = .ok (.iaload, 1) := by decide +kernel
theorem dL_law_1708 : decode cL_law 1708 = .ok (.aload_n 0, 1) := by decide +kernel
theorem dL_law_1709 : decode cL_law 1709 = .ok (.iload_n 3, 1) := by decide +kernel
theorem dL_law_1710 : decode cL_law 1710 = .ok (.iconst 2, 1) := by decide +kernel
theorem dL_law_1711 : decode cL_law 1711 = .ok (.iadd, 1) := by decide +kernel
theorem dL_law_1712 : decode cL_law 1712 = .ok (.iaload, 1) := by decide +kernel
theorem dL_law_1713 : decode cL_law 1713 = .ok (.invokevirtual 198, 3) := by decide +kernel
theorem dL_law_1716 : decode cL_law 1716 = .ok (.if_icmp .eq 28, 3) := by decide +kernel
theorem dL_law_1719 : decode cL_law 1719 = .ok (.iconst 0, 1) := by decide +kernel
theorem dL_law_1720 : decode cL_law 1720 = .ok (.ireturn, 1) := by decide +kernel
theorem dL_law_1721 : decode cL_law 1721 = .ok (.aload_n 1, 1) := by decide +kernel
theorem dL_law_1722 : decode cL_law 1722 = .ok (.aload_n 0, 1) := by decide +kernel
theorem dL_law_1723 : decode cL_law 1723 = .ok (.iload_n 3, 1) := by decide +kernel
theorem dL_law_1724 : decode cL_law 1724 = .ok (.iconst 1, 1) := by decide +kernel
theorem dL_law_1725 : decode cL_law 1725 = .ok (.iadd, 1) := by decide +kernel
theorem dL_law_1726 : decode cL_law 1726 = .ok (.iaload, 1) := by decide +kernel
theorem dL_law_1727 : decode cL_law 1727 = .ok (.invokevirtual 199, 3) := by decide +kernel
theorem dL_law_1730 : decode cL_law 1730 = .ok (.aload_n 2, 1) := by decide +kernel
theorem dL_law_1731 : decode cL_law 1731 = .ok (.aload_n 0, 1) := by decide +kernel
theorem dL_law_1732 : decode cL_law 1732 = .ok (.iload_n 3, 1) := by decide +kernel
theorem dL_law_1733 : decode cL_law 1733 = .ok (.iconst 1, 1) := by decide +kernel
theorem dL_law_1734 : decode cL_law 1734 = .ok (.iadd, 1) := by decide +kernel
theorem dL_law_1735 : decode cL_law 1735 = .ok (.iaload, 1) := by decide +kernel
theorem dL_law_1736 : decode cL_law 1736 = .ok (.invokevirtual 202, 3) := by decide +kernel
theorem dL_law_1739 : decode cL_law 1739 = .ok (.if_icmp .eq 5, 3) := by decide +kernel
theorem dL_law_1742 : decode cL_law 1742 = .ok (.iconst 0, 1) := by decide +kernel
theorem dL_law_1743 : decode cL_law 1743 = .ok (.ireturn, 1) := by decide +kernel
theorem dL_law_1744 : decode cL_law 1744 = .ok (.iinc 3 6, 3) := by decide +kernel
theorem dL_law_1747 : decode cL_law 1747 = .ok (.goto (-1729), 3) := by decide +kernel
theorem dL_law_1750 : decode cL_law 1750 = .ok (.iconst 1, 1) := by decide +kernel
theorem dL_law_1751 : decode cL_law 1751 = .ok (.ireturn, 1) := by decide +kernel
theorem dX0_init_0 : decode cX0_init 0 = .ok (.aload_n 0, 1) := by decide +kernel
theorem dX0_init_1 : decode cX0_init 1 = .ok (.invokespecial 1, 3) := by decide +kernel
theorem dX0_init_4 : decode cX0_init 4 = .ok (.aload_n 0, 1) := by decide +kernel
theorem dX0_init_5 : decode cX0_init 5 = .ok (.bipush 40, 2) := by decide +kernel
theorem dX0_init_7 : decode cX0_init 7 = .ok (.newarray .int, 2) := by decide +kernel
theorem dX0_init_9 : decode cX0_init 9 = .ok (.putfield 9, 3) := by decide +kernel
theorem dX0_init_12 : decode cX0_init 12 = .ok (.aload_n 0, 1) := by decide +kernel
theorem dX0_init_13 : decode cX0_init 13 = .ok (.bipush 40, 2) := by decide +kernel
theorem dX0_init_15 : decode cX0_init 15 = .ok (.newarray .int, 2) := by decide +kernel
theorem dX0_init_17 : decode cX0_init 17 = .ok (.putfield 13, 3) := by decide +kernel
theorem dX0_init_20 : decode cX0_init 20 = .ok (.aload_n 0, 1) := by decide +kernel
theorem dX0_init_21 : decode cX0_init 21 = .ok (.bipush 40, 2) := by decide +kernel
theorem dX0_init_23 : decode cX0_init 23 = .ok (.newarray .int, 2) := by decide +kernel
theorem dX0_init_25 : decode cX0_init 25 = .ok (.putfield 16, 3) := by decide +kernel
theorem dX0_init_28 : decode cX0_init 28 = .ok (.return_, 1) := by decide +kernel
set_option maxRecDepth 20000 in
theorem dX0_note_0 : decode cX0_note 0 = .ok (.aload_n 0, 1) := by decide +kernel
theorem dX0_note_1 : decode cX0_note 1 = .ok (.getfield 19, 3) := by decide +kernel
theorem dX0_note_4 : decode cX0_note 4 = .ok (.bipush 40, 2) := by decide +kernel
theorem dX0_note_6 : decode cX0_note 6 = .ok (.if_icmp .lt 7, 3) := by decide +kernel
theorem dX0_note_9 : decode cX0_note 9 = .ok (.aload_n 0, 1) := by decide +kernel
theorem dX0_note_10 : decode cX0_note 10 = .ok (.invokevirtual 23, 3) := by decide +kernel
theorem dX0_note_13 : decode cX0_note 13 = .ok (.aload_n 0, 1) := by decide +kernel
theorem dX0_note_14 : decode cX0_note 14 = .ok (.getfield 9, 3) := by decide +kernel
theorem dX0_note_17 : decode cX0_note 17 = .ok (.aload_n 0, 1) := by decide +kernel
theorem dX0_note_18 : decode cX0_note 18 = .ok (.getfield 19, 3) := by decide +kernel
theorem dX0_note_21 : decode cX0_note 21 = .ok (.iload_n 1, 1) := by decide +kernel
theorem dX0_note_22 : decode cX0_note 22 = .ok (.iastore, 1) := by decide +kernel
theorem dX0_note_23 : decode cX0_note 23 = .ok (.aload_n 0, 1) := by decide +kernel
theorem dX0_note_24 : decode cX0_note 24 = .ok (.getfield 13, 3) := by decide +kernel
theorem dX0_note_27 : decode cX0_note 27 = .ok (.aload_n 0, 1) := by decide +kernel
theorem dX0_note_28 : decode cX0_note 28 = .ok (.getfield 19, 3) := by decide +kernel
theorem dX0_note_31 : decode cX0_note 31 = .ok (.iload_n 2, 1) := by decide +kernel
theorem dX0_note_32 : decode cX0_note 32 = .ok (.iastore, 1) := by decide +kernel
theorem dX0_note_33 : decode cX0_note 33 = .ok (.aload_n 0, 1) := by decide +kernel
theorem dX0_note_34 : decode cX0_note 34 = .ok (.getfield 16, 3) := by decide +kernel
theorem dX0_note_37 : decode cX0_note 37 = .ok (.aload_n 0, 1) := by decide +kernel
theorem dX0_note_38 : decode cX0_note 38 = .ok (.getfield 19, 3) := by decide +kernel
theorem dX0_note_41 : decode cX0_note 41 = .ok (.iload_n 3, 1) := by decide +kernel
theorem dX0_note_42 : decode cX0_note 42 = .ok (.iastore, 1) := by decide +kernel
theorem dX0_note_43 : decode cX0_note 43 = .ok (.aload_n 0, 1) := by decide +kernel
theorem dX0_note_44 : decode cX0_note 44 = .ok (.dup, 1) := by decide +kernel
theorem dX0_note_45 : decode cX0_note 45 = .ok (.getfield 19, 3) := by decide +kernel
theorem dX0_note_48 : decode cX0_note 48 = .ok (.iconst 1, 1) := by decide +kernel
theorem dX0_note_49 : decode cX0_note 49 = .ok (.iadd, 1) := by decide +kernel
theorem dX0_note_50 : decode cX0_note 50 = .ok (.putfield 19, 3) := by decide +kernel
theorem dX0_note_53 : decode cX0_note 53 = .ok (.aload_n 0, 1) := by decide +kernel
theorem dX0_note_54 : decode cX0_note 54 = .ok (.aload_n 0, 1) := by decide +kernel
theorem dX0_note_55 : decode cX0_note 55 = .ok (.getfield 19, 3) := by decide +kernel
theorem dX0_note_58 : decode cX0_note 58 = .ok (.putfield 26, 3) := by decide +kernel
theorem dX0_note_61 : decode cX0_note 61 = .ok (.return_, 1) := by decide +kernel
theorem dX0_dropOldest_0 : decode cX0_dropOldest 0 = .ok (.aload_n 0, 1) := by decide +kernel
theorem dX0_dropOldest_1 : decode cX0_dropOldest 1 = .ok (.getfield 9, 3) := by decide +kernel
theorem dX0_dropOldest_4 : decode cX0_dropOldest 4 = .ok (.iconst 1, 1) := by decide +kernel
theorem dX0_dropOldest_5 : decode cX0_dropOldest 5 = .ok (.aload_n 0, 1) := by decide +kernel
theorem dX0_dropOldest_6 : decode cX0_dropOldest 6 = .ok (.getfield 9, 3) := by decide +kernel
theorem dX0_dropOldest_9 : decode cX0_dropOldest 9 = .ok (.iconst 0, 1) := by decide +kernel
theorem dX0_dropOldest_10 : decode cX0_dropOldest 10 = .ok (.bipush 39, 2) := by decide +kernel
theorem dX0_dropOldest_12 : decode cX0_dropOldest 12 = .ok (.invokestatic 29, 3) := by decide +kernel
theorem dX0_dropOldest_15 : decode cX0_dropOldest 15 = .ok (.aload_n 0, 1) := by decide +kernel
theorem dX0_dropOldest_16 : decode cX0_dropOldest 16 = .ok (.getfield 13, 3) := by decide +kernel
theorem dX0_dropOldest_19 : decode cX0_dropOldest 19 = .ok (.iconst 1, 1) := by decide +kernel
theorem dX0_dropOldest_20 : decode cX0_dropOldest 20 = .ok (.aload_n 0, 1) := by decide +kernel
theorem dX0_dropOldest_21 : decode cX0_dropOldest 21 = .ok (.getfield 13, 3) := by decide +kernel
theorem dX0_dropOldest_24 : decode cX0_dropOldest 24 = .ok (.iconst 0, 1) := by decide +kernel
theorem dX0_dropOldest_25 : decode cX0_dropOldest 25 = .ok (.bipush 39, 2) := by decide +kernel
theorem dX0_dropOldest_27 : decode cX0_dropOldest 27 = .ok (.invokestatic 29, 3) := by decide +kernel
theorem dX0_dropOldest_30 : decode cX0_dropOldest 30 = .ok (.aload_n 0, 1) := by decide +kernel
theorem dX0_dropOldest_31 : decode cX0_dropOldest 31 = .ok (.getfield 16, 3) := by decide +kernel
theorem dX0_dropOldest_34 : decode cX0_dropOldest 34 = .ok (.iconst 1, 1) := by decide +kernel
theorem dX0_dropOldest_35 : decode cX0_dropOldest 35 = .ok (.aload_n 0, 1) := by decide +kernel
theorem dX0_dropOldest_36 : decode cX0_dropOldest 36 = .ok (.getfield 16, 3) := by decide +kernel
theorem dX0_dropOldest_39 : decode cX0_dropOldest 39 = .ok (.iconst 0, 1) := by decide +kernel
theorem dX0_dropOldest_40 : decode cX0_dropOldest 40 = .ok (.bipush 39, 2) := by decide +kernel
theorem dX0_dropOldest_42 : decode cX0_dropOldest 42 = .ok (.invokestatic 29, 3) := by decide +kernel
theorem dX0_dropOldest_45 : decode cX0_dropOldest 45 = .ok (.aload_n 0, 1) := by decide +kernel
theorem dX0_dropOldest_46 : decode cX0_dropOldest 46 = .ok (.bipush 39, 2) := by decide +kernel
theorem dX0_dropOldest_48 : decode cX0_dropOldest 48 = .ok (.putfield 19, 3) := by decide +kernel
theorem dX0_dropOldest_51 : decode cX0_dropOldest 51 = .ok (.return_, 1) := by decide +kernel
set_option maxRecDepth 20000 in
theorem dX0_takeBack_0 : decode cX0_takeBack 0 = .ok (.aload_n 0, 1) := by decide +kernel
theorem dX0_takeBack_1 : decode cX0_takeBack 1 = .ok (.getfield 19, 3) := by decide +kernel
theorem dX0_takeBack_4 : decode cX0_takeBack 4 = .ok (.ifCond .gt 5, 3) := by decide +kernel
theorem dX0_takeBack_7 : decode cX0_takeBack 7 = .ok (.iconst 0, 1) := by decide +kernel
theorem dX0_takeBack_8 : decode cX0_takeBack 8 = .ok (.ireturn, 1) := by decide +kernel
theorem dX0_takeBack_9 : decode cX0_takeBack 9 = .ok (.aload_n 0, 1) := by decide +kernel
theorem dX0_takeBack_10 : decode cX0_takeBack 10 = .ok (.dup, 1) := by decide +kernel
theorem dX0_takeBack_11 : decode cX0_takeBack 11 = .ok (.getfield 19, 3) := by decide +kernel
theorem dX0_takeBack_14 : decode cX0_takeBack 14 = .ok (.iconst 1, 1) := by decide +kernel
theorem dX0_takeBack_15 : decode cX0_takeBack 15 = .ok (.isub, 1) := by decide +kernel
theorem dX0_takeBack_16 : decode cX0_takeBack 16 = .ok (.putfield 19, 3) := by decide +kernel
theorem dX0_takeBack_19 : decode cX0_takeBack 19 = .ok (.aload_n 1, 1) := by decide +kernel
theorem dX0_takeBack_20 : decode cX0_takeBack 20 = .ok (.aload_n 0, 1) := by decide +kernel
theorem dX0_takeBack_21 : decode cX0_takeBack 21 = .ok (.getfield 9, 3) := by decide +kernel
theorem dX0_takeBack_24 : decode cX0_takeBack 24 = .ok (.aload_n 0, 1) := by decide +kernel
theorem dX0_takeBack_25 : decode cX0_takeBack 25 = .ok (.getfield 19, 3) := by decide +kernel
theorem dX0_takeBack_28 : decode cX0_takeBack 28 = .ok (.iaload, 1) := by decide +kernel
theorem dX0_takeBack_29 : decode cX0_takeBack 29 = .ok (.aload_n 0, 1) := by decide +kernel
theorem dX0_takeBack_30 : decode cX0_takeBack 30 = .ok (.getfield 13, 3) := by decide +kernel
theorem dX0_takeBack_33 : decode cX0_takeBack 33 = .ok (.aload_n 0, 1) := by decide +kernel
theorem dX0_takeBack_34 : decode cX0_takeBack 34 = .ok (.getfield 19, 3) := by decide +kernel
theorem dX0_takeBack_37 : decode cX0_takeBack 37 = .ok (.iaload, 1) := by decide +kernel
theorem dX0_takeBack_38 : decode cX0_takeBack 38 = .ok (.invokestatic 35, 3) := by decide +kernel
theorem dX0_takeBack_41 : decode cX0_takeBack 41 = .ok (.iconst 1, 1) := by decide +kernel
theorem dX0_takeBack_42 : decode cX0_takeBack 42 = .ok (.ireturn, 1) := by decide +kernel
set_option maxRecDepth 20000 in
theorem dX0_doAgain_0 : decode cX0_doAgain 0 = .ok (.aload_n 0, 1) := by decide +kernel
theorem dX0_doAgain_1 : decode cX0_doAgain 1 = .ok (.getfield 19, 3) := by decide +kernel
theorem dX0_doAgain_4 : decode cX0_doAgain 4 = .ok (.aload_n 0, 1) := by decide +kernel
theorem dX0_doAgain_5 : decode cX0_doAgain 5 = .ok (.getfield 26, 3) := by decide +kernel
theorem dX0_doAgain_8 : decode cX0_doAgain 8 = .ok (.if_icmp .lt 5, 3) := by decide +kernel
theorem dX0_doAgain_11 : decode cX0_doAgain 11 = .ok (.iconst 0, 1) := by decide +kernel
theorem dX0_doAgain_12 : decode cX0_doAgain 12 = .ok (.ireturn, 1) := by decide +kernel
theorem dX0_doAgain_13 : decode cX0_doAgain 13 = .ok (.aload_n 1, 1) := by decide +kernel
theorem dX0_doAgain_14 : decode cX0_doAgain 14 = .ok (.aload_n 0, 1) := by decide +kernel
theorem dX0_doAgain_15 : decode cX0_doAgain 15 = .ok (.getfield 9, 3) := by decide +kernel
theorem dX0_doAgain_18 : decode cX0_doAgain 18 = .ok (.aload_n 0, 1) := by decide +kernel
theorem dX0_doAgain_19 : decode cX0_doAgain 19 = .ok (.getfield 19, 3) := by decide +kernel
theorem dX0_doAgain_22 : decode cX0_doAgain 22 = .ok (.iaload, 1) := by decide +kernel
theorem dX0_doAgain_23 : decode cX0_doAgain 23 = .ok (.aload_n 0, 1) := by decide +kernel
theorem dX0_doAgain_24 : decode cX0_doAgain 24 = .ok (.getfield 16, 3) := by decide +kernel
theorem dX0_doAgain_27 : decode cX0_doAgain 27 = .ok (.aload_n 0, 1) := by decide +kernel
theorem dX0_doAgain_28 : decode cX0_doAgain 28 = .ok (.getfield 19, 3) := by decide +kernel
theorem dX0_doAgain_31 : decode cX0_doAgain 31 = .ok (.iaload, 1) := by decide +kernel
theorem dX0_doAgain_32 : decode cX0_doAgain 32 = .ok (.invokestatic 35, 3) := by decide +kernel
theorem dX0_doAgain_35 : decode cX0_doAgain 35 = .ok (.aload_n 0, 1) := by decide +kernel
theorem dX0_doAgain_36 : decode cX0_doAgain 36 = .ok (.dup, 1) := by decide +kernel
theorem dX0_doAgain_37 : decode cX0_doAgain 37 = .ok (.getfield 19, 3) := by decide +kernel
theorem dX0_doAgain_40 : decode cX0_doAgain 40 = .ok (.iconst 1, 1) := by decide +kernel
theorem dX0_doAgain_41 : decode cX0_doAgain 41 = .ok (.iadd, 1) := by decide +kernel
theorem dX0_doAgain_42 : decode cX0_doAgain 42 = .ok (.putfield 19, 3) := by decide +kernel
theorem dX0_doAgain_45 : decode cX0_doAgain 45 = .ok (.iconst 1, 1) := by decide +kernel
theorem dX0_doAgain_46 : decode cX0_doAgain 46 = .ok (.ireturn, 1) := by decide +kernel
theorem dX0_lay_0 : decode cX0_lay 0 = .ok (.iload_n 1, 1) := by decide +kernel
theorem dX0_lay_1 : decode cX0_lay 1 = .ok (.ifCond .lt 13, 3) := by decide +kernel
theorem dX0_lay_4 : decode cX0_lay 4 = .ok (.iload_n 1, 1) := by decide +kernel
theorem dX0_lay_5 : decode cX0_lay 5 = .ok (.aload_n 0, 1) := by decide +kernel
theorem dX0_lay_6 : decode cX0_lay 6 = .ok (.arraylength, 1) := by decide +kernel
theorem dX0_lay_7 : decode cX0_lay 7 = .ok (.if_icmp .ge 7, 3) := by decide +kernel
theorem dX0_lay_10 : decode cX0_lay 10 = .ok (.aload_n 0, 1) := by decide +kernel
theorem dX0_lay_11 : decode cX0_lay 11 = .ok (.iload_n 1, 1) := by decide +kernel
theorem dX0_lay_12 : decode cX0_lay 12 = .ok (.iload_n 2, 1) := by decide +kernel
theorem dX0_lay_13 : decode cX0_lay 13 = .ok (.iastore, 1) := by decide +kernel
theorem dX0_lay_14 : decode cX0_lay 14 = .ok (.return_, 1) := by decide +kernel
theorem dX1_init_0 : decode cX1_init 0 = .ok (.aload_n 0, 1) := by decide +kernel
theorem dX1_init_1 : decode cX1_init 1 = .ok (.invokespecial 3, 3) := by decide +kernel
theorem dX1_init_4 : decode cX1_init 4 = .ok (.aload_n 0, 1) := by decide +kernel
theorem dX1_init_5 : decode cX1_init 5 = .ok (.bipush 20, 2) := by decide +kernel
theorem dX1_init_7 : decode cX1_init 7 = .ok (.newarray .int, 2) := by decide +kernel
theorem dX1_init_9 : decode cX1_init 9 = .ok (.putfield 11, 3) := by decide +kernel
theorem dX1_init_12 : decode cX1_init 12 = .ok (.aload_n 0, 1) := by decide +kernel
theorem dX1_init_13 : decode cX1_init 13 = .ok (.bipush 20, 2) := by decide +kernel
theorem dX1_init_15 : decode cX1_init 15 = .ok (.newarray .int, 2) := by decide +kernel
theorem dX1_init_17 : decode cX1_init 17 = .ok (.putfield 15, 3) := by decide +kernel
theorem dX1_init_20 : decode cX1_init 20 = .ok (.aload_n 0, 1) := by decide +kernel
theorem dX1_init_21 : decode cX1_init 21 = .ok (.aload_n 1, 1) := by decide +kernel
theorem dX1_init_22 : decode cX1_init 22 = .ok (.putfield 18, 3) := by decide +kernel
theorem dX1_init_25 : decode cX1_init 25 = .ok (.return_, 1) := by decide +kernel
set_option maxRecDepth 20000 in
theorem dX1_layRound_0 : decode cX1_layRound 0 = .ok (.aload_n 0, 1) := by decide +kernel
theorem dX1_layRound_1 : decode cX1_layRound 1 = .ok (.iconst 0, 1) := by decide +kernel
theorem dX1_layRound_2 : decode cX1_layRound 2 = .ok (.putfield 22, 3) := by decide +kernel
theorem dX1_layRound_5 : decode cX1_layRound 5 = .ok (.bipush 20, 2) := by decide +kernel
theorem dX1_layRound_7 : decode cX1_layRound 7 = .ok (.aload_n 1, 1) := by decide +kernel
theorem dX1_layRound_8 : decode cX1_layRound 8 = .ok (.getfield 26, 3) := by decide +kernel
theorem dX1_layRound_11 : decode cX1_layRound 11 = .ok (.invokestatic 29, 3) := by decide +kernel
theorem dX1_layRound_14 : decode cX1_layRound 14 = .ok (.istore_n 2, 1) := by decide +kernel
theorem dX1_layRound_15 : decode cX1_layRound 15 = .ok (.iconst 0, 1) := by decide +kernel
theorem dX1_layRound_16 : decode cX1_layRound 16 = .ok (.istore_n 3, 1) := by decide +kernel
theorem dX1_layRound_17 : decode cX1_layRound 17 = .ok (.iload_n 3, 1) := by decide +kernel
theorem dX1_layRound_18 : decode cX1_layRound 18 = .ok (.iload_n 2, 1) := by decide +kernel
theorem dX1_layRound_19 : decode cX1_layRound 19 = .ok (.if_icmp .ge 47, 3) := by decide +kernel
theorem dX1_layRound_22 : decode cX1_layRound 22 = .ok (.aload_n 0, 1) := by decide +kernel
theorem dX1_layRound_23 : decode cX1_layRound 23 = .ok (.getfield 18, 3) := by decide +kernel
theorem dX1_layRound_26 : decode cX1_layRound 26 = .ok (.aload_n 1, 1) := by decide +kernel
theorem dX1_layRound_27 : decode cX1_layRound 27 = .ok (.iload_n 3, 1) := by decide +kernel
theorem dX1_layRound_28 : decode cX1_layRound 28 = .ok (.invokevirtual 35, 3) := by decide +kernel
theorem dX1_layRound_31 : decode cX1_layRound 31 = .ok (.l2i, 1) := by decide +kernel
theorem dX1_layRound_32 : decode cX1_layRound 32 = .ok (.invokevirtual 39, 3) := by decide +kernel
theorem dX1_layRound_35 : decode cX1_layRound 35 = .ok (.ifCond .eq 31, 3) := by decide +kernel
theorem dX1_layRound_38 : decode cX1_layRound 38 = .ok (.aload_n 0, 1) := by decide +kernel
theorem dX1_layRound_39 : decode cX1_layRound 39 = .ok (.getfield 11, 3) := by decide +kernel
theorem dX1_layRound_42 : decode cX1_layRound 42 = .ok (.aload_n 0, 1) := by decide +kernel
theorem dX1_layRound_43 : decode cX1_layRound 43 = .ok (.dup, 1) := by decide +kernel
theorem dX1_layRound_44 : decode cX1_layRound 44 = .ok (.getfield 22, 3) := by decide +kernel
theorem dX1_layRound_47 : decode cX1_layRound 47 = .ok (.dup_x1, 1) := by decide +kernel
theorem dX1_layRound_48 : decode cX1_layRound 48 = .ok (.iconst 1, 1) := by decide +kernel
theorem dX1_layRound_49 : decode cX1_layRound 49 = .ok (.iadd, 1) := by decide +kernel
theorem dX1_layRound_50 : decode cX1_layRound 50 = .ok (.putfield 22, 3) := by decide +kernel
theorem dX1_layRound_53 : decode cX1_layRound 53 = .ok (.aload_n 1, 1) := by decide +kernel
theorem dX1_layRound_54 : decode cX1_layRound 54 = .ok (.iload_n 3, 1) := by decide +kernel
theorem dX1_layRound_55 : decode cX1_layRound 55 = .ok (.invokevirtual 35, 3) := by decide +kernel
theorem dX1_layRound_58 : decode cX1_layRound 58 = .ok (.l2i, 1) := by decide +kernel
theorem dX1_layRound_59 : decode cX1_layRound 59 = .ok (.iastore, 1) := by decide +kernel
theorem dX1_layRound_60 : decode cX1_layRound 60 = .ok (.iinc 3 1, 3) := by decide +kernel
theorem dX1_layRound_63 : decode cX1_layRound 63 = .ok (.goto (-46), 3) := by decide +kernel
theorem dX1_layRound_66 : decode cX1_layRound 66 = .ok (.aload_n 0, 1) := by decide +kernel
theorem dX1_layRound_67 : decode cX1_layRound 67 = .ok (.invokevirtual 45, 3) := by decide +kernel
theorem dX1_layRound_70 : decode cX1_layRound 70 = .ok (.return_, 1) := by decide +kernel
set_option maxRecDepth 20000 in
theorem dX1_layTurned_0 : decode cX1_layTurned 0 = .ok (.aload_n 0, 1) := by decide +kernel
theorem dX1_layTurned_1 : decode cX1_layTurned 1 = .ok (.aload_n 1, 1) := by decide +kernel
theorem dX1_layTurned_2 : decode cX1_layTurned 2 = .ok (.getfield 22, 3) := by decide +kernel
theorem dX1_layTurned_5 : decode cX1_layTurned 5 = .ok (.putfield 22, 3) := by decide +kernel
theorem dX1_layTurned_8 : decode cX1_layTurned 8 = .ok (.iconst 0, 1) := by decide +kernel
theorem dX1_layTurned_9 : decode cX1_layTurned 9 = .ok (.istore_n 2, 1) := by decide +kernel
theorem dX1_layTurned_10 : decode cX1_layTurned 10 = .ok (.iload_n 2, 1) := by decide +kernel
theorem dX1_layTurned_11 : decode cX1_layTurned 11 = .ok (.aload_n 0, 1) := by decide +kernel
theorem dX1_layTurned_12 : decode cX1_layTurned 12 = .ok (.getfield 22, 3) := by decide +kernel
theorem dX1_layTurned_15 : decode cX1_layTurned 15 = .ok (.if_icmp .ge 28, 3) := by decide +kernel
theorem dX1_layTurned_18 : decode cX1_layTurned 18 = .ok (.aload_n 0, 1) := by decide +kernel
theorem dX1_layTurned_19 : decode cX1_layTurned 19 = .ok (.getfield 11, 3) := by decide +kernel
theorem dX1_layTurned_22 : decode cX1_layTurned 22 = .ok (.iload_n 2, 1) := by decide +kernel
theorem dX1_layTurned_23 : decode cX1_layTurned 23 = .ok (.aload_n 1, 1) := by decide +kernel
theorem dX1_layTurned_24 : decode cX1_layTurned 24 = .ok (.getfield 11, 3) := by decide +kernel
theorem dX1_layTurned_27 : decode cX1_layTurned 27 = .ok (.aload_n 0, 1) := by decide +kernel
theorem dX1_layTurned_28 : decode cX1_layTurned 28 = .ok (.getfield 22, 3) := by decide +kernel
theorem dX1_layTurned_31 : decode cX1_layTurned 31 = .ok (.iconst 1, 1) := by decide +kernel
theorem dX1_layTurned_32 : decode cX1_layTurned 32 = .ok (.isub, 1) := by decide +kernel
theorem dX1_layTurned_33 : decode cX1_layTurned 33 = .ok (.iload_n 2, 1) := by decide +kernel
theorem dX1_layTurned_34 : decode cX1_layTurned 34 = .ok (.isub, 1) := by decide +kernel
theorem dX1_layTurned_35 : decode cX1_layTurned 35 = .ok (.iaload, 1) := by decide +kernel
theorem dX1_layTurned_36 : decode cX1_layTurned 36 = .ok (.iastore, 1) := by decide +kernel
theorem dX1_layTurned_37 : decode cX1_layTurned 37 = .ok (.iinc 2 1, 3) := by decide +kernel
theorem dX1_layTurned_40 : decode cX1_layTurned 40 = .ok (.goto (-30), 3) := by decide +kernel
theorem dX1_layTurned_43 : decode cX1_layTurned 43 = .ok (.aload_n 0, 1) := by decide +kernel
theorem dX1_layTurned_44 : decode cX1_layTurned 44 = .ok (.invokevirtual 45, 3) := by decide +kernel
theorem dX1_layTurned_47 : decode cX1_layTurned 47 = .ok (.return_, 1) := by decide +kernel
set_option maxRecDepth 20000 in
theorem dX1_layOrder_0 : decode cX1_layOrder 0 = .ok (.aload_n 0, 1) := by decide +kernel
theorem dX1_layOrder_1 : decode cX1_layOrder 1 = .ok (.iload_n 2, 1) := by decide +kernel
theorem dX1_layOrder_2 : decode cX1_layOrder 2 = .ok (.bipush 20, 2) := by decide +kernel
theorem dX1_layOrder_4 : decode cX1_layOrder 4 = .ok (.aload_n 1, 1) := by decide +kernel
theorem dX1_layOrder_5 : decode cX1_layOrder 5 = .ok (.arraylength, 1) := by decide +kernel
theorem dX1_layOrder_6 : decode cX1_layOrder 6 = .ok (.invokestatic 29, 3) := by decide +kernel
theorem dX1_layOrder_9 : decode cX1_layOrder 9 = .ok (.invokestatic 29, 3) := by decide +kernel
theorem dX1_layOrder_12 : decode cX1_layOrder 12 = .ok (.putfield 22, 3) := by decide +kernel
theorem dX1_layOrder_15 : decode cX1_layOrder 15 = .ok (.iconst 0, 1) := by decide +kernel
theorem dX1_layOrder_16 : decode cX1_layOrder 16 = .ok (.istore_n 3, 1) := by decide +kernel
theorem dX1_layOrder_17 : decode cX1_layOrder 17 = .ok (.iload_n 3, 1) := by decide +kernel
theorem dX1_layOrder_18 : decode cX1_layOrder 18 = .ok (.aload_n 0, 1) := by decide +kernel
theorem dX1_layOrder_19 : decode cX1_layOrder 19 = .ok (.getfield 22, 3) := by decide +kernel
theorem dX1_layOrder_22 : decode cX1_layOrder 22 = .ok (.if_icmp .ge 18, 3) := by decide +kernel
theorem dX1_layOrder_25 : decode cX1_layOrder 25 = .ok (.aload_n 0, 1) := by decide +kernel
theorem dX1_layOrder_26 : decode cX1_layOrder 26 = .ok (.getfield 11, 3) := by decide +kernel
theorem dX1_layOrder_29 : decode cX1_layOrder 29 = .ok (.iload_n 3, 1) := by decide +kernel
theorem dX1_layOrder_30 : decode cX1_layOrder 30 = .ok (.aload_n 1, 1) := by decide +kernel
theorem dX1_layOrder_31 : decode cX1_layOrder 31 = .ok (.iload_n 3, 1) := by decide +kernel
theorem dX1_layOrder_32 : decode cX1_layOrder 32 = .ok (.iaload, 1) := by decide +kernel
theorem dX1_layOrder_33 : decode cX1_layOrder 33 = .ok (.iastore, 1) := by decide +kernel
theorem dX1_layOrder_34 : decode cX1_layOrder 34 = .ok (.iinc 3 1, 3) := by decide +kernel
theorem dX1_layOrder_37 : decode cX1_layOrder 37 = .ok (.goto (-20), 3) := by decide +kernel
theorem dX1_layOrder_40 : decode cX1_layOrder 40 = .ok (.aload_n 0, 1) := by decide +kernel
theorem dX1_layOrder_41 : decode cX1_layOrder 41 = .ok (.invokevirtual 45, 3) := by decide +kernel
theorem dX1_layOrder_44 : decode cX1_layOrder 44 = .ok (.return_, 1) := by decide +kernel
set_option maxRecDepth 20000 in
theorem dX1_measure_0 : decode cX1_measure 0 = .ok (.aload_n 0, 1) := by decide +kernel
theorem dX1_measure_1 : decode cX1_measure 1 = .ok (.iconst 0, 1) := by decide +kernel
theorem dX1_measure_2 : decode cX1_measure 2 = .ok (.putfield 48, 3) := by decide +kernel
theorem dX1_measure_5 : decode cX1_measure 5 = .ok (.aload_n 0, 1) := by decide +kernel
theorem dX1_measure_6 : decode cX1_measure 6 = .ok (.iconst 0, 1) := by decide +kernel
theorem dX1_measure_7 : decode cX1_measure 7 = .ok (.putfield 51, 3) := by decide +kernel
theorem dX1_measure_10 : decode cX1_measure 10 = .ok (.aload_n 0, 1) := by decide +kernel
theorem dX1_measure_11 : decode cX1_measure 11 = .ok (.getfield 22, 3) := by decide +kernel
theorem dX1_measure_14 : decode cX1_measure 14 = .ok (.ifCond .ne 4, 3) := by decide +kernel
theorem dX1_measure_17 : decode cX1_measure 17 = .ok (.return_, 1) := by decide +kernel
theorem dX1_measure_18 : decode cX1_measure 18 = .ok (.aload_n 0, 1) := by decide +kernel
theorem dX1_measure_19 : decode cX1_measure 19 = .ok (.aload_n 0, 1) := by decide +kernel
theorem dX1_measure_20 : decode cX1_measure 20 = .ok (.getfield 18, 3) := by decide +kernel
theorem dX1_measure_23 : decode cX1_measure 23 = .ok (.bipush 9, 2) := by decide +kernel
theorem dX1_measure_25 : decode cX1_measure 25 = .ok (.aload_n 0, 1) := by decide +kernel
theorem dX1_measure_26 : decode cX1_measure 26 = .ok (.getfield 11, 3) := by decide +kernel
theorem dX1_measure_29 : decode cX1_measure 29 = .ok (.iconst 0, 1) := by decide +kernel
theorem dX1_measure_30 : decode cX1_measure 30 = .ok (.iaload, 1) := by decide +kernel
theorem dX1_measure_31 : decode cX1_measure 31 = .ok (.invokevirtual 54, 3) := by decide +kernel
theorem dX1_measure_34 : decode cX1_measure 34 = .ok (.putfield 48, 3) := by decide +kernel
theorem dX1_measure_37 : decode cX1_measure 37 = .ok (.aload_n 0, 1) := by decide +kernel
theorem dX1_measure_38 : decode cX1_measure 38 = .ok (.getfield 15, 3) := by decide +kernel
theorem dX1_measure_41 : decode cX1_measure 41 = .ok (.iconst 0, 1) := by decide +kernel
theorem dX1_measure_42 : decode cX1_measure 42 = .ok (.iconst 0, 1) := by decide +kernel
theorem dX1_measure_43 : decode cX1_measure 43 = .ok (.iastore, 1) := by decide +kernel
theorem dX1_measure_44 : decode cX1_measure 44 = .ok (.iconst 1, 1) := by decide +kernel
theorem dX1_measure_45 : decode cX1_measure 45 = .ok (.istore_n 1, 1) := by decide +kernel
theorem dX1_measure_46 : decode cX1_measure 46 = .ok (.iload_n 1, 1) := by decide +kernel
theorem dX1_measure_47 : decode cX1_measure 47 = .ok (.aload_n 0, 1) := by decide +kernel
theorem dX1_measure_48 : decode cX1_measure 48 = .ok (.getfield 22, 3) := by decide +kernel
theorem dX1_measure_51 : decode cX1_measure 51 = .ok (.if_icmp .ge 53, 3) := by decide +kernel
theorem dX1_measure_54 : decode cX1_measure 54 = .ok (.aload_n 0, 1) := by decide +kernel
theorem dX1_measure_55 : decode cX1_measure 55 = .ok (.getfield 15, 3) := by decide +kernel
theorem dX1_measure_58 : decode cX1_measure 58 = .ok (.iload_n 1, 1) := by decide +kernel
theorem dX1_measure_59 : decode cX1_measure 59 = .ok (.aload_n 0, 1) := by decide +kernel
theorem dX1_measure_60 : decode cX1_measure 60 = .ok (.getfield 15, 3) := by decide +kernel
theorem dX1_measure_63 : decode cX1_measure 63 = .ok (.iload_n 1, 1) := by decide +kernel
theorem dX1_measure_64 : decode cX1_measure 64 = .ok (.iconst 1, 1) := by decide +kernel
theorem dX1_measure_65 : decode cX1_measure 65 = .ok (.isub, 1) := by decide +kernel
theorem dX1_measure_66 : decode cX1_measure 66 = .ok (.iaload, 1) := by decide +kernel
theorem dX1_measure_67 : decode cX1_measure 67 = .ok (.aload_n 0, 1) := by decide +kernel
theorem dX1_measure_68 : decode cX1_measure 68 = .ok (.getfield 18, 3) := by decide +kernel
theorem dX1_measure_71 : decode cX1_measure 71 = .ok (.invokevirtual 57, 3) := by decide +kernel
theorem dX1_measure_74 : decode cX1_measure 74 = .ok (.iadd, 1) := by decide +kernel
theorem dX1_measure_75 : decode cX1_measure 75 = .ok (.aload_n 0, 1) := by decide +kernel
theorem dX1_measure_76 : decode cX1_measure 76 = .ok (.getfield 18, 3) := by decide +kernel
theorem dX1_measure_79 : decode cX1_measure 79 = .ok (.aload_n 0, 1) := by decide +kernel
theorem dX1_measure_80 : decode cX1_measure 80 = .ok (.getfield 11, 3) := by decide +kernel
theorem dX1_measure_83 : decode cX1_measure 83 = .ok (.iload_n 1, 1) := by decide +kernel
theorem dX1_measure_84 : decode cX1_measure 84 = .ok (.iconst 1, 1) := by decide +kernel
theorem dX1_measure_85 : decode cX1_measure 85 = .ok (.isub, 1) := by decide +kernel
theorem dX1_measure_86 : decode cX1_measure 86 = .ok (.iaload, 1) := by decide +kernel
theorem dX1_measure_87 : decode cX1_measure 87 = .ok (.aload_n 0, 1) := by decide +kernel
theorem dX1_measure_88 : decode cX1_measure 88 = .ok (.getfield 11, 3) := by decide +kernel
theorem dX1_measure_91 : decode cX1_measure 91 = .ok (.iload_n 1, 1) := by decide +kernel
theorem dX1_measure_92 : decode cX1_measure 92 = .ok (.iaload, 1) := by decide +kernel
theorem dX1_measure_93 : decode cX1_measure 93 = .ok (.invokevirtual 54, 3) := by decide +kernel
theorem dX1_measure_96 : decode cX1_measure 96 = .ok (.iadd, 1) := by decide +kernel
theorem dX1_measure_97 : decode cX1_measure 97 = .ok (.iastore, 1) := by decide +kernel
theorem dX1_measure_98 : decode cX1_measure 98 = .ok (.iinc 1 1, 3) := by decide +kernel
theorem dX1_measure_101 : decode cX1_measure 101 = .ok (.goto (-55), 3) := by decide +kernel
theorem dX1_measure_104 : decode cX1_measure 104 = .ok (.aload_n 0, 1) := by decide +kernel
theorem dX1_measure_105 : decode cX1_measure 105 = .ok (.aload_n 0, 1) := by decide +kernel
theorem dX1_measure_106 : decode cX1_measure 106 = .ok (.getfield 15, 3) := by decide +kernel
theorem dX1_measure_109 : decode cX1_measure 109 = .ok (.aload_n 0, 1) := by decide +kernel
theorem dX1_measure_110 : decode cX1_measure 110 = .ok (.getfield 22, 3) := by decide +kernel
theorem dX1_measure_113 : decode cX1_measure 113 = .ok (.iconst 1, 1) := by decide +kernel
theorem dX1_measure_114 : decode cX1_measure 114 = .ok (.isub, 1) := by decide +kernel
theorem dX1_measure_115 : decode cX1_measure 115 = .ok (.iaload, 1) := by decide +kernel
theorem dX1_measure_116 : decode cX1_measure 116 = .ok (.aload_n 0, 1) := by decide +kernel
theorem dX1_measure_117 : decode cX1_measure 117 = .ok (.getfield 18, 3) := by decide +kernel
theorem dX1_measure_120 : decode cX1_measure 120 = .ok (.invokevirtual 57, 3) := by decide +kernel
theorem dX1_measure_123 : decode cX1_measure 123 = .ok (.iadd, 1) := by decide +kernel
theorem dX1_measure_124 : decode cX1_measure 124 = .ok (.aload_n 0, 1) := by decide +kernel
theorem dX1_measure_125 : decode cX1_measure 125 = .ok (.getfield 18, 3) := by decide +kernel
theorem dX1_measure_128 : decode cX1_measure 128 = .ok (.aload_n 0, 1) := by decide +kernel
theorem dX1_measure_129 : decode cX1_measure 129 = .ok (.getfield 11, 3) := by decide +kernel
theorem dX1_measure_132 : decode cX1_measure 132 = .ok (.aload_n 0, 1) := by decide +kernel
theorem dX1_measure_133 : decode cX1_measure 133 = .ok (.getfield 22, 3) := by decide +kernel
theorem dX1_measure_136 : decode cX1_measure 136 = .ok (.iconst 1, 1) := by decide +kernel
theorem dX1_measure_137 : decode cX1_measure 137 = .ok (.isub, 1) := by decide +kernel
theorem dX1_measure_138 : decode cX1_measure 138 = .ok (.iaload, 1) := by decide +kernel
theorem dX1_measure_139 : decode cX1_measure 139 = .ok (.aload_n 0, 1) := by decide +kernel
theorem dX1_measure_140 : decode cX1_measure 140 = .ok (.getfield 11, 3) := by decide +kernel
theorem dX1_measure_143 : decode cX1_measure 143 = .ok (.iconst 0, 1) := by decide +kernel
theorem dX1_measure_144 : decode cX1_measure 144 = .ok (.iaload, 1) := by decide +kernel
theorem dX1_measure_145 : decode cX1_measure 145 = .ok (.invokevirtual 54, 3) := by decide +kernel
theorem dX1_measure_148 : decode cX1_measure 148 = .ok (.iadd, 1) := by decide +kernel
theorem dX1_measure_149 : decode cX1_measure 149 = .ok (.putfield 51, 3) := by decide +kernel
theorem dX1_measure_152 : decode cX1_measure 152 = .ok (.return_, 1) := by decide +kernel
theorem dX1_stopOf_0 : decode cX1_stopOf 0 = .ok (.aload_n 0, 1) := by decide +kernel
theorem dX1_stopOf_1 : decode cX1_stopOf 1 = .ok (.getfield 22, 3) := by decide +kernel
theorem dX1_stopOf_4 : decode cX1_stopOf 4 = .ok (.ifCond .eq 7, 3) := by decide +kernel
theorem dX1_stopOf_7 : decode cX1_stopOf 7 = .ok (.iload_n 1, 1) := by decide +kernel
theorem dX1_stopOf_8 : decode cX1_stopOf 8 = .ok (.ifCond .ge 8, 3) := by decide +kernel
theorem dX1_stopOf_11 : decode cX1_stopOf 11 = .ok (.bipush (-2), 2) := by decide +kernel
theorem dX1_stopOf_13 : decode cX1_stopOf 13 = .ok (.goto 14, 3) := by decide +kernel
theorem dX1_stopOf_16 : decode cX1_stopOf 16 = .ok (.aload_n 0, 1) := by decide +kernel
theorem dX1_stopOf_17 : decode cX1_stopOf 17 = .ok (.getfield 11, 3) := by decide +kernel
theorem dX1_stopOf_20 : decode cX1_stopOf 20 = .ok (.iload_n 1, 1) := by decide +kernel
theorem dX1_stopOf_21 : decode cX1_stopOf 21 = .ok (.aload_n 0, 1) := by decide +kernel
theorem dX1_stopOf_22 : decode cX1_stopOf 22 = .ok (.getfield 22, 3) := by decide +kernel
theorem dX1_stopOf_25 : decode cX1_stopOf 25 = .ok (.irem, 1) := by decide +kernel
theorem dX1_stopOf_26 : decode cX1_stopOf 26 = .ok (.iaload, 1) := by decide +kernel
theorem dX1_stopOf_27 : decode cX1_stopOf 27 = .ok (.ireturn, 1) := by decide +kernel
theorem dX1_minuteOf_0 : decode cX1_minuteOf 0 = .ok (.aload_n 0, 1) := by decide +kernel
theorem dX1_minuteOf_1 : decode cX1_minuteOf 1 = .ok (.getfield 22, 3) := by decide +kernel
theorem dX1_minuteOf_4 : decode cX1_minuteOf 4 = .ok (.ifCond .eq 7, 3) := by decide +kernel
theorem dX1_minuteOf_7 : decode cX1_minuteOf 7 = .ok (.iload_n 1, 1) := by decide +kernel
theorem dX1_minuteOf_8 : decode cX1_minuteOf 8 = .ok (.ifCond .ge 8, 3) := by decide +kernel
theorem dX1_minuteOf_11 : decode cX1_minuteOf 11 = .ok (.bipush (-2), 2) := by decide +kernel
theorem dX1_minuteOf_13 : decode cX1_minuteOf 13 = .ok (.goto 31, 3) := by decide +kernel
theorem dX1_minuteOf_16 : decode cX1_minuteOf 16 = .ok (.aload_n 0, 1) := by decide +kernel
theorem dX1_minuteOf_17 : decode cX1_minuteOf 17 = .ok (.getfield 48, 3) := by decide +kernel
theorem dX1_minuteOf_20 : decode cX1_minuteOf 20 = .ok (.iload_n 1, 1) := by decide +kernel
theorem dX1_minuteOf_21 : decode cX1_minuteOf 21 = .ok (.aload_n 0, 1) := by decide +kernel
theorem dX1_minuteOf_22 : decode cX1_minuteOf 22 = .ok (.getfield 22, 3) := by decide +kernel
theorem dX1_minuteOf_25 : decode cX1_minuteOf 25 = .ok (.idiv, 1) := by decide +kernel
theorem dX1_minuteOf_26 : decode cX1_minuteOf 26 = .ok (.aload_n 0, 1) := by decide +kernel
theorem dX1_minuteOf_27 : decode cX1_minuteOf 27 = .ok (.getfield 51, 3) := by decide +kernel
theorem dX1_minuteOf_30 : decode cX1_minuteOf 30 = .ok (.imul, 1) := by decide +kernel
theorem dX1_minuteOf_31 : decode cX1_minuteOf 31 = .ok (.iadd, 1) := by decide +kernel
theorem dX1_minuteOf_32 : decode cX1_minuteOf 32 = .ok (.aload_n 0, 1) := by decide +kernel
theorem dX1_minuteOf_33 : decode cX1_minuteOf 33 = .ok (.getfield 15, 3) := by decide +kernel
theorem dX1_minuteOf_36 : decode cX1_minuteOf 36 = .ok (.iload_n 1, 1) := by decide +kernel
theorem dX1_minuteOf_37 : decode cX1_minuteOf 37 = .ok (.aload_n 0, 1) := by decide +kernel
theorem dX1_minuteOf_38 : decode cX1_minuteOf 38 = .ok (.getfield 22, 3) := by decide +kernel
theorem dX1_minuteOf_41 : decode cX1_minuteOf 41 = .ok (.irem, 1) := by decide +kernel
theorem dX1_minuteOf_42 : decode cX1_minuteOf 42 = .ok (.iaload, 1) := by decide +kernel
theorem dX1_minuteOf_43 : decode cX1_minuteOf 43 = .ok (.iadd, 1) := by decide +kernel
theorem dX1_minuteOf_44 : decode cX1_minuteOf 44 = .ok (.ireturn, 1) := by decide +kernel
set_option maxRecDepth 20000 in
theorem dX1_seenMinutes_0 : decode cX1_seenMinutes 0 = .ok (.iconst 1, 1) := by decide +kernel
theorem dX1_seenMinutes_1 : decode cX1_seenMinutes 1 = .ok (.aload_n 0, 1) := by decide +kernel
theorem dX1_seenMinutes_2 : decode cX1_seenMinutes 2 = .ok (.getfield 18, 3) := by decide +kernel
theorem dX1_seenMinutes_5 : decode cX1_seenMinutes 5 = .ok (.invokevirtual 57, 3) := by decide +kernel
theorem dX1_seenMinutes_8 : decode cX1_seenMinutes 8 = .ok (.invokestatic 61, 3) := by decide +kernel
theorem dX1_seenMinutes_11 : decode cX1_seenMinutes 11 = .ok (.ireturn, 1) := by decide +kernel
theorem dX1_dentsBy_0 : decode cX1_dentsBy 0 = .ok (.iload_n 1, 1) := by decide +kernel
theorem dX1_dentsBy_1 : decode cX1_dentsBy 1 = .ok (.sipush 1999, 3) := by decide +kernel
theorem dX1_dentsBy_4 : decode cX1_dentsBy 4 = .ok (.invokestatic 29, 3) := by decide +kernel
theorem dX1_dentsBy_7 : decode cX1_dentsBy 7 = .ok (.aload_n 0, 1) := by decide +kernel
theorem dX1_dentsBy_8 : decode cX1_dentsBy 8 = .ok (.getfield 48, 3) := by decide +kernel
theorem dX1_dentsBy_11 : decode cX1_dentsBy 11 = .ok (.isub, 1) := by decide +kernel
theorem dX1_dentsBy_12 : decode cX1_dentsBy 12 = .ok (.istore_n 2, 1) := by decide +kernel
theorem dX1_dentsBy_13 : decode cX1_dentsBy 13 = .ok (.aload_n 0, 1) := by decide +kernel
theorem dX1_dentsBy_14 : decode cX1_dentsBy 14 = .ok (.getfield 22, 3) := by decide +kernel
theorem dX1_dentsBy_17 : decode cX1_dentsBy 17 = .ok (.ifCond .eq 7, 3) := by decide +kernel
theorem dX1_dentsBy_20 : decode cX1_dentsBy 20 = .ok (.iload_n 2, 1) := by decide +kernel
theorem dX1_dentsBy_21 : decode cX1_dentsBy 21 = .ok (.ifCond .ge 5, 3) := by decide +kernel
theorem dX1_dentsBy_24 : decode cX1_dentsBy 24 = .ok (.iconst 0, 1) := by decide +kernel
theorem dX1_dentsBy_25 : decode cX1_dentsBy 25 = .ok (.ireturn, 1) := by decide +kernel
theorem dX1_dentsBy_26 : decode cX1_dentsBy 26 = .ok (.aload_n 0, 1) := by decide +kernel
theorem dX1_dentsBy_27 : decode cX1_dentsBy 27 = .ok (.getfield 51, 3) := by decide +kernel
theorem dX1_dentsBy_30 : decode cX1_dentsBy 30 = .ok (.ifCond .ne 7, 3) := by decide +kernel
theorem dX1_dentsBy_33 : decode cX1_dentsBy 33 = .ok (.sipush 4000, 3) := by decide +kernel
theorem dX1_dentsBy_36 : decode cX1_dentsBy 36 = .ok (.ireturn, 1) := by decide +kernel
theorem dX1_dentsBy_37 : decode cX1_dentsBy 37 = .ok (.iload_n 2, 1) := by decide +kernel
theorem dX1_dentsBy_38 : decode cX1_dentsBy 38 = .ok (.aload_n 0, 1) := by decide +kernel
theorem dX1_dentsBy_39 : decode cX1_dentsBy 39 = .ok (.getfield 51, 3) := by decide +kernel
theorem dX1_dentsBy_42 : decode cX1_dentsBy 42 = .ok (.idiv, 1) := by decide +kernel
theorem dX1_dentsBy_43 : decode cX1_dentsBy 43 = .ok (.aload_n 0, 1) := by decide +kernel
theorem dX1_dentsBy_44 : decode cX1_dentsBy 44 = .ok (.getfield 22, 3) := by decide +kernel
theorem dX1_dentsBy_47 : decode cX1_dentsBy 47 = .ok (.imul, 1) := by decide +kernel
theorem dX1_dentsBy_48 : decode cX1_dentsBy 48 = .ok (.istore_n 3, 1) := by decide +kernel
theorem dX1_dentsBy_49 : decode cX1_dentsBy 49 = .ok (.iconst 0, 1) := by decide +kernel
theorem dX1_dentsBy_50 : decode cX1_dentsBy 50 = .ok (.istore 4, 2) := by decide +kernel
theorem dX1_dentsBy_52 : decode cX1_dentsBy 52 = .ok (.iload 4, 2) := by decide +kernel
theorem dX1_dentsBy_54 : decode cX1_dentsBy 54 = .ok (.aload_n 0, 1) := by decide +kernel
theorem dX1_dentsBy_55 : decode cX1_dentsBy 55 = .ok (.getfield 22, 3) := by decide +kernel
theorem dX1_dentsBy_58 : decode cX1_dentsBy 58 = .ok (.if_icmp .ge 28, 3) := by decide +kernel
theorem dX1_dentsBy_61 : decode cX1_dentsBy 61 = .ok (.aload_n 0, 1) := by decide +kernel
theorem dX1_dentsBy_62 : decode cX1_dentsBy 62 = .ok (.getfield 15, 3) := by decide +kernel
theorem dX1_dentsBy_65 : decode cX1_dentsBy 65 = .ok (.iload 4, 2) := by decide +kernel
theorem dX1_dentsBy_67 : decode cX1_dentsBy 67 = .ok (.iaload, 1) := by decide +kernel
theorem dX1_dentsBy_68 : decode cX1_dentsBy 68 = .ok (.iload_n 2, 1) := by decide +kernel
theorem dX1_dentsBy_69 : decode cX1_dentsBy 69 = .ok (.aload_n 0, 1) := by decide +kernel
theorem dX1_dentsBy_70 : decode cX1_dentsBy 70 = .ok (.getfield 51, 3) := by decide +kernel
theorem dX1_dentsBy_73 : decode cX1_dentsBy 73 = .ok (.irem, 1) := by decide +kernel
theorem dX1_dentsBy_74 : decode cX1_dentsBy 74 = .ok (.if_icmp .gt 12, 3) := by decide +kernel
theorem dX1_dentsBy_77 : decode cX1_dentsBy 77 = .ok (.iinc 3 1, 3) := by decide +kernel
theorem dX1_dentsBy_80 : decode cX1_dentsBy 80 = .ok (.iinc 4 1, 3) := by decide +kernel
theorem dX1_dentsBy_83 : decode cX1_dentsBy 83 = .ok (.goto (-31), 3) := by decide +kernel
theorem dX1_dentsBy_86 : decode cX1_dentsBy 86 = .ok (.iload_n 3, 1) := by decide +kernel
theorem dX1_dentsBy_87 : decode cX1_dentsBy 87 = .ok (.sipush 4000, 3) := by decide +kernel
theorem dX1_dentsBy_90 : decode cX1_dentsBy 90 = .ok (.invokestatic 29, 3) := by decide +kernel
theorem dX1_dentsBy_93 : decode cX1_dentsBy 93 = .ok (.ireturn, 1) := by decide +kernel
set_option maxRecDepth 20000 in
theorem dX1_tellDents_0 : decode cX1_tellDents 0 = .ok (.aload_n 0, 1) := by decide +kernel
theorem dX1_tellDents_1 : decode cX1_tellDents 1 = .ok (.iload_n 2, 1) := by decide +kernel
theorem dX1_tellDents_2 : decode cX1_tellDents 2 = .ok (.invokevirtual 64, 3) := by decide +kernel
theorem dX1_tellDents_5 : decode cX1_tellDents 5 = .ok (.istore 4, 2) := by decide +kernel
theorem dX1_tellDents_7 : decode cX1_tellDents 7 = .ok (.aload_n 0, 1) := by decide +kernel
theorem dX1_tellDents_8 : decode cX1_tellDents 8 = .ok (.getfield 22, 3) := by decide +kernel
theorem dX1_tellDents_11 : decode cX1_tellDents 11 = .ok (.ifCond .ne 7, 3) := by decide +kernel
theorem dX1_tellDents_14 : decode cX1_tellDents 14 = .ok (.iconst 0, 1) := by decide +kernel
theorem dX1_tellDents_15 : decode cX1_tellDents 15 = .ok (.goto 17, 3) := by decide +kernel
theorem dX1_tellDents_18 : decode cX1_tellDents 18 = .ok (.iload 4, 2) := by decide +kernel
theorem dX1_tellDents_20 : decode cX1_tellDents 20 = .ok (.aload_n 0, 1) := by decide +kernel
theorem dX1_tellDents_21 : decode cX1_tellDents 21 = .ok (.getfield 22, 3) := by decide +kernel
theorem dX1_tellDents_24 : decode cX1_tellDents 24 = .ok (.iadd, 1) := by decide +kernel
theorem dX1_tellDents_25 : decode cX1_tellDents 25 = .ok (.iconst 1, 1) := by decide +kernel
theorem dX1_tellDents_26 : decode cX1_tellDents 26 = .ok (.isub, 1) := by decide +kernel
theorem dX1_tellDents_27 : decode cX1_tellDents 27 = .ok (.aload_n 0, 1) := by decide +kernel
theorem dX1_tellDents_28 : decode cX1_tellDents 28 = .ok (.getfield 22, 3) := by decide +kernel
theorem dX1_tellDents_31 : decode cX1_tellDents 31 = .ok (.idiv, 1) := by decide +kernel
theorem dX1_tellDents_32 : decode cX1_tellDents 32 = .ok (.istore 5, 2) := by decide +kernel
theorem dX1_tellDents_34 : decode cX1_tellDents 34 = .ok (.iconst 0, 1) := by decide +kernel
theorem dX1_tellDents_35 : decode cX1_tellDents 35 = .ok (.istore 6, 2) := by decide +kernel
theorem dX1_tellDents_37 : decode cX1_tellDents 37 = .ok (.iload 6, 2) := by decide +kernel
theorem dX1_tellDents_39 : decode cX1_tellDents 39 = .ok (.iload 5, 2) := by decide +kernel
theorem dX1_tellDents_41 : decode cX1_tellDents 41 = .ok (.if_icmp .ge 79, 3) := by decide +kernel
theorem dX1_tellDents_44 : decode cX1_tellDents 44 = .ok (.aload_n 0, 1) := by decide +kernel
theorem dX1_tellDents_45 : decode cX1_tellDents 45 = .ok (.getfield 22, 3) := by decide +kernel
theorem dX1_tellDents_48 : decode cX1_tellDents 48 = .ok (.iload 4, 2) := by decide +kernel
theorem dX1_tellDents_50 : decode cX1_tellDents 50 = .ok (.iload 6, 2) := by decide +kernel
theorem dX1_tellDents_52 : decode cX1_tellDents 52 = .ok (.aload_n 0, 1) := by decide +kernel
theorem dX1_tellDents_53 : decode cX1_tellDents 53 = .ok (.getfield 22, 3) := by decide +kernel
theorem dX1_tellDents_56 : decode cX1_tellDents 56 = .ok (.imul, 1) := by decide +kernel
theorem dX1_tellDents_57 : decode cX1_tellDents 57 = .ok (.isub, 1) := by decide +kernel
theorem dX1_tellDents_58 : decode cX1_tellDents 58 = .ok (.invokestatic 29, 3) := by decide +kernel
theorem dX1_tellDents_61 : decode cX1_tellDents 61 = .ok (.istore 7, 2) := by decide +kernel
theorem dX1_tellDents_63 : decode cX1_tellDents 63 = .ok (.iconst 0, 1) := by decide +kernel
theorem dX1_tellDents_64 : decode cX1_tellDents 64 = .ok (.istore 8, 2) := by decide +kernel
theorem dX1_tellDents_66 : decode cX1_tellDents 66 = .ok (.iload 8, 2) := by decide +kernel
theorem dX1_tellDents_68 : decode cX1_tellDents 68 = .ok (.iload 7, 2) := by decide +kernel
theorem dX1_tellDents_70 : decode cX1_tellDents 70 = .ok (.if_icmp .ge 44, 3) := by decide +kernel
theorem dX1_tellDents_73 : decode cX1_tellDents 73 = .ok (.aload_n 0, 1) := by decide +kernel
theorem dX1_tellDents_74 : decode cX1_tellDents 74 = .ok (.getfield 11, 3) := by decide +kernel
theorem dX1_tellDents_77 : decode cX1_tellDents 77 = .ok (.iload 8, 2) := by decide +kernel
theorem dX1_tellDents_79 : decode cX1_tellDents 79 = .ok (.iaload, 1) := by decide +kernel
theorem dX1_tellDents_80 : decode cX1_tellDents 80 = .ok (.iload_n 1, 1) := by decide +kernel
theorem dX1_tellDents_81 : decode cX1_tellDents 81 = .ok (.if_icmp .ne 27, 3) := by decide +kernel
theorem dX1_tellDents_84 : decode cX1_tellDents 84 = .ok (.aload_n 3, 1) := by decide +kernel
theorem dX1_tellDents_85 : decode cX1_tellDents 85 = .ok (.aload_n 0, 1) := by decide +kernel
theorem dX1_tellDents_86 : decode cX1_tellDents 86 = .ok (.getfield 48, 3) := by decide +kernel
theorem dX1_tellDents_89 : decode cX1_tellDents 89 = .ok (.iload 6, 2) := by decide +kernel
theorem dX1_tellDents_91 : decode cX1_tellDents 91 = .ok (.aload_n 0, 1) := by decide +kernel
theorem dX1_tellDents_92 : decode cX1_tellDents 92 = .ok (.getfield 51, 3) := by decide +kernel
theorem dX1_tellDents_95 : decode cX1_tellDents 95 = .ok (.imul, 1) := by decide +kernel
theorem dX1_tellDents_96 : decode cX1_tellDents 96 = .ok (.iadd, 1) := by decide +kernel
theorem dX1_tellDents_97 : decode cX1_tellDents 97 = .ok (.aload_n 0, 1) := by decide +kernel
theorem dX1_tellDents_98 : decode cX1_tellDents 98 = .ok (.getfield 15, 3) := by decide +kernel
theorem dX1_tellDents_101 : decode cX1_tellDents 101 = .ok (.iload 8, 2) := by decide +kernel
theorem dX1_tellDents_103 : decode cX1_tellDents 103 = .ok (.iaload, 1) := by decide +kernel
theorem dX1_tellDents_104 : decode cX1_tellDents 104 = .ok (.iadd, 1) := by decide +kernel
theorem dX1_tellDents_105 : decode cX1_tellDents 105 = .ok (.invokevirtual 68, 3) := by decide +kernel
theorem dX1_tellDents_108 : decode cX1_tellDents 108 = .ok (.iinc 8 1, 3) := by decide +kernel
theorem dX1_tellDents_111 : decode cX1_tellDents 111 = .ok (.goto (-45), 3) := by decide +kernel
theorem dX1_tellDents_114 : decode cX1_tellDents 114 = .ok (.iinc 6 1, 3) := by decide +kernel
theorem dX1_tellDents_117 : decode cX1_tellDents 117 = .ok (.goto (-80), 3) := by decide +kernel
theorem dX1_tellDents_120 : decode cX1_tellDents 120 = .ok (.return_, 1) := by decide +kernel
theorem dX1_firstMinuteOf_0 : decode cX1_firstMinuteOf 0 = .ok (.iconst 0, 1) := by decide +kernel
theorem dX1_firstMinuteOf_1 : decode cX1_firstMinuteOf 1 = .ok (.istore_n 2, 1) := by decide +kernel
theorem dX1_firstMinuteOf_2 : decode cX1_firstMinuteOf 2 = .ok (.iload_n 2, 1) := by decide +kernel
theorem dX1_firstMinuteOf_3 : decode cX1_firstMinuteOf 3 = .ok (.aload_n 0, 1) := by decide +kernel
theorem dX1_firstMinuteOf_4 : decode cX1_firstMinuteOf 4 = .ok (.getfield 22, 3) := by decide +kernel
theorem dX1_firstMinuteOf_7 : decode cX1_firstMinuteOf 7 = .ok (.if_icmp .ge 31, 3) := by decide +kernel
theorem dX1_firstMinuteOf_10 : decode cX1_firstMinuteOf 10 = .ok (.aload_n 0, 1) := by decide +kernel
theorem dX1_firstMinuteOf_11 : decode cX1_firstMinuteOf 11 = .ok (.getfield 11, 3) := by decide +kernel
theorem dX1_firstMinuteOf_14 : decode cX1_firstMinuteOf 14 = .ok (.iload_n 2, 1) := by decide +kernel
theorem dX1_firstMinuteOf_15 : decode cX1_firstMinuteOf 15 = .ok (.iaload, 1) := by decide +kernel
theorem dX1_firstMinuteOf_16 : decode cX1_firstMinuteOf 16 = .ok (.iload_n 1, 1) := by decide +kernel
theorem dX1_firstMinuteOf_17 : decode cX1_firstMinuteOf 17 = .ok (.if_icmp .ne 15, 3) := by decide +kernel
theorem dX1_firstMinuteOf_20 : decode cX1_firstMinuteOf 20 = .ok (.aload_n 0, 1) := by decide +kernel
theorem dX1_firstMinuteOf_21 : decode cX1_firstMinuteOf 21 = .ok (.getfield 48, 3) := by decide +kernel
theorem dX1_firstMinuteOf_24 : decode cX1_firstMinuteOf 24 = .ok (.aload_n 0, 1) := by decide +kernel
theorem dX1_firstMinuteOf_25 : decode cX1_firstMinuteOf 25 = .ok (.getfield 15, 3) := by decide +kernel
theorem dX1_firstMinuteOf_28 : decode cX1_firstMinuteOf 28 = .ok (.iload_n 2, 1) := by decide +kernel
theorem dX1_firstMinuteOf_29 : decode cX1_firstMinuteOf 29 = .ok (.iaload, 1) := by decide +kernel
theorem dX1_firstMinuteOf_30 : decode cX1_firstMinuteOf 30 = .ok (.iadd, 1) := by decide +kernel
theorem dX1_firstMinuteOf_31 : decode cX1_firstMinuteOf 31 = .ok (.ireturn, 1) := by decide +kernel
theorem dX1_firstMinuteOf_32 : decode cX1_firstMinuteOf 32 = .ok (.iinc 2 1, 3) := by decide +kernel
theorem dX1_firstMinuteOf_35 : decode cX1_firstMinuteOf 35 = .ok (.goto (-33), 3) := by decide +kernel
theorem dX1_firstMinuteOf_38 : decode cX1_firstMinuteOf 38 = .ok (.bipush (-2), 2) := by decide +kernel
theorem dX1_firstMinuteOf_40 : decode cX1_firstMinuteOf 40 = .ok (.ireturn, 1) := by decide +kernel
set_option maxRecDepth 20000 in
theorem dX1_dentedWithin_0 : decode cX1_dentedWithin 0 = .ok (.aload_n 0, 1) := by decide +kernel
theorem dX1_dentedWithin_1 : decode cX1_dentedWithin 1 = .ok (.iload_n 2, 1) := by decide +kernel
theorem dX1_dentedWithin_2 : decode cX1_dentedWithin 2 = .ok (.invokevirtual 64, 3) := by decide +kernel
theorem dX1_dentedWithin_5 : decode cX1_dentedWithin 5 = .ok (.istore_n 3, 1) := by decide +kernel
theorem dX1_dentedWithin_6 : decode cX1_dentedWithin 6 = .ok (.iconst 0, 1) := by decide +kernel
theorem dX1_dentedWithin_7 : decode cX1_dentedWithin 7 = .ok (.istore 4, 2) := by decide +kernel
theorem dX1_dentedWithin_9 : decode cX1_dentedWithin 9 = .ok (.aload_n 0, 1) := by decide +kernel
theorem dX1_dentedWithin_10 : decode cX1_dentedWithin 10 = .ok (.iload_n 1, 1) := by decide +kernel
theorem dX1_dentedWithin_11 : decode cX1_dentedWithin 11 = .ok (.iconst 1, 1) := by decide +kernel
theorem dX1_dentedWithin_12 : decode cX1_dentedWithin 12 = .ok (.isub, 1) := by decide +kernel
theorem dX1_dentedWithin_13 : decode cX1_dentedWithin 13 = .ok (.invokevirtual 64, 3) := by decide +kernel
theorem dX1_dentedWithin_16 : decode cX1_dentedWithin 16 = .ok (.istore 5, 2) := by decide +kernel
theorem dX1_dentedWithin_18 : decode cX1_dentedWithin 18 = .ok (.iload 5, 2) := by decide +kernel
theorem dX1_dentedWithin_20 : decode cX1_dentedWithin 20 = .ok (.iload_n 3, 1) := by decide +kernel
theorem dX1_dentedWithin_21 : decode cX1_dentedWithin 21 = .ok (.if_icmp .ge 22, 3) := by decide +kernel
theorem dX1_dentedWithin_24 : decode cX1_dentedWithin 24 = .ok (.iload 4, 2) := by decide +kernel
theorem dX1_dentedWithin_26 : decode cX1_dentedWithin 26 = .ok (.iconst 1, 1) := by decide +kernel
theorem dX1_dentedWithin_27 : decode cX1_dentedWithin 27 = .ok (.aload_n 0, 1) := by decide +kernel
theorem dX1_dentedWithin_28 : decode cX1_dentedWithin 28 = .ok (.iload 5, 2) := by decide +kernel
theorem dX1_dentedWithin_30 : decode cX1_dentedWithin 30 = .ok (.invokevirtual 74, 3) := by decide +kernel
theorem dX1_dentedWithin_33 : decode cX1_dentedWithin 33 = .ok (.ishl, 1) := by decide +kernel
theorem dX1_dentedWithin_34 : decode cX1_dentedWithin 34 = .ok (.ior, 1) := by decide +kernel
theorem dX1_dentedWithin_35 : decode cX1_dentedWithin 35 = .ok (.istore 4, 2) := by decide +kernel
theorem dX1_dentedWithin_37 : decode cX1_dentedWithin 37 = .ok (.iinc 5 1, 3) := by decide +kernel
theorem dX1_dentedWithin_40 : decode cX1_dentedWithin 40 = .ok (.goto (-22), 3) := by decide +kernel
theorem dX1_dentedWithin_43 : decode cX1_dentedWithin 43 = .ok (.iload 4, 2) := by decide +kernel
theorem dX1_dentedWithin_45 : decode cX1_dentedWithin 45 = .ok (.ireturn, 1) := by decide +kernel
set_option maxRecDepth 20000 in
theorem dX1_longestGapOf_0 : decode cX1_longestGapOf 0 = .ok (.aload_n 0, 1) := by decide +kernel
theorem dX1_longestGapOf_1 : decode cX1_longestGapOf 1 = .ok (.iload_n 1, 1) := by decide +kernel
theorem dX1_longestGapOf_2 : decode cX1_longestGapOf 2 = .ok (.invokevirtual 77, 3) := by decide +kernel
theorem dX1_longestGapOf_5 : decode cX1_longestGapOf 5 = .ok (.istore_n 2, 1) := by decide +kernel
theorem dX1_longestGapOf_6 : decode cX1_longestGapOf 6 = .ok (.iload_n 2, 1) := by decide +kernel
theorem dX1_longestGapOf_7 : decode cX1_longestGapOf 7 = .ok (.bipush (-2), 2) := by decide +kernel
theorem dX1_longestGapOf_9 : decode cX1_longestGapOf 9 = .ok (.if_icmp .ne 6, 3) := by decide +kernel
theorem dX1_longestGapOf_12 : decode cX1_longestGapOf 12 = .ok (.bipush (-2), 2) := by decide +kernel
theorem dX1_longestGapOf_14 : decode cX1_longestGapOf 14 = .ok (.ireturn, 1) := by decide +kernel
theorem dX1_longestGapOf_15 : decode cX1_longestGapOf 15 = .ok (.bipush (-2), 2) := by decide +kernel
theorem dX1_longestGapOf_17 : decode cX1_longestGapOf 17 = .ok (.istore_n 3, 1) := by decide +kernel
theorem dX1_longestGapOf_18 : decode cX1_longestGapOf 18 = .ok (.iconst 0, 1) := by decide +kernel
theorem dX1_longestGapOf_19 : decode cX1_longestGapOf 19 = .ok (.istore 4, 2) := by decide +kernel
theorem dX1_longestGapOf_21 : decode cX1_longestGapOf 21 = .ok (.iload 4, 2) := by decide +kernel
theorem dX1_longestGapOf_23 : decode cX1_longestGapOf 23 = .ok (.iconst 2, 1) := by decide +kernel
theorem dX1_longestGapOf_24 : decode cX1_longestGapOf 24 = .ok (.aload_n 0, 1) := by decide +kernel
theorem dX1_longestGapOf_25 : decode cX1_longestGapOf 25 = .ok (.getfield 22, 3) := by decide +kernel
theorem dX1_longestGapOf_28 : decode cX1_longestGapOf 28 = .ok (.imul, 1) := by decide +kernel
theorem dX1_longestGapOf_29 : decode cX1_longestGapOf 29 = .ok (.if_icmp .ge 49, 3) := by decide +kernel
theorem dX1_longestGapOf_32 : decode cX1_longestGapOf 32 = .ok (.aload_n 0, 1) := by decide +kernel
theorem dX1_longestGapOf_33 : decode cX1_longestGapOf 33 = .ok (.iload 4, 2) := by decide +kernel
theorem dX1_longestGapOf_35 : decode cX1_longestGapOf 35 = .ok (.invokevirtual 74, 3) := by decide +kernel
theorem dX1_longestGapOf_38 : decode cX1_longestGapOf 38 = .ok (.iload_n 1, 1) := by decide +kernel
theorem dX1_longestGapOf_39 : decode cX1_longestGapOf 39 = .ok (.if_icmp .ne 33, 3) := by decide +kernel
theorem dX1_longestGapOf_42 : decode cX1_longestGapOf 42 = .ok (.iload_n 3, 1) := by decide +kernel
theorem dX1_longestGapOf_43 : decode cX1_longestGapOf 43 = .ok (.bipush (-2), 2) := by decide +kernel
theorem dX1_longestGapOf_45 : decode cX1_longestGapOf 45 = .ok (.if_icmp .ne 7, 3) := by decide +kernel
theorem dX1_longestGapOf_48 : decode cX1_longestGapOf 48 = .ok (.iload_n 2, 1) := by decide +kernel
theorem dX1_longestGapOf_49 : decode cX1_longestGapOf 49 = .ok (.goto 15, 3) := by decide +kernel
theorem dX1_longestGapOf_52 : decode cX1_longestGapOf 52 = .ok (.iload_n 2, 1) := by decide +kernel
theorem dX1_longestGapOf_53 : decode cX1_longestGapOf 53 = .ok (.aload_n 0, 1) := by decide +kernel
theorem dX1_longestGapOf_54 : decode cX1_longestGapOf 54 = .ok (.iload 4, 2) := by decide +kernel
theorem dX1_longestGapOf_56 : decode cX1_longestGapOf 56 = .ok (.invokevirtual 80, 3) := by decide +kernel
theorem dX1_longestGapOf_59 : decode cX1_longestGapOf 59 = .ok (.iload_n 3, 1) := by decide +kernel
theorem dX1_longestGapOf_60 : decode cX1_longestGapOf 60 = .ok (.isub, 1) := by decide +kernel
theorem dX1_longestGapOf_61 : decode cX1_longestGapOf 61 = .ok (.invokestatic 61, 3) := by decide +kernel
theorem dX1_longestGapOf_64 : decode cX1_longestGapOf 64 = .ok (.istore_n 2, 1) := by decide +kernel
theorem dX1_longestGapOf_65 : decode cX1_longestGapOf 65 = .ok (.aload_n 0, 1) := by decide +kernel
theorem dX1_longestGapOf_66 : decode cX1_longestGapOf 66 = .ok (.iload 4, 2) := by decide +kernel
theorem dX1_longestGapOf_68 : decode cX1_longestGapOf 68 = .ok (.invokevirtual 80, 3) := by decide +kernel
theorem dX1_longestGapOf_71 : decode cX1_longestGapOf 71 = .ok (.istore_n 3, 1) := by decide +kernel
theorem dX1_longestGapOf_72 : decode cX1_longestGapOf 72 = .ok (.iinc 4 1, 3) := by decide +kernel
theorem dX1_longestGapOf_75 : decode cX1_longestGapOf 75 = .ok (.goto (-54), 3) := by decide +kernel
theorem dX1_longestGapOf_78 : decode cX1_longestGapOf 78 = .ok (.iload_n 2, 1) := by decide +kernel
theorem dX1_longestGapOf_79 : decode cX1_longestGapOf 79 = .ok (.ireturn, 1) := by decide +kernel
set_option maxRecDepth 20000 in
theorem dX1_makes_0 : decode cX1_makes 0 = .ok (.aload_n 1, 1) := by decide +kernel
theorem dX1_makes_1 : decode cX1_makes 1 = .ok (.invokevirtual 83, 3) := by decide +kernel
theorem dX1_makes_4 : decode cX1_makes 4 = .ok (.istore_n 2, 1) := by decide +kernel
theorem dX1_makes_5 : decode cX1_makes 5 = .ok (.iconst 0, 1) := by decide +kernel
theorem dX1_makes_6 : decode cX1_makes 6 = .ok (.istore_n 3, 1) := by decide +kernel
theorem dX1_makes_7 : decode cX1_makes 7 = .ok (.iload_n 3, 1) := by decide +kernel
theorem dX1_makes_8 : decode cX1_makes 8 = .ok (.iload_n 2, 1) := by decide +kernel
theorem dX1_makes_9 : decode cX1_makes 9 = .ok (.if_icmp .ge 79, 3) := by decide +kernel
theorem dX1_makes_12 : decode cX1_makes 12 = .ok (.iconst 2, 1) := by decide +kernel
theorem dX1_makes_13 : decode cX1_makes 13 = .ok (.iload_n 3, 1) := by decide +kernel
theorem dX1_makes_14 : decode cX1_makes 14 = .ok (.imul, 1) := by decide +kernel
theorem dX1_makes_15 : decode cX1_makes 15 = .ok (.iconst 1, 1) := by decide +kernel
theorem dX1_makes_16 : decode cX1_makes 16 = .ok (.iadd, 1) := by decide +kernel
theorem dX1_makes_17 : decode cX1_makes 17 = .ok (.aload_n 1, 1) := by decide +kernel
theorem dX1_makes_18 : decode cX1_makes 18 = .ok (.getfield 26, 3) := by decide +kernel
theorem dX1_makes_21 : decode cX1_makes 21 = .ok (.if_icmp .ge 21, 3) := by decide +kernel
theorem dX1_makes_24 : decode cX1_makes 24 = .ok (.aload_n 0, 1) := by decide +kernel
theorem dX1_makes_25 : decode cX1_makes 25 = .ok (.getfield 22, 3) := by decide +kernel
theorem dX1_makes_28 : decode cX1_makes 28 = .ok (.ifCond .eq 14, 3) := by decide +kernel
theorem dX1_makes_31 : decode cX1_makes 31 = .ok (.aload_n 0, 1) := by decide +kernel
theorem dX1_makes_32 : decode cX1_makes 32 = .ok (.iload_n 3, 1) := by decide +kernel
theorem dX1_makes_33 : decode cX1_makes 33 = .ok (.invokevirtual 80, 3) := by decide +kernel
theorem dX1_makes_36 : decode cX1_makes 36 = .ok (.sipush 1999, 3) := by decide +kernel
theorem dX1_makes_39 : decode cX1_makes 39 = .ok (.if_icmp .le 5, 3) := by decide +kernel
theorem dX1_makes_42 : decode cX1_makes 42 = .ok (.iconst 0, 1) := by decide +kernel
theorem dX1_makes_43 : decode cX1_makes 43 = .ok (.ireturn, 1) := by decide +kernel
theorem dX1_makes_44 : decode cX1_makes 44 = .ok (.aload_n 1, 1) := by decide +kernel
theorem dX1_makes_45 : decode cX1_makes 45 = .ok (.iconst 2, 1) := by decide +kernel
theorem dX1_makes_46 : decode cX1_makes 46 = .ok (.iload_n 3, 1) := by decide +kernel
theorem dX1_makes_47 : decode cX1_makes 47 = .ok (.imul, 1) := by decide +kernel
theorem dX1_makes_48 : decode cX1_makes 48 = .ok (.invokevirtual 35, 3) := by decide +kernel
theorem dX1_makes_51 : decode cX1_makes 51 = .ok (.aload_n 0, 1) := by decide +kernel
theorem dX1_makes_52 : decode cX1_makes 52 = .ok (.iload_n 3, 1) := by decide +kernel
theorem dX1_makes_53 : decode cX1_makes 53 = .ok (.invokevirtual 74, 3) := by decide +kernel
theorem dX1_makes_56 : decode cX1_makes 56 = .ok (.i2l, 1) := by decide +kernel
theorem dX1_makes_57 : decode cX1_makes 57 = .ok (.lcmp, 1) := by decide +kernel
theorem dX1_makes_58 : decode cX1_makes 58 = .ok (.ifCond .ne 22, 3) := by decide +kernel
theorem dX1_makes_61 : decode cX1_makes 61 = .ok (.aload_n 1, 1) := by decide +kernel
theorem dX1_makes_62 : decode cX1_makes 62 = .ok (.iconst 2, 1) := by decide +kernel
theorem dX1_makes_63 : decode cX1_makes 63 = .ok (.iload_n 3, 1) := by decide +kernel
theorem dX1_makes_64 : decode cX1_makes 64 = .ok (.imul, 1) := by decide +kernel
theorem dX1_makes_65 : decode cX1_makes 65 = .ok (.iconst 1, 1) := by decide +kernel
theorem dX1_makes_66 : decode cX1_makes 66 = .ok (.iadd, 1) := by decide +kernel
theorem dX1_makes_67 : decode cX1_makes 67 = .ok (.invokevirtual 35, 3) := by decide +kernel
theorem dX1_makes_70 : decode cX1_makes 70 = .ok (.aload_n 0, 1) := by decide +kernel
theorem dX1_makes_71 : decode cX1_makes 71 = .ok (.iload_n 3, 1) := by decide +kernel
theorem dX1_makes_72 : decode cX1_makes 72 = .ok (.invokevirtual 80, 3) := by decide +kernel
theorem dX1_makes_75 : decode cX1_makes 75 = .ok (.i2l, 1) := by decide +kernel
theorem dX1_makes_76 : decode cX1_makes 76 = .ok (.lcmp, 1) := by decide +kernel
theorem dX1_makes_77 : decode cX1_makes 77 = .ok (.ifCond .eq 5, 3) := by decide +kernel
theorem dX1_makes_80 : decode cX1_makes 80 = .ok (.iconst 0, 1) := by decide +kernel
theorem dX1_makes_81 : decode cX1_makes 81 = .ok (.ireturn, 1) := by decide +kernel
theorem dX1_makes_82 : decode cX1_makes 82 = .ok (.iinc 3 1, 3) := by decide +kernel
theorem dX1_makes_85 : decode cX1_makes 85 = .ok (.goto (-78), 3) := by decide +kernel
theorem dX1_makes_88 : decode cX1_makes 88 = .ok (.iconst 1, 1) := by decide +kernel
theorem dX1_makes_89 : decode cX1_makes 89 = .ok (.ireturn, 1) := by decide +kernel
theorem dX2_init_0 : decode cX2_init 0 = .ok (.aload_n 0, 1) := by decide +kernel
theorem dX2_init_1 : decode cX2_init 1 = .ok (.invokespecial 3, 3) := by decide +kernel
theorem dX2_init_4 : decode cX2_init 4 = .ok (.aload_n 0, 1) := by decide +kernel
theorem dX2_init_5 : decode cX2_init 5 = .ok (.bipush 9, 2) := by decide +kernel
theorem dX2_init_7 : decode cX2_init 7 = .ok (.newarray .int, 2) := by decide +kernel
theorem dX2_init_9 : decode cX2_init 9 = .ok (.putfield 9, 3) := by decide +kernel
theorem dX2_init_12 : decode cX2_init 12 = .ok (.aload_n 0, 1) := by decide +kernel
theorem dX2_init_13 : decode cX2_init 13 = .ok (.bipush 9, 2) := by decide +kernel
theorem dX2_init_15 : decode cX2_init 15 = .ok (.putfield 17, 3) := by decide +kernel
theorem dX2_init_18 : decode cX2_init 18 = .ok (.return_, 1) := by decide +kernel
theorem dX2_walkTo_0 : decode cX2_walkTo 0 = .ok (.iload_n 1, 1) := by decide +kernel
theorem dX2_walkTo_1 : decode cX2_walkTo 1 = .ok (.ifCond .lt 23, 3) := by decide +kernel
theorem dX2_walkTo_4 : decode cX2_walkTo 4 = .ok (.iload_n 1, 1) := by decide +kernel
theorem dX2_walkTo_5 : decode cX2_walkTo 5 = .ok (.bipush 9, 2) := by decide +kernel
theorem dX2_walkTo_7 : decode cX2_walkTo 7 = .ok (.if_icmp .ge 17, 3) := by decide +kernel
theorem dX2_walkTo_10 : decode cX2_walkTo 10 = .ok (.aload_n 0, 1) := by decide +kernel
theorem dX2_walkTo_11 : decode cX2_walkTo 11 = .ok (.getfield 21, 3) := by decide +kernel
theorem dX2_walkTo_14 : decode cX2_walkTo 14 = .ok (.iload_n 2, 1) := by decide +kernel
theorem dX2_walkTo_15 : decode cX2_walkTo 15 = .ok (.iadd, 1) := by decide +kernel
theorem dX2_walkTo_16 : decode cX2_walkTo 16 = .ok (.iload_n 3, 1) := by decide +kernel
theorem dX2_walkTo_17 : decode cX2_walkTo 17 = .ok (.iadd, 1) := by decide +kernel
theorem dX2_walkTo_18 : decode cX2_walkTo 18 = .ok (.sipush 9999, 3) := by decide +kernel
theorem dX2_walkTo_21 : decode cX2_walkTo 21 = .ok (.if_icmp .le 5, 3) := by decide +kernel
theorem dX2_walkTo_24 : decode cX2_walkTo 24 = .ok (.iconst 0, 1) := by decide +kernel
theorem dX2_walkTo_25 : decode cX2_walkTo 25 = .ok (.ireturn, 1) := by decide +kernel
theorem dX2_walkTo_26 : decode cX2_walkTo 26 = .ok (.aload_n 0, 1) := by decide +kernel
theorem dX2_walkTo_27 : decode cX2_walkTo 27 = .ok (.iload_n 1, 1) := by decide +kernel
theorem dX2_walkTo_28 : decode cX2_walkTo 28 = .ok (.putfield 17, 3) := by decide +kernel
theorem dX2_walkTo_31 : decode cX2_walkTo 31 = .ok (.aload_n 0, 1) := by decide +kernel
theorem dX2_walkTo_32 : decode cX2_walkTo 32 = .ok (.dup, 1) := by decide +kernel
theorem dX2_walkTo_33 : decode cX2_walkTo 33 = .ok (.getfield 21, 3) := by decide +kernel
theorem dX2_walkTo_36 : decode cX2_walkTo 36 = .ok (.iload_n 2, 1) := by decide +kernel
theorem dX2_walkTo_37 : decode cX2_walkTo 37 = .ok (.iload_n 3, 1) := by decide +kernel
theorem dX2_walkTo_38 : decode cX2_walkTo 38 = .ok (.iadd, 1) := by decide +kernel
theorem dX2_walkTo_39 : decode cX2_walkTo 39 = .ok (.iadd, 1) := by decide +kernel
theorem dX2_walkTo_40 : decode cX2_walkTo 40 = .ok (.putfield 21, 3) := by decide +kernel
theorem dX2_walkTo_43 : decode cX2_walkTo 43 = .ok (.aload_n 0, 1) := by decide +kernel
theorem dX2_walkTo_44 : decode cX2_walkTo 44 = .ok (.dup, 1) := by decide +kernel
theorem dX2_walkTo_45 : decode cX2_walkTo 45 = .ok (.getfield 24, 3) := by decide +kernel
theorem dX2_walkTo_48 : decode cX2_walkTo 48 = .ok (.iload_n 2, 1) := by decide +kernel
theorem dX2_walkTo_49 : decode cX2_walkTo 49 = .ok (.iadd, 1) := by decide +kernel
theorem dX2_walkTo_50 : decode cX2_walkTo 50 = .ok (.putfield 24, 3) := by decide +kernel
theorem dX2_walkTo_53 : decode cX2_walkTo 53 = .ok (.aload_n 0, 1) := by decide +kernel
theorem dX2_walkTo_54 : decode cX2_walkTo 54 = .ok (.dup, 1) := by decide +kernel
theorem dX2_walkTo_55 : decode cX2_walkTo 55 = .ok (.getfield 27, 3) := by decide +kernel
theorem dX2_walkTo_58 : decode cX2_walkTo 58 = .ok (.iload_n 3, 1) := by decide +kernel
theorem dX2_walkTo_59 : decode cX2_walkTo 59 = .ok (.iadd, 1) := by decide +kernel
theorem dX2_walkTo_60 : decode cX2_walkTo 60 = .ok (.putfield 27, 3) := by decide +kernel
theorem dX2_walkTo_63 : decode cX2_walkTo 63 = .ok (.aload_n 0, 1) := by decide +kernel
theorem dX2_walkTo_64 : decode cX2_walkTo 64 = .ok (.dup, 1) := by decide +kernel
theorem dX2_walkTo_65 : decode cX2_walkTo 65 = .ok (.getfield 30, 3) := by decide +kernel
theorem dX2_walkTo_68 : decode cX2_walkTo 68 = .ok (.iconst 1, 1) := by decide +kernel
theorem dX2_walkTo_69 : decode cX2_walkTo 69 = .ok (.iadd, 1) := by decide +kernel
theorem dX2_walkTo_70 : decode cX2_walkTo 70 = .ok (.putfield 30, 3) := by decide +kernel
theorem dX2_walkTo_73 : decode cX2_walkTo 73 = .ok (.aload_n 0, 1) := by decide +kernel
theorem dX2_walkTo_74 : decode cX2_walkTo 74 = .ok (.getfield 9, 3) := by decide +kernel
theorem dX2_walkTo_77 : decode cX2_walkTo 77 = .ok (.iload_n 1, 1) := by decide +kernel
theorem dX2_walkTo_78 : decode cX2_walkTo 78 = .ok (.dup2, 1) := by decide +kernel
theorem dX2_walkTo_79 : decode cX2_walkTo 79 = .ok (.iaload, 1) := by decide +kernel
theorem dX2_walkTo_80 : decode cX2_walkTo 80 = .ok (.iconst 1, 1) := by decide +kernel
theorem dX2_walkTo_81 : decode cX2_walkTo 81 = .ok (.iadd, 1) := by decide +kernel
theorem dX2_walkTo_82 : decode cX2_walkTo 82 = .ok (.iastore, 1) := by decide +kernel
theorem dX2_walkTo_83 : decode cX2_walkTo 83 = .ok (.iconst 1, 1) := by decide +kernel
theorem dX2_walkTo_84 : decode cX2_walkTo 84 = .ok (.ireturn, 1) := by decide +kernel
theorem dX2_waitFor_0 : decode cX2_waitFor 0 = .ok (.aload_n 0, 1) := by decide +kernel
theorem dX2_waitFor_1 : decode cX2_waitFor 1 = .ok (.getfield 21, 3) := by decide +kernel
theorem dX2_waitFor_4 : decode cX2_waitFor 4 = .ok (.iload_n 1, 1) := by decide +kernel
theorem dX2_waitFor_5 : decode cX2_waitFor 5 = .ok (.iadd, 1) := by decide +kernel
theorem dX2_waitFor_6 : decode cX2_waitFor 6 = .ok (.sipush 9999, 3) := by decide +kernel
theorem dX2_waitFor_9 : decode cX2_waitFor 9 = .ok (.if_icmp .le 5, 3) := by decide +kernel
theorem dX2_waitFor_12 : decode cX2_waitFor 12 = .ok (.iconst 0, 1) := by decide +kernel
theorem dX2_waitFor_13 : decode cX2_waitFor 13 = .ok (.ireturn, 1) := by decide +kernel
theorem dX2_waitFor_14 : decode cX2_waitFor 14 = .ok (.aload_n 0, 1) := by decide +kernel
theorem dX2_waitFor_15 : decode cX2_waitFor 15 = .ok (.dup, 1) := by decide +kernel
theorem dX2_waitFor_16 : decode cX2_waitFor 16 = .ok (.getfield 21, 3) := by decide +kernel
theorem dX2_waitFor_19 : decode cX2_waitFor 19 = .ok (.iload_n 1, 1) := by decide +kernel
theorem dX2_waitFor_20 : decode cX2_waitFor 20 = .ok (.iadd, 1) := by decide +kernel
theorem dX2_waitFor_21 : decode cX2_waitFor 21 = .ok (.putfield 21, 3) := by decide +kernel
theorem dX2_waitFor_24 : decode cX2_waitFor 24 = .ok (.aload_n 0, 1) := by decide +kernel
theorem dX2_waitFor_25 : decode cX2_waitFor 25 = .ok (.dup, 1) := by decide +kernel
theorem dX2_waitFor_26 : decode cX2_waitFor 26 = .ok (.getfield 33, 3) := by decide +kernel
theorem dX2_waitFor_29 : decode cX2_waitFor 29 = .ok (.iload_n 1, 1) := by decide +kernel
theorem dX2_waitFor_30 : decode cX2_waitFor 30 = .ok (.iadd, 1) := by decide +kernel
theorem dX2_waitFor_31 : decode cX2_waitFor 31 = .ok (.putfield 33, 3) := by decide +kernel
theorem dX2_waitFor_34 : decode cX2_waitFor 34 = .ok (.iconst 1, 1) := by decide +kernel
theorem dX2_waitFor_35 : decode cX2_waitFor 35 = .ok (.ireturn, 1) := by decide +kernel
theorem dX2_goHome_0 : decode cX2_goHome 0 = .ok (.aload_n 0, 1) := by decide +kernel
theorem dX2_goHome_1 : decode cX2_goHome 1 = .ok (.getfield 21, 3) := by decide +kernel
theorem dX2_goHome_4 : decode cX2_goHome 4 = .ok (.iload_n 1, 1) := by decide +kernel
theorem dX2_goHome_5 : decode cX2_goHome 5 = .ok (.iadd, 1) := by decide +kernel
theorem dX2_goHome_6 : decode cX2_goHome 6 = .ok (.sipush 9999, 3) := by decide +kernel
theorem dX2_goHome_9 : decode cX2_goHome 9 = .ok (.if_icmp .le 5, 3) := by decide +kernel
theorem dX2_goHome_12 : decode cX2_goHome 12 = .ok (.iconst 0, 1) := by decide +kernel
theorem dX2_goHome_13 : decode cX2_goHome 13 = .ok (.ireturn, 1) := by decide +kernel
theorem dX2_goHome_14 : decode cX2_goHome 14 = .ok (.aload_n 0, 1) := by decide +kernel
theorem dX2_goHome_15 : decode cX2_goHome 15 = .ok (.bipush 9, 2) := by decide +kernel
theorem dX2_goHome_17 : decode cX2_goHome 17 = .ok (.putfield 17, 3) := by decide +kernel
theorem dX2_goHome_20 : decode cX2_goHome 20 = .ok (.aload_n 0, 1) := by decide +kernel
theorem dX2_goHome_21 : decode cX2_goHome 21 = .ok (.dup, 1) := by decide +kernel
theorem dX2_goHome_22 : decode cX2_goHome 22 = .ok (.getfield 21, 3) := by decide +kernel
theorem dX2_goHome_25 : decode cX2_goHome 25 = .ok (.iload_n 1, 1) := by decide +kernel
theorem dX2_goHome_26 : decode cX2_goHome 26 = .ok (.iadd, 1) := by decide +kernel
theorem dX2_goHome_27 : decode cX2_goHome 27 = .ok (.putfield 21, 3) := by decide +kernel
theorem dX2_goHome_30 : decode cX2_goHome 30 = .ok (.aload_n 0, 1) := by decide +kernel
theorem dX2_goHome_31 : decode cX2_goHome 31 = .ok (.dup, 1) := by decide +kernel
theorem dX2_goHome_32 : decode cX2_goHome 32 = .ok (.getfield 24, 3) := by decide +kernel
theorem dX2_goHome_35 : decode cX2_goHome 35 = .ok (.iload_n 1, 1) := by decide +kernel
theorem dX2_goHome_36 : decode cX2_goHome 36 = .ok (.iadd, 1) := by decide +kernel
theorem dX2_goHome_37 : decode cX2_goHome 37 = .ok (.putfield 24, 3) := by decide +kernel
theorem dX2_goHome_40 : decode cX2_goHome 40 = .ok (.iconst 1, 1) := by decide +kernel
theorem dX2_goHome_41 : decode cX2_goHome 41 = .ok (.ireturn, 1) := by decide +kernel
theorem dX2_become_0 : decode cX2_become 0 = .ok (.aload_n 1, 1) := by decide +kernel
theorem dX2_become_1 : decode cX2_become 1 = .ok (.getfield 9, 3) := by decide +kernel
theorem dX2_become_4 : decode cX2_become 4 = .ok (.iconst 0, 1) := by decide +kernel
theorem dX2_become_5 : decode cX2_become 5 = .ok (.aload_n 0, 1) := by decide +kernel
theorem dX2_become_6 : decode cX2_become 6 = .ok (.getfield 9, 3) := by decide +kernel
theorem dX2_become_9 : decode cX2_become 9 = .ok (.iconst 0, 1) := by decide +kernel
theorem dX2_become_10 : decode cX2_become 10 = .ok (.bipush 9, 2) := by decide +kernel
theorem dX2_become_12 : decode cX2_become 12 = .ok (.invokestatic 36, 3) := by decide +kernel
theorem dX2_become_15 : decode cX2_become 15 = .ok (.aload_n 0, 1) := by decide +kernel
theorem dX2_become_16 : decode cX2_become 16 = .ok (.aload_n 1, 1) := by decide +kernel
theorem dX2_become_17 : decode cX2_become 17 = .ok (.getfield 17, 3) := by decide +kernel
theorem dX2_become_20 : decode cX2_become 20 = .ok (.putfield 17, 3) := by decide +kernel
theorem dX2_become_23 : decode cX2_become 23 = .ok (.aload_n 0, 1) := by decide +kernel
theorem dX2_become_24 : decode cX2_become 24 = .ok (.aload_n 1, 1) := by decide +kernel
theorem dX2_become_25 : decode cX2_become 25 = .ok (.getfield 21, 3) := by decide +kernel
theorem dX2_become_28 : decode cX2_become 28 = .ok (.putfield 21, 3) := by decide +kernel
theorem dX2_become_31 : decode cX2_become 31 = .ok (.aload_n 0, 1) := by decide +kernel
theorem dX2_become_32 : decode cX2_become 32 = .ok (.aload_n 1, 1) := by decide +kernel
theorem dX2_become_33 : decode cX2_become 33 = .ok (.getfield 24, 3) := by decide +kernel
theorem dX2_become_36 : decode cX2_become 36 = .ok (.putfield 24, 3) := by decide +kernel
theorem dX2_become_39 : decode cX2_become 39 = .ok (.aload_n 0, 1) := by decide +kernel
theorem dX2_become_40 : decode cX2_become 40 = .ok (.aload_n 1, 1) := by decide +kernel
theorem dX2_become_41 : decode cX2_become 41 = .ok (.getfield 30, 3) := by decide +kernel
theorem dX2_become_44 : decode cX2_become 44 = .ok (.putfield 30, 3) := by decide +kernel
theorem dX2_become_47 : decode cX2_become 47 = .ok (.aload_n 0, 1) := by decide +kernel
theorem dX2_become_48 : decode cX2_become 48 = .ok (.aload_n 1, 1) := by decide +kernel
theorem dX2_become_49 : decode cX2_become 49 = .ok (.getfield 27, 3) := by decide +kernel
theorem dX2_become_52 : decode cX2_become 52 = .ok (.putfield 27, 3) := by decide +kernel
theorem dX2_become_55 : decode cX2_become 55 = .ok (.aload_n 0, 1) := by decide +kernel
theorem dX2_become_56 : decode cX2_become 56 = .ok (.aload_n 1, 1) := by decide +kernel
theorem dX2_become_57 : decode cX2_become 57 = .ok (.getfield 33, 3) := by decide +kernel
theorem dX2_become_60 : decode cX2_become 60 = .ok (.putfield 33, 3) := by decide +kernel
theorem dX2_become_63 : decode cX2_become 63 = .ok (.return_, 1) := by decide +kernel
theorem dX3_init_0 : decode cX3_init 0 = .ok (.aload_n 0, 1) := by decide +kernel
theorem dX3_init_1 : decode cX3_init 1 = .ok (.invokespecial 3, 3) := by decide +kernel
theorem dX3_init_4 : decode cX3_init 4 = .ok (.aload_n 0, 1) := by decide +kernel
theorem dX3_init_5 : decode cX3_init 5 = .ok (.bipush 50, 2) := by decide +kernel
theorem dX3_init_7 : decode cX3_init 7 = .ok (.newarray .int, 2) := by decide +kernel
theorem dX3_init_9 : decode cX3_init 9 = .ok (.putfield 11, 3) := by decide +kernel
theorem dX3_init_12 : decode cX3_init 12 = .ok (.aload_n 0, 1) := by decide +kernel
theorem dX3_init_13 : decode cX3_init 13 = .ok (.bipush 24, 2) := by decide +kernel
theorem dX3_init_15 : decode cX3_init 15 = .ok (.newarray .int, 2) := by decide +kernel
theorem dX3_init_17 : decode cX3_init 17 = .ok (.putfield 15, 3) := by decide +kernel
theorem dX3_init_20 : decode cX3_init 20 = .ok (.return_, 1) := by decide +kernel
theorem dX3_isKind_0 : decode cX3_isKind 0 = .ok (.iload_n 0, 1) := by decide +kernel
theorem dX3_isKind_1 : decode cX3_isKind 1 = .ok (.ifCond .lt 13, 3) := by decide +kernel
theorem dX3_isKind_4 : decode cX3_isKind 4 = .ok (.iload_n 0, 1) := by decide +kernel
theorem dX3_isKind_5 : decode cX3_isKind 5 = .ok (.bipush 8, 2) := by decide +kernel
theorem dX3_isKind_7 : decode cX3_isKind 7 = .ok (.if_icmp .ge 7, 3) := by decide +kernel
theorem dX3_isKind_10 : decode cX3_isKind 10 = .ok (.iconst 1, 1) := by decide +kernel
theorem dX3_isKind_11 : decode cX3_isKind 11 = .ok (.goto 4, 3) := by decide +kernel
theorem dX3_isKind_14 : decode cX3_isKind 14 = .ok (.iconst 0, 1) := by decide +kernel
theorem dX3_isKind_15 : decode cX3_isKind 15 = .ok (.ireturn, 1) := by decide +kernel
set_option maxRecDepth 20000 in
theorem dX3_isUnder_0 : decode cX3_isUnder 0 = .ok (.iload_n 0, 1) := by decide +kernel
theorem dX3_isUnder_1 : decode cX3_isUnder 1 = .ok (.istore_n 2, 1) := by decide +kernel
theorem dX3_isUnder_2 : decode cX3_isUnder 2 = .ok (.iconst 0, 1) := by decide +kernel
theorem dX3_isUnder_3 : decode cX3_isUnder 3 = .ok (.istore_n 3, 1) := by decide +kernel
theorem dX3_isUnder_4 : decode cX3_isUnder 4 = .ok (.iload_n 3, 1) := by decide +kernel
theorem dX3_isUnder_5 : decode cX3_isUnder 5 = .ok (.bipush 8, 2) := by decide +kernel
theorem dX3_isUnder_7 : decode cX3_isUnder 7 = .ok (.if_icmp .ge 29, 3) := by decide +kernel
theorem dX3_isUnder_10 : decode cX3_isUnder 10 = .ok (.iload_n 2, 1) := by decide +kernel
theorem dX3_isUnder_11 : decode cX3_isUnder 11 = .ok (.invokestatic 18, 3) := by decide +kernel
theorem dX3_isUnder_14 : decode cX3_isUnder 14 = .ok (.ifCond .eq 22, 3) := by decide +kernel
theorem dX3_isUnder_17 : decode cX3_isUnder 17 = .ok (.iload_n 2, 1) := by decide +kernel
theorem dX3_isUnder_18 : decode cX3_isUnder 18 = .ok (.iload_n 1, 1) := by decide +kernel
theorem dX3_isUnder_19 : decode cX3_isUnder 19 = .ok (.if_icmp .ne 5, 3) := by decide +kernel
theorem dX3_isUnder_22 : decode cX3_isUnder 22 = .ok (.iconst 1, 1) := by decide +kernel
theorem dX3_isUnder_23 : decode cX3_isUnder 23 = .ok (.ireturn, 1) := by decide +kernel
theorem dX3_isUnder_24 : decode cX3_isUnder 24 = .ok (.getstatic 22, 3) := by decide +kernel
theorem dX3_isUnder_27 : decode cX3_isUnder 27 = .ok (.iload_n 2, 1) := by decide +kernel
theorem dX3_isUnder_28 : decode cX3_isUnder 28 = .ok (.iaload, 1) := by decide +kernel
theorem dX3_isUnder_29 : decode cX3_isUnder 29 = .ok (.istore_n 2, 1) := by decide +kernel
theorem dX3_isUnder_30 : decode cX3_isUnder 30 = .ok (.iinc 3 1, 3) := by decide +kernel
theorem dX3_isUnder_33 : decode cX3_isUnder 33 = .ok (.goto (-29), 3) := by decide +kernel
theorem dX3_isUnder_36 : decode cX3_isUnder 36 = .ok (.iconst 0, 1) := by decide +kernel
theorem dX3_isUnder_37 : decode cX3_isUnder 37 = .ok (.ireturn, 1) := by decide +kernel
theorem dX3_isKey_0 : decode cX3_isKey 0 = .ok (.iload_n 1, 1) := by decide +kernel
theorem dX3_isKey_1 : decode cX3_isKey 1 = .ok (.ifCond .lt 15, 3) := by decide +kernel
theorem dX3_isKey_4 : decode cX3_isKey 4 = .ok (.iload_n 1, 1) := by decide +kernel
theorem dX3_isKey_5 : decode cX3_isKey 5 = .ok (.aload_n 0, 1) := by decide +kernel
theorem dX3_isKey_6 : decode cX3_isKey 6 = .ok (.getfield 25, 3) := by decide +kernel
theorem dX3_isKey_9 : decode cX3_isKey 9 = .ok (.if_icmp .ge 7, 3) := by decide +kernel
theorem dX3_isKey_12 : decode cX3_isKey 12 = .ok (.iconst 1, 1) := by decide +kernel
theorem dX3_isKey_13 : decode cX3_isKey 13 = .ok (.goto 4, 3) := by decide +kernel
theorem dX3_isKey_16 : decode cX3_isKey 16 = .ok (.iconst 0, 1) := by decide +kernel
theorem dX3_isKey_17 : decode cX3_isKey 17 = .ok (.ireturn, 1) := by decide +kernel
set_option maxRecDepth 20000 in
theorem dX3_kindOf_0 : decode cX3_kindOf 0 = .ok (.aload_n 0, 1) := by decide +kernel
theorem dX3_kindOf_1 : decode cX3_kindOf 1 = .ok (.iload_n 1, 1) := by decide +kernel
theorem dX3_kindOf_2 : decode cX3_kindOf 2 = .ok (.invokevirtual 29, 3) := by decide +kernel
theorem dX3_kindOf_5 : decode cX3_kindOf 5 = .ok (.ifCond .eq 12, 3) := by decide +kernel
theorem dX3_kindOf_8 : decode cX3_kindOf 8 = .ok (.aload_n 0, 1) := by decide +kernel
theorem dX3_kindOf_9 : decode cX3_kindOf 9 = .ok (.getfield 11, 3) := by decide +kernel
theorem dX3_kindOf_12 : decode cX3_kindOf 12 = .ok (.iload_n 1, 1) := by decide +kernel
theorem dX3_kindOf_13 : decode cX3_kindOf 13 = .ok (.iaload, 1) := by decide +kernel
theorem dX3_kindOf_14 : decode cX3_kindOf 14 = .ok (.goto 4, 3) := by decide +kernel
theorem dX3_kindOf_17 : decode cX3_kindOf 17 = .ok (.iconst (-1), 1) := by decide +kernel
theorem dX3_kindOf_18 : decode cX3_kindOf 18 = .ok (.ireturn, 1) := by decide +kernel
theorem dX3_add_0 : decode cX3_add 0 = .ok (.aload_n 0, 1) := by decide +kernel
theorem dX3_add_1 : decode cX3_add 1 = .ok (.getfield 25, 3) := by decide +kernel
theorem dX3_add_4 : decode cX3_add 4 = .ok (.bipush 50, 2) := by decide +kernel
theorem dX3_add_6 : decode cX3_add 6 = .ok (.if_icmp .lt 6, 3) := by decide +kernel
theorem dX3_add_9 : decode cX3_add 9 = .ok (.bipush (-3), 2) := by decide +kernel
theorem dX3_add_11 : decode cX3_add 11 = .ok (.ireturn, 1) := by decide +kernel
theorem dX3_add_12 : decode cX3_add 12 = .ok (.aload_n 0, 1) := by decide +kernel
theorem dX3_add_13 : decode cX3_add 13 = .ok (.getfield 11, 3) := by decide +kernel
theorem dX3_add_16 : decode cX3_add 16 = .ok (.aload_n 0, 1) := by decide +kernel
theorem dX3_add_17 : decode cX3_add 17 = .ok (.getfield 25, 3) := by decide +kernel
theorem dX3_add_20 : decode cX3_add 20 = .ok (.iload_n 1, 1) := by decide +kernel
theorem dX3_add_21 : decode cX3_add 21 = .ok (.iastore, 1) := by decide +kernel
theorem dX3_add_22 : decode cX3_add 22 = .ok (.aload_n 0, 1) := by decide +kernel
theorem dX3_add_23 : decode cX3_add 23 = .ok (.dup, 1) := by decide +kernel
theorem dX3_add_24 : decode cX3_add 24 = .ok (.getfield 25, 3) := by decide +kernel
theorem dX3_add_27 : decode cX3_add 27 = .ok (.dup_x1, 1) := by decide +kernel
theorem dX3_add_28 : decode cX3_add 28 = .ok (.iconst 1, 1) := by decide +kernel
theorem dX3_add_29 : decode cX3_add 29 = .ok (.iadd, 1) := by decide +kernel
theorem dX3_add_30 : decode cX3_add 30 = .ok (.putfield 25, 3) := by decide +kernel
theorem dX3_add_33 : decode cX3_add 33 = .ok (.ireturn, 1) := by decide +kernel
theorem dX3_traced_0 : decode cX3_traced 0 = .ok (.aload_n 0, 1) := by decide +kernel
theorem dX3_traced_1 : decode cX3_traced 1 = .ok (.getfield 32, 3) := by decide +kernel
theorem dX3_traced_4 : decode cX3_traced 4 = .ok (.bipush 24, 2) := by decide +kernel
theorem dX3_traced_6 : decode cX3_traced 6 = .ok (.invokestatic 35, 3) := by decide +kernel
theorem dX3_traced_9 : decode cX3_traced 9 = .ok (.ireturn, 1) := by decide +kernel
set_option maxRecDepth 20000 in
theorem dX3_perform_0 : decode cX3_perform 0 = .ok (.aload_n 0, 1) := by decide +kernel
theorem dX3_perform_1 : decode cX3_perform 1 = .ok (.iconst 0, 1) := by decide +kernel
theorem dX3_perform_2 : decode cX3_perform 2 = .ok (.putfield 32, 3) := by decide +kernel
theorem dX3_perform_5 : decode cX3_perform 5 = .ok (.aload_n 0, 1) := by decide +kernel
theorem dX3_perform_6 : decode cX3_perform 6 = .ok (.iload_n 1, 1) := by decide +kernel
theorem dX3_perform_7 : decode cX3_perform 7 = .ok (.invokevirtual 29, 3) := by decide +kernel
theorem dX3_perform_10 : decode cX3_perform 10 = .ok (.ifCond .eq 12, 3) := by decide +kernel
theorem dX3_perform_13 : decode cX3_perform 13 = .ok (.iload_n 2, 1) := by decide +kernel
theorem dX3_perform_14 : decode cX3_perform 14 = .ok (.ifCond .lt 8, 3) := by decide +kernel
theorem dX3_perform_17 : decode cX3_perform 17 = .ok (.iload_n 2, 1) := by decide +kernel
theorem dX3_perform_18 : decode cX3_perform 18 = .ok (.iconst 4, 1) := by decide +kernel
theorem dX3_perform_19 : decode cX3_perform 19 = .ok (.if_icmp .lt 5, 3) := by decide +kernel
theorem dX3_perform_22 : decode cX3_perform 22 = .ok (.iconst 0, 1) := by decide +kernel
theorem dX3_perform_23 : decode cX3_perform 23 = .ok (.ireturn, 1) := by decide +kernel
theorem dX3_perform_24 : decode cX3_perform 24 = .ok (.aload_n 0, 1) := by decide +kernel
theorem dX3_perform_25 : decode cX3_perform 25 = .ok (.iload_n 1, 1) := by decide +kernel
theorem dX3_perform_26 : decode cX3_perform 26 = .ok (.putfield 41, 3) := by decide +kernel
theorem dX3_perform_29 : decode cX3_perform 29 = .ok (.aload_n 0, 1) := by decide +kernel
theorem dX3_perform_30 : decode cX3_perform 30 = .ok (.aload_n 0, 1) := by decide +kernel
theorem dX3_perform_31 : decode cX3_perform 31 = .ok (.getfield 11, 3) := by decide +kernel
theorem dX3_perform_34 : decode cX3_perform 34 = .ok (.iload_n 1, 1) := by decide +kernel
theorem dX3_perform_35 : decode cX3_perform 35 = .ok (.iaload, 1) := by decide +kernel
theorem dX3_perform_36 : decode cX3_perform 36 = .ok (.iload_n 2, 1) := by decide +kernel
theorem dX3_perform_37 : decode cX3_perform 37 = .ok (.iload_n 3, 1) := by decide +kernel
theorem dX3_perform_38 : decode cX3_perform 38 = .ok (.iconst 0, 1) := by decide +kernel
theorem dX3_perform_39 : decode cX3_perform 39 = .ok (.invokevirtual 44, 3) := by decide +kernel
theorem dX3_perform_42 : decode cX3_perform 42 = .ok (.ireturn, 1) := by decide +kernel
set_option maxRecDepth 20000 in
theorem dX3_runFrom_0 : decode cX3_runFrom 0 = .ok (.iload_n 1, 1) := by decide +kernel
theorem dX3_runFrom_1 : decode cX3_runFrom 1 = .ok (.istore 5, 2) := by decide +kernel
theorem dX3_runFrom_3 : decode cX3_runFrom 3 = .ok (.iconst 0, 1) := by decide +kernel
theorem dX3_runFrom_4 : decode cX3_runFrom 4 = .ok (.istore 6, 2) := by decide +kernel
theorem dX3_runFrom_6 : decode cX3_runFrom 6 = .ok (.iload 6, 2) := by decide +kernel
theorem dX3_runFrom_8 : decode cX3_runFrom 8 = .ok (.bipush 8, 2) := by decide +kernel
theorem dX3_runFrom_10 : decode cX3_runFrom 10 = .ok (.if_icmp .ge 38, 3) := by decide +kernel
theorem dX3_runFrom_13 : decode cX3_runFrom 13 = .ok (.iload 5, 2) := by decide +kernel
theorem dX3_runFrom_15 : decode cX3_runFrom 15 = .ok (.invokestatic 18, 3) := by decide +kernel
theorem dX3_runFrom_18 : decode cX3_runFrom 18 = .ok (.ifCond .eq 30, 3) := by decide +kernel
theorem dX3_runFrom_21 : decode cX3_runFrom 21 = .ok (.getstatic 48, 3) := by decide +kernel
theorem dX3_runFrom_24 : decode cX3_runFrom 24 = .ok (.iconst 4, 1) := by decide +kernel
theorem dX3_runFrom_25 : decode cX3_runFrom 25 = .ok (.iload 5, 2) := by decide +kernel
theorem dX3_runFrom_27 : decode cX3_runFrom 27 = .ok (.imul, 1) := by decide +kernel
theorem dX3_runFrom_28 : decode cX3_runFrom 28 = .ok (.iload_n 2, 1) := by decide +kernel
theorem dX3_runFrom_29 : decode cX3_runFrom 29 = .ok (.iadd, 1) := by decide +kernel
theorem dX3_runFrom_30 : decode cX3_runFrom 30 = .ok (.iaload, 1) := by decide +kernel
theorem dX3_runFrom_31 : decode cX3_runFrom 31 = .ok (.ifCond .ne 17, 3) := by decide +kernel
theorem dX3_runFrom_34 : decode cX3_runFrom 34 = .ok (.getstatic 22, 3) := by decide +kernel
theorem dX3_runFrom_37 : decode cX3_runFrom 37 = .ok (.iload 5, 2) := by decide +kernel
theorem dX3_runFrom_39 : decode cX3_runFrom 39 = .ok (.iaload, 1) := by decide +kernel
theorem dX3_runFrom_40 : decode cX3_runFrom 40 = .ok (.istore 5, 2) := by decide +kernel
theorem dX3_runFrom_42 : decode cX3_runFrom 42 = .ok (.iinc 6 1, 3) := by decide +kernel
theorem dX3_runFrom_45 : decode cX3_runFrom 45 = .ok (.goto (-39), 3) := by decide +kernel
theorem dX3_runFrom_48 : decode cX3_runFrom 48 = .ok (.iload 5, 2) := by decide +kernel
theorem dX3_runFrom_50 : decode cX3_runFrom 50 = .ok (.invokestatic 18, 3) := by decide +kernel
theorem dX3_runFrom_53 : decode cX3_runFrom 53 = .ok (.ifCond .eq 10, 3) := by decide +kernel
theorem dX3_runFrom_56 : decode cX3_runFrom 56 = .ok (.iload 4, 2) := by decide +kernel
theorem dX3_runFrom_58 : decode cX3_runFrom 58 = .ok (.bipush 40, 2) := by decide +kernel
theorem dX3_runFrom_60 : decode cX3_runFrom 60 = .ok (.if_icmp .le 5, 3) := by decide +kernel
theorem dX3_runFrom_63 : decode cX3_runFrom 63 = .ok (.iconst 0, 1) := by decide +kernel
theorem dX3_runFrom_64 : decode cX3_runFrom 64 = .ok (.ireturn, 1) := by decide +kernel
theorem dX3_runFrom_65 : decode cX3_runFrom 65 = .ok (.getstatic 48, 3) := by decide +kernel
theorem dX3_runFrom_68 : decode cX3_runFrom 68 = .ok (.iconst 4, 1) := by decide +kernel
theorem dX3_runFrom_69 : decode cX3_runFrom 69 = .ok (.iload 5, 2) := by decide +kernel
theorem dX3_runFrom_71 : decode cX3_runFrom 71 = .ok (.imul, 1) := by decide +kernel
theorem dX3_runFrom_72 : decode cX3_runFrom 72 = .ok (.iload_n 2, 1) := by decide +kernel
theorem dX3_runFrom_73 : decode cX3_runFrom 73 = .ok (.iadd, 1) := by decide +kernel
theorem dX3_runFrom_74 : decode cX3_runFrom 74 = .ok (.iaload, 1) := by decide +kernel
theorem dX3_runFrom_75 : decode cX3_runFrom 75 = .ok (.istore 6, 2) := by decide +kernel
theorem dX3_runFrom_77 : decode cX3_runFrom 77 = .ok (.aload_n 0, 1) := by decide +kernel
theorem dX3_runFrom_78 : decode cX3_runFrom 78 = .ok (.getfield 32, 3) := by decide +kernel
theorem dX3_runFrom_81 : decode cX3_runFrom 81 = .ok (.bipush 24, 2) := by decide +kernel
theorem dX3_runFrom_83 : decode cX3_runFrom 83 = .ok (.if_icmp .ge 14, 3) := by decide +kernel
theorem dX3_runFrom_86 : decode cX3_runFrom 86 = .ok (.aload_n 0, 1) := by decide +kernel
theorem dX3_runFrom_87 : decode cX3_runFrom 87 = .ok (.getfield 15, 3) := by decide +kernel
theorem dX3_runFrom_90 : decode cX3_runFrom 90 = .ok (.aload_n 0, 1) := by decide +kernel
theorem dX3_runFrom_91 : decode cX3_runFrom 91 = .ok (.getfield 32, 3) := by decide +kernel
theorem dX3_runFrom_94 : decode cX3_runFrom 94 = .ok (.iload 6, 2) := by decide +kernel
theorem dX3_runFrom_96 : decode cX3_runFrom 96 = .ok (.iastore, 1) := by decide +kernel
theorem dX3_runFrom_97 : decode cX3_runFrom 97 = .ok (.aload_n 0, 1) := by decide +kernel
theorem dX3_runFrom_98 : decode cX3_runFrom 98 = .ok (.dup, 1) := by decide +kernel
theorem dX3_runFrom_99 : decode cX3_runFrom 99 = .ok (.getfield 32, 3) := by decide +kernel
theorem dX3_runFrom_102 : decode cX3_runFrom 102 = .ok (.iconst 1, 1) := by decide +kernel
theorem dX3_runFrom_103 : decode cX3_runFrom 103 = .ok (.iadd, 1) := by decide +kernel
theorem dX3_runFrom_104 : decode cX3_runFrom 104 = .ok (.putfield 32, 3) := by decide +kernel
theorem dX3_runFrom_107 : decode cX3_runFrom 107 = .ok (.aload_n 0, 1) := by decide +kernel
theorem dX3_runFrom_108 : decode cX3_runFrom 108 = .ok (.iload 6, 2) := by decide +kernel
theorem dX3_runFrom_110 : decode cX3_runFrom 110 = .ok (.getstatic 22, 3) := by decide +kernel
theorem dX3_runFrom_113 : decode cX3_runFrom 113 = .ok (.iload 5, 2) := by decide +kernel
theorem dX3_runFrom_115 : decode cX3_runFrom 115 = .ok (.iaload, 1) := by decide +kernel
theorem dX3_runFrom_116 : decode cX3_runFrom 116 = .ok (.iload_n 3, 1) := by decide +kernel
theorem dX3_runFrom_117 : decode cX3_runFrom 117 = .ok (.iload 4, 2) := by decide +kernel
theorem dX3_runFrom_119 : decode cX3_runFrom 119 = .ok (.iconst 1, 1) := by decide +kernel
theorem dX3_runFrom_120 : decode cX3_runFrom 120 = .ok (.iadd, 1) := by decide +kernel
theorem dX3_runFrom_121 : decode cX3_runFrom 121 = .ok (.invokevirtual 51, 3) := by decide +kernel
theorem dX3_runFrom_124 : decode cX3_runFrom 124 = .ok (.ireturn, 1) := by decide +kernel
set_option maxRecDepth 20000 in
theorem dX3_runBody_0 : decode cX3_runBody 0 = .ok (.aload_n 0, 1) := by decide +kernel
theorem dX3_runBody_1 : decode cX3_runBody 1 = .ok (.aload_n 0, 1) := by decide +kernel
theorem dX3_runBody_2 : decode cX3_runBody 2 = .ok (.getfield 41, 3) := by decide +kernel
theorem dX3_runBody_5 : decode cX3_runBody 5 = .ok (.invokevirtual 54, 3) := by decide +kernel
theorem dX3_runBody_8 : decode cX3_runBody 8 = .ok (.istore 5, 2) := by decide +kernel
theorem dX3_runBody_10 : decode cX3_runBody 10 = .ok (.iload_n 1, 1) := by decide +kernel
theorem dX3_runBody_11 : decode cX3_runBody 11 = .ok (.lookupswitch 287 #[(1, 113), (2, 120), (10, 142), (11, 155), (20, 162), (30, 174), (40, 185), (41, 197), (50, 209), (60, 230), (70, 242), (80, 254), (81, 275)], 113) := by decide +kernel
theorem dX3_runBody_124 : decode cX3_runBody 124 = .ok (.iload_n 3, 1) := by decide +kernel
theorem dX3_runBody_125 : decode cX3_runBody 125 = .ok (.aload_n 0, 1) := by decide +kernel
theorem dX3_runBody_126 : decode cX3_runBody 126 = .ok (.getfield 41, 3) := by decide +kernel
theorem dX3_runBody_129 : decode cX3_runBody 129 = .ok (.iadd, 1) := by decide +kernel
theorem dX3_runBody_130 : decode cX3_runBody 130 = .ok (.ireturn, 1) := by decide +kernel
theorem dX3_runBody_131 : decode cX3_runBody 131 = .ok (.aload_n 0, 1) := by decide +kernel
theorem dX3_runBody_132 : decode cX3_runBody 132 = .ok (.iload 5, 2) := by decide +kernel
theorem dX3_runBody_134 : decode cX3_runBody 134 = .ok (.iconst 1, 1) := by decide +kernel
theorem dX3_runBody_135 : decode cX3_runBody 135 = .ok (.iload_n 3, 1) := by decide +kernel
theorem dX3_runBody_136 : decode cX3_runBody 136 = .ok (.iload 4, 2) := by decide +kernel
theorem dX3_runBody_138 : decode cX3_runBody 138 = .ok (.invokevirtual 44, 3) := by decide +kernel
theorem dX3_runBody_141 : decode cX3_runBody 141 = .ok (.aload_n 0, 1) := by decide +kernel
theorem dX3_runBody_142 : decode cX3_runBody 142 = .ok (.iload 5, 2) := by decide +kernel
theorem dX3_runBody_144 : decode cX3_runBody 144 = .ok (.iconst 2, 1) := by decide +kernel
theorem dX3_runBody_145 : decode cX3_runBody 145 = .ok (.iconst 1, 1) := by decide +kernel
theorem dX3_runBody_146 : decode cX3_runBody 146 = .ok (.iload 4, 2) := by decide +kernel
theorem dX3_runBody_148 : decode cX3_runBody 148 = .ok (.invokevirtual 44, 3) := by decide +kernel
theorem dX3_runBody_151 : decode cX3_runBody 151 = .ok (.isub, 1) := by decide +kernel
theorem dX3_runBody_152 : decode cX3_runBody 152 = .ok (.ireturn, 1) := by decide +kernel
theorem dX3_runBody_153 : decode cX3_runBody 153 = .ok (.aload_n 0, 1) := by decide +kernel
theorem dX3_runBody_154 : decode cX3_runBody 154 = .ok (.iload 5, 2) := by decide +kernel
theorem dX3_runBody_156 : decode cX3_runBody 156 = .ok (.iconst 0, 1) := by decide +kernel
theorem dX3_runBody_157 : decode cX3_runBody 157 = .ok (.iload_n 3, 1) := by decide +kernel
theorem dX3_runBody_158 : decode cX3_runBody 158 = .ok (.iload 4, 2) := by decide +kernel
theorem dX3_runBody_160 : decode cX3_runBody 160 = .ok (.invokevirtual 44, 3) := by decide +kernel
theorem dX3_runBody_163 : decode cX3_runBody 163 = .ok (.iconst 2, 1) := by decide +kernel
theorem dX3_runBody_164 : decode cX3_runBody 164 = .ok (.imul, 1) := by decide +kernel
theorem dX3_runBody_165 : decode cX3_runBody 165 = .ok (.ireturn, 1) := by decide +kernel
theorem dX3_runBody_166 : decode cX3_runBody 166 = .ok (.iload_n 3, 1) := by decide +kernel
theorem dX3_runBody_167 : decode cX3_runBody 167 = .ok (.aload_n 0, 1) := by decide +kernel
theorem dX3_runBody_168 : decode cX3_runBody 168 = .ok (.getfield 41, 3) := by decide +kernel
theorem dX3_runBody_171 : decode cX3_runBody 171 = .ok (.ixor, 1) := by decide +kernel
theorem dX3_runBody_172 : decode cX3_runBody 172 = .ok (.ireturn, 1) := by decide +kernel
theorem dX3_runBody_173 : decode cX3_runBody 173 = .ok (.aload_n 0, 1) := by decide +kernel
theorem dX3_runBody_174 : decode cX3_runBody 174 = .ok (.iload_n 2, 1) := by decide +kernel
theorem dX3_runBody_175 : decode cX3_runBody 175 = .ok (.iconst 0, 1) := by decide +kernel
theorem dX3_runBody_176 : decode cX3_runBody 176 = .ok (.iload_n 3, 1) := by decide +kernel
theorem dX3_runBody_177 : decode cX3_runBody 177 = .ok (.iload 4, 2) := by decide +kernel
theorem dX3_runBody_179 : decode cX3_runBody 179 = .ok (.invokevirtual 44, 3) := by decide +kernel
theorem dX3_runBody_182 : decode cX3_runBody 182 = .ok (.iconst 3, 1) := by decide +kernel
theorem dX3_runBody_183 : decode cX3_runBody 183 = .ok (.iadd, 1) := by decide +kernel
theorem dX3_runBody_184 : decode cX3_runBody 184 = .ok (.ireturn, 1) := by decide +kernel
theorem dX3_runBody_185 : decode cX3_runBody 185 = .ok (.aload_n 0, 1) := by decide +kernel
theorem dX3_runBody_186 : decode cX3_runBody 186 = .ok (.iload_n 2, 1) := by decide +kernel
theorem dX3_runBody_187 : decode cX3_runBody 187 = .ok (.iconst 1, 1) := by decide +kernel
theorem dX3_runBody_188 : decode cX3_runBody 188 = .ok (.iload_n 3, 1) := by decide +kernel
theorem dX3_runBody_189 : decode cX3_runBody 189 = .ok (.iload 4, 2) := by decide +kernel
theorem dX3_runBody_191 : decode cX3_runBody 191 = .ok (.invokevirtual 44, 3) := by decide +kernel
theorem dX3_runBody_194 : decode cX3_runBody 194 = .ok (.ineg, 1) := by decide +kernel
theorem dX3_runBody_195 : decode cX3_runBody 195 = .ok (.ireturn, 1) := by decide +kernel
theorem dX3_runBody_196 : decode cX3_runBody 196 = .ok (.aload_n 0, 1) := by decide +kernel
theorem dX3_runBody_197 : decode cX3_runBody 197 = .ok (.iload_n 2, 1) := by decide +kernel
theorem dX3_runBody_198 : decode cX3_runBody 198 = .ok (.iconst 2, 1) := by decide +kernel
theorem dX3_runBody_199 : decode cX3_runBody 199 = .ok (.iload_n 3, 1) := by decide +kernel
theorem dX3_runBody_200 : decode cX3_runBody 200 = .ok (.iload 4, 2) := by decide +kernel
theorem dX3_runBody_202 : decode cX3_runBody 202 = .ok (.invokevirtual 44, 3) := by decide +kernel
theorem dX3_runBody_205 : decode cX3_runBody 205 = .ok (.iconst 3, 1) := by decide +kernel
theorem dX3_runBody_206 : decode cX3_runBody 206 = .ok (.imul, 1) := by decide +kernel
theorem dX3_runBody_207 : decode cX3_runBody 207 = .ok (.ireturn, 1) := by decide +kernel
theorem dX3_runBody_208 : decode cX3_runBody 208 = .ok (.aload_n 0, 1) := by decide +kernel
theorem dX3_runBody_209 : decode cX3_runBody 209 = .ok (.iload_n 2, 1) := by decide +kernel
theorem dX3_runBody_210 : decode cX3_runBody 210 = .ok (.iconst 1, 1) := by decide +kernel
theorem dX3_runBody_211 : decode cX3_runBody 211 = .ok (.iload_n 3, 1) := by decide +kernel
theorem dX3_runBody_212 : decode cX3_runBody 212 = .ok (.iconst 1, 1) := by decide +kernel
theorem dX3_runBody_213 : decode cX3_runBody 213 = .ok (.iadd, 1) := by decide +kernel
theorem dX3_runBody_214 : decode cX3_runBody 214 = .ok (.iload 4, 2) := by decide +kernel
theorem dX3_runBody_216 : decode cX3_runBody 216 = .ok (.invokevirtual 44, 3) := by decide +kernel
theorem dX3_runBody_219 : decode cX3_runBody 219 = .ok (.ireturn, 1) := by decide +kernel
theorem dX3_runBody_220 : decode cX3_runBody 220 = .ok (.aload_n 0, 1) := by decide +kernel
theorem dX3_runBody_221 : decode cX3_runBody 221 = .ok (.iload_n 2, 1) := by decide +kernel
theorem dX3_runBody_222 : decode cX3_runBody 222 = .ok (.iconst 2, 1) := by decide +kernel
theorem dX3_runBody_223 : decode cX3_runBody 223 = .ok (.iload_n 3, 1) := by decide +kernel
theorem dX3_runBody_224 : decode cX3_runBody 224 = .ok (.iload 4, 2) := by decide +kernel
theorem dX3_runBody_226 : decode cX3_runBody 226 = .ok (.invokevirtual 44, 3) := by decide +kernel
theorem dX3_runBody_229 : decode cX3_runBody 229 = .ok (.aload_n 0, 1) := by decide +kernel
theorem dX3_runBody_230 : decode cX3_runBody 230 = .ok (.iload 5, 2) := by decide +kernel
theorem dX3_runBody_232 : decode cX3_runBody 232 = .ok (.iconst 0, 1) := by decide +kernel
theorem dX3_runBody_233 : decode cX3_runBody 233 = .ok (.iconst 2, 1) := by decide +kernel
theorem dX3_runBody_234 : decode cX3_runBody 234 = .ok (.iload 4, 2) := by decide +kernel
theorem dX3_runBody_236 : decode cX3_runBody 236 = .ok (.invokevirtual 44, 3) := by decide +kernel
theorem dX3_runBody_239 : decode cX3_runBody 239 = .ok (.isub, 1) := by decide +kernel
theorem dX3_runBody_240 : decode cX3_runBody 240 = .ok (.ireturn, 1) := by decide +kernel
theorem dX3_runBody_241 : decode cX3_runBody 241 = .ok (.aload_n 0, 1) := by decide +kernel
theorem dX3_runBody_242 : decode cX3_runBody 242 = .ok (.iload_n 2, 1) := by decide +kernel
theorem dX3_runBody_243 : decode cX3_runBody 243 = .ok (.iconst 3, 1) := by decide +kernel
theorem dX3_runBody_244 : decode cX3_runBody 244 = .ok (.iload_n 3, 1) := by decide +kernel
theorem dX3_runBody_245 : decode cX3_runBody 245 = .ok (.iload 4, 2) := by decide +kernel
theorem dX3_runBody_247 : decode cX3_runBody 247 = .ok (.invokevirtual 44, 3) := by decide +kernel
theorem dX3_runBody_250 : decode cX3_runBody 250 = .ok (.iconst 5, 1) := by decide +kernel
theorem dX3_runBody_251 : decode cX3_runBody 251 = .ok (.ixor, 1) := by decide +kernel
theorem dX3_runBody_252 : decode cX3_runBody 252 = .ok (.ireturn, 1) := by decide +kernel
theorem dX3_runBody_253 : decode cX3_runBody 253 = .ok (.aload_n 0, 1) := by decide +kernel
theorem dX3_runBody_254 : decode cX3_runBody 254 = .ok (.iload_n 2, 1) := by decide +kernel
theorem dX3_runBody_255 : decode cX3_runBody 255 = .ok (.iconst 0, 1) := by decide +kernel
theorem dX3_runBody_256 : decode cX3_runBody 256 = .ok (.iload_n 3, 1) := by decide +kernel
theorem dX3_runBody_257 : decode cX3_runBody 257 = .ok (.iload 4, 2) := by decide +kernel
theorem dX3_runBody_259 : decode cX3_runBody 259 = .ok (.invokevirtual 44, 3) := by decide +kernel
theorem dX3_runBody_262 : decode cX3_runBody 262 = .ok (.iconst 2, 1) := by decide +kernel
theorem dX3_runBody_263 : decode cX3_runBody 263 = .ok (.imul, 1) := by decide +kernel
theorem dX3_runBody_264 : decode cX3_runBody 264 = .ok (.ireturn, 1) := by decide +kernel
theorem dX3_runBody_265 : decode cX3_runBody 265 = .ok (.aload_n 0, 1) := by decide +kernel
theorem dX3_runBody_266 : decode cX3_runBody 266 = .ok (.iload_n 2, 1) := by decide +kernel
theorem dX3_runBody_267 : decode cX3_runBody 267 = .ok (.iconst 1, 1) := by decide +kernel
theorem dX3_runBody_268 : decode cX3_runBody 268 = .ok (.iload_n 3, 1) := by decide +kernel
theorem dX3_runBody_269 : decode cX3_runBody 269 = .ok (.iload 4, 2) := by decide +kernel
theorem dX3_runBody_271 : decode cX3_runBody 271 = .ok (.invokevirtual 44, 3) := by decide +kernel
theorem dX3_runBody_274 : decode cX3_runBody 274 = .ok (.aload_n 0, 1) := by decide +kernel
theorem dX3_runBody_275 : decode cX3_runBody 275 = .ok (.iload 5, 2) := by decide +kernel
theorem dX3_runBody_277 : decode cX3_runBody 277 = .ok (.iconst 2, 1) := by decide +kernel
theorem dX3_runBody_278 : decode cX3_runBody 278 = .ok (.iconst 2, 1) := by decide +kernel
theorem dX3_runBody_279 : decode cX3_runBody 279 = .ok (.iload 4, 2) := by decide +kernel
theorem dX3_runBody_281 : decode cX3_runBody 281 = .ok (.invokevirtual 44, 3) := by decide +kernel
theorem dX3_runBody_284 : decode cX3_runBody 284 = .ok (.iadd, 1) := by decide +kernel
theorem dX3_runBody_285 : decode cX3_runBody 285 = .ok (.ireturn, 1) := by decide +kernel
theorem dX3_runBody_286 : decode cX3_runBody 286 = .ok (.aload_n 0, 1) := by decide +kernel
theorem dX3_runBody_287 : decode cX3_runBody 287 = .ok (.iload_n 2, 1) := by decide +kernel
theorem dX3_runBody_288 : decode cX3_runBody 288 = .ok (.iconst 3, 1) := by decide +kernel
theorem dX3_runBody_289 : decode cX3_runBody 289 = .ok (.iload_n 3, 1) := by decide +kernel
theorem dX3_runBody_290 : decode cX3_runBody 290 = .ok (.iload 4, 2) := by decide +kernel
theorem dX3_runBody_292 : decode cX3_runBody 292 = .ok (.invokevirtual 44, 3) := by decide +kernel
theorem dX3_runBody_295 : decode cX3_runBody 295 = .ok (.iconst 1, 1) := by decide +kernel
theorem dX3_runBody_296 : decode cX3_runBody 296 = .ok (.isub, 1) := by decide +kernel
theorem dX3_runBody_297 : decode cX3_runBody 297 = .ok (.ireturn, 1) := by decide +kernel
theorem dX3_runBody_298 : decode cX3_runBody 298 = .ok (.iconst 0, 1) := by decide +kernel
theorem dX3_runBody_299 : decode cX3_runBody 299 = .ok (.ireturn, 1) := by decide +kernel
theorem dX4_init_0 : decode cX4_init 0 = .ok (.aload_n 0, 1) := by decide +kernel
theorem dX4_init_1 : decode cX4_init 1 = .ok (.invokespecial 1, 3) := by decide +kernel
theorem dX4_init_4 : decode cX4_init 4 = .ok (.aload_n 0, 1) := by decide +kernel
theorem dX4_init_5 : decode cX4_init 5 = .ok (.bipush 120, 2) := by decide +kernel
theorem dX4_init_7 : decode cX4_init 7 = .ok (.newarray .int, 2) := by decide +kernel
theorem dX4_init_9 : decode cX4_init 9 = .ok (.putfield 9, 3) := by decide +kernel
theorem dX4_init_12 : decode cX4_init 12 = .ok (.aload_n 0, 1) := by decide +kernel
theorem dX4_init_13 : decode cX4_init 13 = .ok (.sipush 256, 3) := by decide +kernel
theorem dX4_init_16 : decode cX4_init 16 = .ok (.newarray .int, 2) := by decide +kernel
theorem dX4_init_18 : decode cX4_init 18 = .ok (.putfield 13, 3) := by decide +kernel
theorem dX4_init_21 : decode cX4_init 21 = .ok (.aload_n 0, 1) := by decide +kernel
theorem dX4_init_22 : decode cX4_init 22 = .ok (.sipush 256, 3) := by decide +kernel
theorem dX4_init_25 : decode cX4_init 25 = .ok (.newarray .int, 2) := by decide +kernel
theorem dX4_init_27 : decode cX4_init 27 = .ok (.putfield 16, 3) := by decide +kernel
theorem dX4_init_30 : decode cX4_init 30 = .ok (.aload_n 0, 1) := by decide +kernel
theorem dX4_init_31 : decode cX4_init 31 = .ok (.bipush 120, 2) := by decide +kernel
theorem dX4_init_33 : decode cX4_init 33 = .ok (.newarray .int, 2) := by decide +kernel
theorem dX4_init_35 : decode cX4_init 35 = .ok (.putfield 19, 3) := by decide +kernel
theorem dX4_init_38 : decode cX4_init 38 = .ok (.aload_n 0, 1) := by decide +kernel
theorem dX4_init_39 : decode cX4_init 39 = .ok (.bipush 6, 2) := by decide +kernel
theorem dX4_init_41 : decode cX4_init 41 = .ok (.newarray .int, 2) := by decide +kernel
theorem dX4_init_43 : decode cX4_init 43 = .ok (.putfield 22, 3) := by decide +kernel
theorem dX4_init_46 : decode cX4_init 46 = .ok (.return_, 1) := by decide +kernel
theorem dX4_take_0 : decode cX4_take 0 = .ok (.aload_n 0, 1) := by decide +kernel
theorem dX4_take_1 : decode cX4_take 1 = .ok (.getfield 25, 3) := by decide +kernel
theorem dX4_take_4 : decode cX4_take 4 = .ok (.bipush 120, 2) := by decide +kernel
theorem dX4_take_6 : decode cX4_take 6 = .ok (.if_icmp .lt 5, 3) := by decide +kernel
theorem dX4_take_9 : decode cX4_take 9 = .ok (.iconst 0, 1) := by decide +kernel
theorem dX4_take_10 : decode cX4_take 10 = .ok (.ireturn, 1) := by decide +kernel
theorem dX4_take_11 : decode cX4_take 11 = .ok (.aload_n 0, 1) := by decide +kernel
theorem dX4_take_12 : decode cX4_take 12 = .ok (.getfield 9, 3) := by decide +kernel
theorem dX4_take_15 : decode cX4_take 15 = .ok (.aload_n 0, 1) := by decide +kernel
theorem dX4_take_16 : decode cX4_take 16 = .ok (.dup, 1) := by decide +kernel
theorem dX4_take_17 : decode cX4_take 17 = .ok (.getfield 25, 3) := by decide +kernel
theorem dX4_take_20 : decode cX4_take 20 = .ok (.dup_x1, 1) := by decide +kernel
theorem dX4_take_21 : decode cX4_take 21 = .ok (.iconst 1, 1) := by decide +kernel
theorem dX4_take_22 : decode cX4_take 22 = .ok (.iadd, 1) := by decide +kernel
theorem dX4_take_23 : decode cX4_take 23 = .ok (.putfield 25, 3) := by decide +kernel
theorem dX4_take_26 : decode cX4_take 26 = .ok (.iload_n 1, 1) := by decide +kernel
theorem dX4_take_27 : decode cX4_take 27 = .ok (.iastore, 1) := by decide +kernel
theorem dX4_take_28 : decode cX4_take 28 = .ok (.iconst 1, 1) := by decide +kernel
theorem dX4_take_29 : decode cX4_take 29 = .ok (.ireturn, 1) := by decide +kernel
set_option maxRecDepth 20000 in
theorem dX4_adopt_0 : decode cX4_adopt 0 = .ok (.aload_n 0, 1) := by decide +kernel
theorem dX4_adopt_1 : decode cX4_adopt 1 = .ok (.invokevirtual 29, 3) := by decide +kernel
theorem dX4_adopt_4 : decode cX4_adopt 4 = .ok (.istore_n 1, 1) := by decide +kernel
theorem dX4_adopt_5 : decode cX4_adopt 5 = .ok (.iload_n 1, 1) := by decide +kernel
theorem dX4_adopt_6 : decode cX4_adopt 6 = .ok (.ifCond .ge 27, 3) := by decide +kernel
theorem dX4_adopt_9 : decode cX4_adopt 9 = .ok (.aload_n 0, 1) := by decide +kernel
theorem dX4_adopt_10 : decode cX4_adopt 10 = .ok (.getfield 13, 3) := by decide +kernel
theorem dX4_adopt_13 : decode cX4_adopt 13 = .ok (.iconst 0, 1) := by decide +kernel
theorem dX4_adopt_14 : decode cX4_adopt 14 = .ok (.aload_n 0, 1) := by decide +kernel
theorem dX4_adopt_15 : decode cX4_adopt 15 = .ok (.getfield 16, 3) := by decide +kernel
theorem dX4_adopt_18 : decode cX4_adopt 18 = .ok (.iconst 0, 1) := by decide +kernel
theorem dX4_adopt_19 : decode cX4_adopt 19 = .ok (.sipush 256, 3) := by decide +kernel
theorem dX4_adopt_22 : decode cX4_adopt 22 = .ok (.invokestatic 33, 3) := by decide +kernel
theorem dX4_adopt_25 : decode cX4_adopt 25 = .ok (.aload_n 0, 1) := by decide +kernel
theorem dX4_adopt_26 : decode cX4_adopt 26 = .ok (.aload_n 0, 1) := by decide +kernel
theorem dX4_adopt_27 : decode cX4_adopt 27 = .ok (.getfield 39, 3) := by decide +kernel
theorem dX4_adopt_30 : decode cX4_adopt 30 = .ok (.putfield 42, 3) := by decide +kernel
theorem dX4_adopt_33 : decode cX4_adopt 33 = .ok (.aload_n 0, 1) := by decide +kernel
theorem dX4_adopt_34 : decode cX4_adopt 34 = .ok (.iconst 0, 1) := by decide +kernel
theorem dX4_adopt_35 : decode cX4_adopt 35 = .ok (.putfield 25, 3) := by decide +kernel
theorem dX4_adopt_38 : decode cX4_adopt 38 = .ok (.iload_n 1, 1) := by decide +kernel
theorem dX4_adopt_39 : decode cX4_adopt 39 = .ok (.ireturn, 1) := by decide +kernel
set_option maxRecDepth 20000 in
theorem dX4_readText_0 : decode cX4_readText 0 = .ok (.aload_n 0, 1) := by decide +kernel
theorem dX4_readText_1 : decode cX4_readText 1 = .ok (.iconst 0, 1) := by decide +kernel
theorem dX4_readText_2 : decode cX4_readText 2 = .ok (.putfield 45, 3) := by decide +kernel
theorem dX4_readText_5 : decode cX4_readText 5 = .ok (.aload_n 0, 1) := by decide +kernel
theorem dX4_readText_6 : decode cX4_readText 6 = .ok (.iconst 0, 1) := by decide +kernel
theorem dX4_readText_7 : decode cX4_readText 7 = .ok (.putfield 39, 3) := by decide +kernel
theorem dX4_readText_10 : decode cX4_readText 10 = .ok (.aload_n 0, 1) := by decide +kernel
theorem dX4_readText_11 : decode cX4_readText 11 = .ok (.iconst 0, 1) := by decide +kernel
theorem dX4_readText_12 : decode cX4_readText 12 = .ok (.putfield 48, 3) := by decide +kernel
theorem dX4_readText_15 : decode cX4_readText 15 = .ok (.iconst 0, 1) := by decide +kernel
theorem dX4_readText_16 : decode cX4_readText 16 = .ok (.istore_n 1, 1) := by decide +kernel
theorem dX4_readText_17 : decode cX4_readText 17 = .ok (.iload_n 1, 1) := by decide +kernel
theorem dX4_readText_18 : decode cX4_readText 18 = .ok (.bipush 120, 2) := by decide +kernel
theorem dX4_readText_20 : decode cX4_readText 20 = .ok (.if_icmp .ge 67, 3) := by decide +kernel
theorem dX4_readText_23 : decode cX4_readText 23 = .ok (.aload_n 0, 1) := by decide +kernel
theorem dX4_readText_24 : decode cX4_readText 24 = .ok (.invokevirtual 52, 3) := by decide +kernel
theorem dX4_readText_27 : decode cX4_readText 27 = .ok (.aload_n 0, 1) := by decide +kernel
theorem dX4_readText_28 : decode cX4_readText 28 = .ok (.getfield 48, 3) := by decide +kernel
theorem dX4_readText_31 : decode cX4_readText 31 = .ok (.ifCond .eq 8, 3) := by decide +kernel
theorem dX4_readText_34 : decode cX4_readText 34 = .ok (.aload_n 0, 1) := by decide +kernel
theorem dX4_readText_35 : decode cX4_readText 35 = .ok (.getfield 45, 3) := by decide +kernel
theorem dX4_readText_38 : decode cX4_readText 38 = .ok (.ireturn, 1) := by decide +kernel
theorem dX4_readText_39 : decode cX4_readText 39 = .ok (.aload_n 0, 1) := by decide +kernel
theorem dX4_readText_40 : decode cX4_readText 40 = .ok (.getfield 45, 3) := by decide +kernel
theorem dX4_readText_43 : decode cX4_readText 43 = .ok (.aload_n 0, 1) := by decide +kernel
theorem dX4_readText_44 : decode cX4_readText 44 = .ok (.getfield 25, 3) := by decide +kernel
theorem dX4_readText_47 : decode cX4_readText 47 = .ok (.if_icmp .lt 5, 3) := by decide +kernel
theorem dX4_readText_50 : decode cX4_readText 50 = .ok (.iconst (-1), 1) := by decide +kernel
theorem dX4_readText_51 : decode cX4_readText 51 = .ok (.ireturn, 1) := by decide +kernel
theorem dX4_readText_52 : decode cX4_readText 52 = .ok (.aload_n 0, 1) := by decide +kernel
theorem dX4_readText_53 : decode cX4_readText 53 = .ok (.getfield 9, 3) := by decide +kernel
theorem dX4_readText_56 : decode cX4_readText 56 = .ok (.aload_n 0, 1) := by decide +kernel
theorem dX4_readText_57 : decode cX4_readText 57 = .ok (.getfield 45, 3) := by decide +kernel
theorem dX4_readText_60 : decode cX4_readText 60 = .ok (.iaload, 1) := by decide +kernel
theorem dX4_readText_61 : decode cX4_readText 61 = .ok (.bipush 59, 2) := by decide +kernel
theorem dX4_readText_63 : decode cX4_readText 63 = .ok (.if_icmp .eq 8, 3) := by decide +kernel
theorem dX4_readText_66 : decode cX4_readText 66 = .ok (.aload_n 0, 1) := by decide +kernel
theorem dX4_readText_67 : decode cX4_readText 67 = .ok (.getfield 45, 3) := by decide +kernel
theorem dX4_readText_70 : decode cX4_readText 70 = .ok (.ireturn, 1) := by decide +kernel
theorem dX4_readText_71 : decode cX4_readText 71 = .ok (.aload_n 0, 1) := by decide +kernel
theorem dX4_readText_72 : decode cX4_readText 72 = .ok (.dup, 1) := by decide +kernel
theorem dX4_readText_73 : decode cX4_readText 73 = .ok (.getfield 45, 3) := by decide +kernel
theorem dX4_readText_76 : decode cX4_readText 76 = .ok (.iconst 1, 1) := by decide +kernel
theorem dX4_readText_77 : decode cX4_readText 77 = .ok (.iadd, 1) := by decide +kernel
theorem dX4_readText_78 : decode cX4_readText 78 = .ok (.putfield 45, 3) := by decide +kernel
theorem dX4_readText_81 : decode cX4_readText 81 = .ok (.iinc 1 1, 3) := by decide +kernel
theorem dX4_readText_84 : decode cX4_readText 84 = .ok (.goto (-67), 3) := by decide +kernel
theorem dX4_readText_87 : decode cX4_readText 87 = .ok (.aload_n 0, 1) := by decide +kernel
theorem dX4_readText_88 : decode cX4_readText 88 = .ok (.getfield 45, 3) := by decide +kernel
theorem dX4_readText_91 : decode cX4_readText 91 = .ok (.ireturn, 1) := by decide +kernel
set_option maxRecDepth 20000 in
theorem dX4_readLine_0 : decode cX4_readLine 0 = .ok (.aload_n 0, 1) := by decide +kernel
theorem dX4_readLine_1 : decode cX4_readLine 1 = .ok (.iconst 0, 1) := by decide +kernel
theorem dX4_readLine_2 : decode cX4_readLine 2 = .ok (.iconst 0, 1) := by decide +kernel
theorem dX4_readLine_3 : decode cX4_readLine 3 = .ok (.invokevirtual 55, 3) := by decide +kernel
theorem dX4_readLine_6 : decode cX4_readLine 6 = .ok (.aload_n 0, 1) := by decide +kernel
theorem dX4_readLine_7 : decode cX4_readLine 7 = .ok (.getfield 48, 3) := by decide +kernel
theorem dX4_readLine_10 : decode cX4_readLine 10 = .ok (.ifCond .ne 12, 3) := by decide +kernel
theorem dX4_readLine_13 : decode cX4_readLine 13 = .ok (.aload_n 0, 1) := by decide +kernel
theorem dX4_readLine_14 : decode cX4_readLine 14 = .ok (.invokevirtual 59, 3) := by decide +kernel
theorem dX4_readLine_17 : decode cX4_readLine 17 = .ok (.bipush 63, 2) := by decide +kernel
theorem dX4_readLine_19 : decode cX4_readLine 19 = .ok (.if_icmp .eq 10, 3) := by decide +kernel
theorem dX4_readLine_22 : decode cX4_readLine 22 = .ok (.aload_n 0, 1) := by decide +kernel
theorem dX4_readLine_23 : decode cX4_readLine 23 = .ok (.bipush 59, 2) := by decide +kernel
theorem dX4_readLine_25 : decode cX4_readLine 25 = .ok (.invokevirtual 62, 3) := by decide +kernel
theorem dX4_readLine_28 : decode cX4_readLine 28 = .ok (.return_, 1) := by decide +kernel
theorem dX4_readLine_29 : decode cX4_readLine 29 = .ok (.aload_n 0, 1) := by decide +kernel
theorem dX4_readLine_30 : decode cX4_readLine 30 = .ok (.dup, 1) := by decide +kernel
theorem dX4_readLine_31 : decode cX4_readLine 31 = .ok (.getfield 45, 3) := by decide +kernel
theorem dX4_readLine_34 : decode cX4_readLine 34 = .ok (.iconst 1, 1) := by decide +kernel
theorem dX4_readLine_35 : decode cX4_readLine 35 = .ok (.iadd, 1) := by decide +kernel
theorem dX4_readLine_36 : decode cX4_readLine 36 = .ok (.putfield 45, 3) := by decide +kernel
theorem dX4_readLine_39 : decode cX4_readLine 39 = .ok (.aload_n 0, 1) := by decide +kernel
theorem dX4_readLine_40 : decode cX4_readLine 40 = .ok (.bipush 63, 2) := by decide +kernel
theorem dX4_readLine_42 : decode cX4_readLine 42 = .ok (.invokevirtual 62, 3) := by decide +kernel
theorem dX4_readLine_45 : decode cX4_readLine 45 = .ok (.aload_n 0, 1) := by decide +kernel
theorem dX4_readLine_46 : decode cX4_readLine 46 = .ok (.getfield 39, 3) := by decide +kernel
theorem dX4_readLine_49 : decode cX4_readLine 49 = .ok (.istore_n 1, 1) := by decide +kernel
theorem dX4_readLine_50 : decode cX4_readLine 50 = .ok (.aload_n 0, 1) := by decide +kernel
theorem dX4_readLine_51 : decode cX4_readLine 51 = .ok (.iconst 0, 1) := by decide +kernel
theorem dX4_readLine_52 : decode cX4_readLine 52 = .ok (.invokevirtual 62, 3) := by decide +kernel
theorem dX4_readLine_55 : decode cX4_readLine 55 = .ok (.aload_n 0, 1) := by decide +kernel
theorem dX4_readLine_56 : decode cX4_readLine 56 = .ok (.iconst 0, 1) := by decide +kernel
theorem dX4_readLine_57 : decode cX4_readLine 57 = .ok (.iconst 0, 1) := by decide +kernel
theorem dX4_readLine_58 : decode cX4_readLine 58 = .ok (.invokevirtual 55, 3) := by decide +kernel
theorem dX4_readLine_61 : decode cX4_readLine 61 = .ok (.aload_n 0, 1) := by decide +kernel
theorem dX4_readLine_62 : decode cX4_readLine 62 = .ok (.bipush 59, 2) := by decide +kernel
theorem dX4_readLine_64 : decode cX4_readLine 64 = .ok (.invokevirtual 62, 3) := by decide +kernel
theorem dX4_readLine_67 : decode cX4_readLine 67 = .ok (.iload_n 1, 1) := by decide +kernel
theorem dX4_readLine_68 : decode cX4_readLine 68 = .ok (.sipush 256, 3) := by decide +kernel
theorem dX4_readLine_71 : decode cX4_readLine 71 = .ok (.if_icmp .ge 13, 3) := by decide +kernel
theorem dX4_readLine_74 : decode cX4_readLine 74 = .ok (.aload_n 0, 1) := by decide +kernel
theorem dX4_readLine_75 : decode cX4_readLine 75 = .ok (.getfield 13, 3) := by decide +kernel
theorem dX4_readLine_78 : decode cX4_readLine 78 = .ok (.iload_n 1, 1) := by decide +kernel
theorem dX4_readLine_79 : decode cX4_readLine 79 = .ok (.aload_n 0, 1) := by decide +kernel
theorem dX4_readLine_80 : decode cX4_readLine 80 = .ok (.getfield 39, 3) := by decide +kernel
theorem dX4_readLine_83 : decode cX4_readLine 83 = .ok (.iastore, 1) := by decide +kernel
theorem dX4_readLine_84 : decode cX4_readLine 84 = .ok (.return_, 1) := by decide +kernel
theorem dX4_peek_0 : decode cX4_peek 0 = .ok (.aload_n 0, 1) := by decide +kernel
theorem dX4_peek_1 : decode cX4_peek 1 = .ok (.getfield 45, 3) := by decide +kernel
theorem dX4_peek_4 : decode cX4_peek 4 = .ok (.aload_n 0, 1) := by decide +kernel
theorem dX4_peek_5 : decode cX4_peek 5 = .ok (.getfield 25, 3) := by decide +kernel
theorem dX4_peek_8 : decode cX4_peek 8 = .ok (.if_icmp .ge 15, 3) := by decide +kernel
theorem dX4_peek_11 : decode cX4_peek 11 = .ok (.aload_n 0, 1) := by decide +kernel
theorem dX4_peek_12 : decode cX4_peek 12 = .ok (.getfield 9, 3) := by decide +kernel
theorem dX4_peek_15 : decode cX4_peek 15 = .ok (.aload_n 0, 1) := by decide +kernel
theorem dX4_peek_16 : decode cX4_peek 16 = .ok (.getfield 45, 3) := by decide +kernel
theorem dX4_peek_19 : decode cX4_peek 19 = .ok (.iaload, 1) := by decide +kernel
theorem dX4_peek_20 : decode cX4_peek 20 = .ok (.goto 4, 3) := by decide +kernel
theorem dX4_peek_23 : decode cX4_peek 23 = .ok (.iconst (-1), 1) := by decide +kernel
theorem dX4_peek_24 : decode cX4_peek 24 = .ok (.ireturn, 1) := by decide +kernel
theorem dX4_emit_0 : decode cX4_emit 0 = .ok (.aload_n 0, 1) := by decide +kernel
theorem dX4_emit_1 : decode cX4_emit 1 = .ok (.getfield 39, 3) := by decide +kernel
theorem dX4_emit_4 : decode cX4_emit 4 = .ok (.sipush 256, 3) := by decide +kernel
theorem dX4_emit_7 : decode cX4_emit 7 = .ok (.if_icmp .ge 20, 3) := by decide +kernel
theorem dX4_emit_10 : decode cX4_emit 10 = .ok (.aload_n 0, 1) := by decide +kernel
theorem dX4_emit_11 : decode cX4_emit 11 = .ok (.getfield 13, 3) := by decide +kernel
theorem dX4_emit_14 : decode cX4_emit 14 = .ok (.aload_n 0, 1) := by decide +kernel
theorem dX4_emit_15 : decode cX4_emit 15 = .ok (.dup, 1) := by decide +kernel
theorem dX4_emit_16 : decode cX4_emit 16 = .ok (.getfield 39, 3) := by decide +kernel
theorem dX4_emit_19 : decode cX4_emit 19 = .ok (.dup_x1, 1) := by decide +kernel
theorem dX4_emit_20 : decode cX4_emit 20 = .ok (.iconst 1, 1) := by decide +kernel
theorem dX4_emit_21 : decode cX4_emit 21 = .ok (.iadd, 1) := by decide +kernel
theorem dX4_emit_22 : decode cX4_emit 22 = .ok (.putfield 39, 3) := by decide +kernel
theorem dX4_emit_25 : decode cX4_emit 25 = .ok (.iload_n 1, 1) := by decide +kernel
theorem dX4_emit_26 : decode cX4_emit 26 = .ok (.iastore, 1) := by decide +kernel
theorem dX4_emit_27 : decode cX4_emit 27 = .ok (.return_, 1) := by decide +kernel
set_option maxRecDepth 20000 in
theorem dX4_readTerm_0 : decode cX4_readTerm 0 = .ok (.aload_n 0, 1) := by decide +kernel
theorem dX4_readTerm_1 : decode cX4_readTerm 1 = .ok (.iload_n 2, 1) := by decide +kernel
theorem dX4_readTerm_2 : decode cX4_readTerm 2 = .ok (.invokevirtual 66, 3) := by decide +kernel
theorem dX4_readTerm_5 : decode cX4_readTerm 5 = .ok (.iconst 4, 1) := by decide +kernel
theorem dX4_readTerm_6 : decode cX4_readTerm 6 = .ok (.istore_n 3, 1) := by decide +kernel
theorem dX4_readTerm_7 : decode cX4_readTerm 7 = .ok (.iconst 0, 1) := by decide +kernel
theorem dX4_readTerm_8 : decode cX4_readTerm 8 = .ok (.istore 4, 2) := by decide +kernel
theorem dX4_readTerm_10 : decode cX4_readTerm 10 = .ok (.iload 4, 2) := by decide +kernel
theorem dX4_readTerm_12 : decode cX4_readTerm 12 = .ok (.bipush 120, 2) := by decide +kernel
theorem dX4_readTerm_14 : decode cX4_readTerm 14 = .ok (.if_icmp .ge 80, 3) := by decide +kernel
theorem dX4_readTerm_17 : decode cX4_readTerm 17 = .ok (.aload_n 0, 1) := by decide +kernel
theorem dX4_readTerm_18 : decode cX4_readTerm 18 = .ok (.getfield 48, 3) := by decide +kernel
theorem dX4_readTerm_21 : decode cX4_readTerm 21 = .ok (.ifCond .ne 73, 3) := by decide +kernel
theorem dX4_readTerm_24 : decode cX4_readTerm 24 = .ok (.aload_n 0, 1) := by decide +kernel
theorem dX4_readTerm_25 : decode cX4_readTerm 25 = .ok (.invokevirtual 59, 3) := by decide +kernel
theorem dX4_readTerm_28 : decode cX4_readTerm 28 = .ok (.istore 5, 2) := by decide +kernel
theorem dX4_readTerm_30 : decode cX4_readTerm 30 = .ok (.iload 5, 2) := by decide +kernel
theorem dX4_readTerm_32 : decode cX4_readTerm 32 = .ok (.invokestatic 69, 3) := by decide +kernel
theorem dX4_readTerm_35 : decode cX4_readTerm 35 = .ok (.istore 6, 2) := by decide +kernel
theorem dX4_readTerm_37 : decode cX4_readTerm 37 = .ok (.iload 6, 2) := by decide +kernel
theorem dX4_readTerm_39 : decode cX4_readTerm 39 = .ok (.iload_n 1, 1) := by decide +kernel
theorem dX4_readTerm_40 : decode cX4_readTerm 40 = .ok (.if_icmp .lt 9, 3) := by decide +kernel
theorem dX4_readTerm_43 : decode cX4_readTerm 43 = .ok (.iload 6, 2) := by decide +kernel
theorem dX4_readTerm_45 : decode cX4_readTerm 45 = .ok (.iload_n 3, 1) := by decide +kernel
theorem dX4_readTerm_46 : decode cX4_readTerm 46 = .ok (.if_icmp .le 4, 3) := by decide +kernel
theorem dX4_readTerm_49 : decode cX4_readTerm 49 = .ok (.return_, 1) := by decide +kernel
theorem dX4_readTerm_50 : decode cX4_readTerm 50 = .ok (.aload_n 0, 1) := by decide +kernel
theorem dX4_readTerm_51 : decode cX4_readTerm 51 = .ok (.dup, 1) := by decide +kernel
theorem dX4_readTerm_52 : decode cX4_readTerm 52 = .ok (.getfield 45, 3) := by decide +kernel
theorem dX4_readTerm_55 : decode cX4_readTerm 55 = .ok (.iconst 1, 1) := by decide +kernel
theorem dX4_readTerm_56 : decode cX4_readTerm 56 = .ok (.iadd, 1) := by decide +kernel
theorem dX4_readTerm_57 : decode cX4_readTerm 57 = .ok (.putfield 45, 3) := by decide +kernel
theorem dX4_readTerm_60 : decode cX4_readTerm 60 = .ok (.aload_n 0, 1) := by decide +kernel
theorem dX4_readTerm_61 : decode cX4_readTerm 61 = .ok (.iload 6, 2) := by decide +kernel
theorem dX4_readTerm_63 : decode cX4_readTerm 63 = .ok (.iconst 1, 1) := by decide +kernel
theorem dX4_readTerm_64 : decode cX4_readTerm 64 = .ok (.iadd, 1) := by decide +kernel
theorem dX4_readTerm_65 : decode cX4_readTerm 65 = .ok (.iload_n 2, 1) := by decide +kernel
theorem dX4_readTerm_66 : decode cX4_readTerm 66 = .ok (.invokevirtual 55, 3) := by decide +kernel
theorem dX4_readTerm_69 : decode cX4_readTerm 69 = .ok (.aload_n 0, 1) := by decide +kernel
theorem dX4_readTerm_70 : decode cX4_readTerm 70 = .ok (.iload 5, 2) := by decide +kernel
theorem dX4_readTerm_72 : decode cX4_readTerm 72 = .ok (.invokevirtual 62, 3) := by decide +kernel
theorem dX4_readTerm_75 : decode cX4_readTerm 75 = .ok (.iload 6, 2) := by decide +kernel
theorem dX4_readTerm_77 : decode cX4_readTerm 77 = .ok (.iconst 2, 1) := by decide +kernel
theorem dX4_readTerm_78 : decode cX4_readTerm 78 = .ok (.if_icmp .ne 7, 3) := by decide +kernel
theorem dX4_readTerm_81 : decode cX4_readTerm 81 = .ok (.iconst 1, 1) := by decide +kernel
theorem dX4_readTerm_82 : decode cX4_readTerm 82 = .ok (.goto 5, 3) := by decide +kernel
theorem dX4_readTerm_85 : decode cX4_readTerm 85 = .ok (.iload 6, 2) := by decide +kernel
theorem dX4_readTerm_87 : decode cX4_readTerm 87 = .ok (.istore_n 3, 1) := by decide +kernel
theorem dX4_readTerm_88 : decode cX4_readTerm 88 = .ok (.iinc 4 1, 3) := by decide +kernel
theorem dX4_readTerm_91 : decode cX4_readTerm 91 = .ok (.goto (-81), 3) := by decide +kernel
theorem dX4_readTerm_94 : decode cX4_readTerm 94 = .ok (.return_, 1) := by decide +kernel
theorem dX4_bindingOf_0 : decode cX4_bindingOf 0 = .ok (.iload_n 0, 1) := by decide +kernel
theorem dX4_bindingOf_1 : decode cX4_bindingOf 1 = .ok (.lookupswitch 101 #[(37, 99), (38, 93), (42, 99), (43, 97), (45, 97), (47, 99), (60, 95), (61, 95), (62, 95), (124, 91)], 91) := by decide +kernel
theorem dX4_bindingOf_92 : decode cX4_bindingOf 92 = .ok (.iconst 0, 1) := by decide +kernel
theorem dX4_bindingOf_93 : decode cX4_bindingOf 93 = .ok (.ireturn, 1) := by decide +kernel
theorem dX4_bindingOf_94 : decode cX4_bindingOf 94 = .ok (.iconst 1, 1) := by decide +kernel
theorem dX4_bindingOf_95 : decode cX4_bindingOf 95 = .ok (.ireturn, 1) := by decide +kernel
theorem dX4_bindingOf_96 : decode cX4_bindingOf 96 = .ok (.iconst 2, 1) := by decide +kernel
theorem dX4_bindingOf_97 : decode cX4_bindingOf 97 = .ok (.ireturn, 1) := by decide +kernel
theorem dX4_bindingOf_98 : decode cX4_bindingOf 98 = .ok (.iconst 3, 1) := by decide +kernel
theorem dX4_bindingOf_99 : decode cX4_bindingOf 99 = .ok (.ireturn, 1) := by decide +kernel
theorem dX4_bindingOf_100 : decode cX4_bindingOf 100 = .ok (.iconst 4, 1) := by decide +kernel
theorem dX4_bindingOf_101 : decode cX4_bindingOf 101 = .ok (.ireturn, 1) := by decide +kernel
theorem dX4_bindingOf_102 : decode cX4_bindingOf 102 = .ok (.iconst (-1), 1) := by decide +kernel
theorem dX4_bindingOf_103 : decode cX4_bindingOf 103 = .ok (.ireturn, 1) := by decide +kernel
set_option maxRecDepth 20000 in
theorem dX4_readOperand_0 : decode cX4_readOperand 0 = .ok (.aload_n 0, 1) := by decide +kernel
theorem dX4_readOperand_1 : decode cX4_readOperand 1 = .ok (.invokevirtual 59, 3) := by decide +kernel
theorem dX4_readOperand_4 : decode cX4_readOperand 4 = .ok (.istore_n 2, 1) := by decide +kernel
theorem dX4_readOperand_5 : decode cX4_readOperand 5 = .ok (.iload_n 2, 1) := by decide +kernel
theorem dX4_readOperand_6 : decode cX4_readOperand 6 = .ok (.invokestatic 73, 3) := by decide +kernel
theorem dX4_readOperand_9 : decode cX4_readOperand 9 = .ok (.ifCond .eq 10, 3) := by decide +kernel
theorem dX4_readOperand_12 : decode cX4_readOperand 12 = .ok (.aload_n 0, 1) := by decide +kernel
theorem dX4_readOperand_13 : decode cX4_readOperand 13 = .ok (.invokevirtual 77, 3) := by decide +kernel
theorem dX4_readOperand_16 : decode cX4_readOperand 16 = .ok (.goto 97, 3) := by decide +kernel
theorem dX4_readOperand_19 : decode cX4_readOperand 19 = .ok (.iload_n 2, 1) := by decide +kernel
theorem dX4_readOperand_20 : decode cX4_readOperand 20 = .ok (.ifCond .lt 43, 3) := by decide +kernel
theorem dX4_readOperand_23 : decode cX4_readOperand 23 = .ok (.ldc 80, 2) := by decide +kernel
theorem dX4_readOperand_25 : decode cX4_readOperand 25 = .ok (.iload_n 2, 1) := by decide +kernel
theorem dX4_readOperand_26 : decode cX4_readOperand 26 = .ok (.i2c, 1) := by decide +kernel
theorem dX4_readOperand_27 : decode cX4_readOperand 27 = .ok (.invokevirtual 82, 3) := by decide +kernel
theorem dX4_readOperand_30 : decode cX4_readOperand 30 = .ok (.ifCond .lt 33, 3) := by decide +kernel
theorem dX4_readOperand_33 : decode cX4_readOperand 33 = .ok (.aload_n 0, 1) := by decide +kernel
