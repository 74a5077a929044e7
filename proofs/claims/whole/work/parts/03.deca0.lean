theorem dJ6_bitCount_0f7a4_0 : decode cJ6_bitCount_0f7a4 0 = .ok (.iload_n 0, 1) := by decide +kernel
theorem dJ6_bitCount_0f7a4_1 : decode cJ6_bitCount_0f7a4 1 = .ok (.iload_n 0, 1) := by decide +kernel
theorem dJ6_bitCount_0f7a4_2 : decode cJ6_bitCount_0f7a4 2 = .ok (.iconst 1, 1) := by decide +kernel
theorem dJ6_bitCount_0f7a4_3 : decode cJ6_bitCount_0f7a4 3 = .ok (.iushr, 1) := by decide +kernel
theorem dJ6_bitCount_0f7a4_4 : decode cJ6_bitCount_0f7a4 4 = .ok (.ldc_w 265, 3) := by decide +kernel
theorem dJ6_bitCount_0f7a4_7 : decode cJ6_bitCount_0f7a4 7 = .ok (.iand, 1) := by decide +kernel
theorem dJ6_bitCount_0f7a4_8 : decode cJ6_bitCount_0f7a4 8 = .ok (.isub, 1) := by decide +kernel
theorem dJ6_bitCount_0f7a4_9 : decode cJ6_bitCount_0f7a4 9 = .ok (.istore_n 0, 1) := by decide +kernel
theorem dJ6_bitCount_0f7a4_10 : decode cJ6_bitCount_0f7a4 10 = .ok (.iload_n 0, 1) := by decide +kernel
theorem dJ6_bitCount_0f7a4_11 : decode cJ6_bitCount_0f7a4 11 = .ok (.ldc_w 266, 3) := by decide +kernel
theorem dJ6_bitCount_0f7a4_14 : decode cJ6_bitCount_0f7a4 14 = .ok (.iand, 1) := by decide +kernel
theorem dJ6_bitCount_0f7a4_15 : decode cJ6_bitCount_0f7a4 15 = .ok (.iload_n 0, 1) := by decide +kernel
theorem dJ6_bitCount_0f7a4_16 : decode cJ6_bitCount_0f7a4 16 = .ok (.iconst 2, 1) := by decide +kernel
theorem dJ6_bitCount_0f7a4_17 : decode cJ6_bitCount_0f7a4 17 = .ok (.iushr, 1) := by decide +kernel
theorem dJ6_bitCount_0f7a4_18 : decode cJ6_bitCount_0f7a4 18 = .ok (.ldc_w 266, 3) := by decide +kernel
theorem dJ6_bitCount_0f7a4_21 : decode cJ6_bitCount_0f7a4 21 = .ok (.iand, 1) := by decide +kernel
theorem dJ6_bitCount_0f7a4_22 : decode cJ6_bitCount_0f7a4 22 = .ok (.iadd, 1) := by decide +kernel
theorem dJ6_bitCount_0f7a4_23 : decode cJ6_bitCount_0f7a4 23 = .ok (.istore_n 0, 1) := by decide +kernel
theorem dJ6_bitCount_0f7a4_24 : decode cJ6_bitCount_0f7a4 24 = .ok (.iload_n 0, 1) := by decide +kernel
theorem dJ6_bitCount_0f7a4_25 : decode cJ6_bitCount_0f7a4 25 = .ok (.iload_n 0, 1) := by decide +kernel
theorem dJ6_bitCount_0f7a4_26 : decode cJ6_bitCount_0f7a4 26 = .ok (.iconst 4, 1) := by decide +kernel
theorem dJ6_bitCount_0f7a4_27 : decode cJ6_bitCount_0f7a4 27 = .ok (.iushr, 1) := by decide +kernel
theorem dJ6_bitCount_0f7a4_28 : decode cJ6_bitCount_0f7a4 28 = .ok (.iadd, 1) := by decide +kernel
theorem dJ6_bitCount_0f7a4_29 : decode cJ6_bitCount_0f7a4 29 = .ok (.ldc_w 267, 3) := by decide +kernel
theorem dJ6_bitCount_0f7a4_32 : decode cJ6_bitCount_0f7a4 32 = .ok (.iand, 1) := by decide +kernel
theorem dJ6_bitCount_0f7a4_33 : decode cJ6_bitCount_0f7a4 33 = .ok (.istore_n 0, 1) := by decide +kernel
theorem dJ6_bitCount_0f7a4_34 : decode cJ6_bitCount_0f7a4 34 = .ok (.iload_n 0, 1) := by decide +kernel
theorem dJ6_bitCount_0f7a4_35 : decode cJ6_bitCount_0f7a4 35 = .ok (.iload_n 0, 1) := by decide +kernel
theorem dJ6_bitCount_0f7a4_36 : decode cJ6_bitCount_0f7a4 36 = .ok (.bipush 8, 2) := by decide +kernel
theorem dJ6_bitCount_0f7a4_38 : decode cJ6_bitCount_0f7a4 38 = .ok (.iushr, 1) := by decide +kernel
theorem dJ6_bitCount_0f7a4_39 : decode cJ6_bitCount_0f7a4 39 = .ok (.iadd, 1) := by decide +kernel
theorem dJ6_bitCount_0f7a4_40 : decode cJ6_bitCount_0f7a4 40 = .ok (.istore_n 0, 1) := by decide +kernel
theorem dJ6_bitCount_0f7a4_41 : decode cJ6_bitCount_0f7a4 41 = .ok (.iload_n 0, 1) := by decide +kernel
theorem dJ6_bitCount_0f7a4_42 : decode cJ6_bitCount_0f7a4 42 = .ok (.iload_n 0, 1) := by decide +kernel
theorem dJ6_bitCount_0f7a4_43 : decode cJ6_bitCount_0f7a4 43 = .ok (.bipush 16, 2) := by decide +kernel
theorem dJ6_bitCount_0f7a4_45 : decode cJ6_bitCount_0f7a4 45 = .ok (.iushr, 1) := by decide +kernel
theorem dJ6_bitCount_0f7a4_46 : decode cJ6_bitCount_0f7a4 46 = .ok (.iadd, 1) := by decide +kernel
theorem dJ6_bitCount_0f7a4_47 : decode cJ6_bitCount_0f7a4 47 = .ok (.istore_n 0, 1) := by decide +kernel
theorem dJ6_bitCount_0f7a4_48 : decode cJ6_bitCount_0f7a4 48 = .ok (.iload_n 0, 1) := by decide +kernel
theorem dJ6_bitCount_0f7a4_49 : decode cJ6_bitCount_0f7a4 49 = .ok (.bipush 63, 2) := by decide +kernel
theorem dJ6_bitCount_0f7a4_51 : decode cJ6_bitCount_0f7a4 51 = .ok (.iand, 1) := by decide +kernel
theorem dJ6_bitCount_0f7a4_52 : decode cJ6_bitCount_0f7a4 52 = .ok (.ireturn, 1) := by decide +kernel
theorem dJ9_max_7cf53_0 : decode cJ9_max_7cf53 0 = .ok (.iload_n 0, 1) := by decide +kernel
theorem dJ9_max_7cf53_1 : decode cJ9_max_7cf53 1 = .ok (.iload_n 1, 1) := by decide +kernel
theorem dJ9_max_7cf53_2 : decode cJ9_max_7cf53 2 = .ok (.if_icmp .lt 7, 3) := by decide +kernel
theorem dJ9_max_7cf53_5 : decode cJ9_max_7cf53 5 = .ok (.iload_n 0, 1) := by decide +kernel
theorem dJ9_max_7cf53_6 : decode cJ9_max_7cf53 6 = .ok (.goto 4, 3) := by decide +kernel
theorem dJ9_max_7cf53_9 : decode cJ9_max_7cf53 9 = .ok (.iload_n 1, 1) := by decide +kernel
theorem dJ9_max_7cf53_10 : decode cJ9_max_7cf53 10 = .ok (.ireturn, 1) := by decide +kernel
theorem dJ9_min_7cf53_0 : decode cJ9_min_7cf53 0 = .ok (.iload_n 0, 1) := by decide +kernel
theorem dJ9_min_7cf53_1 : decode cJ9_min_7cf53 1 = .ok (.iload_n 1, 1) := by decide +kernel
theorem dJ9_min_7cf53_2 : decode cJ9_min_7cf53 2 = .ok (.if_icmp .gt 7, 3) := by decide +kernel
theorem dJ9_min_7cf53_5 : decode cJ9_min_7cf53 5 = .ok (.iload_n 0, 1) := by decide +kernel
theorem dJ9_min_7cf53_6 : decode cJ9_min_7cf53 6 = .ok (.goto 4, 3) := by decide +kernel
theorem dJ9_min_7cf53_9 : decode cJ9_min_7cf53 9 = .ok (.iload_n 1, 1) := by decide +kernel
theorem dJ9_min_7cf53_10 : decode cJ9_min_7cf53 10 = .ok (.ireturn, 1) := by decide +kernel
theorem dJ0_length_8abf5_0 : decode cJ0_length_8abf5 0 = .ok (.aload_n 0, 1) := by decide +kernel
theorem dJ0_length_8abf5_1 : decode cJ0_length_8abf5 1 = .ok (.getfield 9, 3) := by decide +kernel
theorem dJ0_length_8abf5_4 : decode cJ0_length_8abf5 4 = .ok (.arraylength, 1) := by decide +kernel
theorem dJ0_length_8abf5_5 : decode cJ0_length_8abf5 5 = .ok (.aload_n 0, 1) := by decide +kernel
theorem dJ0_length_8abf5_6 : decode cJ0_length_8abf5 6 = .ok (.invokevirtual 335, 3) := by decide +kernel
theorem dJ0_length_8abf5_9 : decode cJ0_length_8abf5 9 = .ok (.ishr, 1) := by decide +kernel
theorem dJ0_length_8abf5_10 : decode cJ0_length_8abf5 10 = .ok (.ireturn, 1) := by decide +kernel
theorem dJ0_charAt_5068e_0 : decode cJ0_charAt_5068e 0 = .ok (.aload_n 0, 1) := by decide +kernel
theorem dJ0_charAt_5068e_1 : decode cJ0_charAt_5068e 1 = .ok (.invokevirtual 492, 3) := by decide +kernel
theorem dJ0_charAt_5068e_4 : decode cJ0_charAt_5068e 4 = .ok (.ifCond .eq 12, 3) := by decide +kernel
theorem dJ0_charAt_5068e_7 : decode cJ0_charAt_5068e 7 = .ok (.aload_n 0, 1) := by decide +kernel
theorem dJ0_charAt_5068e_8 : decode cJ0_charAt_5068e 8 = .ok (.getfield 9, 3) := by decide +kernel
theorem dJ0_charAt_5068e_11 : decode cJ0_charAt_5068e 11 = .ok (.iload_n 1, 1) := by decide +kernel
theorem dJ0_charAt_5068e_12 : decode cJ0_charAt_5068e 12 = .ok (.invokestatic 495, 3) := by decide +kernel
theorem dJ0_charAt_5068e_15 : decode cJ0_charAt_5068e 15 = .ok (.ireturn, 1) := by decide +kernel
theorem dJ0_charAt_5068e_16 : decode cJ0_charAt_5068e 16 = .ok (.aload_n 0, 1) := by decide +kernel
theorem dJ0_charAt_5068e_17 : decode cJ0_charAt_5068e 17 = .ok (.getfield 9, 3) := by decide +kernel
theorem dJ0_charAt_5068e_20 : decode cJ0_charAt_5068e 20 = .ok (.iload_n 1, 1) := by decide +kernel
theorem dJ0_charAt_5068e_21 : decode cJ0_charAt_5068e 21 = .ok (.invokestatic 498, 3) := by decide +kernel
theorem dJ0_charAt_5068e_24 : decode cJ0_charAt_5068e 24 = .ok (.ireturn, 1) := by decide +kernel
theorem dJ0_coder_7d493_0 : decode cJ0_coder_7d493 0 = .ok (.getstatic 38, 3) := by decide +kernel
theorem dJ0_coder_7d493_3 : decode cJ0_coder_7d493 3 = .ok (.ifCond .eq 10, 3) := by decide +kernel
theorem dJ0_coder_7d493_6 : decode cJ0_coder_7d493 6 = .ok (.aload_n 0, 1) := by decide +kernel
theorem dJ0_coder_7d493_7 : decode cJ0_coder_7d493 7 = .ok (.getfield 15, 3) := by decide +kernel
theorem dJ0_coder_7d493_10 : decode cJ0_coder_7d493 10 = .ok (.goto 4, 3) := by decide +kernel
theorem dJ0_coder_7d493_13 : decode cJ0_coder_7d493 13 = .ok (.iconst 1, 1) := by decide +kernel
theorem dJ0_coder_7d493_14 : decode cJ0_coder_7d493 14 = .ok (.ireturn, 1) := by decide +kernel
theorem dJ0_isLatin1_aae02_0 : decode cJ0_isLatin1_aae02 0 = .ok (.getstatic 38, 3) := by decide +kernel
theorem dJ0_isLatin1_aae02_3 : decode cJ0_isLatin1_aae02 3 = .ok (.ifCond .eq 14, 3) := by decide +kernel
theorem dJ0_isLatin1_aae02_6 : decode cJ0_isLatin1_aae02 6 = .ok (.aload_n 0, 1) := by decide +kernel
theorem dJ0_isLatin1_aae02_7 : decode cJ0_isLatin1_aae02 7 = .ok (.getfield 15, 3) := by decide +kernel
theorem dJ0_isLatin1_aae02_10 : decode cJ0_isLatin1_aae02 10 = .ok (.ifCond .ne 7, 3) := by decide +kernel
theorem dJ0_isLatin1_aae02_13 : decode cJ0_isLatin1_aae02 13 = .ok (.iconst 1, 1) := by decide +kernel
theorem dJ0_isLatin1_aae02_14 : decode cJ0_isLatin1_aae02 14 = .ok (.goto 4, 3) := by decide +kernel
theorem dJ0_isLatin1_aae02_17 : decode cJ0_isLatin1_aae02 17 = .ok (.iconst 0, 1) := by decide +kernel
theorem dJ0_isLatin1_aae02_18 : decode cJ0_isLatin1_aae02 18 = .ok (.ireturn, 1) := by decide +kernel
theorem dJ0_checkIndex_df160_0 : decode cJ0_checkIndex_df160 0 = .ok (.iload_n 0, 1) := by decide +kernel
theorem dJ0_checkIndex_df160_1 : decode cJ0_checkIndex_df160 1 = .ok (.iload_n 1, 1) := by decide +kernel
theorem dJ0_checkIndex_df160_2 : decode cJ0_checkIndex_df160 2 = .ok (.getstatic 1053, 3) := by decide +kernel
theorem dJ0_checkIndex_df160_5 : decode cJ0_checkIndex_df160 5 = .ok (.invokestatic 1059, 3) := by decide +kernel
theorem dJ0_checkIndex_df160_8 : decode cJ0_checkIndex_df160 8 = .ok (.pop, 1) := by decide +kernel
theorem dJ0_checkIndex_df160_9 : decode cJ0_checkIndex_df160 9 = .ok (.return_, 1) := by decide +kernel
theorem dJ1_charAt_3b067_0 : decode cJ1_charAt_3b067 0 = .ok (.iload_n 1, 1) := by decide +kernel
theorem dJ1_charAt_3b067_1 : decode cJ1_charAt_3b067 1 = .ok (.aload_n 0, 1) := by decide +kernel
theorem dJ1_charAt_3b067_2 : decode cJ1_charAt_3b067 2 = .ok (.arraylength, 1) := by decide +kernel
theorem dJ1_charAt_3b067_3 : decode cJ1_charAt_3b067 3 = .ok (.invokestatic 9, 3) := by decide +kernel
theorem dJ1_charAt_3b067_6 : decode cJ1_charAt_3b067 6 = .ok (.aload_n 0, 1) := by decide +kernel
theorem dJ1_charAt_3b067_7 : decode cJ1_charAt_3b067 7 = .ok (.iload_n 1, 1) := by decide +kernel
theorem dJ1_charAt_3b067_8 : decode cJ1_charAt_3b067 8 = .ok (.baload, 1) := by decide +kernel
theorem dJ1_charAt_3b067_9 : decode cJ1_charAt_3b067 9 = .ok (.sipush 255, 3) := by decide +kernel
theorem dJ1_charAt_3b067_12 : decode cJ1_charAt_3b067 12 = .ok (.iand, 1) := by decide +kernel
theorem dJ1_charAt_3b067_13 : decode cJ1_charAt_3b067 13 = .ok (.i2c, 1) := by decide +kernel
theorem dJ1_charAt_3b067_14 : decode cJ1_charAt_3b067 14 = .ok (.ireturn, 1) := by decide +kernel
theorem dJ2_getChar_3b067_0 : decode cJ2_getChar_3b067 0 = .ok (.getstatic 44, 3) := by decide +kernel
theorem dJ2_getChar_3b067_3 : decode cJ2_getChar_3b067 3 = .ok (.ifCond .ne 25, 3) := by decide +kernel
theorem dJ2_getChar_3b067_6 : decode cJ2_getChar_3b067 6 = .ok (.iload_n 1, 1) := by decide +kernel
theorem dJ2_getChar_3b067_7 : decode cJ2_getChar_3b067 7 = .ok (.ifCond .lt 11, 3) := by decide +kernel
theorem dJ2_getChar_3b067_10 : decode cJ2_getChar_3b067 10 = .ok (.iload_n 1, 1) := by decide +kernel
theorem dJ2_getChar_3b067_11 : decode cJ2_getChar_3b067 11 = .ok (.aload_n 0, 1) := by decide +kernel
theorem dJ2_getChar_3b067_12 : decode cJ2_getChar_3b067 12 = .ok (.invokestatic 48, 3) := by decide +kernel
theorem dJ2_getChar_3b067_15 : decode cJ2_getChar_3b067 15 = .ok (.if_icmp .lt 13, 3) := by decide +kernel
theorem dJ2_getChar_3b067_18 : decode cJ2_getChar_3b067 18 = .ok (.new 52, 3) := by decide +kernel
theorem dJ2_getChar_3b067_21 : decode cJ2_getChar_3b067 21 = .ok (.dup, 1) := by decide +kernel
theorem dJ2_getChar_3b067_22 : decode cJ2_getChar_3b067 22 = .ok (.ldc 54, 2) := by decide +kernel
theorem dJ2_getChar_3b067_24 : decode cJ2_getChar_3b067 24 = .ok (.invokespecial 56, 3) := by decide +kernel
theorem dJ2_getChar_3b067_27 : decode cJ2_getChar_3b067 27 = .ok (.athrow, 1) := by decide +kernel
theorem dJ2_getChar_3b067_28 : decode cJ2_getChar_3b067 28 = .ok (.iload_n 1, 1) := by decide +kernel
theorem dJ2_getChar_3b067_29 : decode cJ2_getChar_3b067 29 = .ok (.iconst 1, 1) := by decide +kernel
theorem dJ2_getChar_3b067_30 : decode cJ2_getChar_3b067 30 = .ok (.ishl, 1) := by decide +kernel
theorem dJ2_getChar_3b067_31 : decode cJ2_getChar_3b067 31 = .ok (.istore_n 1, 1) := by decide +kernel
theorem dJ2_getChar_3b067_32 : decode cJ2_getChar_3b067 32 = .ok (.aload_n 0, 1) := by decide +kernel
theorem dJ2_getChar_3b067_33 : decode cJ2_getChar_3b067 33 = .ok (.iload_n 1, 1) := by decide +kernel
theorem dJ2_getChar_3b067_34 : decode cJ2_getChar_3b067 34 = .ok (.iinc 1 1, 3) := by decide +kernel
theorem dJ2_getChar_3b067_37 : decode cJ2_getChar_3b067 37 = .ok (.baload, 1) := by decide +kernel
theorem dJ2_getChar_3b067_38 : decode cJ2_getChar_3b067 38 = .ok (.sipush 255, 3) := by decide +kernel
theorem dJ2_getChar_3b067_41 : decode cJ2_getChar_3b067 41 = .ok (.iand, 1) := by decide +kernel
theorem dJ2_getChar_3b067_42 : decode cJ2_getChar_3b067 42 = .ok (.getstatic 59, 3) := by decide +kernel
theorem dJ2_getChar_3b067_45 : decode cJ2_getChar_3b067 45 = .ok (.ishl, 1) := by decide +kernel
theorem dJ2_getChar_3b067_46 : decode cJ2_getChar_3b067 46 = .ok (.aload_n 0, 1) := by decide +kernel
theorem dJ2_getChar_3b067_47 : decode cJ2_getChar_3b067 47 = .ok (.iload_n 1, 1) := by decide +kernel
theorem dJ2_getChar_3b067_48 : decode cJ2_getChar_3b067 48 = .ok (.baload, 1) := by decide +kernel
theorem dJ2_getChar_3b067_49 : decode cJ2_getChar_3b067 49 = .ok (.sipush 255, 3) := by decide +kernel
theorem dJ2_getChar_3b067_52 : decode cJ2_getChar_3b067 52 = .ok (.iand, 1) := by decide +kernel
theorem dJ2_getChar_3b067_53 : decode cJ2_getChar_3b067 53 = .ok (.getstatic 63, 3) := by decide +kernel
theorem dJ2_getChar_3b067_56 : decode cJ2_getChar_3b067 56 = .ok (.ishl, 1) := by decide +kernel
theorem dJ2_getChar_3b067_57 : decode cJ2_getChar_3b067 57 = .ok (.ior, 1) := by decide +kernel
theorem dJ2_getChar_3b067_58 : decode cJ2_getChar_3b067 58 = .ok (.i2c, 1) := by decide +kernel
theorem dJ2_getChar_3b067_59 : decode cJ2_getChar_3b067 59 = .ok (.ireturn, 1) := by decide +kernel
theorem dJ2_length_9d52b_0 : decode cJ2_length_9d52b 0 = .ok (.aload_n 0, 1) := by decide +kernel
theorem dJ2_length_9d52b_1 : decode cJ2_length_9d52b 1 = .ok (.arraylength, 1) := by decide +kernel
theorem dJ2_length_9d52b_2 : decode cJ2_length_9d52b 2 = .ok (.iconst 1, 1) := by decide +kernel
theorem dJ2_length_9d52b_3 : decode cJ2_length_9d52b 3 = .ok (.ishr, 1) := by decide +kernel
theorem dJ2_length_9d52b_4 : decode cJ2_length_9d52b 4 = .ok (.ireturn, 1) := by decide +kernel
theorem dJ2_charAt_3b067_0 : decode cJ2_charAt_3b067 0 = .ok (.iload_n 1, 1) := by decide +kernel
theorem dJ2_charAt_3b067_1 : decode cJ2_charAt_3b067 1 = .ok (.aload_n 0, 1) := by decide +kernel
theorem dJ2_charAt_3b067_2 : decode cJ2_charAt_3b067 2 = .ok (.invokestatic 67, 3) := by decide +kernel
theorem dJ2_charAt_3b067_5 : decode cJ2_charAt_3b067 5 = .ok (.aload_n 0, 1) := by decide +kernel
theorem dJ2_charAt_3b067_6 : decode cJ2_charAt_3b067 6 = .ok (.iload_n 1, 1) := by decide +kernel
theorem dJ2_charAt_3b067_7 : decode cJ2_charAt_3b067 7 = .ok (.invokestatic 71, 3) := by decide +kernel
theorem dJ2_charAt_3b067_10 : decode cJ2_charAt_3b067 10 = .ok (.ireturn, 1) := by decide +kernel
theorem dJ2_checkIndex_2214a_0 : decode cJ2_checkIndex_2214a 0 = .ok (.iload_n 0, 1) := by decide +kernel
theorem dJ2_checkIndex_2214a_1 : decode cJ2_checkIndex_2214a 1 = .ok (.aload_n 1, 1) := by decide +kernel
theorem dJ2_checkIndex_2214a_2 : decode cJ2_checkIndex_2214a 2 = .ok (.invokestatic 48, 3) := by decide +kernel
theorem dJ2_checkIndex_2214a_5 : decode cJ2_checkIndex_2214a 5 = .ok (.invokestatic 414, 3) := by decide +kernel
theorem dJ2_checkIndex_2214a_8 : decode cJ2_checkIndex_2214a 8 = .ok (.return_, 1) := by decide +kernel
theorem dJ3_checkIndex_8e157_0 : decode cJ3_checkIndex_8e157 0 = .ok (.iload_n 0, 1) := by decide +kernel
theorem dJ3_checkIndex_8e157_1 : decode cJ3_checkIndex_8e157 1 = .ok (.ifCond .lt 8, 3) := by decide +kernel
theorem dJ3_checkIndex_8e157_4 : decode cJ3_checkIndex_8e157 4 = .ok (.iload_n 0, 1) := by decide +kernel
theorem dJ3_checkIndex_8e157_5 : decode cJ3_checkIndex_8e157 5 = .ok (.iload_n 1, 1) := by decide +kernel
theorem dJ3_checkIndex_8e157_6 : decode cJ3_checkIndex_8e157 6 = .ok (.if_icmp .lt 10, 3) := by decide +kernel
theorem dJ3_checkIndex_8e157_9 : decode cJ3_checkIndex_8e157 9 = .ok (.aload_n 2, 1) := by decide +kernel
theorem dJ3_checkIndex_8e157_10 : decode cJ3_checkIndex_8e157 10 = .ok (.iload_n 0, 1) := by decide +kernel
theorem dJ3_checkIndex_8e157_11 : decode cJ3_checkIndex_8e157 11 = .ok (.iload_n 1, 1) := by decide +kernel
theorem dJ3_checkIndex_8e157_12 : decode cJ3_checkIndex_8e157 12 = .ok (.invokestatic 95, 3) := by decide +kernel
theorem dJ3_checkIndex_8e157_15 : decode cJ3_checkIndex_8e157 15 = .ok (.athrow, 1) := by decide +kernel
theorem dJ3_checkIndex_8e157_16 : decode cJ3_checkIndex_8e157 16 = .ok (.iload_n 0, 1) := by decide +kernel
theorem dJ3_checkIndex_8e157_17 : decode cJ3_checkIndex_8e157 17 = .ok (.ireturn, 1) := by decide +kernel
theorem dX0_init_0 : decode cX0_init 0 = .ok (.aload_n 0, 1) := by decide +kernel
theorem dX0_init_1 : decode cX0_init 1 = .ok (.invokespecial 3, 3) := by decide +kernel
theorem dX0_init_4 : decode cX0_init 4 = .ok (.aload_n 0, 1) := by decide +kernel
theorem dX0_init_5 : decode cX0_init 5 = .ok (.bipush 8, 2) := by decide +kernel
theorem dX0_init_7 : decode cX0_init 7 = .ok (.newarray .int, 2) := by decide +kernel
theorem dX0_init_9 : decode cX0_init 9 = .ok (.putfield 9, 3) := by decide +kernel
theorem dX0_init_12 : decode cX0_init 12 = .ok (.aload_n 0, 1) := by decide +kernel
theorem dX0_init_13 : decode cX0_init 13 = .ok (.bipush 8, 2) := by decide +kernel
theorem dX0_init_15 : decode cX0_init 15 = .ok (.newarray .int, 2) := by decide +kernel
theorem dX0_init_17 : decode cX0_init 17 = .ok (.putfield 15, 3) := by decide +kernel
theorem dX0_init_20 : decode cX0_init 20 = .ok (.return_, 1) := by decide +kernel
theorem dX0_copy_0 : decode cX0_copy 0 = .ok (.aload_n 0, 1) := by decide +kernel
theorem dX0_copy_1 : decode cX0_copy 1 = .ok (.aload_n 1, 1) := by decide +kernel
theorem dX0_copy_2 : decode cX0_copy 2 = .ok (.getfield 18, 3) := by decide +kernel
theorem dX0_copy_5 : decode cX0_copy 5 = .ok (.putfield 18, 3) := by decide +kernel
theorem dX0_copy_8 : decode cX0_copy 8 = .ok (.aload_n 1, 1) := by decide +kernel
theorem dX0_copy_9 : decode cX0_copy 9 = .ok (.getfield 9, 3) := by decide +kernel
theorem dX0_copy_12 : decode cX0_copy 12 = .ok (.aload_n 0, 1) := by decide +kernel
theorem dX0_copy_13 : decode cX0_copy 13 = .ok (.getfield 9, 3) := by decide +kernel
theorem dX0_copy_16 : decode cX0_copy 16 = .ok (.invokestatic 22, 3) := by decide +kernel
theorem dX0_copy_19 : decode cX0_copy 19 = .ok (.aload_n 1, 1) := by decide +kernel
theorem dX0_copy_20 : decode cX0_copy 20 = .ok (.getfield 15, 3) := by decide +kernel
theorem dX0_copy_23 : decode cX0_copy 23 = .ok (.aload_n 0, 1) := by decide +kernel
theorem dX0_copy_24 : decode cX0_copy 24 = .ok (.getfield 15, 3) := by decide +kernel
theorem dX0_copy_27 : decode cX0_copy 27 = .ok (.invokestatic 22, 3) := by decide +kernel
theorem dX0_copy_30 : decode cX0_copy 30 = .ok (.return_, 1) := by decide +kernel
theorem dX0_add_0 : decode cX0_add 0 = .ok (.aload_n 0, 1) := by decide +kernel
theorem dX0_add_1 : decode cX0_add 1 = .ok (.getfield 18, 3) := by decide +kernel
theorem dX0_add_4 : decode cX0_add 4 = .ok (.bipush 8, 2) := by decide +kernel
theorem dX0_add_6 : decode cX0_add 6 = .ok (.if_icmp .ge 33, 3) := by decide +kernel
theorem dX0_add_9 : decode cX0_add 9 = .ok (.aload_n 0, 1) := by decide +kernel
theorem dX0_add_10 : decode cX0_add 10 = .ok (.getfield 9, 3) := by decide +kernel
theorem dX0_add_13 : decode cX0_add 13 = .ok (.aload_n 0, 1) := by decide +kernel
theorem dX0_add_14 : decode cX0_add 14 = .ok (.getfield 18, 3) := by decide +kernel
theorem dX0_add_17 : decode cX0_add 17 = .ok (.iload_n 1, 1) := by decide +kernel
theorem dX0_add_18 : decode cX0_add 18 = .ok (.iastore, 1) := by decide +kernel
theorem dX0_add_19 : decode cX0_add 19 = .ok (.aload_n 0, 1) := by decide +kernel
theorem dX0_add_20 : decode cX0_add 20 = .ok (.getfield 15, 3) := by decide +kernel
theorem dX0_add_23 : decode cX0_add 23 = .ok (.aload_n 0, 1) := by decide +kernel
theorem dX0_add_24 : decode cX0_add 24 = .ok (.getfield 18, 3) := by decide +kernel
theorem dX0_add_27 : decode cX0_add 27 = .ok (.iload_n 2, 1) := by decide +kernel
theorem dX0_add_28 : decode cX0_add 28 = .ok (.iastore, 1) := by decide +kernel
theorem dX0_add_29 : decode cX0_add 29 = .ok (.aload_n 0, 1) := by decide +kernel
theorem dX0_add_30 : decode cX0_add 30 = .ok (.dup, 1) := by decide +kernel
theorem dX0_add_31 : decode cX0_add 31 = .ok (.getfield 18, 3) := by decide +kernel
theorem dX0_add_34 : decode cX0_add 34 = .ok (.iconst 1, 1) := by decide +kernel
theorem dX0_add_35 : decode cX0_add 35 = .ok (.iadd, 1) := by decide +kernel
theorem dX0_add_36 : decode cX0_add 36 = .ok (.putfield 18, 3) := by decide +kernel
theorem dX0_add_39 : decode cX0_add 39 = .ok (.return_, 1) := by decide +kernel
theorem dX0_agrees_0 : decode cX0_agrees 0 = .ok (.iconst 0, 1) := by decide +kernel
theorem dX0_agrees_1 : decode cX0_agrees 1 = .ok (.istore_n 3, 1) := by decide +kernel
theorem dX0_agrees_2 : decode cX0_agrees 2 = .ok (.iload_n 3, 1) := by decide +kernel
theorem dX0_agrees_3 : decode cX0_agrees 3 = .ok (.aload_n 0, 1) := by decide +kernel
theorem dX0_agrees_4 : decode cX0_agrees 4 = .ok (.getfield 18, 3) := by decide +kernel
theorem dX0_agrees_7 : decode cX0_agrees 7 = .ok (.if_icmp .ge 40, 3) := by decide +kernel
theorem dX0_agrees_10 : decode cX0_agrees 10 = .ok (.aload_n 0, 1) := by decide +kernel
theorem dX0_agrees_11 : decode cX0_agrees 11 = .ok (.getfield 9, 3) := by decide +kernel
theorem dX0_agrees_14 : decode cX0_agrees 14 = .ok (.iload_n 3, 1) := by decide +kernel
theorem dX0_agrees_15 : decode cX0_agrees 15 = .ok (.iaload, 1) := by decide +kernel
theorem dX0_agrees_16 : decode cX0_agrees 16 = .ok (.iload_n 1, 1) := by decide +kernel
theorem dX0_agrees_17 : decode cX0_agrees 17 = .ok (.if_icmp .ge 22, 3) := by decide +kernel
theorem dX0_agrees_20 : decode cX0_agrees 20 = .ok (.iload_n 2, 1) := by decide +kernel
theorem dX0_agrees_21 : decode cX0_agrees 21 = .ok (.aload_n 0, 1) := by decide +kernel
theorem dX0_agrees_22 : decode cX0_agrees 22 = .ok (.getfield 9, 3) := by decide +kernel
theorem dX0_agrees_25 : decode cX0_agrees 25 = .ok (.iload_n 3, 1) := by decide +kernel
theorem dX0_agrees_26 : decode cX0_agrees 26 = .ok (.iaload, 1) := by decide +kernel
theorem dX0_agrees_27 : decode cX0_agrees 27 = .ok (.invokestatic 26, 3) := by decide +kernel
theorem dX0_agrees_30 : decode cX0_agrees 30 = .ok (.aload_n 0, 1) := by decide +kernel
theorem dX0_agrees_31 : decode cX0_agrees 31 = .ok (.getfield 15, 3) := by decide +kernel
theorem dX0_agrees_34 : decode cX0_agrees 34 = .ok (.iload_n 3, 1) := by decide +kernel
theorem dX0_agrees_35 : decode cX0_agrees 35 = .ok (.iaload, 1) := by decide +kernel
theorem dX0_agrees_36 : decode cX0_agrees 36 = .ok (.if_icmp .eq 5, 3) := by decide +kernel
theorem dX0_agrees_39 : decode cX0_agrees 39 = .ok (.iconst 0, 1) := by decide +kernel
theorem dX0_agrees_40 : decode cX0_agrees 40 = .ok (.ireturn, 1) := by decide +kernel
theorem dX0_agrees_41 : decode cX0_agrees 41 = .ok (.iinc 3 1, 3) := by decide +kernel
theorem dX0_agrees_44 : decode cX0_agrees 44 = .ok (.goto (-42), 3) := by decide +kernel
theorem dX0_agrees_47 : decode cX0_agrees 47 = .ok (.iconst 1, 1) := by decide +kernel
theorem dX0_agrees_48 : decode cX0_agrees 48 = .ok (.ireturn, 1) := by decide +kernel
theorem dX1_init_0 : decode cX1_init 0 = .ok (.aload_n 0, 1) := by decide +kernel
theorem dX1_init_1 : decode cX1_init 1 = .ok (.invokespecial 3, 3) := by decide +kernel
theorem dX1_init_4 : decode cX1_init 4 = .ok (.aload_n 0, 1) := by decide +kernel
theorem dX1_init_5 : decode cX1_init 5 = .ok (.new 9, 3) := by decide +kernel
theorem dX1_init_8 : decode cX1_init 8 = .ok (.dup, 1) := by decide +kernel
theorem dX1_init_9 : decode cX1_init 9 = .ok (.invokespecial 11, 3) := by decide +kernel
theorem dX1_init_12 : decode cX1_init 12 = .ok (.putfield 12, 3) := by decide +kernel
theorem dX1_init_15 : decode cX1_init 15 = .ok (.return_, 1) := by decide +kernel
theorem dX1_draw_0 : decode cX1_draw 0 = .ok (.aload_n 0, 1) := by decide +kernel
theorem dX1_draw_1 : decode cX1_draw 1 = .ok (.getfield 12, 3) := by decide +kernel
theorem dX1_draw_4 : decode cX1_draw 4 = .ok (.iconst 0, 1) := by decide +kernel
theorem dX1_draw_5 : decode cX1_draw 5 = .ok (.putfield 18, 3) := by decide +kernel
theorem dX1_draw_8 : decode cX1_draw 8 = .ok (.aload_n 0, 1) := by decide +kernel
theorem dX1_draw_9 : decode cX1_draw 9 = .ok (.iload_n 2, 1) := by decide +kernel
theorem dX1_draw_10 : decode cX1_draw 10 = .ok (.putfield 22, 3) := by decide +kernel
theorem dX1_draw_13 : decode cX1_draw 13 = .ok (.iconst 0, 1) := by decide +kernel
theorem dX1_draw_14 : decode cX1_draw 14 = .ok (.istore 4, 2) := by decide +kernel
theorem dX1_draw_16 : decode cX1_draw 16 = .ok (.iload 4, 2) := by decide +kernel
theorem dX1_draw_18 : decode cX1_draw 18 = .ok (.iload_n 3, 1) := by decide +kernel
theorem dX1_draw_19 : decode cX1_draw 19 = .ok (.if_icmp .ge 27, 3) := by decide +kernel
theorem dX1_draw_22 : decode cX1_draw 22 = .ok (.aload_n 0, 1) := by decide +kernel
theorem dX1_draw_23 : decode cX1_draw 23 = .ok (.aload_n 1, 1) := by decide +kernel
theorem dX1_draw_24 : decode cX1_draw 24 = .ok (.getfield 25, 3) := by decide +kernel
theorem dX1_draw_27 : decode cX1_draw 27 = .ok (.aload_n 1, 1) := by decide +kernel
theorem dX1_draw_28 : decode cX1_draw 28 = .ok (.getfield 30, 3) := by decide +kernel
theorem dX1_draw_31 : decode cX1_draw 31 = .ok (.aload_n 0, 1) := by decide +kernel
theorem dX1_draw_32 : decode cX1_draw 32 = .ok (.bipush 10, 2) := by decide +kernel
theorem dX1_draw_34 : decode cX1_draw 34 = .ok (.invokevirtual 33, 3) := by decide +kernel
theorem dX1_draw_37 : decode cX1_draw 37 = .ok (.invokevirtual 37, 3) := by decide +kernel
theorem dX1_draw_40 : decode cX1_draw 40 = .ok (.iinc 4 1, 3) := by decide +kernel
theorem dX1_draw_43 : decode cX1_draw 43 = .ok (.goto (-27), 3) := by decide +kernel
theorem dX1_draw_46 : decode cX1_draw 46 = .ok (.return_, 1) := by decide +kernel
theorem dX1_below_0 : decode cX1_below 0 = .ok (.aload_n 0, 1) := by decide +kernel
theorem dX1_below_1 : decode cX1_below 1 = .ok (.aload_n 0, 1) := by decide +kernel
theorem dX1_below_2 : decode cX1_below 2 = .ok (.getfield 22, 3) := by decide +kernel
theorem dX1_below_5 : decode cX1_below 5 = .ok (.ldc 41, 2) := by decide +kernel
theorem dX1_below_7 : decode cX1_below 7 = .ok (.imul, 1) := by decide +kernel
theorem dX1_below_8 : decode cX1_below 8 = .ok (.sipush 12345, 3) := by decide +kernel
theorem dX1_below_11 : decode cX1_below 11 = .ok (.iadd, 1) := by decide +kernel
theorem dX1_below_12 : decode cX1_below 12 = .ok (.putfield 22, 3) := by decide +kernel
theorem dX1_below_15 : decode cX1_below 15 = .ok (.iload_n 1, 1) := by decide +kernel
theorem dX1_below_16 : decode cX1_below 16 = .ok (.ifCond .le 15, 3) := by decide +kernel
theorem dX1_below_19 : decode cX1_below 19 = .ok (.aload_n 0, 1) := by decide +kernel
theorem dX1_below_20 : decode cX1_below 20 = .ok (.getfield 22, 3) := by decide +kernel
theorem dX1_below_23 : decode cX1_below 23 = .ok (.bipush 16, 2) := by decide +kernel
theorem dX1_below_25 : decode cX1_below 25 = .ok (.iushr, 1) := by decide +kernel
theorem dX1_below_26 : decode cX1_below 26 = .ok (.iload_n 1, 1) := by decide +kernel
theorem dX1_below_27 : decode cX1_below 27 = .ok (.irem, 1) := by decide +kernel
theorem dX1_below_28 : decode cX1_below 28 = .ok (.goto 4, 3) := by decide +kernel
theorem dX1_below_31 : decode cX1_below 31 = .ok (.iconst 0, 1) := by decide +kernel
theorem dX1_below_32 : decode cX1_below 32 = .ok (.ireturn, 1) := by decide +kernel
theorem dX1_drawDeed_0 : decode cX1_drawDeed 0 = .ok (.iload_n 3, 1) := by decide +kernel
theorem dX1_drawDeed_1 : decode cX1_drawDeed 1 = .ok (.iconst 3, 1) := by decide +kernel
theorem dX1_drawDeed_2 : decode cX1_drawDeed 2 = .ok (.if_icmp .gt 24, 3) := by decide +kernel
theorem dX1_drawDeed_5 : decode cX1_drawDeed 5 = .ok (.iload_n 1, 1) := by decide +kernel
theorem dX1_drawDeed_6 : decode cX1_drawDeed 6 = .ok (.ifCond .le 155, 3) := by decide +kernel
theorem dX1_drawDeed_9 : decode cX1_drawDeed 9 = .ok (.aload_n 0, 1) := by decide +kernel
theorem dX1_drawDeed_10 : decode cX1_drawDeed 10 = .ok (.getfield 12, 3) := by decide +kernel
theorem dX1_drawDeed_13 : decode cX1_drawDeed 13 = .ok (.iconst 0, 1) := by decide +kernel
theorem dX1_drawDeed_14 : decode cX1_drawDeed 14 = .ok (.aload_n 0, 1) := by decide +kernel
theorem dX1_drawDeed_15 : decode cX1_drawDeed 15 = .ok (.iload_n 1, 1) := by decide +kernel
theorem dX1_drawDeed_16 : decode cX1_drawDeed 16 = .ok (.invokevirtual 33, 3) := by decide +kernel
theorem dX1_drawDeed_19 : decode cX1_drawDeed 19 = .ok (.iconst (-1), 1) := by decide +kernel
theorem dX1_drawDeed_20 : decode cX1_drawDeed 20 = .ok (.invokevirtual 42, 3) := by decide +kernel
theorem dX1_drawDeed_23 : decode cX1_drawDeed 23 = .ok (.goto 138, 3) := by decide +kernel
theorem dX1_drawDeed_26 : decode cX1_drawDeed 26 = .ok (.iload_n 3, 1) := by decide +kernel
theorem dX1_drawDeed_27 : decode cX1_drawDeed 27 = .ok (.iconst 5, 1) := by decide +kernel
theorem dX1_drawDeed_28 : decode cX1_drawDeed 28 = .ok (.if_icmp .gt 33, 3) := by decide +kernel
theorem dX1_drawDeed_31 : decode cX1_drawDeed 31 = .ok (.iload_n 2, 1) := by decide +kernel
theorem dX1_drawDeed_32 : decode cX1_drawDeed 32 = .ok (.ifCond .le 129, 3) := by decide +kernel
theorem dX1_drawDeed_35 : decode cX1_drawDeed 35 = .ok (.aload_n 0, 1) := by decide +kernel
theorem dX1_drawDeed_36 : decode cX1_drawDeed 36 = .ok (.iload_n 2, 1) := by decide +kernel
theorem dX1_drawDeed_37 : decode cX1_drawDeed 37 = .ok (.invokevirtual 33, 3) := by decide +kernel
theorem dX1_drawDeed_40 : decode cX1_drawDeed 40 = .ok (.istore 4, 2) := by decide +kernel
theorem dX1_drawDeed_42 : decode cX1_drawDeed 42 = .ok (.aload_n 0, 1) := by decide +kernel
theorem dX1_drawDeed_43 : decode cX1_drawDeed 43 = .ok (.getfield 12, 3) := by decide +kernel
theorem dX1_drawDeed_46 : decode cX1_drawDeed 46 = .ok (.iconst 1, 1) := by decide +kernel
theorem dX1_drawDeed_47 : decode cX1_drawDeed 47 = .ok (.iload 4, 2) := by decide +kernel
theorem dX1_drawDeed_49 : decode cX1_drawDeed 49 = .ok (.aload_n 0, 1) := by decide +kernel
theorem dX1_drawDeed_50 : decode cX1_drawDeed 50 = .ok (.bipush 10, 2) := by decide +kernel
theorem dX1_drawDeed_52 : decode cX1_drawDeed 52 = .ok (.invokevirtual 33, 3) := by decide +kernel
theorem dX1_drawDeed_55 : decode cX1_drawDeed 55 = .ok (.invokevirtual 42, 3) := by decide +kernel
theorem dX1_drawDeed_58 : decode cX1_drawDeed 58 = .ok (.goto 103, 3) := by decide +kernel
theorem dX1_drawDeed_61 : decode cX1_drawDeed 61 = .ok (.iload_n 3, 1) := by decide +kernel
theorem dX1_drawDeed_62 : decode cX1_drawDeed 62 = .ok (.bipush 6, 2) := by decide +kernel
theorem dX1_drawDeed_64 : decode cX1_drawDeed 64 = .ok (.if_icmp .ne 36, 3) := by decide +kernel
theorem dX1_drawDeed_67 : decode cX1_drawDeed 67 = .ok (.iload_n 1, 1) := by decide +kernel
theorem dX1_drawDeed_68 : decode cX1_drawDeed 68 = .ok (.ifCond .le 93, 3) := by decide +kernel
theorem dX1_drawDeed_71 : decode cX1_drawDeed 71 = .ok (.iload_n 2, 1) := by decide +kernel
theorem dX1_drawDeed_72 : decode cX1_drawDeed 72 = .ok (.ifCond .le 89, 3) := by decide +kernel
theorem dX1_drawDeed_75 : decode cX1_drawDeed 75 = .ok (.aload_n 0, 1) := by decide +kernel
theorem dX1_drawDeed_76 : decode cX1_drawDeed 76 = .ok (.iload_n 1, 1) := by decide +kernel
theorem dX1_drawDeed_77 : decode cX1_drawDeed 77 = .ok (.invokevirtual 33, 3) := by decide +kernel
theorem dX1_drawDeed_80 : decode cX1_drawDeed 80 = .ok (.istore 4, 2) := by decide +kernel
theorem dX1_drawDeed_82 : decode cX1_drawDeed 82 = .ok (.aload_n 0, 1) := by decide +kernel
theorem dX1_drawDeed_83 : decode cX1_drawDeed 83 = .ok (.getfield 12, 3) := by decide +kernel
theorem dX1_drawDeed_86 : decode cX1_drawDeed 86 = .ok (.iconst 2, 1) := by decide +kernel
theorem dX1_drawDeed_87 : decode cX1_drawDeed 87 = .ok (.iload 4, 2) := by decide +kernel
theorem dX1_drawDeed_89 : decode cX1_drawDeed 89 = .ok (.aload_n 0, 1) := by decide +kernel
theorem dX1_drawDeed_90 : decode cX1_drawDeed 90 = .ok (.iload_n 2, 1) := by decide +kernel
theorem dX1_drawDeed_91 : decode cX1_drawDeed 91 = .ok (.invokevirtual 33, 3) := by decide +kernel
theorem dX1_drawDeed_94 : decode cX1_drawDeed 94 = .ok (.invokevirtual 42, 3) := by decide +kernel
theorem dX1_drawDeed_97 : decode cX1_drawDeed 97 = .ok (.goto 64, 3) := by decide +kernel
theorem dX1_drawDeed_100 : decode cX1_drawDeed 100 = .ok (.iload_n 3, 1) := by decide +kernel
theorem dX1_drawDeed_101 : decode cX1_drawDeed 101 = .ok (.bipush 8, 2) := by decide +kernel
theorem dX1_drawDeed_103 : decode cX1_drawDeed 103 = .ok (.if_icmp .gt 48, 3) := by decide +kernel
theorem dX1_drawDeed_106 : decode cX1_drawDeed 106 = .ok (.aload_n 0, 1) := by decide +kernel
theorem dX1_drawDeed_107 : decode cX1_drawDeed 107 = .ok (.bipush 10, 2) := by decide +kernel
theorem dX1_drawDeed_109 : decode cX1_drawDeed 109 = .ok (.invokevirtual 33, 3) := by decide +kernel
theorem dX1_drawDeed_112 : decode cX1_drawDeed 112 = .ok (.istore 4, 2) := by decide +kernel
theorem dX1_drawDeed_114 : decode cX1_drawDeed 114 = .ok (.aload_n 0, 1) := by decide +kernel
theorem dX1_drawDeed_115 : decode cX1_drawDeed 115 = .ok (.getfield 12, 3) := by decide +kernel
theorem dX1_drawDeed_118 : decode cX1_drawDeed 118 = .ok (.iload_n 3, 1) := by decide +kernel
theorem dX1_drawDeed_119 : decode cX1_drawDeed 119 = .ok (.bipush 7, 2) := by decide +kernel
theorem dX1_drawDeed_121 : decode cX1_drawDeed 121 = .ok (.if_icmp .ne 7, 3) := by decide +kernel
theorem dX1_drawDeed_124 : decode cX1_drawDeed 124 = .ok (.iconst 3, 1) := by decide +kernel
theorem dX1_drawDeed_125 : decode cX1_drawDeed 125 = .ok (.goto 4, 3) := by decide +kernel
theorem dX1_drawDeed_128 : decode cX1_drawDeed 128 = .ok (.iconst 4, 1) := by decide +kernel
theorem dX1_drawDeed_129 : decode cX1_drawDeed 129 = .ok (.iload 4, 2) := by decide +kernel
theorem dX1_drawDeed_131 : decode cX1_drawDeed 131 = .ok (.iload 4, 2) := by decide +kernel
theorem dX1_drawDeed_133 : decode cX1_drawDeed 133 = .ok (.iconst 1, 1) := by decide +kernel
theorem dX1_drawDeed_134 : decode cX1_drawDeed 134 = .ok (.iadd, 1) := by decide +kernel
theorem dX1_drawDeed_135 : decode cX1_drawDeed 135 = .ok (.aload_n 0, 1) := by decide +kernel
theorem dX1_drawDeed_136 : decode cX1_drawDeed 136 = .ok (.bipush 9, 2) := by decide +kernel
theorem dX1_drawDeed_138 : decode cX1_drawDeed 138 = .ok (.invokevirtual 33, 3) := by decide +kernel
theorem dX1_drawDeed_141 : decode cX1_drawDeed 141 = .ok (.iadd, 1) := by decide +kernel
theorem dX1_drawDeed_142 : decode cX1_drawDeed 142 = .ok (.bipush 10, 2) := by decide +kernel
theorem dX1_drawDeed_144 : decode cX1_drawDeed 144 = .ok (.irem, 1) := by decide +kernel
theorem dX1_drawDeed_145 : decode cX1_drawDeed 145 = .ok (.invokevirtual 42, 3) := by decide +kernel
theorem dX1_drawDeed_148 : decode cX1_drawDeed 148 = .ok (.goto 13, 3) := by decide +kernel
theorem dX1_drawDeed_151 : decode cX1_drawDeed 151 = .ok (.aload_n 0, 1) := by decide +kernel
theorem dX1_drawDeed_152 : decode cX1_drawDeed 152 = .ok (.getfield 12, 3) := by decide +kernel
theorem dX1_drawDeed_155 : decode cX1_drawDeed 155 = .ok (.iconst 5, 1) := by decide +kernel
theorem dX1_drawDeed_156 : decode cX1_drawDeed 156 = .ok (.iconst (-1), 1) := by decide +kernel
theorem dX1_drawDeed_157 : decode cX1_drawDeed 157 = .ok (.iconst (-1), 1) := by decide +kernel
theorem dX1_drawDeed_158 : decode cX1_drawDeed 158 = .ok (.invokevirtual 42, 3) := by decide +kernel
theorem dX1_drawDeed_161 : decode cX1_drawDeed 161 = .ok (.return_, 1) := by decide +kernel
theorem dX2_init_0 : decode cX2_init 0 = .ok (.aload_n 0, 1) := by decide +kernel
theorem dX2_init_1 : decode cX2_init 1 = .ok (.invokespecial 3, 3) := by decide +kernel
theorem dX2_init_4 : decode cX2_init 4 = .ok (.aload_n 0, 1) := by decide +kernel
theorem dX2_init_5 : decode cX2_init 5 = .ok (.bipush 10, 2) := by decide +kernel
theorem dX2_init_7 : decode cX2_init 7 = .ok (.newarray .int, 2) := by decide +kernel
theorem dX2_init_9 : decode cX2_init 9 = .ok (.putfield 9, 3) := by decide +kernel
theorem dX2_init_12 : decode cX2_init 12 = .ok (.aload_n 0, 1) := by decide +kernel
theorem dX2_init_13 : decode cX2_init 13 = .ok (.bipush 100, 2) := by decide +kernel
theorem dX2_init_15 : decode cX2_init 15 = .ok (.newarray .int, 2) := by decide +kernel
theorem dX2_init_17 : decode cX2_init 17 = .ok (.putfield 15, 3) := by decide +kernel
theorem dX2_init_20 : decode cX2_init 20 = .ok (.aload_n 0, 1) := by decide +kernel
theorem dX2_init_21 : decode cX2_init 21 = .ok (.bipush 100, 2) := by decide +kernel
theorem dX2_init_23 : decode cX2_init 23 = .ok (.newarray .int, 2) := by decide +kernel
theorem dX2_init_25 : decode cX2_init 25 = .ok (.putfield 18, 3) := by decide +kernel
theorem dX2_init_28 : decode cX2_init 28 = .ok (.return_, 1) := by decide +kernel
theorem dX2_clear_0 : decode cX2_clear 0 = .ok (.iconst 0, 1) := by decide +kernel
theorem dX2_clear_1 : decode cX2_clear 1 = .ok (.istore_n 1, 1) := by decide +kernel
theorem dX2_clear_2 : decode cX2_clear 2 = .ok (.iload_n 1, 1) := by decide +kernel
theorem dX2_clear_3 : decode cX2_clear 3 = .ok (.bipush 10, 2) := by decide +kernel
theorem dX2_clear_5 : decode cX2_clear 5 = .ok (.if_icmp .ge 16, 3) := by decide +kernel
theorem dX2_clear_8 : decode cX2_clear 8 = .ok (.aload_n 0, 1) := by decide +kernel
theorem dX2_clear_9 : decode cX2_clear 9 = .ok (.getfield 9, 3) := by decide +kernel
theorem dX2_clear_12 : decode cX2_clear 12 = .ok (.iload_n 1, 1) := by decide +kernel
theorem dX2_clear_13 : decode cX2_clear 13 = .ok (.iconst 0, 1) := by decide +kernel
theorem dX2_clear_14 : decode cX2_clear 14 = .ok (.iastore, 1) := by decide +kernel
theorem dX2_clear_15 : decode cX2_clear 15 = .ok (.iinc 1 1, 3) := by decide +kernel
theorem dX2_clear_18 : decode cX2_clear 18 = .ok (.goto (-16), 3) := by decide +kernel
theorem dX2_clear_21 : decode cX2_clear 21 = .ok (.aload_n 0, 1) := by decide +kernel
theorem dX2_clear_22 : decode cX2_clear 22 = .ok (.iconst 0, 1) := by decide +kernel
theorem dX2_clear_23 : decode cX2_clear 23 = .ok (.putfield 21, 3) := by decide +kernel
theorem dX2_clear_26 : decode cX2_clear 26 = .ok (.return_, 1) := by decide +kernel
theorem dX2_copy_0 : decode cX2_copy 0 = .ok (.aload_n 1, 1) := by decide +kernel
theorem dX2_copy_1 : decode cX2_copy 1 = .ok (.getfield 9, 3) := by decide +kernel
theorem dX2_copy_4 : decode cX2_copy 4 = .ok (.aload_n 0, 1) := by decide +kernel
theorem dX2_copy_5 : decode cX2_copy 5 = .ok (.getfield 9, 3) := by decide +kernel
theorem dX2_copy_8 : decode cX2_copy 8 = .ok (.invokestatic 25, 3) := by decide +kernel
theorem dX2_copy_11 : decode cX2_copy 11 = .ok (.aload_n 1, 1) := by decide +kernel
theorem dX2_copy_12 : decode cX2_copy 12 = .ok (.getfield 15, 3) := by decide +kernel
theorem dX2_copy_15 : decode cX2_copy 15 = .ok (.aload_n 0, 1) := by decide +kernel
theorem dX2_copy_16 : decode cX2_copy 16 = .ok (.getfield 15, 3) := by decide +kernel
theorem dX2_copy_19 : decode cX2_copy 19 = .ok (.invokestatic 25, 3) := by decide +kernel
theorem dX2_copy_22 : decode cX2_copy 22 = .ok (.aload_n 1, 1) := by decide +kernel
theorem dX2_copy_23 : decode cX2_copy 23 = .ok (.getfield 18, 3) := by decide +kernel
theorem dX2_copy_26 : decode cX2_copy 26 = .ok (.aload_n 0, 1) := by decide +kernel
theorem dX2_copy_27 : decode cX2_copy 27 = .ok (.getfield 18, 3) := by decide +kernel
theorem dX2_copy_30 : decode cX2_copy 30 = .ok (.invokestatic 25, 3) := by decide +kernel
theorem dX2_copy_33 : decode cX2_copy 33 = .ok (.aload_n 0, 1) := by decide +kernel
theorem dX2_copy_34 : decode cX2_copy 34 = .ok (.aload_n 1, 1) := by decide +kernel
theorem dX2_copy_35 : decode cX2_copy 35 = .ok (.getfield 21, 3) := by decide +kernel
theorem dX2_copy_38 : decode cX2_copy 38 = .ok (.putfield 21, 3) := by decide +kernel
theorem dX2_copy_41 : decode cX2_copy 41 = .ok (.return_, 1) := by decide +kernel
theorem dX2_near_0 : decode cX2_near 0 = .ok (.iload_n 1, 1) := by decide +kernel
theorem dX2_near_1 : decode cX2_near 1 = .ok (.invokestatic 29, 3) := by decide +kernel
theorem dX2_near_4 : decode cX2_near 4 = .ok (.ifCond .eq 27, 3) := by decide +kernel
theorem dX2_near_7 : decode cX2_near 7 = .ok (.iload_n 2, 1) := by decide +kernel
theorem dX2_near_8 : decode cX2_near 8 = .ok (.invokestatic 29, 3) := by decide +kernel
theorem dX2_near_11 : decode cX2_near 11 = .ok (.ifCond .eq 20, 3) := by decide +kernel
theorem dX2_near_14 : decode cX2_near 14 = .ok (.aload_n 0, 1) := by decide +kernel
theorem dX2_near_15 : decode cX2_near 15 = .ok (.getfield 9, 3) := by decide +kernel
theorem dX2_near_18 : decode cX2_near 18 = .ok (.iload_n 1, 1) := by decide +kernel
theorem dX2_near_19 : decode cX2_near 19 = .ok (.iaload, 1) := by decide +kernel
theorem dX2_near_20 : decode cX2_near 20 = .ok (.iload_n 2, 1) := by decide +kernel
theorem dX2_near_21 : decode cX2_near 21 = .ok (.ishr, 1) := by decide +kernel
theorem dX2_near_22 : decode cX2_near 22 = .ok (.iconst 1, 1) := by decide +kernel
theorem dX2_near_23 : decode cX2_near 23 = .ok (.iand, 1) := by decide +kernel
theorem dX2_near_24 : decode cX2_near 24 = .ok (.ifCond .eq 7, 3) := by decide +kernel
theorem dX2_near_27 : decode cX2_near 27 = .ok (.iconst 1, 1) := by decide +kernel
theorem dX2_near_28 : decode cX2_near 28 = .ok (.goto 4, 3) := by decide +kernel
theorem dX2_near_31 : decode cX2_near 31 = .ok (.iconst 0, 1) := by decide +kernel
theorem dX2_near_32 : decode cX2_near 32 = .ok (.ireturn, 1) := by decide +kernel
theorem dX2_join_0 : decode cX2_join 0 = .ok (.iload_n 1, 1) := by decide +kernel
theorem dX2_join_1 : decode cX2_join 1 = .ok (.invokestatic 29, 3) := by decide +kernel
theorem dX2_join_4 : decode cX2_join 4 = .ok (.ifCond .eq 39, 3) := by decide +kernel
theorem dX2_join_7 : decode cX2_join 7 = .ok (.iload_n 2, 1) := by decide +kernel
theorem dX2_join_8 : decode cX2_join 8 = .ok (.invokestatic 29, 3) := by decide +kernel
theorem dX2_join_11 : decode cX2_join 11 = .ok (.ifCond .eq 32, 3) := by decide +kernel
theorem dX2_join_14 : decode cX2_join 14 = .ok (.aload_n 0, 1) := by decide +kernel
theorem dX2_join_15 : decode cX2_join 15 = .ok (.getfield 9, 3) := by decide +kernel
theorem dX2_join_18 : decode cX2_join 18 = .ok (.iload_n 1, 1) := by decide +kernel
theorem dX2_join_19 : decode cX2_join 19 = .ok (.dup2, 1) := by decide +kernel
theorem dX2_join_20 : decode cX2_join 20 = .ok (.iaload, 1) := by decide +kernel
theorem dX2_join_21 : decode cX2_join 21 = .ok (.iconst 1, 1) := by decide +kernel
theorem dX2_join_22 : decode cX2_join 22 = .ok (.iload_n 2, 1) := by decide +kernel
theorem dX2_join_23 : decode cX2_join 23 = .ok (.ishl, 1) := by decide +kernel
theorem dX2_join_24 : decode cX2_join 24 = .ok (.ior, 1) := by decide +kernel
theorem dX2_join_25 : decode cX2_join 25 = .ok (.iastore, 1) := by decide +kernel
theorem dX2_join_26 : decode cX2_join 26 = .ok (.aload_n 0, 1) := by decide +kernel
theorem dX2_join_27 : decode cX2_join 27 = .ok (.getfield 9, 3) := by decide +kernel
theorem dX2_join_30 : decode cX2_join 30 = .ok (.iload_n 2, 1) := by decide +kernel
theorem dX2_join_31 : decode cX2_join 31 = .ok (.dup2, 1) := by decide +kernel
theorem dX2_join_32 : decode cX2_join 32 = .ok (.iaload, 1) := by decide +kernel
theorem dX2_join_33 : decode cX2_join 33 = .ok (.iconst 1, 1) := by decide +kernel
theorem dX2_join_34 : decode cX2_join 34 = .ok (.iload_n 1, 1) := by decide +kernel
theorem dX2_join_35 : decode cX2_join 35 = .ok (.ishl, 1) := by decide +kernel
theorem dX2_join_36 : decode cX2_join 36 = .ok (.ior, 1) := by decide +kernel
theorem dX2_join_37 : decode cX2_join 37 = .ok (.iastore, 1) := by decide +kernel
theorem dX2_join_38 : decode cX2_join 38 = .ok (.aload_n 0, 1) := by decide +kernel
theorem dX2_join_39 : decode cX2_join 39 = .ok (.iconst 0, 1) := by decide +kernel
theorem dX2_join_40 : decode cX2_join 40 = .ok (.putfield 21, 3) := by decide +kernel
theorem dX2_join_43 : decode cX2_join 43 = .ok (.return_, 1) := by decide +kernel
theorem dX2_part_0 : decode cX2_part 0 = .ok (.iload_n 1, 1) := by decide +kernel
theorem dX2_part_1 : decode cX2_part 1 = .ok (.invokestatic 29, 3) := by decide +kernel
theorem dX2_part_4 : decode cX2_part 4 = .ok (.ifCond .eq 43, 3) := by decide +kernel
theorem dX2_part_7 : decode cX2_part 7 = .ok (.iload_n 2, 1) := by decide +kernel
theorem dX2_part_8 : decode cX2_part 8 = .ok (.invokestatic 29, 3) := by decide +kernel
theorem dX2_part_11 : decode cX2_part 11 = .ok (.ifCond .eq 36, 3) := by decide +kernel
theorem dX2_part_14 : decode cX2_part 14 = .ok (.aload_n 0, 1) := by decide +kernel
theorem dX2_part_15 : decode cX2_part 15 = .ok (.getfield 9, 3) := by decide +kernel
theorem dX2_part_18 : decode cX2_part 18 = .ok (.iload_n 1, 1) := by decide +kernel
theorem dX2_part_19 : decode cX2_part 19 = .ok (.dup2, 1) := by decide +kernel
theorem dX2_part_20 : decode cX2_part 20 = .ok (.iaload, 1) := by decide +kernel
theorem dX2_part_21 : decode cX2_part 21 = .ok (.iconst 1, 1) := by decide +kernel
theorem dX2_part_22 : decode cX2_part 22 = .ok (.iload_n 2, 1) := by decide +kernel
theorem dX2_part_23 : decode cX2_part 23 = .ok (.ishl, 1) := by decide +kernel
theorem dX2_part_24 : decode cX2_part 24 = .ok (.iconst (-1), 1) := by decide +kernel
theorem dX2_part_25 : decode cX2_part 25 = .ok (.ixor, 1) := by decide +kernel
theorem dX2_part_26 : decode cX2_part 26 = .ok (.iand, 1) := by decide +kernel
theorem dX2_part_27 : decode cX2_part 27 = .ok (.iastore, 1) := by decide +kernel
theorem dX2_part_28 : decode cX2_part 28 = .ok (.aload_n 0, 1) := by decide +kernel
theorem dX2_part_29 : decode cX2_part 29 = .ok (.getfield 9, 3) := by decide +kernel
theorem dX2_part_32 : decode cX2_part 32 = .ok (.iload_n 2, 1) := by decide +kernel
theorem dX2_part_33 : decode cX2_part 33 = .ok (.dup2, 1) := by decide +kernel
theorem dX2_part_34 : decode cX2_part 34 = .ok (.iaload, 1) := by decide +kernel
theorem dX2_part_35 : decode cX2_part 35 = .ok (.iconst 1, 1) := by decide +kernel
theorem dX2_part_36 : decode cX2_part 36 = .ok (.iload_n 1, 1) := by decide +kernel
theorem dX2_part_37 : decode cX2_part 37 = .ok (.ishl, 1) := by decide +kernel
theorem dX2_part_38 : decode cX2_part 38 = .ok (.iconst (-1), 1) := by decide +kernel
theorem dX2_part_39 : decode cX2_part 39 = .ok (.ixor, 1) := by decide +kernel
theorem dX2_part_40 : decode cX2_part 40 = .ok (.iand, 1) := by decide +kernel
theorem dX2_part_41 : decode cX2_part 41 = .ok (.iastore, 1) := by decide +kernel
theorem dX2_part_42 : decode cX2_part 42 = .ok (.aload_n 0, 1) := by decide +kernel
theorem dX2_part_43 : decode cX2_part 43 = .ok (.iconst 0, 1) := by decide +kernel
theorem dX2_part_44 : decode cX2_part 44 = .ok (.putfield 21, 3) := by decide +kernel
theorem dX2_part_47 : decode cX2_part 47 = .ok (.return_, 1) := by decide +kernel
theorem dX2_between_0 : decode cX2_between 0 = .ok (.iload_n 1, 1) := by decide +kernel
theorem dX2_between_1 : decode cX2_between 1 = .ok (.ifCond .lt 19, 3) := by decide +kernel
theorem dX2_between_4 : decode cX2_between 4 = .ok (.iload_n 1, 1) := by decide +kernel
theorem dX2_between_5 : decode cX2_between 5 = .ok (.bipush 10, 2) := by decide +kernel
theorem dX2_between_7 : decode cX2_between 7 = .ok (.if_icmp .ge 13, 3) := by decide +kernel
theorem dX2_between_10 : decode cX2_between 10 = .ok (.iload_n 2, 1) := by decide +kernel
theorem dX2_between_11 : decode cX2_between 11 = .ok (.ifCond .lt 9, 3) := by decide +kernel
theorem dX2_between_14 : decode cX2_between 14 = .ok (.iload_n 2, 1) := by decide +kernel
theorem dX2_between_15 : decode cX2_between 15 = .ok (.bipush 10, 2) := by decide +kernel
theorem dX2_between_17 : decode cX2_between 17 = .ok (.if_icmp .lt 5, 3) := by decide +kernel
theorem dX2_between_20 : decode cX2_between 20 = .ok (.iconst (-1), 1) := by decide +kernel
theorem dX2_between_21 : decode cX2_between 21 = .ok (.ireturn, 1) := by decide +kernel
theorem dX2_between_22 : decode cX2_between 22 = .ok (.aload_n 0, 1) := by decide +kernel
theorem dX2_between_23 : decode cX2_between 23 = .ok (.getfield 21, 3) := by decide +kernel
theorem dX2_between_26 : decode cX2_between 26 = .ok (.iload_n 2, 1) := by decide +kernel
theorem dX2_between_27 : decode cX2_between 27 = .ok (.ishr, 1) := by decide +kernel
theorem dX2_between_28 : decode cX2_between 28 = .ok (.iconst 1, 1) := by decide +kernel
theorem dX2_between_29 : decode cX2_between 29 = .ok (.iand, 1) := by decide +kernel
theorem dX2_between_30 : decode cX2_between 30 = .ok (.ifCond .ne 8, 3) := by decide +kernel
theorem dX2_between_33 : decode cX2_between 33 = .ok (.aload_n 0, 1) := by decide +kernel
theorem dX2_between_34 : decode cX2_between 34 = .ok (.iload_n 2, 1) := by decide +kernel
theorem dX2_between_35 : decode cX2_between 35 = .ok (.invokevirtual 33, 3) := by decide +kernel
theorem dX2_between_38 : decode cX2_between 38 = .ok (.aload_n 0, 1) := by decide +kernel
theorem dX2_between_39 : decode cX2_between 39 = .ok (.getfield 15, 3) := by decide +kernel
theorem dX2_between_42 : decode cX2_between 42 = .ok (.bipush 10, 2) := by decide +kernel
theorem dX2_between_44 : decode cX2_between 44 = .ok (.iload_n 2, 1) := by decide +kernel
theorem dX2_between_45 : decode cX2_between 45 = .ok (.imul, 1) := by decide +kernel
theorem dX2_between_46 : decode cX2_between 46 = .ok (.iload_n 1, 1) := by decide +kernel
theorem dX2_between_47 : decode cX2_between 47 = .ok (.iadd, 1) := by decide +kernel
theorem dX2_between_48 : decode cX2_between 48 = .ok (.iaload, 1) := by decide +kernel
theorem dX2_between_49 : decode cX2_between 49 = .ok (.ireturn, 1) := by decide +kernel
theorem dX2_next_0 : decode cX2_next 0 = .ok (.iload_n 1, 1) := by decide +kernel
theorem dX2_next_1 : decode cX2_next 1 = .ok (.ifCond .lt 19, 3) := by decide +kernel
theorem dX2_next_4 : decode cX2_next 4 = .ok (.iload_n 1, 1) := by decide +kernel
theorem dX2_next_5 : decode cX2_next 5 = .ok (.bipush 10, 2) := by decide +kernel
theorem dX2_next_7 : decode cX2_next 7 = .ok (.if_icmp .ge 13, 3) := by decide +kernel
theorem dX2_next_10 : decode cX2_next 10 = .ok (.iload_n 2, 1) := by decide +kernel
theorem dX2_next_11 : decode cX2_next 11 = .ok (.ifCond .lt 9, 3) := by decide +kernel
theorem dX2_next_14 : decode cX2_next 14 = .ok (.iload_n 2, 1) := by decide +kernel
theorem dX2_next_15 : decode cX2_next 15 = .ok (.bipush 10, 2) := by decide +kernel
theorem dX2_next_17 : decode cX2_next 17 = .ok (.if_icmp .lt 5, 3) := by decide +kernel
theorem dX2_next_20 : decode cX2_next 20 = .ok (.iconst (-1), 1) := by decide +kernel
theorem dX2_next_21 : decode cX2_next 21 = .ok (.ireturn, 1) := by decide +kernel
theorem dX2_next_22 : decode cX2_next 22 = .ok (.aload_n 0, 1) := by decide +kernel
theorem dX2_next_23 : decode cX2_next 23 = .ok (.getfield 21, 3) := by decide +kernel
theorem dX2_next_26 : decode cX2_next 26 = .ok (.iload_n 2, 1) := by decide +kernel
theorem dX2_next_27 : decode cX2_next 27 = .ok (.ishr, 1) := by decide +kernel
theorem dX2_next_28 : decode cX2_next 28 = .ok (.iconst 1, 1) := by decide +kernel
theorem dX2_next_29 : decode cX2_next 29 = .ok (.iand, 1) := by decide +kernel
theorem dX2_next_30 : decode cX2_next 30 = .ok (.ifCond .ne 8, 3) := by decide +kernel
theorem dX2_next_33 : decode cX2_next 33 = .ok (.aload_n 0, 1) := by decide +kernel
theorem dX2_next_34 : decode cX2_next 34 = .ok (.iload_n 2, 1) := by decide +kernel
theorem dX2_next_35 : decode cX2_next 35 = .ok (.invokevirtual 33, 3) := by decide +kernel
theorem dX2_next_38 : decode cX2_next 38 = .ok (.aload_n 0, 1) := by decide +kernel
theorem dX2_next_39 : decode cX2_next 39 = .ok (.getfield 18, 3) := by decide +kernel
theorem dX2_next_42 : decode cX2_next 42 = .ok (.bipush 10, 2) := by decide +kernel
theorem dX2_next_44 : decode cX2_next 44 = .ok (.iload_n 2, 1) := by decide +kernel
theorem dX2_next_45 : decode cX2_next 45 = .ok (.imul, 1) := by decide +kernel
theorem dX2_next_46 : decode cX2_next 46 = .ok (.iload_n 1, 1) := by decide +kernel
theorem dX2_next_47 : decode cX2_next 47 = .ok (.iadd, 1) := by decide +kernel
theorem dX2_next_48 : decode cX2_next 48 = .ok (.iaload, 1) := by decide +kernel
theorem dX2_next_49 : decode cX2_next 49 = .ok (.ireturn, 1) := by decide +kernel
theorem dX2_reach_0 : decode cX2_reach 0 = .ok (.bipush 10, 2) := by decide +kernel
theorem dX2_reach_2 : decode cX2_reach 2 = .ok (.iload_n 1, 1) := by decide +kernel
theorem dX2_reach_3 : decode cX2_reach 3 = .ok (.imul, 1) := by decide +kernel
theorem dX2_reach_4 : decode cX2_reach 4 = .ok (.istore_n 2, 1) := by decide +kernel
theorem dX2_reach_5 : decode cX2_reach 5 = .ok (.iconst 0, 1) := by decide +kernel
theorem dX2_reach_6 : decode cX2_reach 6 = .ok (.istore_n 3, 1) := by decide +kernel
theorem dX2_reach_7 : decode cX2_reach 7 = .ok (.iload_n 3, 1) := by decide +kernel
theorem dX2_reach_8 : decode cX2_reach 8 = .ok (.bipush 10, 2) := by decide +kernel
theorem dX2_reach_10 : decode cX2_reach 10 = .ok (.if_icmp .ge 27, 3) := by decide +kernel
theorem dX2_reach_13 : decode cX2_reach 13 = .ok (.aload_n 0, 1) := by decide +kernel
theorem dX2_reach_14 : decode cX2_reach 14 = .ok (.getfield 15, 3) := by decide +kernel
theorem dX2_reach_17 : decode cX2_reach 17 = .ok (.iload_n 2, 1) := by decide +kernel
theorem dX2_reach_18 : decode cX2_reach 18 = .ok (.iload_n 3, 1) := by decide +kernel
theorem dX2_reach_19 : decode cX2_reach 19 = .ok (.iadd, 1) := by decide +kernel
theorem dX2_reach_20 : decode cX2_reach 20 = .ok (.iconst (-1), 1) := by decide +kernel
theorem dX2_reach_21 : decode cX2_reach 21 = .ok (.iastore, 1) := by decide +kernel
theorem dX2_reach_22 : decode cX2_reach 22 = .ok (.aload_n 0, 1) := by decide +kernel
theorem dX2_reach_23 : decode cX2_reach 23 = .ok (.getfield 18, 3) := by decide +kernel
theorem dX2_reach_26 : decode cX2_reach 26 = .ok (.iload_n 2, 1) := by decide +kernel
theorem dX2_reach_27 : decode cX2_reach 27 = .ok (.iload_n 3, 1) := by decide +kernel
theorem dX2_reach_28 : decode cX2_reach 28 = .ok (.iadd, 1) := by decide +kernel
theorem dX2_reach_29 : decode cX2_reach 29 = .ok (.iconst (-1), 1) := by decide +kernel
theorem dX2_reach_30 : decode cX2_reach 30 = .ok (.iastore, 1) := by decide +kernel
theorem dX2_reach_31 : decode cX2_reach 31 = .ok (.iinc 3 1, 3) := by decide +kernel
theorem dX2_reach_34 : decode cX2_reach 34 = .ok (.goto (-27), 3) := by decide +kernel
theorem dX2_reach_37 : decode cX2_reach 37 = .ok (.aload_n 0, 1) := by decide +kernel
theorem dX2_reach_38 : decode cX2_reach 38 = .ok (.getfield 15, 3) := by decide +kernel
theorem dX2_reach_41 : decode cX2_reach 41 = .ok (.iload_n 2, 1) := by decide +kernel
theorem dX2_reach_42 : decode cX2_reach 42 = .ok (.iload_n 1, 1) := by decide +kernel
theorem dX2_reach_43 : decode cX2_reach 43 = .ok (.iadd, 1) := by decide +kernel
theorem dX2_reach_44 : decode cX2_reach 44 = .ok (.iconst 0, 1) := by decide +kernel
theorem dX2_reach_45 : decode cX2_reach 45 = .ok (.iastore, 1) := by decide +kernel
theorem dX2_reach_46 : decode cX2_reach 46 = .ok (.iconst 1, 1) := by decide +kernel
theorem dX2_reach_47 : decode cX2_reach 47 = .ok (.iload_n 1, 1) := by decide +kernel
theorem dX2_reach_48 : decode cX2_reach 48 = .ok (.ishl, 1) := by decide +kernel
theorem dX2_reach_49 : decode cX2_reach 49 = .ok (.iconst (-1), 1) := by decide +kernel
theorem dX2_reach_50 : decode cX2_reach 50 = .ok (.ixor, 1) := by decide +kernel
theorem dX2_reach_51 : decode cX2_reach 51 = .ok (.istore_n 3, 1) := by decide +kernel
theorem dX2_reach_52 : decode cX2_reach 52 = .ok (.iconst 1, 1) := by decide +kernel
theorem dX2_reach_53 : decode cX2_reach 53 = .ok (.iload_n 1, 1) := by decide +kernel
theorem dX2_reach_54 : decode cX2_reach 54 = .ok (.ishl, 1) := by decide +kernel
theorem dX2_reach_55 : decode cX2_reach 55 = .ok (.istore 4, 2) := by decide +kernel
theorem dX2_reach_57 : decode cX2_reach 57 = .ok (.iconst 1, 1) := by decide +kernel
theorem dX2_reach_58 : decode cX2_reach 58 = .ok (.istore 5, 2) := by decide +kernel
theorem dX2_reach_60 : decode cX2_reach 60 = .ok (.iload 5, 2) := by decide +kernel
theorem dX2_reach_62 : decode cX2_reach 62 = .ok (.bipush 10, 2) := by decide +kernel
theorem dX2_reach_64 : decode cX2_reach 64 = .ok (.if_icmp .ge 129, 3) := by decide +kernel
theorem dX2_reach_67 : decode cX2_reach 67 = .ok (.iload 4, 2) := by decide +kernel
theorem dX2_reach_69 : decode cX2_reach 69 = .ok (.ifCond .eq 124, 3) := by decide +kernel
theorem dX2_reach_72 : decode cX2_reach 72 = .ok (.iconst 0, 1) := by decide +kernel
theorem dX2_reach_73 : decode cX2_reach 73 = .ok (.istore 6, 2) := by decide +kernel
theorem dX2_reach_75 : decode cX2_reach 75 = .ok (.iconst 0, 1) := by decide +kernel
theorem dX2_reach_76 : decode cX2_reach 76 = .ok (.istore 7, 2) := by decide +kernel
theorem dX2_reach_78 : decode cX2_reach 78 = .ok (.iload 7, 2) := by decide +kernel
theorem dX2_reach_80 : decode cX2_reach 80 = .ok (.bipush 10, 2) := by decide +kernel
theorem dX2_reach_82 : decode cX2_reach 82 = .ok (.if_icmp .ge 101, 3) := by decide +kernel
theorem dX2_reach_85 : decode cX2_reach 85 = .ok (.iload 4, 2) := by decide +kernel
theorem dX2_reach_87 : decode cX2_reach 87 = .ok (.iload 7, 2) := by decide +kernel
theorem dX2_reach_89 : decode cX2_reach 89 = .ok (.ishr, 1) := by decide +kernel
theorem dX2_reach_90 : decode cX2_reach 90 = .ok (.iconst 1, 1) := by decide +kernel
theorem dX2_reach_91 : decode cX2_reach 91 = .ok (.iand, 1) := by decide +kernel
theorem dX2_reach_92 : decode cX2_reach 92 = .ok (.ifCond .eq 15, 3) := by decide +kernel
theorem dX2_reach_95 : decode cX2_reach 95 = .ok (.aload_n 0, 1) := by decide +kernel
theorem dX2_reach_96 : decode cX2_reach 96 = .ok (.getfield 9, 3) := by decide +kernel
theorem dX2_reach_99 : decode cX2_reach 99 = .ok (.iload 7, 2) := by decide +kernel
theorem dX2_reach_101 : decode cX2_reach 101 = .ok (.iaload, 1) := by decide +kernel
theorem dX2_reach_102 : decode cX2_reach 102 = .ok (.iload_n 3, 1) := by decide +kernel
theorem dX2_reach_103 : decode cX2_reach 103 = .ok (.iand, 1) := by decide +kernel
theorem dX2_reach_104 : decode cX2_reach 104 = .ok (.goto 4, 3) := by decide +kernel
theorem dX2_reach_107 : decode cX2_reach 107 = .ok (.iconst 0, 1) := by decide +kernel
theorem dX2_reach_108 : decode cX2_reach 108 = .ok (.istore 8, 2) := by decide +kernel
theorem dX2_reach_110 : decode cX2_reach 110 = .ok (.iconst 0, 1) := by decide +kernel
theorem dX2_reach_111 : decode cX2_reach 111 = .ok (.istore 9, 2) := by decide +kernel
theorem dX2_reach_113 : decode cX2_reach 113 = .ok (.iload 9, 2) := by decide +kernel
theorem dX2_reach_115 : decode cX2_reach 115 = .ok (.bipush 10, 2) := by decide +kernel
theorem dX2_reach_117 : decode cX2_reach 117 = .ok (.if_icmp .ge 46, 3) := by decide +kernel
theorem dX2_reach_120 : decode cX2_reach 120 = .ok (.iload 8, 2) := by decide +kernel
theorem dX2_reach_122 : decode cX2_reach 122 = .ok (.ifCond .eq 41, 3) := by decide +kernel
theorem dX2_reach_125 : decode cX2_reach 125 = .ok (.iload 8, 2) := by decide +kernel
theorem dX2_reach_127 : decode cX2_reach 127 = .ok (.iload 9, 2) := by decide +kernel
theorem dX2_reach_129 : decode cX2_reach 129 = .ok (.ishr, 1) := by decide +kernel
theorem dX2_reach_130 : decode cX2_reach 130 = .ok (.iconst 1, 1) := by decide +kernel
theorem dX2_reach_131 : decode cX2_reach 131 = .ok (.iand, 1) := by decide +kernel
theorem dX2_reach_132 : decode cX2_reach 132 = .ok (.ifCond .eq 25, 3) := by decide +kernel
theorem dX2_reach_135 : decode cX2_reach 135 = .ok (.aload_n 0, 1) := by decide +kernel
theorem dX2_reach_136 : decode cX2_reach 136 = .ok (.getfield 15, 3) := by decide +kernel
theorem dX2_reach_139 : decode cX2_reach 139 = .ok (.iload_n 2, 1) := by decide +kernel
theorem dX2_reach_140 : decode cX2_reach 140 = .ok (.iload 9, 2) := by decide +kernel
theorem dX2_reach_142 : decode cX2_reach 142 = .ok (.iadd, 1) := by decide +kernel
theorem dX2_reach_143 : decode cX2_reach 143 = .ok (.iload 5, 2) := by decide +kernel
theorem dX2_reach_145 : decode cX2_reach 145 = .ok (.iastore, 1) := by decide +kernel
theorem dX2_reach_146 : decode cX2_reach 146 = .ok (.aload_n 0, 1) := by decide +kernel
theorem dX2_reach_147 : decode cX2_reach 147 = .ok (.getfield 18, 3) := by decide +kernel
theorem dX2_reach_150 : decode cX2_reach 150 = .ok (.iload_n 2, 1) := by decide +kernel
theorem dX2_reach_151 : decode cX2_reach 151 = .ok (.iload 9, 2) := by decide +kernel
theorem dX2_reach_153 : decode cX2_reach 153 = .ok (.iadd, 1) := by decide +kernel
theorem dX2_reach_154 : decode cX2_reach 154 = .ok (.iload 7, 2) := by decide +kernel
theorem dX2_reach_156 : decode cX2_reach 156 = .ok (.iastore, 1) := by decide +kernel
theorem dX2_reach_157 : decode cX2_reach 157 = .ok (.iinc 9 1, 3) := by decide +kernel
theorem dX2_reach_160 : decode cX2_reach 160 = .ok (.goto (-47), 3) := by decide +kernel
theorem dX2_reach_163 : decode cX2_reach 163 = .ok (.iload_n 3, 1) := by decide +kernel
theorem dX2_reach_164 : decode cX2_reach 164 = .ok (.iload 8, 2) := by decide +kernel
theorem dX2_reach_166 : decode cX2_reach 166 = .ok (.iconst (-1), 1) := by decide +kernel
theorem dX2_reach_167 : decode cX2_reach 167 = .ok (.ixor, 1) := by decide +kernel
theorem dX2_reach_168 : decode cX2_reach 168 = .ok (.iand, 1) := by decide +kernel
theorem dX2_reach_169 : decode cX2_reach 169 = .ok (.istore_n 3, 1) := by decide +kernel
theorem dX2_reach_170 : decode cX2_reach 170 = .ok (.iload 6, 2) := by decide +kernel
theorem dX2_reach_172 : decode cX2_reach 172 = .ok (.iload 8, 2) := by decide +kernel
theorem dX2_reach_174 : decode cX2_reach 174 = .ok (.ior, 1) := by decide +kernel
theorem dX2_reach_175 : decode cX2_reach 175 = .ok (.istore 6, 2) := by decide +kernel
theorem dX2_reach_177 : decode cX2_reach 177 = .ok (.iinc 7 1, 3) := by decide +kernel
theorem dX2_reach_180 : decode cX2_reach 180 = .ok (.goto (-102), 3) := by decide +kernel
theorem dX2_reach_183 : decode cX2_reach 183 = .ok (.iload 6, 2) := by decide +kernel
theorem dX2_reach_185 : decode cX2_reach 185 = .ok (.istore 4, 2) := by decide +kernel
theorem dX2_reach_187 : decode cX2_reach 187 = .ok (.iinc 5 1, 3) := by decide +kernel
theorem dX2_reach_190 : decode cX2_reach 190 = .ok (.goto (-130), 3) := by decide +kernel
theorem dX2_reach_193 : decode cX2_reach 193 = .ok (.aload_n 0, 1) := by decide +kernel
theorem dX2_reach_194 : decode cX2_reach 194 = .ok (.dup, 1) := by decide +kernel
theorem dX2_reach_195 : decode cX2_reach 195 = .ok (.getfield 21, 3) := by decide +kernel
theorem dX2_reach_198 : decode cX2_reach 198 = .ok (.iconst 1, 1) := by decide +kernel
theorem dX2_reach_199 : decode cX2_reach 199 = .ok (.iload_n 1, 1) := by decide +kernel
theorem dX2_reach_200 : decode cX2_reach 200 = .ok (.ishl, 1) := by decide +kernel
theorem dX2_reach_201 : decode cX2_reach 201 = .ok (.ior, 1) := by decide +kernel
theorem dX2_reach_202 : decode cX2_reach 202 = .ok (.putfield 21, 3) := by decide +kernel
theorem dX2_reach_205 : decode cX2_reach 205 = .ok (.return_, 1) := by decide +kernel
theorem dX2_kinOf_0 : decode cX2_kinOf 0 = .ok (.iconst 0, 1) := by decide +kernel
theorem dX2_kinOf_1 : decode cX2_kinOf 1 = .ok (.istore_n 2, 1) := by decide +kernel
theorem dX2_kinOf_2 : decode cX2_kinOf 2 = .ok (.iconst 0, 1) := by decide +kernel
theorem dX2_kinOf_3 : decode cX2_kinOf 3 = .ok (.istore_n 3, 1) := by decide +kernel
theorem dX2_kinOf_4 : decode cX2_kinOf 4 = .ok (.iload_n 3, 1) := by decide +kernel
theorem dX2_kinOf_5 : decode cX2_kinOf 5 = .ok (.bipush 10, 2) := by decide +kernel
theorem dX2_kinOf_7 : decode cX2_kinOf 7 = .ok (.if_icmp .ge 25, 3) := by decide +kernel
theorem dX2_kinOf_10 : decode cX2_kinOf 10 = .ok (.aload_n 0, 1) := by decide +kernel
theorem dX2_kinOf_11 : decode cX2_kinOf 11 = .ok (.iload_n 3, 1) := by decide +kernel
theorem dX2_kinOf_12 : decode cX2_kinOf 12 = .ok (.iload_n 1, 1) := by decide +kernel
theorem dX2_kinOf_13 : decode cX2_kinOf 13 = .ok (.invokevirtual 37, 3) := by decide +kernel
theorem dX2_kinOf_16 : decode cX2_kinOf 16 = .ok (.iconst (-1), 1) := by decide +kernel
theorem dX2_kinOf_17 : decode cX2_kinOf 17 = .ok (.if_icmp .eq 9, 3) := by decide +kernel
theorem dX2_kinOf_20 : decode cX2_kinOf 20 = .ok (.iload_n 2, 1) := by decide +kernel
theorem dX2_kinOf_21 : decode cX2_kinOf 21 = .ok (.iconst 1, 1) := by decide +kernel
theorem dX2_kinOf_22 : decode cX2_kinOf 22 = .ok (.iload_n 3, 1) := by decide +kernel
theorem dX2_kinOf_23 : decode cX2_kinOf 23 = .ok (.ishl, 1) := by decide +kernel
theorem dX2_kinOf_24 : decode cX2_kinOf 24 = .ok (.ior, 1) := by decide +kernel
theorem dX2_kinOf_25 : decode cX2_kinOf 25 = .ok (.istore_n 2, 1) := by decide +kernel
theorem dX2_kinOf_26 : decode cX2_kinOf 26 = .ok (.iinc 3 1, 3) := by decide +kernel
theorem dX2_kinOf_29 : decode cX2_kinOf 29 = .ok (.goto (-25), 3) := by decide +kernel
theorem dX2_kinOf_32 : decode cX2_kinOf 32 = .ok (.iload_n 2, 1) := by decide +kernel
theorem dX2_kinOf_33 : decode cX2_kinOf 33 = .ok (.ireturn, 1) := by decide +kernel
theorem dX2_kinds_0 : decode cX2_kinds 0 = .ok (.iconst 0, 1) := by decide +kernel
theorem dX2_kinds_1 : decode cX2_kinds 1 = .ok (.istore_n 1, 1) := by decide +kernel
theorem dX2_kinds_2 : decode cX2_kinds 2 = .ok (.iconst 0, 1) := by decide +kernel
theorem dX2_kinds_3 : decode cX2_kinds 3 = .ok (.istore_n 2, 1) := by decide +kernel
theorem dX2_kinds_4 : decode cX2_kinds 4 = .ok (.iload_n 2, 1) := by decide +kernel
theorem dX2_kinds_5 : decode cX2_kinds 5 = .ok (.bipush 10, 2) := by decide +kernel
theorem dX2_kinds_7 : decode cX2_kinds 7 = .ok (.if_icmp .ge 31, 3) := by decide +kernel
theorem dX2_kinds_10 : decode cX2_kinds 10 = .ok (.iload_n 1, 1) := by decide +kernel
theorem dX2_kinds_11 : decode cX2_kinds 11 = .ok (.aload_n 0, 1) := by decide +kernel
theorem dX2_kinds_12 : decode cX2_kinds 12 = .ok (.iload_n 2, 1) := by decide +kernel
theorem dX2_kinds_13 : decode cX2_kinds 13 = .ok (.invokevirtual 41, 3) := by decide +kernel
theorem dX2_kinds_16 : decode cX2_kinds 16 = .ok (.iconst 1, 1) := by decide +kernel
theorem dX2_kinds_17 : decode cX2_kinds 17 = .ok (.iload_n 2, 1) := by decide +kernel
theorem dX2_kinds_18 : decode cX2_kinds 18 = .ok (.ishl, 1) := by decide +kernel
theorem dX2_kinds_19 : decode cX2_kinds 19 = .ok (.iconst 1, 1) := by decide +kernel
theorem dX2_kinds_20 : decode cX2_kinds 20 = .ok (.isub, 1) := by decide +kernel
theorem dX2_kinds_21 : decode cX2_kinds 21 = .ok (.iand, 1) := by decide +kernel
theorem dX2_kinds_22 : decode cX2_kinds 22 = .ok (.ifCond .ne 7, 3) := by decide +kernel
theorem dX2_kinds_25 : decode cX2_kinds 25 = .ok (.iconst 1, 1) := by decide +kernel
theorem dX2_kinds_26 : decode cX2_kinds 26 = .ok (.goto 4, 3) := by decide +kernel
theorem dX2_kinds_29 : decode cX2_kinds 29 = .ok (.iconst 0, 1) := by decide +kernel
theorem dX2_kinds_30 : decode cX2_kinds 30 = .ok (.iadd, 1) := by decide +kernel
theorem dX2_kinds_31 : decode cX2_kinds 31 = .ok (.istore_n 1, 1) := by decide +kernel
theorem dX2_kinds_32 : decode cX2_kinds 32 = .ok (.iinc 2 1, 3) := by decide +kernel
theorem dX2_kinds_35 : decode cX2_kinds 35 = .ok (.goto (-31), 3) := by decide +kernel
theorem dX2_kinds_38 : decode cX2_kinds 38 = .ok (.iload_n 1, 1) := by decide +kernel
theorem dX2_kinds_39 : decode cX2_kinds 39 = .ok (.ireturn, 1) := by decide +kernel
theorem dX2_largest_0 : decode cX2_largest 0 = .ok (.iconst 0, 1) := by decide +kernel
theorem dX2_largest_1 : decode cX2_largest 1 = .ok (.istore_n 1, 1) := by decide +kernel
theorem dX2_largest_2 : decode cX2_largest 2 = .ok (.iconst 0, 1) := by decide +kernel
theorem dX2_largest_3 : decode cX2_largest 3 = .ok (.istore_n 2, 1) := by decide +kernel
theorem dX2_largest_4 : decode cX2_largest 4 = .ok (.iload_n 2, 1) := by decide +kernel
theorem dX2_largest_5 : decode cX2_largest 5 = .ok (.bipush 10, 2) := by decide +kernel
theorem dX2_largest_7 : decode cX2_largest 7 = .ok (.if_icmp .ge 22, 3) := by decide +kernel
theorem dX2_largest_10 : decode cX2_largest 10 = .ok (.iload_n 1, 1) := by decide +kernel
theorem dX2_largest_11 : decode cX2_largest 11 = .ok (.aload_n 0, 1) := by decide +kernel
theorem dX2_largest_12 : decode cX2_largest 12 = .ok (.iload_n 2, 1) := by decide +kernel
theorem dX2_largest_13 : decode cX2_largest 13 = .ok (.invokevirtual 41, 3) := by decide +kernel
theorem dX2_largest_16 : decode cX2_largest 16 = .ok (.invokestatic 45, 3) := by decide +kernel
theorem dX2_largest_19 : decode cX2_largest 19 = .ok (.invokestatic 50, 3) := by decide +kernel
theorem dX2_largest_22 : decode cX2_largest 22 = .ok (.istore_n 1, 1) := by decide +kernel
theorem dX2_largest_23 : decode cX2_largest 23 = .ok (.iinc 2 1, 3) := by decide +kernel
theorem dX2_largest_26 : decode cX2_largest 26 = .ok (.goto (-22), 3) := by decide +kernel
theorem dX2_largest_29 : decode cX2_largest 29 = .ok (.iload_n 1, 1) := by decide +kernel
theorem dX2_largest_30 : decode cX2_largest 30 = .ok (.ireturn, 1) := by decide +kernel
theorem dX2_widest_0 : decode cX2_widest 0 = .ok (.iconst 0, 1) := by decide +kernel
theorem dX2_widest_1 : decode cX2_widest 1 = .ok (.istore_n 1, 1) := by decide +kernel
theorem dX2_widest_2 : decode cX2_widest 2 = .ok (.iconst 0, 1) := by decide +kernel
theorem dX2_widest_3 : decode cX2_widest 3 = .ok (.istore_n 2, 1) := by decide +kernel
theorem dX2_widest_4 : decode cX2_widest 4 = .ok (.iload_n 2, 1) := by decide +kernel
theorem dX2_widest_5 : decode cX2_widest 5 = .ok (.bipush 10, 2) := by decide +kernel
theorem dX2_widest_7 : decode cX2_widest 7 = .ok (.if_icmp .ge 34, 3) := by decide +kernel
theorem dX2_widest_10 : decode cX2_widest 10 = .ok (.iconst 0, 1) := by decide +kernel
theorem dX2_widest_11 : decode cX2_widest 11 = .ok (.istore_n 3, 1) := by decide +kernel
theorem dX2_widest_12 : decode cX2_widest 12 = .ok (.iload_n 3, 1) := by decide +kernel
theorem dX2_widest_13 : decode cX2_widest 13 = .ok (.bipush 10, 2) := by decide +kernel
theorem dX2_widest_15 : decode cX2_widest 15 = .ok (.if_icmp .ge 20, 3) := by decide +kernel
theorem dX2_widest_18 : decode cX2_widest 18 = .ok (.iload_n 1, 1) := by decide +kernel
theorem dX2_widest_19 : decode cX2_widest 19 = .ok (.aload_n 0, 1) := by decide +kernel
theorem dX2_widest_20 : decode cX2_widest 20 = .ok (.iload_n 2, 1) := by decide +kernel
theorem dX2_widest_21 : decode cX2_widest 21 = .ok (.iload_n 3, 1) := by decide +kernel
theorem dX2_widest_22 : decode cX2_widest 22 = .ok (.invokevirtual 37, 3) := by decide +kernel
theorem dX2_widest_25 : decode cX2_widest 25 = .ok (.invokestatic 50, 3) := by decide +kernel
theorem dX2_widest_28 : decode cX2_widest 28 = .ok (.istore_n 1, 1) := by decide +kernel
theorem dX2_widest_29 : decode cX2_widest 29 = .ok (.iinc 3 1, 3) := by decide +kernel
theorem dX2_widest_32 : decode cX2_widest 32 = .ok (.goto (-20), 3) := by decide +kernel
theorem dX2_widest_35 : decode cX2_widest 35 = .ok (.iinc 2 1, 3) := by decide +kernel
theorem dX2_widest_38 : decode cX2_widest 38 = .ok (.goto (-34), 3) := by decide +kernel
theorem dX2_widest_41 : decode cX2_widest 41 = .ok (.iload_n 1, 1) := by decide +kernel
theorem dX2_widest_42 : decode cX2_widest 42 = .ok (.ireturn, 1) := by decide +kernel
theorem dX2_lone_0 : decode cX2_lone 0 = .ok (.iconst 0, 1) := by decide +kernel
theorem dX2_lone_1 : decode cX2_lone 1 = .ok (.istore_n 1, 1) := by decide +kernel
theorem dX2_lone_2 : decode cX2_lone 2 = .ok (.iconst 0, 1) := by decide +kernel
theorem dX2_lone_3 : decode cX2_lone 3 = .ok (.istore_n 2, 1) := by decide +kernel
theorem dX2_lone_4 : decode cX2_lone 4 = .ok (.iload_n 2, 1) := by decide +kernel
theorem dX2_lone_5 : decode cX2_lone 5 = .ok (.bipush 10, 2) := by decide +kernel
theorem dX2_lone_7 : decode cX2_lone 7 = .ok (.if_icmp .ge 28, 3) := by decide +kernel
theorem dX2_lone_10 : decode cX2_lone 10 = .ok (.iload_n 1, 1) := by decide +kernel
theorem dX2_lone_11 : decode cX2_lone 11 = .ok (.aload_n 0, 1) := by decide +kernel
theorem dX2_lone_12 : decode cX2_lone 12 = .ok (.getfield 9, 3) := by decide +kernel
theorem dX2_lone_15 : decode cX2_lone 15 = .ok (.iload_n 2, 1) := by decide +kernel
theorem dX2_lone_16 : decode cX2_lone 16 = .ok (.iaload, 1) := by decide +kernel
theorem dX2_lone_17 : decode cX2_lone 17 = .ok (.ifCond .ne 9, 3) := by decide +kernel
theorem dX2_lone_20 : decode cX2_lone 20 = .ok (.iconst 1, 1) := by decide +kernel
theorem dX2_lone_21 : decode cX2_lone 21 = .ok (.iload_n 2, 1) := by decide +kernel
theorem dX2_lone_22 : decode cX2_lone 22 = .ok (.ishl, 1) := by decide +kernel
theorem dX2_lone_23 : decode cX2_lone 23 = .ok (.goto 4, 3) := by decide +kernel
theorem dX2_lone_26 : decode cX2_lone 26 = .ok (.iconst 0, 1) := by decide +kernel
theorem dX2_lone_27 : decode cX2_lone 27 = .ok (.ior, 1) := by decide +kernel
theorem dX2_lone_28 : decode cX2_lone 28 = .ok (.istore_n 1, 1) := by decide +kernel
theorem dX2_lone_29 : decode cX2_lone 29 = .ok (.iinc 2 1, 3) := by decide +kernel
theorem dX2_lone_32 : decode cX2_lone 32 = .ok (.goto (-28), 3) := by decide +kernel
theorem dX2_lone_35 : decode cX2_lone 35 = .ok (.iload_n 1, 1) := by decide +kernel
theorem dX2_lone_36 : decode cX2_lone 36 = .ok (.ireturn, 1) := by decide +kernel
theorem dX3_init_0 : decode cX3_init 0 = .ok (.aload_n 0, 1) := by decide +kernel
theorem dX3_init_1 : decode cX3_init 1 = .ok (.invokespecial 3, 3) := by decide +kernel
theorem dX3_init_4 : decode cX3_init 4 = .ok (.aload_n 0, 1) := by decide +kernel
theorem dX3_init_5 : decode cX3_init 5 = .ok (.new 9, 3) := by decide +kernel
theorem dX3_init_8 : decode cX3_init 8 = .ok (.dup, 1) := by decide +kernel
theorem dX3_init_9 : decode cX3_init 9 = .ok (.invokespecial 11, 3) := by decide +kernel
theorem dX3_init_12 : decode cX3_init 12 = .ok (.putfield 12, 3) := by decide +kernel
theorem dX3_init_15 : decode cX3_init 15 = .ok (.aload_n 0, 1) := by decide +kernel
theorem dX3_init_16 : decode cX3_init 16 = .ok (.bipush 6, 2) := by decide +kernel
theorem dX3_init_18 : decode cX3_init 18 = .ok (.newarray .int, 2) := by decide +kernel
theorem dX3_init_20 : decode cX3_init 20 = .ok (.putfield 18, 3) := by decide +kernel
theorem dX3_init_23 : decode cX3_init 23 = .ok (.aload_n 0, 1) := by decide +kernel
theorem dX3_init_24 : decode cX3_init 24 = .ok (.bipush 6, 2) := by decide +kernel
theorem dX3_init_26 : decode cX3_init 26 = .ok (.newarray .int, 2) := by decide +kernel
theorem dX3_init_28 : decode cX3_init 28 = .ok (.putfield 22, 3) := by decide +kernel
theorem dX3_init_31 : decode cX3_init 31 = .ok (.aload_n 0, 1) := by decide +kernel
theorem dX3_init_32 : decode cX3_init 32 = .ok (.bipush 48, 2) := by decide +kernel
theorem dX3_init_34 : decode cX3_init 34 = .ok (.newarray .int, 2) := by decide +kernel
theorem dX3_init_36 : decode cX3_init 36 = .ok (.putfield 25, 3) := by decide +kernel
theorem dX3_init_39 : decode cX3_init 39 = .ok (.return_, 1) := by decide +kernel
theorem dX3_clear_0 : decode cX3_clear 0 = .ok (.aload_n 0, 1) := by decide +kernel
theorem dX3_clear_1 : decode cX3_clear 1 = .ok (.iconst 0, 1) := by decide +kernel
theorem dX3_clear_2 : decode cX3_clear 2 = .ok (.putfield 28, 3) := by decide +kernel
theorem dX3_clear_5 : decode cX3_clear 5 = .ok (.aload_n 0, 1) := by decide +kernel
theorem dX3_clear_6 : decode cX3_clear 6 = .ok (.iconst 0, 1) := by decide +kernel
theorem dX3_clear_7 : decode cX3_clear 7 = .ok (.putfield 32, 3) := by decide +kernel
theorem dX3_clear_10 : decode cX3_clear 10 = .ok (.aload_n 0, 1) := by decide +kernel
theorem dX3_clear_11 : decode cX3_clear 11 = .ok (.iconst 0, 1) := by decide +kernel
theorem dX3_clear_12 : decode cX3_clear 12 = .ok (.putfield 35, 3) := by decide +kernel
theorem dX3_clear_15 : decode cX3_clear 15 = .ok (.aload_n 0, 1) := by decide +kernel
theorem dX3_clear_16 : decode cX3_clear 16 = .ok (.getfield 12, 3) := by decide +kernel
theorem dX3_clear_19 : decode cX3_clear 19 = .ok (.invokevirtual 38, 3) := by decide +kernel
theorem dX3_clear_22 : decode cX3_clear 22 = .ok (.iconst 0, 1) := by decide +kernel
theorem dX3_clear_23 : decode cX3_clear 23 = .ok (.istore_n 1, 1) := by decide +kernel
theorem dX3_clear_24 : decode cX3_clear 24 = .ok (.iload_n 1, 1) := by decide +kernel
theorem dX3_clear_25 : decode cX3_clear 25 = .ok (.aload_n 0, 1) := by decide +kernel
theorem dX3_clear_26 : decode cX3_clear 26 = .ok (.getfield 25, 3) := by decide +kernel
theorem dX3_clear_29 : decode cX3_clear 29 = .ok (.arraylength, 1) := by decide +kernel
theorem dX3_clear_30 : decode cX3_clear 30 = .ok (.if_icmp .ge 17, 3) := by decide +kernel
theorem dX3_clear_33 : decode cX3_clear 33 = .ok (.aload_n 0, 1) := by decide +kernel
theorem dX3_clear_34 : decode cX3_clear 34 = .ok (.getfield 25, 3) := by decide +kernel
theorem dX3_clear_37 : decode cX3_clear 37 = .ok (.iload_n 1, 1) := by decide +kernel
theorem dX3_clear_38 : decode cX3_clear 38 = .ok (.bipush 10, 2) := by decide +kernel
theorem dX3_clear_40 : decode cX3_clear 40 = .ok (.iastore, 1) := by decide +kernel
theorem dX3_clear_41 : decode cX3_clear 41 = .ok (.iinc 1 1, 3) := by decide +kernel
theorem dX3_clear_44 : decode cX3_clear 44 = .ok (.goto (-20), 3) := by decide +kernel
theorem dX3_clear_47 : decode cX3_clear 47 = .ok (.return_, 1) := by decide +kernel
theorem dX3_copy_0 : decode cX3_copy 0 = .ok (.aload_n 0, 1) := by decide +kernel
theorem dX3_copy_1 : decode cX3_copy 1 = .ok (.aload_n 1, 1) := by decide +kernel
theorem dX3_copy_2 : decode cX3_copy 2 = .ok (.getfield 28, 3) := by decide +kernel
theorem dX3_copy_5 : decode cX3_copy 5 = .ok (.putfield 28, 3) := by decide +kernel
theorem dX3_copy_8 : decode cX3_copy 8 = .ok (.aload_n 0, 1) := by decide +kernel
theorem dX3_copy_9 : decode cX3_copy 9 = .ok (.aload_n 1, 1) := by decide +kernel
theorem dX3_copy_10 : decode cX3_copy 10 = .ok (.getfield 32, 3) := by decide +kernel
theorem dX3_copy_13 : decode cX3_copy 13 = .ok (.putfield 32, 3) := by decide +kernel
theorem dX3_copy_16 : decode cX3_copy 16 = .ok (.aload_n 0, 1) := by decide +kernel
theorem dX3_copy_17 : decode cX3_copy 17 = .ok (.aload_n 1, 1) := by decide +kernel
theorem dX3_copy_18 : decode cX3_copy 18 = .ok (.getfield 35, 3) := by decide +kernel
theorem dX3_copy_21 : decode cX3_copy 21 = .ok (.putfield 35, 3) := by decide +kernel
theorem dX3_copy_24 : decode cX3_copy 24 = .ok (.aload_n 0, 1) := by decide +kernel
theorem dX3_copy_25 : decode cX3_copy 25 = .ok (.getfield 12, 3) := by decide +kernel
theorem dX3_copy_28 : decode cX3_copy 28 = .ok (.aload_n 1, 1) := by decide +kernel
theorem dX3_copy_29 : decode cX3_copy 29 = .ok (.getfield 12, 3) := by decide +kernel
theorem dX3_copy_32 : decode cX3_copy 32 = .ok (.invokevirtual 41, 3) := by decide +kernel
theorem dX3_copy_35 : decode cX3_copy 35 = .ok (.aload_n 1, 1) := by decide +kernel
theorem dX3_copy_36 : decode cX3_copy 36 = .ok (.getfield 18, 3) := by decide +kernel
theorem dX3_copy_39 : decode cX3_copy 39 = .ok (.aload_n 0, 1) := by decide +kernel
theorem dX3_copy_40 : decode cX3_copy 40 = .ok (.getfield 18, 3) := by decide +kernel
theorem dX3_copy_43 : decode cX3_copy 43 = .ok (.invokestatic 45, 3) := by decide +kernel
theorem dX3_copy_46 : decode cX3_copy 46 = .ok (.aload_n 1, 1) := by decide +kernel
theorem dX3_copy_47 : decode cX3_copy 47 = .ok (.getfield 22, 3) := by decide +kernel
theorem dX3_copy_50 : decode cX3_copy 50 = .ok (.aload_n 0, 1) := by decide +kernel
theorem dX3_copy_51 : decode cX3_copy 51 = .ok (.getfield 22, 3) := by decide +kernel
theorem dX3_copy_54 : decode cX3_copy 54 = .ok (.invokestatic 45, 3) := by decide +kernel
theorem dX3_copy_57 : decode cX3_copy 57 = .ok (.aload_n 1, 1) := by decide +kernel
theorem dX3_copy_58 : decode cX3_copy 58 = .ok (.getfield 25, 3) := by decide +kernel
theorem dX3_copy_61 : decode cX3_copy 61 = .ok (.aload_n 0, 1) := by decide +kernel
theorem dX3_copy_62 : decode cX3_copy 62 = .ok (.getfield 25, 3) := by decide +kernel
theorem dX3_copy_65 : decode cX3_copy 65 = .ok (.invokestatic 45, 3) := by decide +kernel
theorem dX3_copy_68 : decode cX3_copy 68 = .ok (.return_, 1) := by decide +kernel
theorem dX3_addPlace_0 : decode cX3_addPlace 0 = .ok (.aload_n 0, 1) := by decide +kernel
theorem dX3_addPlace_1 : decode cX3_addPlace 1 = .ok (.getfield 32, 3) := by decide +kernel
theorem dX3_addPlace_4 : decode cX3_addPlace 4 = .ok (.bipush 8, 2) := by decide +kernel
theorem dX3_addPlace_6 : decode cX3_addPlace 6 = .ok (.if_icmp .ge 29, 3) := by decide +kernel
theorem dX3_addPlace_9 : decode cX3_addPlace 9 = .ok (.aload_n 0, 1) := by decide +kernel
theorem dX3_addPlace_10 : decode cX3_addPlace 10 = .ok (.aload_n 0, 1) := by decide +kernel
theorem dX3_addPlace_11 : decode cX3_addPlace 11 = .ok (.getfield 28, 3) := by decide +kernel
theorem dX3_addPlace_14 : decode cX3_addPlace 14 = .ok (.aload_n 0, 1) := by decide +kernel
theorem dX3_addPlace_15 : decode cX3_addPlace 15 = .ok (.getfield 32, 3) := by decide +kernel
theorem dX3_addPlace_18 : decode cX3_addPlace 18 = .ok (.iload_n 1, 1) := by decide +kernel
theorem dX3_addPlace_19 : decode cX3_addPlace 19 = .ok (.invokestatic 49, 3) := by decide +kernel
theorem dX3_addPlace_22 : decode cX3_addPlace 22 = .ok (.putfield 28, 3) := by decide +kernel
theorem dX3_addPlace_25 : decode cX3_addPlace 25 = .ok (.aload_n 0, 1) := by decide +kernel
theorem dX3_addPlace_26 : decode cX3_addPlace 26 = .ok (.dup, 1) := by decide +kernel
theorem dX3_addPlace_27 : decode cX3_addPlace 27 = .ok (.getfield 32, 3) := by decide +kernel
theorem dX3_addPlace_30 : decode cX3_addPlace 30 = .ok (.iconst 1, 1) := by decide +kernel
theorem dX3_addPlace_31 : decode cX3_addPlace 31 = .ok (.iadd, 1) := by decide +kernel
theorem dX3_addPlace_32 : decode cX3_addPlace 32 = .ok (.putfield 32, 3) := by decide +kernel
theorem dX3_addPlace_35 : decode cX3_addPlace 35 = .ok (.return_, 1) := by decide +kernel
theorem dX3_addReader_0 : decode cX3_addReader 0 = .ok (.aload_n 0, 1) := by decide +kernel
theorem dX3_addReader_1 : decode cX3_addReader 1 = .ok (.getfield 35, 3) := by decide +kernel
theorem dX3_addReader_4 : decode cX3_addReader 4 = .ok (.bipush 6, 2) := by decide +kernel
theorem dX3_addReader_6 : decode cX3_addReader 6 = .ok (.if_icmp .ge 33, 3) := by decide +kernel
theorem dX3_addReader_9 : decode cX3_addReader 9 = .ok (.aload_n 0, 1) := by decide +kernel
theorem dX3_addReader_10 : decode cX3_addReader 10 = .ok (.getfield 18, 3) := by decide +kernel
theorem dX3_addReader_13 : decode cX3_addReader 13 = .ok (.aload_n 0, 1) := by decide +kernel
theorem dX3_addReader_14 : decode cX3_addReader 14 = .ok (.getfield 35, 3) := by decide +kernel
theorem dX3_addReader_17 : decode cX3_addReader 17 = .ok (.iload_n 1, 1) := by decide +kernel
theorem dX3_addReader_18 : decode cX3_addReader 18 = .ok (.iastore, 1) := by decide +kernel
theorem dX3_addReader_19 : decode cX3_addReader 19 = .ok (.aload_n 0, 1) := by decide +kernel
theorem dX3_addReader_20 : decode cX3_addReader 20 = .ok (.getfield 22, 3) := by decide +kernel
theorem dX3_addReader_23 : decode cX3_addReader 23 = .ok (.aload_n 0, 1) := by decide +kernel
theorem dX3_addReader_24 : decode cX3_addReader 24 = .ok (.getfield 35, 3) := by decide +kernel
theorem dX3_addReader_27 : decode cX3_addReader 27 = .ok (.iload_n 2, 1) := by decide +kernel
theorem dX3_addReader_28 : decode cX3_addReader 28 = .ok (.iastore, 1) := by decide +kernel
theorem dX3_addReader_29 : decode cX3_addReader 29 = .ok (.aload_n 0, 1) := by decide +kernel
theorem dX3_addReader_30 : decode cX3_addReader 30 = .ok (.dup, 1) := by decide +kernel
theorem dX3_addReader_31 : decode cX3_addReader 31 = .ok (.getfield 35, 3) := by decide +kernel
theorem dX3_addReader_34 : decode cX3_addReader 34 = .ok (.iconst 1, 1) := by decide +kernel
theorem dX3_addReader_35 : decode cX3_addReader 35 = .ok (.iadd, 1) := by decide +kernel
theorem dX3_addReader_36 : decode cX3_addReader 36 = .ok (.putfield 35, 3) := by decide +kernel
theorem dX3_addReader_39 : decode cX3_addReader 39 = .ok (.return_, 1) := by decide +kernel
theorem dX3_want_0 : decode cX3_want 0 = .ok (.iload_n 1, 1) := by decide +kernel
theorem dX3_want_1 : decode cX3_want 1 = .ok (.ifCond .lt 31, 3) := by decide +kernel
theorem dX3_want_4 : decode cX3_want 4 = .ok (.iload_n 1, 1) := by decide +kernel
theorem dX3_want_5 : decode cX3_want 5 = .ok (.bipush 6, 2) := by decide +kernel
theorem dX3_want_7 : decode cX3_want 7 = .ok (.if_icmp .ge 25, 3) := by decide +kernel
theorem dX3_want_10 : decode cX3_want 10 = .ok (.iload_n 2, 1) := by decide +kernel
theorem dX3_want_11 : decode cX3_want 11 = .ok (.ifCond .lt 21, 3) := by decide +kernel
theorem dX3_want_14 : decode cX3_want 14 = .ok (.iload_n 2, 1) := by decide +kernel
theorem dX3_want_15 : decode cX3_want 15 = .ok (.bipush 8, 2) := by decide +kernel
theorem dX3_want_17 : decode cX3_want 17 = .ok (.if_icmp .ge 15, 3) := by decide +kernel
theorem dX3_want_20 : decode cX3_want 20 = .ok (.aload_n 0, 1) := by decide +kernel
theorem dX3_want_21 : decode cX3_want 21 = .ok (.getfield 25, 3) := by decide +kernel
theorem dX3_want_24 : decode cX3_want 24 = .ok (.bipush 8, 2) := by decide +kernel
theorem dX3_want_26 : decode cX3_want 26 = .ok (.iload_n 1, 1) := by decide +kernel
theorem dX3_want_27 : decode cX3_want 27 = .ok (.imul, 1) := by decide +kernel
theorem dX3_want_28 : decode cX3_want 28 = .ok (.iload_n 2, 1) := by decide +kernel
theorem dX3_want_29 : decode cX3_want 29 = .ok (.iadd, 1) := by decide +kernel
theorem dX3_want_30 : decode cX3_want 30 = .ok (.iload_n 3, 1) := by decide +kernel
theorem dX3_want_31 : decode cX3_want 31 = .ok (.iastore, 1) := by decide +kernel
theorem dX3_want_32 : decode cX3_want 32 = .ok (.return_, 1) := by decide +kernel
theorem dX3_wish_0 : decode cX3_wish 0 = .ok (.iload_n 1, 1) := by decide +kernel
theorem dX3_wish_1 : decode cX3_wish 1 = .ok (.ifCond .lt 19, 3) := by decide +kernel
theorem dX3_wish_4 : decode cX3_wish 4 = .ok (.iload_n 1, 1) := by decide +kernel
theorem dX3_wish_5 : decode cX3_wish 5 = .ok (.bipush 6, 2) := by decide +kernel
theorem dX3_wish_7 : decode cX3_wish 7 = .ok (.if_icmp .ge 13, 3) := by decide +kernel
theorem dX3_wish_10 : decode cX3_wish 10 = .ok (.iload_n 2, 1) := by decide +kernel
theorem dX3_wish_11 : decode cX3_wish 11 = .ok (.ifCond .lt 9, 3) := by decide +kernel
theorem dX3_wish_14 : decode cX3_wish 14 = .ok (.iload_n 2, 1) := by decide +kernel
theorem dX3_wish_15 : decode cX3_wish 15 = .ok (.bipush 8, 2) := by decide +kernel
theorem dX3_wish_17 : decode cX3_wish 17 = .ok (.if_icmp .lt 6, 3) := by decide +kernel
theorem dX3_wish_20 : decode cX3_wish 20 = .ok (.bipush 10, 2) := by decide +kernel
theorem dX3_wish_22 : decode cX3_wish 22 = .ok (.ireturn, 1) := by decide +kernel
theorem dX3_wish_23 : decode cX3_wish 23 = .ok (.aload_n 0, 1) := by decide +kernel
theorem dX3_wish_24 : decode cX3_wish 24 = .ok (.getfield 25, 3) := by decide +kernel
theorem dX3_wish_27 : decode cX3_wish 27 = .ok (.bipush 8, 2) := by decide +kernel
theorem dX3_wish_29 : decode cX3_wish 29 = .ok (.iload_n 1, 1) := by decide +kernel
theorem dX3_wish_30 : decode cX3_wish 30 = .ok (.imul, 1) := by decide +kernel
theorem dX3_wish_31 : decode cX3_wish 31 = .ok (.iload_n 2, 1) := by decide +kernel
theorem dX3_wish_32 : decode cX3_wish 32 = .ok (.iadd, 1) := by decide +kernel
theorem dX3_wish_33 : decode cX3_wish 33 = .ok (.iaload, 1) := by decide +kernel
theorem dX3_wish_34 : decode cX3_wish 34 = .ok (.ireturn, 1) := by decide +kernel
theorem dX3_tell_0 : decode cX3_tell 0 = .ok (.iload_n 1, 1) := by decide +kernel
theorem dX3_tell_1 : decode cX3_tell 1 = .ok (.ifCond .ge 5, 3) := by decide +kernel
theorem dX3_tell_4 : decode cX3_tell 4 = .ok (.iconst (-1), 1) := by decide +kernel
theorem dX3_tell_5 : decode cX3_tell 5 = .ok (.ireturn, 1) := by decide +kernel
theorem dX3_tell_6 : decode cX3_tell 6 = .ok (.iload_n 1, 1) := by decide +kernel
theorem dX3_tell_7 : decode cX3_tell 7 = .ok (.bipush 10, 2) := by decide +kernel
theorem dX3_tell_9 : decode cX3_tell 9 = .ok (.irem, 1) := by decide +kernel
theorem dX3_tell_10 : decode cX3_tell 10 = .ok (.istore_n 2, 1) := by decide +kernel
theorem dX3_tell_11 : decode cX3_tell 11 = .ok (.iload_n 1, 1) := by decide +kernel
theorem dX3_tell_12 : decode cX3_tell 12 = .ok (.bipush 10, 2) := by decide +kernel
theorem dX3_tell_14 : decode cX3_tell 14 = .ok (.idiv, 1) := by decide +kernel
theorem dX3_tell_15 : decode cX3_tell 15 = .ok (.tableswitch 127 0 4 #[33, 58, 79, 89, 108], 33) := by decide +kernel
theorem dX3_tell_48 : decode cX3_tell 48 = .ok (.iload_n 2, 1) := by decide +kernel
theorem dX3_tell_49 : decode cX3_tell 49 = .ok (.ifCond .ne 10, 3) := by decide +kernel
theorem dX3_tell_52 : decode cX3_tell 52 = .ok (.aload_n 0, 1) := by decide +kernel
theorem dX3_tell_53 : decode cX3_tell 53 = .ok (.getfield 32, 3) := by decide +kernel
theorem dX3_tell_56 : decode cX3_tell 56 = .ok (.goto 16, 3) := by decide +kernel
theorem dX3_tell_59 : decode cX3_tell 59 = .ok (.iload_n 2, 1) := by decide +kernel
theorem dX3_tell_60 : decode cX3_tell 60 = .ok (.iconst 1, 1) := by decide +kernel
theorem dX3_tell_61 : decode cX3_tell 61 = .ok (.if_icmp .ne 10, 3) := by decide +kernel
theorem dX3_tell_64 : decode cX3_tell 64 = .ok (.aload_n 0, 1) := by decide +kernel
theorem dX3_tell_65 : decode cX3_tell 65 = .ok (.getfield 35, 3) := by decide +kernel
theorem dX3_tell_68 : decode cX3_tell 68 = .ok (.goto 4, 3) := by decide +kernel
theorem dX3_tell_71 : decode cX3_tell 71 = .ok (.iconst (-1), 1) := by decide +kernel
theorem dX3_tell_72 : decode cX3_tell 72 = .ok (.ireturn, 1) := by decide +kernel
theorem dX3_tell_73 : decode cX3_tell 73 = .ok (.iload_n 2, 1) := by decide +kernel
theorem dX3_tell_74 : decode cX3_tell 74 = .ok (.aload_n 0, 1) := by decide +kernel
theorem dX3_tell_75 : decode cX3_tell 75 = .ok (.getfield 32, 3) := by decide +kernel
theorem dX3_tell_78 : decode cX3_tell 78 = .ok (.if_icmp .ge 14, 3) := by decide +kernel
theorem dX3_tell_81 : decode cX3_tell 81 = .ok (.aload_n 0, 1) := by decide +kernel
theorem dX3_tell_82 : decode cX3_tell 82 = .ok (.getfield 28, 3) := by decide +kernel
theorem dX3_tell_85 : decode cX3_tell 85 = .ok (.iload_n 2, 1) := by decide +kernel
theorem dX3_tell_86 : decode cX3_tell 86 = .ok (.invokestatic 53, 3) := by decide +kernel
theorem dX3_tell_89 : decode cX3_tell 89 = .ok (.goto 4, 3) := by decide +kernel
theorem dX3_tell_92 : decode cX3_tell 92 = .ok (.iconst (-1), 1) := by decide +kernel
theorem dX3_tell_93 : decode cX3_tell 93 = .ok (.ireturn, 1) := by decide +kernel
theorem dX3_tell_94 : decode cX3_tell 94 = .ok (.aload_n 0, 1) := by decide +kernel
theorem dX3_tell_95 : decode cX3_tell 95 = .ok (.getfield 12, 3) := by decide +kernel
theorem dX3_tell_98 : decode cX3_tell 98 = .ok (.getfield 57, 3) := by decide +kernel
theorem dX3_tell_101 : decode cX3_tell 101 = .ok (.iload_n 2, 1) := by decide +kernel
theorem dX3_tell_102 : decode cX3_tell 102 = .ok (.iaload, 1) := by decide +kernel
theorem dX3_tell_103 : decode cX3_tell 103 = .ok (.ireturn, 1) := by decide +kernel
theorem dX3_tell_104 : decode cX3_tell 104 = .ok (.iload_n 2, 1) := by decide +kernel
theorem dX3_tell_105 : decode cX3_tell 105 = .ok (.aload_n 0, 1) := by decide +kernel
theorem dX3_tell_106 : decode cX3_tell 106 = .ok (.getfield 35, 3) := by decide +kernel
theorem dX3_tell_109 : decode cX3_tell 109 = .ok (.if_icmp .ge 12, 3) := by decide +kernel
theorem dX3_tell_112 : decode cX3_tell 112 = .ok (.aload_n 0, 1) := by decide +kernel
theorem dX3_tell_113 : decode cX3_tell 113 = .ok (.getfield 18, 3) := by decide +kernel
theorem dX3_tell_116 : decode cX3_tell 116 = .ok (.iload_n 2, 1) := by decide +kernel
theorem dX3_tell_117 : decode cX3_tell 117 = .ok (.iaload, 1) := by decide +kernel
theorem dX3_tell_118 : decode cX3_tell 118 = .ok (.goto 4, 3) := by decide +kernel
theorem dX3_tell_121 : decode cX3_tell 121 = .ok (.iconst (-1), 1) := by decide +kernel
theorem dX3_tell_122 : decode cX3_tell 122 = .ok (.ireturn, 1) := by decide +kernel
theorem dX3_tell_123 : decode cX3_tell 123 = .ok (.iload_n 2, 1) := by decide +kernel
theorem dX3_tell_124 : decode cX3_tell 124 = .ok (.aload_n 0, 1) := by decide +kernel
theorem dX3_tell_125 : decode cX3_tell 125 = .ok (.getfield 35, 3) := by decide +kernel
theorem dX3_tell_128 : decode cX3_tell 128 = .ok (.if_icmp .ge 12, 3) := by decide +kernel
theorem dX3_tell_131 : decode cX3_tell 131 = .ok (.aload_n 0, 1) := by decide +kernel
theorem dX3_tell_132 : decode cX3_tell 132 = .ok (.getfield 22, 3) := by decide +kernel
theorem dX3_tell_135 : decode cX3_tell 135 = .ok (.iload_n 2, 1) := by decide +kernel
theorem dX3_tell_136 : decode cX3_tell 136 = .ok (.iaload, 1) := by decide +kernel
theorem dX3_tell_137 : decode cX3_tell 137 = .ok (.goto 4, 3) := by decide +kernel
theorem dX3_tell_140 : decode cX3_tell 140 = .ok (.iconst (-1), 1) := by decide +kernel
theorem dX3_tell_141 : decode cX3_tell 141 = .ok (.ireturn, 1) := by decide +kernel
theorem dX3_tell_142 : decode cX3_tell 142 = .ok (.iload_n 1, 1) := by decide +kernel
theorem dX3_tell_143 : decode cX3_tell 143 = .ok (.bipush 10, 2) := by decide +kernel
theorem dX3_tell_145 : decode cX3_tell 145 = .ok (.idiv, 1) := by decide +kernel
theorem dX3_tell_146 : decode cX3_tell 146 = .ok (.bipush 10, 2) := by decide +kernel
theorem dX3_tell_148 : decode cX3_tell 148 = .ok (.isub, 1) := by decide +kernel
theorem dX3_tell_149 : decode cX3_tell 149 = .ok (.istore_n 3, 1) := by decide +kernel
theorem dX3_tell_150 : decode cX3_tell 150 = .ok (.iload_n 3, 1) := by decide +kernel
theorem dX3_tell_151 : decode cX3_tell 151 = .ok (.ifCond .lt 19, 3) := by decide +kernel
theorem dX3_tell_154 : decode cX3_tell 154 = .ok (.iload_n 3, 1) := by decide +kernel
theorem dX3_tell_155 : decode cX3_tell 155 = .ok (.aload_n 0, 1) := by decide +kernel
theorem dX3_tell_156 : decode cX3_tell 156 = .ok (.getfield 35, 3) := by decide +kernel
theorem dX3_tell_159 : decode cX3_tell 159 = .ok (.if_icmp .ge 11, 3) := by decide +kernel
theorem dX3_tell_162 : decode cX3_tell 162 = .ok (.iload_n 2, 1) := by decide +kernel
theorem dX3_tell_163 : decode cX3_tell 163 = .ok (.aload_n 0, 1) := by decide +kernel
theorem dX3_tell_164 : decode cX3_tell 164 = .ok (.getfield 32, 3) := by decide +kernel
theorem dX3_tell_167 : decode cX3_tell 167 = .ok (.if_icmp .lt 7, 3) := by decide +kernel
theorem dX3_tell_170 : decode cX3_tell 170 = .ok (.iconst (-1), 1) := by decide +kernel
theorem dX3_tell_171 : decode cX3_tell 171 = .ok (.goto 9, 3) := by decide +kernel
theorem dX3_tell_174 : decode cX3_tell 174 = .ok (.aload_n 0, 1) := by decide +kernel
theorem dX3_tell_175 : decode cX3_tell 175 = .ok (.iload_n 3, 1) := by decide +kernel
theorem dX3_tell_176 : decode cX3_tell 176 = .ok (.iload_n 2, 1) := by decide +kernel
theorem dX3_tell_177 : decode cX3_tell 177 = .ok (.invokevirtual 60, 3) := by decide +kernel
theorem dX3_tell_180 : decode cX3_tell 180 = .ok (.ireturn, 1) := by decide +kernel
theorem dX3_content_0 : decode cX3_content 0 = .ok (.iconst 0, 1) := by decide +kernel
theorem dX3_content_1 : decode cX3_content 1 = .ok (.istore_n 3, 1) := by decide +kernel
theorem dX3_content_2 : decode cX3_content 2 = .ok (.iconst 0, 1) := by decide +kernel
theorem dX3_content_3 : decode cX3_content 3 = .ok (.istore 4, 2) := by decide +kernel
theorem dX3_content_5 : decode cX3_content 5 = .ok (.iload 4, 2) := by decide +kernel
theorem dX3_content_7 : decode cX3_content 7 = .ok (.aload_n 0, 1) := by decide +kernel
theorem dX3_content_8 : decode cX3_content 8 = .ok (.getfield 32, 3) := by decide +kernel
theorem dX3_content_11 : decode cX3_content 11 = .ok (.if_icmp .ge 33, 3) := by decide +kernel
theorem dX3_content_14 : decode cX3_content 14 = .ok (.iload_n 3, 1) := by decide +kernel
theorem dX3_content_15 : decode cX3_content 15 = .ok (.aload_n 0, 1) := by decide +kernel
theorem dX3_content_16 : decode cX3_content 16 = .ok (.iload_n 1, 1) := by decide +kernel
theorem dX3_content_17 : decode cX3_content 17 = .ok (.iload 4, 2) := by decide +kernel
theorem dX3_content_19 : decode cX3_content 19 = .ok (.invokevirtual 60, 3) := by decide +kernel
theorem dX3_content_22 : decode cX3_content 22 = .ok (.iload_n 2, 1) := by decide +kernel
theorem dX3_content_23 : decode cX3_content 23 = .ok (.iload 4, 2) := by decide +kernel
theorem dX3_content_25 : decode cX3_content 25 = .ok (.invokestatic 53, 3) := by decide +kernel
theorem dX3_content_28 : decode cX3_content 28 = .ok (.if_icmp .ne 7, 3) := by decide +kernel
theorem dX3_content_31 : decode cX3_content 31 = .ok (.iconst 1, 1) := by decide +kernel
theorem dX3_content_32 : decode cX3_content 32 = .ok (.goto 4, 3) := by decide +kernel
theorem dX3_content_35 : decode cX3_content 35 = .ok (.iconst 0, 1) := by decide +kernel
theorem dX3_content_36 : decode cX3_content 36 = .ok (.iadd, 1) := by decide +kernel
theorem dX3_content_37 : decode cX3_content 37 = .ok (.istore_n 3, 1) := by decide +kernel
theorem dX3_content_38 : decode cX3_content 38 = .ok (.iinc 4 1, 3) := by decide +kernel
theorem dX3_content_41 : decode cX3_content 41 = .ok (.goto (-36), 3) := by decide +kernel
theorem dX3_content_44 : decode cX3_content 44 = .ok (.iload_n 3, 1) := by decide +kernel
theorem dX3_content_45 : decode cX3_content 45 = .ok (.ireturn, 1) := by decide +kernel
theorem dX3_contentOfAll_0 : decode cX3_contentOfAll 0 = .ok (.iconst 0, 1) := by decide +kernel
theorem dX3_contentOfAll_1 : decode cX3_contentOfAll 1 = .ok (.istore_n 2, 1) := by decide +kernel
theorem dX3_contentOfAll_2 : decode cX3_contentOfAll 2 = .ok (.iconst 0, 1) := by decide +kernel
theorem dX3_contentOfAll_3 : decode cX3_contentOfAll 3 = .ok (.istore_n 3, 1) := by decide +kernel
theorem dX3_contentOfAll_4 : decode cX3_contentOfAll 4 = .ok (.iload_n 3, 1) := by decide +kernel
theorem dX3_contentOfAll_5 : decode cX3_contentOfAll 5 = .ok (.aload_n 0, 1) := by decide +kernel
theorem dX3_contentOfAll_6 : decode cX3_contentOfAll 6 = .ok (.getfield 35, 3) := by decide +kernel
theorem dX3_contentOfAll_9 : decode cX3_contentOfAll 9 = .ok (.if_icmp .ge 18, 3) := by decide +kernel
theorem dX3_contentOfAll_12 : decode cX3_contentOfAll 12 = .ok (.iload_n 2, 1) := by decide +kernel
theorem dX3_contentOfAll_13 : decode cX3_contentOfAll 13 = .ok (.aload_n 0, 1) := by decide +kernel
theorem dX3_contentOfAll_14 : decode cX3_contentOfAll 14 = .ok (.iload_n 3, 1) := by decide +kernel
theorem dX3_contentOfAll_15 : decode cX3_contentOfAll 15 = .ok (.iload_n 1, 1) := by decide +kernel
theorem dX3_contentOfAll_16 : decode cX3_contentOfAll 16 = .ok (.invokevirtual 63, 3) := by decide +kernel
theorem dX3_contentOfAll_19 : decode cX3_contentOfAll 19 = .ok (.iadd, 1) := by decide +kernel
theorem dX3_contentOfAll_20 : decode cX3_contentOfAll 20 = .ok (.istore_n 2, 1) := by decide +kernel
theorem dX3_contentOfAll_21 : decode cX3_contentOfAll 21 = .ok (.iinc 3 1, 3) := by decide +kernel
theorem dX3_contentOfAll_24 : decode cX3_contentOfAll 24 = .ok (.goto (-20), 3) := by decide +kernel
theorem dX3_contentOfAll_27 : decode cX3_contentOfAll 27 = .ok (.iload_n 2, 1) := by decide +kernel
theorem dX3_contentOfAll_28 : decode cX3_contentOfAll 28 = .ok (.ireturn, 1) := by decide +kernel
theorem dX3_gain_0 : decode cX3_gain 0 = .ok (.aload_n 0, 1) := by decide +kernel
theorem dX3_gain_1 : decode cX3_gain 1 = .ok (.iload_n 1, 1) := by decide +kernel
theorem dX3_gain_2 : decode cX3_gain 2 = .ok (.iload_n 2, 1) := by decide +kernel
theorem dX3_gain_3 : decode cX3_gain 3 = .ok (.iload_n 3, 1) := by decide +kernel
theorem dX3_gain_4 : decode cX3_gain 4 = .ok (.iload 5, 2) := by decide +kernel
theorem dX3_gain_6 : decode cX3_gain 6 = .ok (.invokevirtual 66, 3) := by decide +kernel
theorem dX3_gain_9 : decode cX3_gain 9 = .ok (.aload_n 0, 1) := by decide +kernel
theorem dX3_gain_10 : decode cX3_gain 10 = .ok (.iload_n 1, 1) := by decide +kernel
theorem dX3_gain_11 : decode cX3_gain 11 = .ok (.iload_n 2, 1) := by decide +kernel
theorem dX3_gain_12 : decode cX3_gain 12 = .ok (.iload_n 3, 1) := by decide +kernel
theorem dX3_gain_13 : decode cX3_gain 13 = .ok (.iload 4, 2) := by decide +kernel
theorem dX3_gain_15 : decode cX3_gain 15 = .ok (.iload_n 3, 1) := by decide +kernel
theorem dX3_gain_16 : decode cX3_gain 16 = .ok (.invokestatic 53, 3) := by decide +kernel
theorem dX3_gain_19 : decode cX3_gain 19 = .ok (.invokevirtual 66, 3) := by decide +kernel
theorem dX3_gain_22 : decode cX3_gain 22 = .ok (.isub, 1) := by decide +kernel
theorem dX3_gain_23 : decode cX3_gain 23 = .ok (.ireturn, 1) := by decide +kernel
theorem dX3_leadAt_0 : decode cX3_leadAt 0 = .ok (.aload_n 0, 1) := by decide +kernel
theorem dX3_leadAt_1 : decode cX3_leadAt 1 = .ok (.iload_n 1, 1) := by decide +kernel
theorem dX3_leadAt_2 : decode cX3_leadAt 2 = .ok (.iload_n 3, 1) := by decide +kernel
theorem dX3_leadAt_3 : decode cX3_leadAt 3 = .ok (.invokevirtual 60, 3) := by decide +kernel
theorem dX3_leadAt_6 : decode cX3_leadAt 6 = .ok (.iload 4, 2) := by decide +kernel
theorem dX3_leadAt_8 : decode cX3_leadAt 8 = .ok (.if_icmp .ne 7, 3) := by decide +kernel
theorem dX3_leadAt_11 : decode cX3_leadAt 11 = .ok (.iconst 1, 1) := by decide +kernel
theorem dX3_leadAt_12 : decode cX3_leadAt 12 = .ok (.goto 4, 3) := by decide +kernel
theorem dX3_leadAt_15 : decode cX3_leadAt 15 = .ok (.iconst 0, 1) := by decide +kernel
theorem dX3_leadAt_16 : decode cX3_leadAt 16 = .ok (.aload_n 0, 1) := by decide +kernel
theorem dX3_leadAt_17 : decode cX3_leadAt 17 = .ok (.iload_n 2, 1) := by decide +kernel
theorem dX3_leadAt_18 : decode cX3_leadAt 18 = .ok (.iload_n 3, 1) := by decide +kernel
theorem dX3_leadAt_19 : decode cX3_leadAt 19 = .ok (.invokevirtual 60, 3) := by decide +kernel
theorem dX3_leadAt_22 : decode cX3_leadAt 22 = .ok (.iload 4, 2) := by decide +kernel
theorem dX3_leadAt_24 : decode cX3_leadAt 24 = .ok (.if_icmp .ne 7, 3) := by decide +kernel
theorem dX3_leadAt_27 : decode cX3_leadAt 27 = .ok (.iconst 1, 1) := by decide +kernel
theorem dX3_leadAt_28 : decode cX3_leadAt 28 = .ok (.goto 4, 3) := by decide +kernel
theorem dX3_leadAt_31 : decode cX3_leadAt 31 = .ok (.iconst 0, 1) := by decide +kernel
theorem dX3_leadAt_32 : decode cX3_leadAt 32 = .ok (.isub, 1) := by decide +kernel
theorem dX3_leadAt_33 : decode cX3_leadAt 33 = .ok (.ireturn, 1) := by decide +kernel
theorem dX3_readBy_0 : decode cX3_readBy 0 = .ok (.aload_n 0, 1) := by decide +kernel
theorem dX3_readBy_1 : decode cX3_readBy 1 = .ok (.aload_n 0, 1) := by decide +kernel
theorem dX3_readBy_2 : decode cX3_readBy 2 = .ok (.getfield 12, 3) := by decide +kernel
theorem dX3_readBy_5 : decode cX3_readBy 5 = .ok (.iload_n 1, 1) := by decide +kernel
theorem dX3_readBy_6 : decode cX3_readBy 6 = .ok (.iload_n 2, 1) := by decide +kernel
theorem dX3_readBy_7 : decode cX3_readBy 7 = .ok (.iconst 0, 1) := by decide +kernel
theorem dX3_readBy_8 : decode cX3_readBy 8 = .ok (.invokevirtual 70, 3) := by decide +kernel
theorem dX3_readBy_11 : decode cX3_readBy 11 = .ok (.ireturn, 1) := by decide +kernel
theorem dX3_readIn_0 : decode cX3_readIn 0 = .ok (.iload_n 2, 1) := by decide +kernel
theorem dX3_readIn_1 : decode cX3_readIn 1 = .ok (.ifCond .lt 11, 3) := by decide +kernel
theorem dX3_readIn_4 : decode cX3_readIn 4 = .ok (.iload_n 2, 1) := by decide +kernel
theorem dX3_readIn_5 : decode cX3_readIn 5 = .ok (.aload_n 0, 1) := by decide +kernel
theorem dX3_readIn_6 : decode cX3_readIn 6 = .ok (.getfield 35, 3) := by decide +kernel
theorem dX3_readIn_9 : decode cX3_readIn 9 = .ok (.if_icmp .lt 5, 3) := by decide +kernel
theorem dX3_readIn_12 : decode cX3_readIn 12 = .ok (.iload_n 3, 1) := by decide +kernel
theorem dX3_readIn_13 : decode cX3_readIn 13 = .ok (.ireturn, 1) := by decide +kernel
theorem dX3_readIn_14 : decode cX3_readIn 14 = .ok (.iload_n 3, 1) := by decide +kernel
theorem dX3_readIn_15 : decode cX3_readIn 15 = .ok (.istore 5, 2) := by decide +kernel
theorem dX3_readIn_17 : decode cX3_readIn 17 = .ok (.aload_n 0, 1) := by decide +kernel
theorem dX3_readIn_18 : decode cX3_readIn 18 = .ok (.getfield 18, 3) := by decide +kernel
theorem dX3_readIn_21 : decode cX3_readIn 21 = .ok (.iload_n 2, 1) := by decide +kernel
theorem dX3_readIn_22 : decode cX3_readIn 22 = .ok (.iaload, 1) := by decide +kernel
theorem dX3_readIn_23 : decode cX3_readIn 23 = .ok (.istore 6, 2) := by decide +kernel
theorem dX3_readIn_25 : decode cX3_readIn 25 = .ok (.iconst 0, 1) := by decide +kernel
theorem dX3_readIn_26 : decode cX3_readIn 26 = .ok (.istore 7, 2) := by decide +kernel
theorem dX3_readIn_28 : decode cX3_readIn 28 = .ok (.iload 7, 2) := by decide +kernel
theorem dX3_readIn_30 : decode cX3_readIn 30 = .ok (.aload_n 0, 1) := by decide +kernel
theorem dX3_readIn_31 : decode cX3_readIn 31 = .ok (.getfield 32, 3) := by decide +kernel
theorem dX3_readIn_34 : decode cX3_readIn 34 = .ok (.if_icmp .ge 84, 3) := by decide +kernel
theorem dX3_readIn_37 : decode cX3_readIn 37 = .ok (.iload 6, 2) := by decide +kernel
theorem dX3_readIn_39 : decode cX3_readIn 39 = .ok (.ifCond .le 79, 3) := by decide +kernel
theorem dX3_readIn_42 : decode cX3_readIn 42 = .ok (.iload 4, 2) := by decide +kernel
theorem dX3_readIn_44 : decode cX3_readIn 44 = .ok (.iload 7, 2) := by decide +kernel
theorem dX3_readIn_46 : decode cX3_readIn 46 = .ok (.ishr, 1) := by decide +kernel
theorem dX3_readIn_47 : decode cX3_readIn 47 = .ok (.iconst 1, 1) := by decide +kernel
theorem dX3_readIn_48 : decode cX3_readIn 48 = .ok (.iand, 1) := by decide +kernel
theorem dX3_readIn_49 : decode cX3_readIn 49 = .ok (.ifCond .eq 8, 3) := by decide +kernel
theorem dX3_readIn_52 : decode cX3_readIn 52 = .ok (.bipush 10, 2) := by decide +kernel
theorem dX3_readIn_54 : decode cX3_readIn 54 = .ok (.goto 10, 3) := by decide +kernel
theorem dX3_readIn_57 : decode cX3_readIn 57 = .ok (.aload_n 0, 1) := by decide +kernel
theorem dX3_readIn_58 : decode cX3_readIn 58 = .ok (.iload_n 2, 1) := by decide +kernel
theorem dX3_readIn_59 : decode cX3_readIn 59 = .ok (.iload 7, 2) := by decide +kernel
theorem dX3_readIn_61 : decode cX3_readIn 61 = .ok (.invokevirtual 60, 3) := by decide +kernel
theorem dX3_readIn_64 : decode cX3_readIn 64 = .ok (.istore 8, 2) := by decide +kernel
theorem dX3_readIn_66 : decode cX3_readIn 66 = .ok (.iload 8, 2) := by decide +kernel
theorem dX3_readIn_68 : decode cX3_readIn 68 = .ok (.bipush 10, 2) := by decide +kernel
theorem dX3_readIn_70 : decode cX3_readIn 70 = .ok (.if_icmp .ne 7, 3) := by decide +kernel
theorem dX3_readIn_73 : decode cX3_readIn 73 = .ok (.iconst (-1), 1) := by decide +kernel
theorem dX3_readIn_74 : decode cX3_readIn 74 = .ok (.goto 16, 3) := by decide +kernel
theorem dX3_readIn_77 : decode cX3_readIn 77 = .ok (.aload_n 1, 1) := by decide +kernel
theorem dX3_readIn_78 : decode cX3_readIn 78 = .ok (.iload 5, 2) := by decide +kernel
theorem dX3_readIn_80 : decode cX3_readIn 80 = .ok (.iload 7, 2) := by decide +kernel
theorem dX3_readIn_82 : decode cX3_readIn 82 = .ok (.invokestatic 53, 3) := by decide +kernel
theorem dX3_readIn_85 : decode cX3_readIn 85 = .ok (.iload 8, 2) := by decide +kernel
theorem dX3_readIn_87 : decode cX3_readIn 87 = .ok (.invokevirtual 74, 3) := by decide +kernel
theorem dX3_readIn_90 : decode cX3_readIn 90 = .ok (.istore 9, 2) := by decide +kernel
theorem dX3_readIn_92 : decode cX3_readIn 92 = .ok (.iload 9, 2) := by decide +kernel
theorem dX3_readIn_94 : decode cX3_readIn 94 = .ok (.iconst (-1), 1) := by decide +kernel
theorem dX3_readIn_95 : decode cX3_readIn 95 = .ok (.if_icmp .eq 17, 3) := by decide +kernel
theorem dX3_readIn_98 : decode cX3_readIn 98 = .ok (.iload 5, 2) := by decide +kernel
theorem dX3_readIn_100 : decode cX3_readIn 100 = .ok (.iload 7, 2) := by decide +kernel
theorem dX3_readIn_102 : decode cX3_readIn 102 = .ok (.iload 9, 2) := by decide +kernel
theorem dX3_readIn_104 : decode cX3_readIn 104 = .ok (.invokestatic 49, 3) := by decide +kernel
theorem dX3_readIn_107 : decode cX3_readIn 107 = .ok (.istore 5, 2) := by decide +kernel
theorem dX3_readIn_109 : decode cX3_readIn 109 = .ok (.iinc 6 (-1), 3) := by decide +kernel
theorem dX3_readIn_112 : decode cX3_readIn 112 = .ok (.iinc 7 1, 3) := by decide +kernel
theorem dX3_readIn_115 : decode cX3_readIn 115 = .ok (.goto (-87), 3) := by decide +kernel
theorem dX3_readIn_118 : decode cX3_readIn 118 = .ok (.iload 5, 2) := by decide +kernel
theorem dX3_readIn_120 : decode cX3_readIn 120 = .ok (.ireturn, 1) := by decide +kernel
theorem dX3_round_0 : decode cX3_round 0 = .ok (.iload_n 2, 1) := by decide +kernel
theorem dX3_round_1 : decode cX3_round 1 = .ok (.istore_n 3, 1) := by decide +kernel
theorem dX3_round_2 : decode cX3_round 2 = .ok (.iconst 0, 1) := by decide +kernel
theorem dX3_round_3 : decode cX3_round 3 = .ok (.istore 4, 2) := by decide +kernel
theorem dX3_round_5 : decode cX3_round 5 = .ok (.iload 4, 2) := by decide +kernel
theorem dX3_round_7 : decode cX3_round 7 = .ok (.aload_n 0, 1) := by decide +kernel
theorem dX3_round_8 : decode cX3_round 8 = .ok (.getfield 35, 3) := by decide +kernel
theorem dX3_round_11 : decode cX3_round 11 = .ok (.if_icmp .ge 19, 3) := by decide +kernel
theorem dX3_round_14 : decode cX3_round 14 = .ok (.aload_n 0, 1) := by decide +kernel
theorem dX3_round_15 : decode cX3_round 15 = .ok (.aload_n 1, 1) := by decide +kernel
theorem dX3_round_16 : decode cX3_round 16 = .ok (.iload 4, 2) := by decide +kernel
theorem dX3_round_18 : decode cX3_round 18 = .ok (.iload_n 3, 1) := by decide +kernel
theorem dX3_round_19 : decode cX3_round 19 = .ok (.iconst 0, 1) := by decide +kernel
theorem dX3_round_20 : decode cX3_round 20 = .ok (.invokevirtual 70, 3) := by decide +kernel
theorem dX3_round_23 : decode cX3_round 23 = .ok (.istore_n 3, 1) := by decide +kernel
theorem dX3_round_24 : decode cX3_round 24 = .ok (.iinc 4 1, 3) := by decide +kernel
theorem dX3_round_27 : decode cX3_round 27 = .ok (.goto (-22), 3) := by decide +kernel
theorem dX3_round_30 : decode cX3_round 30 = .ok (.iload_n 3, 1) := by decide +kernel
theorem dX3_round_31 : decode cX3_round 31 = .ok (.ireturn, 1) := by decide +kernel
theorem dX3_idle_0 : decode cX3_idle 0 = .ok (.iconst 0, 1) := by decide +kernel
theorem dX3_idle_1 : decode cX3_idle 1 = .ok (.istore_n 1, 1) := by decide +kernel
theorem dX3_idle_2 : decode cX3_idle 2 = .ok (.iconst 0, 1) := by decide +kernel
theorem dX3_idle_3 : decode cX3_idle 3 = .ok (.istore_n 2, 1) := by decide +kernel
theorem dX3_idle_4 : decode cX3_idle 4 = .ok (.iload_n 2, 1) := by decide +kernel
theorem dX3_idle_5 : decode cX3_idle 5 = .ok (.aload_n 0, 1) := by decide +kernel
theorem dX3_idle_6 : decode cX3_idle 6 = .ok (.getfield 35, 3) := by decide +kernel
theorem dX3_idle_9 : decode cX3_idle 9 = .ok (.if_icmp .ge 35, 3) := by decide +kernel
theorem dX3_idle_12 : decode cX3_idle 12 = .ok (.iload_n 1, 1) := by decide +kernel
theorem dX3_idle_13 : decode cX3_idle 13 = .ok (.aload_n 0, 1) := by decide +kernel
theorem dX3_idle_14 : decode cX3_idle 14 = .ok (.iload_n 2, 1) := by decide +kernel
theorem dX3_idle_15 : decode cX3_idle 15 = .ok (.aload_n 0, 1) := by decide +kernel
theorem dX3_idle_16 : decode cX3_idle 16 = .ok (.getfield 28, 3) := by decide +kernel
theorem dX3_idle_19 : decode cX3_idle 19 = .ok (.invokevirtual 77, 3) := by decide +kernel
theorem dX3_idle_22 : decode cX3_idle 22 = .ok (.aload_n 0, 1) := by decide +kernel
theorem dX3_idle_23 : decode cX3_idle 23 = .ok (.getfield 28, 3) := by decide +kernel
theorem dX3_idle_26 : decode cX3_idle 26 = .ok (.if_icmp .ne 9, 3) := by decide +kernel
theorem dX3_idle_29 : decode cX3_idle 29 = .ok (.iconst 1, 1) := by decide +kernel
theorem dX3_idle_30 : decode cX3_idle 30 = .ok (.iload_n 2, 1) := by decide +kernel
theorem dX3_idle_31 : decode cX3_idle 31 = .ok (.ishl, 1) := by decide +kernel
theorem dX3_idle_32 : decode cX3_idle 32 = .ok (.goto 4, 3) := by decide +kernel
theorem dX3_idle_35 : decode cX3_idle 35 = .ok (.iconst 0, 1) := by decide +kernel
theorem dX3_idle_36 : decode cX3_idle 36 = .ok (.ior, 1) := by decide +kernel
theorem dX3_idle_37 : decode cX3_idle 37 = .ok (.istore_n 1, 1) := by decide +kernel
theorem dX3_idle_38 : decode cX3_idle 38 = .ok (.iinc 2 1, 3) := by decide +kernel
theorem dX3_idle_41 : decode cX3_idle 41 = .ok (.goto (-37), 3) := by decide +kernel
theorem dX3_idle_44 : decode cX3_idle 44 = .ok (.iload_n 1, 1) := by decide +kernel
theorem dX3_idle_45 : decode cX3_idle 45 = .ok (.ireturn, 1) := by decide +kernel
theorem dX3_farFrom_0 : decode cX3_farFrom 0 = .ok (.iconst 0, 1) := by decide +kernel
theorem dX3_farFrom_1 : decode cX3_farFrom 1 = .ok (.istore_n 2, 1) := by decide +kernel
theorem dX3_farFrom_2 : decode cX3_farFrom 2 = .ok (.iconst 0, 1) := by decide +kernel
theorem dX3_farFrom_3 : decode cX3_farFrom 3 = .ok (.istore_n 3, 1) := by decide +kernel
theorem dX3_farFrom_4 : decode cX3_farFrom 4 = .ok (.iload_n 3, 1) := by decide +kernel
theorem dX3_farFrom_5 : decode cX3_farFrom 5 = .ok (.aload_n 0, 1) := by decide +kernel
theorem dX3_farFrom_6 : decode cX3_farFrom 6 = .ok (.getfield 32, 3) := by decide +kernel
theorem dX3_farFrom_9 : decode cX3_farFrom 9 = .ok (.if_icmp .ge 37, 3) := by decide +kernel
theorem dX3_farFrom_12 : decode cX3_farFrom 12 = .ok (.iload_n 2, 1) := by decide +kernel
theorem dX3_farFrom_13 : decode cX3_farFrom 13 = .ok (.iconst 0, 1) := by decide +kernel
theorem dX3_farFrom_14 : decode cX3_farFrom 14 = .ok (.aload_n 0, 1) := by decide +kernel
theorem dX3_farFrom_15 : decode cX3_farFrom 15 = .ok (.getfield 12, 3) := by decide +kernel
theorem dX3_farFrom_18 : decode cX3_farFrom 18 = .ok (.aload_n 0, 1) := by decide +kernel
theorem dX3_farFrom_19 : decode cX3_farFrom 19 = .ok (.getfield 28, 3) := by decide +kernel
theorem dX3_farFrom_22 : decode cX3_farFrom 22 = .ok (.iload_n 3, 1) := by decide +kernel
theorem dX3_farFrom_23 : decode cX3_farFrom 23 = .ok (.invokestatic 53, 3) := by decide +kernel
theorem dX3_farFrom_26 : decode cX3_farFrom 26 = .ok (.aload_n 0, 1) := by decide +kernel
theorem dX3_farFrom_27 : decode cX3_farFrom 27 = .ok (.iload_n 1, 1) := by decide +kernel
theorem dX3_farFrom_28 : decode cX3_farFrom 28 = .ok (.iload_n 3, 1) := by decide +kernel
theorem dX3_farFrom_29 : decode cX3_farFrom 29 = .ok (.invokevirtual 60, 3) := by decide +kernel
theorem dX3_farFrom_32 : decode cX3_farFrom 32 = .ok (.invokevirtual 80, 3) := by decide +kernel
theorem dX3_farFrom_35 : decode cX3_farFrom 35 = .ok (.invokestatic 83, 3) := by decide +kernel
theorem dX3_farFrom_38 : decode cX3_farFrom 38 = .ok (.iadd, 1) := by decide +kernel
theorem dX3_farFrom_39 : decode cX3_farFrom 39 = .ok (.istore_n 2, 1) := by decide +kernel
theorem dX3_farFrom_40 : decode cX3_farFrom 40 = .ok (.iinc 3 1, 3) := by decide +kernel
theorem dX3_farFrom_43 : decode cX3_farFrom 43 = .ok (.goto (-39), 3) := by decide +kernel
theorem dX3_farFrom_46 : decode cX3_farFrom 46 = .ok (.iload_n 2, 1) := by decide +kernel
theorem dX3_farFrom_47 : decode cX3_farFrom 47 = .ok (.ireturn, 1) := by decide +kernel
theorem dX3_readingsOf_0 : decode cX3_readingsOf 0 = .ok (.aload_n 0, 1) := by decide +kernel
theorem dX3_readingsOf_1 : decode cX3_readingsOf 1 = .ok (.getfield 28, 3) := by decide +kernel
theorem dX3_readingsOf_4 : decode cX3_readingsOf 4 = .ok (.istore_n 2, 1) := by decide +kernel
theorem dX3_readingsOf_5 : decode cX3_readingsOf 5 = .ok (.iconst 0, 1) := by decide +kernel
theorem dX3_readingsOf_6 : decode cX3_readingsOf 6 = .ok (.istore_n 3, 1) := by decide +kernel
theorem dX3_readingsOf_7 : decode cX3_readingsOf 7 = .ok (.iload_n 3, 1) := by decide +kernel
theorem dX3_readingsOf_8 : decode cX3_readingsOf 8 = .ok (.bipush 80, 2) := by decide +kernel
theorem dX3_readingsOf_10 : decode cX3_readingsOf 10 = .ok (.if_icmp .ge 28, 3) := by decide +kernel
theorem dX3_readingsOf_13 : decode cX3_readingsOf 13 = .ok (.aload_n 0, 1) := by decide +kernel
theorem dX3_readingsOf_14 : decode cX3_readingsOf 14 = .ok (.iload_n 1, 1) := by decide +kernel
theorem dX3_readingsOf_15 : decode cX3_readingsOf 15 = .ok (.iload_n 2, 1) := by decide +kernel
theorem dX3_readingsOf_16 : decode cX3_readingsOf 16 = .ok (.invokevirtual 77, 3) := by decide +kernel
theorem dX3_readingsOf_19 : decode cX3_readingsOf 19 = .ok (.istore 4, 2) := by decide +kernel
theorem dX3_readingsOf_21 : decode cX3_readingsOf 21 = .ok (.iload 4, 2) := by decide +kernel
theorem dX3_readingsOf_23 : decode cX3_readingsOf 23 = .ok (.iload_n 2, 1) := by decide +kernel
theorem dX3_readingsOf_24 : decode cX3_readingsOf 24 = .ok (.if_icmp .ne 5, 3) := by decide +kernel
theorem dX3_readingsOf_27 : decode cX3_readingsOf 27 = .ok (.iload_n 3, 1) := by decide +kernel
theorem dX3_readingsOf_28 : decode cX3_readingsOf 28 = .ok (.ireturn, 1) := by decide +kernel
theorem dX3_readingsOf_29 : decode cX3_readingsOf 29 = .ok (.iload 4, 2) := by decide +kernel
theorem dX3_readingsOf_31 : decode cX3_readingsOf 31 = .ok (.istore_n 2, 1) := by decide +kernel
theorem dX3_readingsOf_32 : decode cX3_readingsOf 32 = .ok (.iinc 3 1, 3) := by decide +kernel
theorem dX3_readingsOf_35 : decode cX3_readingsOf 35 = .ok (.goto (-28), 3) := by decide +kernel
theorem dX3_readingsOf_38 : decode cX3_readingsOf 38 = .ok (.bipush 80, 2) := by decide +kernel
theorem dX3_readingsOf_40 : decode cX3_readingsOf 40 = .ok (.ireturn, 1) := by decide +kernel
theorem dX3_unlikeWishes_0 : decode cX3_unlikeWishes 0 = .ok (.iconst 0, 1) := by decide +kernel
theorem dX3_unlikeWishes_1 : decode cX3_unlikeWishes 1 = .ok (.istore_n 3, 1) := by decide +kernel
theorem dX3_unlikeWishes_2 : decode cX3_unlikeWishes 2 = .ok (.iconst 0, 1) := by decide +kernel
theorem dX3_unlikeWishes_3 : decode cX3_unlikeWishes 3 = .ok (.istore 4, 2) := by decide +kernel
theorem dX3_unlikeWishes_5 : decode cX3_unlikeWishes 5 = .ok (.iload 4, 2) := by decide +kernel
theorem dX3_unlikeWishes_7 : decode cX3_unlikeWishes 7 = .ok (.aload_n 0, 1) := by decide +kernel
theorem dX3_unlikeWishes_8 : decode cX3_unlikeWishes 8 = .ok (.getfield 32, 3) := by decide +kernel
theorem dX3_unlikeWishes_11 : decode cX3_unlikeWishes 11 = .ok (.if_icmp .ge 37, 3) := by decide +kernel
theorem dX3_unlikeWishes_14 : decode cX3_unlikeWishes 14 = .ok (.iload_n 3, 1) := by decide +kernel
theorem dX3_unlikeWishes_15 : decode cX3_unlikeWishes 15 = .ok (.aload_n 0, 1) := by decide +kernel
theorem dX3_unlikeWishes_16 : decode cX3_unlikeWishes 16 = .ok (.iload_n 1, 1) := by decide +kernel
theorem dX3_unlikeWishes_17 : decode cX3_unlikeWishes 17 = .ok (.iload 4, 2) := by decide +kernel
theorem dX3_unlikeWishes_19 : decode cX3_unlikeWishes 19 = .ok (.invokevirtual 60, 3) := by decide +kernel
theorem dX3_unlikeWishes_22 : decode cX3_unlikeWishes 22 = .ok (.aload_n 0, 1) := by decide +kernel
theorem dX3_unlikeWishes_23 : decode cX3_unlikeWishes 23 = .ok (.iload_n 2, 1) := by decide +kernel
theorem dX3_unlikeWishes_24 : decode cX3_unlikeWishes 24 = .ok (.iload 4, 2) := by decide +kernel
theorem dX3_unlikeWishes_26 : decode cX3_unlikeWishes 26 = .ok (.invokevirtual 60, 3) := by decide +kernel
theorem dX3_unlikeWishes_29 : decode cX3_unlikeWishes 29 = .ok (.if_icmp .eq 10, 3) := by decide +kernel
theorem dX3_unlikeWishes_32 : decode cX3_unlikeWishes 32 = .ok (.iconst 1, 1) := by decide +kernel
theorem dX3_unlikeWishes_33 : decode cX3_unlikeWishes 33 = .ok (.iload 4, 2) := by decide +kernel
theorem dX3_unlikeWishes_35 : decode cX3_unlikeWishes 35 = .ok (.ishl, 1) := by decide +kernel
theorem dX3_unlikeWishes_36 : decode cX3_unlikeWishes 36 = .ok (.goto 4, 3) := by decide +kernel
theorem dX3_unlikeWishes_39 : decode cX3_unlikeWishes 39 = .ok (.iconst 0, 1) := by decide +kernel
theorem dX3_unlikeWishes_40 : decode cX3_unlikeWishes 40 = .ok (.ior, 1) := by decide +kernel
theorem dX3_unlikeWishes_41 : decode cX3_unlikeWishes 41 = .ok (.istore_n 3, 1) := by decide +kernel
theorem dX3_unlikeWishes_42 : decode cX3_unlikeWishes 42 = .ok (.iinc 4 1, 3) := by decide +kernel
theorem dX3_unlikeWishes_45 : decode cX3_unlikeWishes 45 = .ok (.goto (-40), 3) := by decide +kernel
theorem dX3_unlikeWishes_48 : decode cX3_unlikeWishes 48 = .ok (.iload_n 3, 1) := by decide +kernel
theorem dX3_unlikeWishes_49 : decode cX3_unlikeWishes 49 = .ok (.ireturn, 1) := by decide +kernel
theorem dX3_areRivals_0 : decode cX3_areRivals 0 = .ok (.iconst 0, 1) := by decide +kernel
theorem dX3_areRivals_1 : decode cX3_areRivals 1 = .ok (.istore_n 3, 1) := by decide +kernel
theorem dX3_areRivals_2 : decode cX3_areRivals 2 = .ok (.iload_n 3, 1) := by decide +kernel
theorem dX3_areRivals_3 : decode cX3_areRivals 3 = .ok (.aload_n 0, 1) := by decide +kernel
theorem dX3_areRivals_4 : decode cX3_areRivals 4 = .ok (.getfield 32, 3) := by decide +kernel
theorem dX3_areRivals_7 : decode cX3_areRivals 7 = .ok (.if_icmp .ge 48, 3) := by decide +kernel
theorem dX3_areRivals_10 : decode cX3_areRivals 10 = .ok (.aload_n 0, 1) := by decide +kernel
theorem dX3_areRivals_11 : decode cX3_areRivals 11 = .ok (.iload_n 1, 1) := by decide +kernel
theorem dX3_areRivals_12 : decode cX3_areRivals 12 = .ok (.iload_n 3, 1) := by decide +kernel
theorem dX3_areRivals_13 : decode cX3_areRivals 13 = .ok (.invokevirtual 60, 3) := by decide +kernel
theorem dX3_areRivals_16 : decode cX3_areRivals 16 = .ok (.istore 4, 2) := by decide +kernel
theorem dX3_areRivals_18 : decode cX3_areRivals 18 = .ok (.aload_n 0, 1) := by decide +kernel
theorem dX3_areRivals_19 : decode cX3_areRivals 19 = .ok (.iload_n 2, 1) := by decide +kernel
theorem dX3_areRivals_20 : decode cX3_areRivals 20 = .ok (.iload_n 3, 1) := by decide +kernel
theorem dX3_areRivals_21 : decode cX3_areRivals 21 = .ok (.invokevirtual 60, 3) := by decide +kernel
theorem dX3_areRivals_24 : decode cX3_areRivals 24 = .ok (.istore 5, 2) := by decide +kernel
theorem dX3_areRivals_26 : decode cX3_areRivals 26 = .ok (.iload 4, 2) := by decide +kernel
theorem dX3_areRivals_28 : decode cX3_areRivals 28 = .ok (.bipush 10, 2) := by decide +kernel
theorem dX3_areRivals_30 : decode cX3_areRivals 30 = .ok (.if_icmp .eq 19, 3) := by decide +kernel
theorem dX3_areRivals_33 : decode cX3_areRivals 33 = .ok (.iload 5, 2) := by decide +kernel
theorem dX3_areRivals_35 : decode cX3_areRivals 35 = .ok (.bipush 10, 2) := by decide +kernel
theorem dX3_areRivals_37 : decode cX3_areRivals 37 = .ok (.if_icmp .eq 12, 3) := by decide +kernel
theorem dX3_areRivals_40 : decode cX3_areRivals 40 = .ok (.iload 4, 2) := by decide +kernel
theorem dX3_areRivals_42 : decode cX3_areRivals 42 = .ok (.iload 5, 2) := by decide +kernel
theorem dX3_areRivals_44 : decode cX3_areRivals 44 = .ok (.if_icmp .eq 5, 3) := by decide +kernel
theorem dX3_areRivals_47 : decode cX3_areRivals 47 = .ok (.iconst 1, 1) := by decide +kernel
theorem dX3_areRivals_48 : decode cX3_areRivals 48 = .ok (.ireturn, 1) := by decide +kernel
theorem dX3_areRivals_49 : decode cX3_areRivals 49 = .ok (.iinc 3 1, 3) := by decide +kernel
theorem dX3_areRivals_52 : decode cX3_areRivals 52 = .ok (.goto (-50), 3) := by decide +kernel
theorem dX3_areRivals_55 : decode cX3_areRivals 55 = .ok (.iconst 0, 1) := by decide +kernel
theorem dX3_areRivals_56 : decode cX3_areRivals 56 = .ok (.ireturn, 1) := by decide +kernel
theorem dX3_rivals_0 : decode cX3_rivals 0 = .ok (.iconst 0, 1) := by decide +kernel
theorem dX3_rivals_1 : decode cX3_rivals 1 = .ok (.istore_n 2, 1) := by decide +kernel
theorem dX3_rivals_2 : decode cX3_rivals 2 = .ok (.iconst 0, 1) := by decide +kernel
theorem dX3_rivals_3 : decode cX3_rivals 3 = .ok (.istore_n 3, 1) := by decide +kernel
theorem dX3_rivals_4 : decode cX3_rivals 4 = .ok (.iload_n 3, 1) := by decide +kernel
theorem dX3_rivals_5 : decode cX3_rivals 5 = .ok (.aload_n 0, 1) := by decide +kernel
theorem dX3_rivals_6 : decode cX3_rivals 6 = .ok (.getfield 35, 3) := by decide +kernel
theorem dX3_rivals_9 : decode cX3_rivals 9 = .ok (.if_icmp .ge 28, 3) := by decide +kernel
theorem dX3_rivals_12 : decode cX3_rivals 12 = .ok (.iload_n 2, 1) := by decide +kernel
theorem dX3_rivals_13 : decode cX3_rivals 13 = .ok (.aload_n 0, 1) := by decide +kernel
theorem dX3_rivals_14 : decode cX3_rivals 14 = .ok (.iload_n 1, 1) := by decide +kernel
theorem dX3_rivals_15 : decode cX3_rivals 15 = .ok (.iload_n 3, 1) := by decide +kernel
theorem dX3_rivals_16 : decode cX3_rivals 16 = .ok (.invokevirtual 88, 3) := by decide +kernel
theorem dX3_rivals_19 : decode cX3_rivals 19 = .ok (.ifCond .eq 9, 3) := by decide +kernel
theorem dX3_rivals_22 : decode cX3_rivals 22 = .ok (.iconst 1, 1) := by decide +kernel
theorem dX3_rivals_23 : decode cX3_rivals 23 = .ok (.iload_n 3, 1) := by decide +kernel
theorem dX3_rivals_24 : decode cX3_rivals 24 = .ok (.ishl, 1) := by decide +kernel
theorem dX3_rivals_25 : decode cX3_rivals 25 = .ok (.goto 4, 3) := by decide +kernel
theorem dX3_rivals_28 : decode cX3_rivals 28 = .ok (.iconst 0, 1) := by decide +kernel
theorem dX3_rivals_29 : decode cX3_rivals 29 = .ok (.ior, 1) := by decide +kernel
theorem dX3_rivals_30 : decode cX3_rivals 30 = .ok (.istore_n 2, 1) := by decide +kernel
theorem dX3_rivals_31 : decode cX3_rivals 31 = .ok (.iinc 3 1, 3) := by decide +kernel
theorem dX3_rivals_34 : decode cX3_rivals 34 = .ok (.goto (-30), 3) := by decide +kernel
theorem dX3_rivals_37 : decode cX3_rivals 37 = .ok (.iload_n 2, 1) := by decide +kernel
theorem dX3_rivals_38 : decode cX3_rivals 38 = .ok (.ireturn, 1) := by decide +kernel
theorem dX3_stepsToAll_0 : decode cX3_stepsToAll 0 = .ok (.iconst 0, 1) := by decide +kernel
theorem dX3_stepsToAll_1 : decode cX3_stepsToAll 1 = .ok (.istore_n 3, 1) := by decide +kernel
theorem dX3_stepsToAll_2 : decode cX3_stepsToAll 2 = .ok (.iconst 0, 1) := by decide +kernel
theorem dX3_stepsToAll_3 : decode cX3_stepsToAll 3 = .ok (.istore 4, 2) := by decide +kernel
theorem dX3_stepsToAll_5 : decode cX3_stepsToAll 5 = .ok (.iload 4, 2) := by decide +kernel
theorem dX3_stepsToAll_7 : decode cX3_stepsToAll 7 = .ok (.aload_n 0, 1) := by decide +kernel
theorem dX3_stepsToAll_8 : decode cX3_stepsToAll 8 = .ok (.getfield 35, 3) := by decide +kernel
theorem dX3_stepsToAll_11 : decode cX3_stepsToAll 11 = .ok (.if_icmp .ge 53, 3) := by decide +kernel
theorem dX3_stepsToAll_14 : decode cX3_stepsToAll 14 = .ok (.aload_n 0, 1) := by decide +kernel
theorem dX3_stepsToAll_15 : decode cX3_stepsToAll 15 = .ok (.iload 4, 2) := by decide +kernel
theorem dX3_stepsToAll_17 : decode cX3_stepsToAll 17 = .ok (.iload_n 2, 1) := by decide +kernel
theorem dX3_stepsToAll_18 : decode cX3_stepsToAll 18 = .ok (.invokevirtual 60, 3) := by decide +kernel
theorem dX3_stepsToAll_21 : decode cX3_stepsToAll 21 = .ok (.istore 5, 2) := by decide +kernel
theorem dX3_stepsToAll_23 : decode cX3_stepsToAll 23 = .ok (.iload 5, 2) := by decide +kernel
theorem dX3_stepsToAll_25 : decode cX3_stepsToAll 25 = .ok (.bipush 10, 2) := by decide +kernel
theorem dX3_stepsToAll_27 : decode cX3_stepsToAll 27 = .ok (.if_icmp .eq 31, 3) := by decide +kernel
theorem dX3_stepsToAll_30 : decode cX3_stepsToAll 30 = .ok (.aload_n 0, 1) := by decide +kernel
theorem dX3_stepsToAll_31 : decode cX3_stepsToAll 31 = .ok (.getfield 12, 3) := by decide +kernel
theorem dX3_stepsToAll_34 : decode cX3_stepsToAll 34 = .ok (.iload_n 1, 1) := by decide +kernel
theorem dX3_stepsToAll_35 : decode cX3_stepsToAll 35 = .ok (.iload 5, 2) := by decide +kernel
theorem dX3_stepsToAll_37 : decode cX3_stepsToAll 37 = .ok (.invokevirtual 80, 3) := by decide +kernel
theorem dX3_stepsToAll_40 : decode cX3_stepsToAll 40 = .ok (.istore 6, 2) := by decide +kernel
theorem dX3_stepsToAll_42 : decode cX3_stepsToAll 42 = .ok (.iload_n 3, 1) := by decide +kernel
theorem dX3_stepsToAll_43 : decode cX3_stepsToAll 43 = .ok (.iload 6, 2) := by decide +kernel
theorem dX3_stepsToAll_45 : decode cX3_stepsToAll 45 = .ok (.iconst (-1), 1) := by decide +kernel
theorem dX3_stepsToAll_46 : decode cX3_stepsToAll 46 = .ok (.if_icmp .ne 8, 3) := by decide +kernel
theorem dX3_stepsToAll_49 : decode cX3_stepsToAll 49 = .ok (.bipush 10, 2) := by decide +kernel
theorem dX3_stepsToAll_51 : decode cX3_stepsToAll 51 = .ok (.goto 5, 3) := by decide +kernel
theorem dX3_stepsToAll_54 : decode cX3_stepsToAll 54 = .ok (.iload 6, 2) := by decide +kernel
theorem dX3_stepsToAll_56 : decode cX3_stepsToAll 56 = .ok (.iadd, 1) := by decide +kernel
theorem dX3_stepsToAll_57 : decode cX3_stepsToAll 57 = .ok (.istore_n 3, 1) := by decide +kernel
theorem dX3_stepsToAll_58 : decode cX3_stepsToAll 58 = .ok (.iinc 4 1, 3) := by decide +kernel
theorem dX3_stepsToAll_61 : decode cX3_stepsToAll 61 = .ok (.goto (-56), 3) := by decide +kernel
theorem dX3_stepsToAll_64 : decode cX3_stepsToAll 64 = .ok (.iload_n 3, 1) := by decide +kernel
theorem dX3_stepsToAll_65 : decode cX3_stepsToAll 65 = .ok (.ireturn, 1) := by decide +kernel
theorem dX3_bend_0 : decode cX3_bend 0 = .ok (.iconst 0, 1) := by decide +kernel
theorem dX3_bend_1 : decode cX3_bend 1 = .ok (.istore_n 1, 1) := by decide +kernel
theorem dX3_bend_2 : decode cX3_bend 2 = .ok (.iconst 0, 1) := by decide +kernel
theorem dX3_bend_3 : decode cX3_bend 3 = .ok (.istore_n 2, 1) := by decide +kernel
theorem dX3_bend_4 : decode cX3_bend 4 = .ok (.iload_n 2, 1) := by decide +kernel
theorem dX3_bend_5 : decode cX3_bend 5 = .ok (.aload_n 0, 1) := by decide +kernel
theorem dX3_bend_6 : decode cX3_bend 6 = .ok (.getfield 32, 3) := by decide +kernel
theorem dX3_bend_9 : decode cX3_bend 9 = .ok (.iconst 1, 1) := by decide +kernel
theorem dX3_bend_10 : decode cX3_bend 10 = .ok (.isub, 1) := by decide +kernel
theorem dX3_bend_11 : decode cX3_bend 11 = .ok (.iload_n 2, 1) := by decide +kernel
theorem dX3_bend_12 : decode cX3_bend 12 = .ok (.isub, 1) := by decide +kernel
theorem dX3_bend_13 : decode cX3_bend 13 = .ok (.if_icmp .ge 43, 3) := by decide +kernel
theorem dX3_bend_16 : decode cX3_bend 16 = .ok (.iload_n 1, 1) := by decide +kernel
theorem dX3_bend_17 : decode cX3_bend 17 = .ok (.aload_n 0, 1) := by decide +kernel
theorem dX3_bend_18 : decode cX3_bend 18 = .ok (.getfield 28, 3) := by decide +kernel
theorem dX3_bend_21 : decode cX3_bend 21 = .ok (.iload_n 2, 1) := by decide +kernel
theorem dX3_bend_22 : decode cX3_bend 22 = .ok (.invokestatic 53, 3) := by decide +kernel
theorem dX3_bend_25 : decode cX3_bend 25 = .ok (.aload_n 0, 1) := by decide +kernel
theorem dX3_bend_26 : decode cX3_bend 26 = .ok (.getfield 28, 3) := by decide +kernel
theorem dX3_bend_29 : decode cX3_bend 29 = .ok (.aload_n 0, 1) := by decide +kernel
theorem dX3_bend_30 : decode cX3_bend 30 = .ok (.getfield 32, 3) := by decide +kernel
theorem dX3_bend_33 : decode cX3_bend 33 = .ok (.iconst 1, 1) := by decide +kernel
theorem dX3_bend_34 : decode cX3_bend 34 = .ok (.isub, 1) := by decide +kernel
theorem dX3_bend_35 : decode cX3_bend 35 = .ok (.iload_n 2, 1) := by decide +kernel
theorem dX3_bend_36 : decode cX3_bend 36 = .ok (.isub, 1) := by decide +kernel
theorem dX3_bend_37 : decode cX3_bend 37 = .ok (.invokestatic 53, 3) := by decide +kernel
theorem dX3_bend_40 : decode cX3_bend 40 = .ok (.if_icmp .eq 7, 3) := by decide +kernel
theorem dX3_bend_43 : decode cX3_bend 43 = .ok (.iconst 1, 1) := by decide +kernel
theorem dX3_bend_44 : decode cX3_bend 44 = .ok (.goto 4, 3) := by decide +kernel
theorem dX3_bend_47 : decode cX3_bend 47 = .ok (.iconst 0, 1) := by decide +kernel
theorem dX3_bend_48 : decode cX3_bend 48 = .ok (.iadd, 1) := by decide +kernel
theorem dX3_bend_49 : decode cX3_bend 49 = .ok (.istore_n 1, 1) := by decide +kernel
theorem dX3_bend_50 : decode cX3_bend 50 = .ok (.iinc 2 1, 3) := by decide +kernel
theorem dX3_bend_53 : decode cX3_bend 53 = .ok (.goto (-49), 3) := by decide +kernel
theorem dX3_bend_56 : decode cX3_bend 56 = .ok (.iload_n 1, 1) := by decide +kernel
theorem dX3_bend_57 : decode cX3_bend 57 = .ok (.ireturn, 1) := by decide +kernel
theorem dX3_twice_0 : decode cX3_twice 0 = .ok (.iconst 0, 1) := by decide +kernel
theorem dX3_twice_1 : decode cX3_twice 1 = .ok (.istore_n 1, 1) := by decide +kernel
theorem dX3_twice_2 : decode cX3_twice 2 = .ok (.iconst 0, 1) := by decide +kernel
theorem dX3_twice_3 : decode cX3_twice 3 = .ok (.istore_n 2, 1) := by decide +kernel
theorem dX3_twice_4 : decode cX3_twice 4 = .ok (.iload_n 2, 1) := by decide +kernel
theorem dX3_twice_5 : decode cX3_twice 5 = .ok (.aload_n 0, 1) := by decide +kernel
theorem dX3_twice_6 : decode cX3_twice 6 = .ok (.getfield 32, 3) := by decide +kernel
theorem dX3_twice_9 : decode cX3_twice 9 = .ok (.if_icmp .ge 38, 3) := by decide +kernel
theorem dX3_twice_12 : decode cX3_twice 12 = .ok (.iload_n 2, 1) := by decide +kernel
theorem dX3_twice_13 : decode cX3_twice 13 = .ok (.iconst 1, 1) := by decide +kernel
theorem dX3_twice_14 : decode cX3_twice 14 = .ok (.iadd, 1) := by decide +kernel
theorem dX3_twice_15 : decode cX3_twice 15 = .ok (.istore_n 3, 1) := by decide +kernel
theorem dX3_twice_16 : decode cX3_twice 16 = .ok (.iload_n 3, 1) := by decide +kernel
theorem dX3_twice_17 : decode cX3_twice 17 = .ok (.aload_n 0, 1) := by decide +kernel
theorem dX3_twice_18 : decode cX3_twice 18 = .ok (.getfield 32, 3) := by decide +kernel
theorem dX3_twice_21 : decode cX3_twice 21 = .ok (.if_icmp .ge 20, 3) := by decide +kernel
theorem dX3_twice_24 : decode cX3_twice 24 = .ok (.iload_n 1, 1) := by decide +kernel
theorem dX3_twice_25 : decode cX3_twice 25 = .ok (.aload_n 0, 1) := by decide +kernel
theorem dX3_twice_26 : decode cX3_twice 26 = .ok (.iload_n 2, 1) := by decide +kernel
theorem dX3_twice_27 : decode cX3_twice 27 = .ok (.iload_n 3, 1) := by decide +kernel
theorem dX3_twice_28 : decode cX3_twice 28 = .ok (.invokevirtual 92, 3) := by decide +kernel
theorem dX3_twice_31 : decode cX3_twice 31 = .ok (.invokestatic 83, 3) := by decide +kernel
theorem dX3_twice_34 : decode cX3_twice 34 = .ok (.istore_n 1, 1) := by decide +kernel
theorem dX3_twice_35 : decode cX3_twice 35 = .ok (.iinc 3 1, 3) := by decide +kernel
theorem dX3_twice_38 : decode cX3_twice 38 = .ok (.goto (-22), 3) := by decide +kernel
theorem dX3_twice_41 : decode cX3_twice 41 = .ok (.iinc 2 1, 3) := by decide +kernel
theorem dX3_twice_44 : decode cX3_twice 44 = .ok (.goto (-40), 3) := by decide +kernel
theorem dX3_twice_47 : decode cX3_twice 47 = .ok (.iload_n 1, 1) := by decide +kernel
theorem dX3_twice_48 : decode cX3_twice 48 = .ok (.ireturn, 1) := by decide +kernel
theorem dX3_alikeFrom_0 : decode cX3_alikeFrom 0 = .ok (.iconst 0, 1) := by decide +kernel
theorem dX3_alikeFrom_1 : decode cX3_alikeFrom 1 = .ok (.istore_n 3, 1) := by decide +kernel
theorem dX3_alikeFrom_2 : decode cX3_alikeFrom 2 = .ok (.iload_n 2, 1) := by decide +kernel
theorem dX3_alikeFrom_3 : decode cX3_alikeFrom 3 = .ok (.iload_n 3, 1) := by decide +kernel
theorem dX3_alikeFrom_4 : decode cX3_alikeFrom 4 = .ok (.iadd, 1) := by decide +kernel
theorem dX3_alikeFrom_5 : decode cX3_alikeFrom 5 = .ok (.aload_n 0, 1) := by decide +kernel
theorem dX3_alikeFrom_6 : decode cX3_alikeFrom 6 = .ok (.getfield 32, 3) := by decide +kernel
theorem dX3_alikeFrom_9 : decode cX3_alikeFrom 9 = .ok (.if_icmp .ge 32, 3) := by decide +kernel
theorem dX3_alikeFrom_12 : decode cX3_alikeFrom 12 = .ok (.aload_n 0, 1) := by decide +kernel
theorem dX3_alikeFrom_13 : decode cX3_alikeFrom 13 = .ok (.getfield 28, 3) := by decide +kernel
theorem dX3_alikeFrom_16 : decode cX3_alikeFrom 16 = .ok (.iload_n 1, 1) := by decide +kernel
theorem dX3_alikeFrom_17 : decode cX3_alikeFrom 17 = .ok (.iload_n 3, 1) := by decide +kernel
theorem dX3_alikeFrom_18 : decode cX3_alikeFrom 18 = .ok (.iadd, 1) := by decide +kernel
theorem dX3_alikeFrom_19 : decode cX3_alikeFrom 19 = .ok (.invokestatic 53, 3) := by decide +kernel
theorem dX3_alikeFrom_22 : decode cX3_alikeFrom 22 = .ok (.aload_n 0, 1) := by decide +kernel
theorem dX3_alikeFrom_23 : decode cX3_alikeFrom 23 = .ok (.getfield 28, 3) := by decide +kernel
theorem dX3_alikeFrom_26 : decode cX3_alikeFrom 26 = .ok (.iload_n 2, 1) := by decide +kernel
theorem dX3_alikeFrom_27 : decode cX3_alikeFrom 27 = .ok (.iload_n 3, 1) := by decide +kernel
theorem dX3_alikeFrom_28 : decode cX3_alikeFrom 28 = .ok (.iadd, 1) := by decide +kernel
theorem dX3_alikeFrom_29 : decode cX3_alikeFrom 29 = .ok (.invokestatic 53, 3) := by decide +kernel
theorem dX3_alikeFrom_32 : decode cX3_alikeFrom 32 = .ok (.if_icmp .ne 9, 3) := by decide +kernel
theorem dX3_alikeFrom_35 : decode cX3_alikeFrom 35 = .ok (.iinc 3 1, 3) := by decide +kernel
theorem dX3_alikeFrom_38 : decode cX3_alikeFrom 38 = .ok (.goto (-36), 3) := by decide +kernel
theorem dX3_alikeFrom_41 : decode cX3_alikeFrom 41 = .ok (.iload_n 3, 1) := by decide +kernel
theorem dX3_alikeFrom_42 : decode cX3_alikeFrom 42 = .ok (.ireturn, 1) := by decide +kernel
theorem dX4_init_0 : decode cX4_init 0 = .ok (.aload_n 0, 1) := by decide +kernel
theorem dX4_init_1 : decode cX4_init 1 = .ok (.invokespecial 3, 3) := by decide +kernel
theorem dX4_init_4 : decode cX4_init 4 = .ok (.aload_n 0, 1) := by decide +kernel
theorem dX4_init_5 : decode cX4_init 5 = .ok (.bipush 61, 2) := by decide +kernel
theorem dX4_init_7 : decode cX4_init 7 = .ok (.newarray .int, 2) := by decide +kernel
theorem dX4_init_9 : decode cX4_init 9 = .ok (.putfield 9, 3) := by decide +kernel
theorem dX4_init_12 : decode cX4_init 12 = .ok (.return_, 1) := by decide +kernel
theorem dX4_run_0 : decode cX4_run 0 = .ok (.aload_n 0, 1) := by decide +kernel
theorem dX4_run_1 : decode cX4_run 1 = .ok (.iconst (-1), 1) := by decide +kernel
theorem dX4_run_2 : decode cX4_run 2 = .ok (.putfield 15, 3) := by decide +kernel
theorem dX4_run_5 : decode cX4_run 5 = .ok (.aload_n 0, 1) := by decide +kernel
theorem dX4_run_6 : decode cX4_run 6 = .ok (.iconst (-1), 1) := by decide +kernel
theorem dX4_run_7 : decode cX4_run 7 = .ok (.putfield 19, 3) := by decide +kernel
theorem dX4_run_10 : decode cX4_run 10 = .ok (.aload_n 0, 1) := by decide +kernel
theorem dX4_run_11 : decode cX4_run 11 = .ok (.aload_n 1, 1) := by decide +kernel
theorem dX4_run_12 : decode cX4_run 12 = .ok (.getfield 22, 3) := by decide +kernel
theorem dX4_run_15 : decode cX4_run 15 = .ok (.putfield 27, 3) := by decide +kernel
theorem dX4_run_18 : decode cX4_run 18 = .ok (.aload_n 0, 1) := by decide +kernel
theorem dX4_run_19 : decode cX4_run 19 = .ok (.getfield 9, 3) := by decide +kernel
theorem dX4_run_22 : decode cX4_run 22 = .ok (.iconst 0, 1) := by decide +kernel
theorem dX4_run_23 : decode cX4_run 23 = .ok (.aload_n 0, 1) := by decide +kernel
theorem dX4_run_24 : decode cX4_run 24 = .ok (.getfield 27, 3) := by decide +kernel
theorem dX4_run_27 : decode cX4_run 27 = .ok (.iastore, 1) := by decide +kernel
theorem dX4_run_28 : decode cX4_run 28 = .ok (.iconst 1, 1) := by decide +kernel
theorem dX4_run_29 : decode cX4_run 29 = .ok (.istore_n 2, 1) := by decide +kernel
theorem dX4_run_30 : decode cX4_run 30 = .ok (.iload_n 2, 1) := by decide +kernel
theorem dX4_run_31 : decode cX4_run 31 = .ok (.bipush 60, 2) := by decide +kernel
theorem dX4_run_33 : decode cX4_run 33 = .ok (.if_icmp .gt 60, 3) := by decide +kernel
theorem dX4_run_36 : decode cX4_run 36 = .ok (.aload_n 0, 1) := by decide +kernel
theorem dX4_run_37 : decode cX4_run 37 = .ok (.getfield 15, 3) := by decide +kernel
theorem dX4_run_40 : decode cX4_run 40 = .ok (.iconst (-1), 1) := by decide +kernel
theorem dX4_run_41 : decode cX4_run 41 = .ok (.if_icmp .ne 52, 3) := by decide +kernel
theorem dX4_run_44 : decode cX4_run 44 = .ok (.aload_n 0, 1) := by decide +kernel
theorem dX4_run_45 : decode cX4_run 45 = .ok (.getfield 19, 3) := by decide +kernel
theorem dX4_run_48 : decode cX4_run 48 = .ok (.iconst (-1), 1) := by decide +kernel
theorem dX4_run_49 : decode cX4_run 49 = .ok (.if_icmp .ne 44, 3) := by decide +kernel
theorem dX4_run_52 : decode cX4_run 52 = .ok (.aload_n 0, 1) := by decide +kernel
theorem dX4_run_53 : decode cX4_run 53 = .ok (.aload_n 1, 1) := by decide +kernel
theorem dX4_run_54 : decode cX4_run 54 = .ok (.invokevirtual 30, 3) := by decide +kernel
theorem dX4_run_57 : decode cX4_run 57 = .ok (.istore_n 3, 1) := by decide +kernel
theorem dX4_run_58 : decode cX4_run 58 = .ok (.aload_n 0, 1) := by decide +kernel
theorem dX4_run_59 : decode cX4_run 59 = .ok (.getfield 9, 3) := by decide +kernel
theorem dX4_run_62 : decode cX4_run 62 = .ok (.iload_n 2, 1) := by decide +kernel
theorem dX4_run_63 : decode cX4_run 63 = .ok (.aload_n 0, 1) := by decide +kernel
theorem dX4_run_64 : decode cX4_run 64 = .ok (.getfield 27, 3) := by decide +kernel
theorem dX4_run_67 : decode cX4_run 67 = .ok (.iastore, 1) := by decide +kernel
theorem dX4_run_68 : decode cX4_run 68 = .ok (.iload_n 3, 1) := by decide +kernel
theorem dX4_run_69 : decode cX4_run 69 = .ok (.ifCond .ne 13, 3) := by decide +kernel
theorem dX4_run_72 : decode cX4_run 72 = .ok (.aload_n 0, 1) := by decide +kernel
theorem dX4_run_73 : decode cX4_run 73 = .ok (.iload_n 2, 1) := by decide +kernel
theorem dX4_run_74 : decode cX4_run 74 = .ok (.iconst 1, 1) := by decide +kernel
theorem dX4_run_75 : decode cX4_run 75 = .ok (.isub, 1) := by decide +kernel
theorem dX4_run_76 : decode cX4_run 76 = .ok (.putfield 15, 3) := by decide +kernel
theorem dX4_run_79 : decode cX4_run 79 = .ok (.goto 8, 3) := by decide +kernel
theorem dX4_run_82 : decode cX4_run 82 = .ok (.aload_n 0, 1) := by decide +kernel
theorem dX4_run_83 : decode cX4_run 83 = .ok (.iload_n 2, 1) := by decide +kernel
theorem dX4_run_84 : decode cX4_run 84 = .ok (.invokevirtual 34, 3) := by decide +kernel
theorem dX4_run_87 : decode cX4_run 87 = .ok (.iinc 2 1, 3) := by decide +kernel
theorem dX4_run_90 : decode cX4_run 90 = .ok (.goto (-60), 3) := by decide +kernel
theorem dX4_run_93 : decode cX4_run 93 = .ok (.return_, 1) := by decide +kernel
theorem dX4_lap_0 : decode cX4_lap 0 = .ok (.iconst 0, 1) := by decide +kernel
theorem dX4_lap_1 : decode cX4_lap 1 = .ok (.istore_n 2, 1) := by decide +kernel
theorem dX4_lap_2 : decode cX4_lap 2 = .ok (.iconst 0, 1) := by decide +kernel
theorem dX4_lap_3 : decode cX4_lap 3 = .ok (.istore_n 3, 1) := by decide +kernel
theorem dX4_lap_4 : decode cX4_lap 4 = .ok (.iload_n 3, 1) := by decide +kernel
theorem dX4_lap_5 : decode cX4_lap 5 = .ok (.aload_n 1, 1) := by decide +kernel
theorem dX4_lap_6 : decode cX4_lap 6 = .ok (.getfield 38, 3) := by decide +kernel
theorem dX4_lap_9 : decode cX4_lap 9 = .ok (.if_icmp .ge 45, 3) := by decide +kernel
theorem dX4_lap_12 : decode cX4_lap 12 = .ok (.aload_n 1, 1) := by decide +kernel
theorem dX4_lap_13 : decode cX4_lap 13 = .ok (.iload_n 3, 1) := by decide +kernel
theorem dX4_lap_14 : decode cX4_lap 14 = .ok (.aload_n 0, 1) := by decide +kernel
theorem dX4_lap_15 : decode cX4_lap 15 = .ok (.getfield 27, 3) := by decide +kernel
theorem dX4_lap_18 : decode cX4_lap 18 = .ok (.invokevirtual 41, 3) := by decide +kernel
theorem dX4_lap_21 : decode cX4_lap 21 = .ok (.istore 4, 2) := by decide +kernel
theorem dX4_lap_23 : decode cX4_lap 23 = .ok (.iload_n 2, 1) := by decide +kernel
theorem dX4_lap_24 : decode cX4_lap 24 = .ok (.ifCond .ne 12, 3) := by decide +kernel
theorem dX4_lap_27 : decode cX4_lap 27 = .ok (.iload 4, 2) := by decide +kernel
theorem dX4_lap_29 : decode cX4_lap 29 = .ok (.aload_n 0, 1) := by decide +kernel
theorem dX4_lap_30 : decode cX4_lap 30 = .ok (.getfield 27, 3) := by decide +kernel
theorem dX4_lap_33 : decode cX4_lap 33 = .ok (.if_icmp .eq 7, 3) := by decide +kernel
theorem dX4_lap_36 : decode cX4_lap 36 = .ok (.iconst 1, 1) := by decide +kernel
theorem dX4_lap_37 : decode cX4_lap 37 = .ok (.goto 4, 3) := by decide +kernel
theorem dX4_lap_40 : decode cX4_lap 40 = .ok (.iconst 0, 1) := by decide +kernel
theorem dX4_lap_41 : decode cX4_lap 41 = .ok (.istore_n 2, 1) := by decide +kernel
theorem dX4_lap_42 : decode cX4_lap 42 = .ok (.aload_n 0, 1) := by decide +kernel
theorem dX4_lap_43 : decode cX4_lap 43 = .ok (.iload 4, 2) := by decide +kernel
theorem dX4_lap_45 : decode cX4_lap 45 = .ok (.putfield 27, 3) := by decide +kernel
theorem dX4_lap_48 : decode cX4_lap 48 = .ok (.iinc 3 1, 3) := by decide +kernel
theorem dX4_lap_51 : decode cX4_lap 51 = .ok (.goto (-47), 3) := by decide +kernel
theorem dX4_lap_54 : decode cX4_lap 54 = .ok (.iload_n 2, 1) := by decide +kernel
theorem dX4_lap_55 : decode cX4_lap 55 = .ok (.ireturn, 1) := by decide +kernel
theorem dX4_seek_0 : decode cX4_seek 0 = .ok (.iconst 0, 1) := by decide +kernel
theorem dX4_seek_1 : decode cX4_seek 1 = .ok (.istore_n 2, 1) := by decide +kernel
theorem dX4_seek_2 : decode cX4_seek 2 = .ok (.iload_n 2, 1) := by decide +kernel
theorem dX4_seek_3 : decode cX4_seek 3 = .ok (.iload_n 1, 1) := by decide +kernel
theorem dX4_seek_4 : decode cX4_seek 4 = .ok (.if_icmp .ge 29, 3) := by decide +kernel
theorem dX4_seek_7 : decode cX4_seek 7 = .ok (.aload_n 0, 1) := by decide +kernel
theorem dX4_seek_8 : decode cX4_seek 8 = .ok (.getfield 9, 3) := by decide +kernel
theorem dX4_seek_11 : decode cX4_seek 11 = .ok (.iload_n 2, 1) := by decide +kernel
theorem dX4_seek_12 : decode cX4_seek 12 = .ok (.iaload, 1) := by decide +kernel
theorem dX4_seek_13 : decode cX4_seek 13 = .ok (.aload_n 0, 1) := by decide +kernel
theorem dX4_seek_14 : decode cX4_seek 14 = .ok (.getfield 27, 3) := by decide +kernel
theorem dX4_seek_17 : decode cX4_seek 17 = .ok (.if_icmp .ne 10, 3) := by decide +kernel
theorem dX4_seek_20 : decode cX4_seek 20 = .ok (.aload_n 0, 1) := by decide +kernel
theorem dX4_seek_21 : decode cX4_seek 21 = .ok (.iload_n 1, 1) := by decide +kernel
theorem dX4_seek_22 : decode cX4_seek 22 = .ok (.iload_n 2, 1) := by decide +kernel
theorem dX4_seek_23 : decode cX4_seek 23 = .ok (.isub, 1) := by decide +kernel
theorem dX4_seek_24 : decode cX4_seek 24 = .ok (.putfield 19, 3) := by decide +kernel
theorem dX4_seek_27 : decode cX4_seek 27 = .ok (.iinc 2 1, 3) := by decide +kernel
theorem dX4_seek_30 : decode cX4_seek 30 = .ok (.goto (-28), 3) := by decide +kernel
theorem dX4_seek_33 : decode cX4_seek 33 = .ok (.return_, 1) := by decide +kernel
theorem dX5_init_0 : decode cX5_init 0 = .ok (.aload_n 0, 1) := by decide +kernel
theorem dX5_init_1 : decode cX5_init 1 = .ok (.invokespecial 3, 3) := by decide +kernel
theorem dX5_init_4 : decode cX5_init 4 = .ok (.aload_n 0, 1) := by decide +kernel
theorem dX5_init_5 : decode cX5_init 5 = .ok (.iconst (-1), 1) := by decide +kernel
theorem dX5_init_6 : decode cX5_init 6 = .ok (.putfield 9, 3) := by decide +kernel
theorem dX5_init_9 : decode cX5_init 9 = .ok (.aload_n 0, 1) := by decide +kernel
theorem dX5_init_10 : decode cX5_init 10 = .ok (.bipush 6, 2) := by decide +kernel
theorem dX5_init_12 : decode cX5_init 12 = .ok (.newarray .int, 2) := by decide +kernel
theorem dX5_init_14 : decode cX5_init 14 = .ok (.putfield 15, 3) := by decide +kernel
theorem dX5_init_17 : decode cX5_init 17 = .ok (.aload_n 0, 1) := by decide +kernel
theorem dX5_init_18 : decode cX5_init 18 = .ok (.bipush 7, 2) := by decide +kernel
theorem dX5_init_20 : decode cX5_init 20 = .ok (.newarray .int, 2) := by decide +kernel
theorem dX5_init_22 : decode cX5_init 22 = .ok (.putfield 19, 3) := by decide +kernel
theorem dX5_init_25 : decode cX5_init 25 = .ok (.aload_n 0, 1) := by decide +kernel
theorem dX5_init_26 : decode cX5_init 26 = .ok (.sipush 720, 3) := by decide +kernel
theorem dX5_init_29 : decode cX5_init 29 = .ok (.newarray .int, 2) := by decide +kernel
theorem dX5_init_31 : decode cX5_init 31 = .ok (.putfield 22, 3) := by decide +kernel
theorem dX5_init_34 : decode cX5_init 34 = .ok (.aload_n 0, 1) := by decide +kernel
theorem dX5_init_35 : decode cX5_init 35 = .ok (.sipush 720, 3) := by decide +kernel
theorem dX5_init_38 : decode cX5_init 38 = .ok (.newarray .int, 2) := by decide +kernel
theorem dX5_init_40 : decode cX5_init 40 = .ok (.putfield 25, 3) := by decide +kernel
theorem dX5_init_43 : decode cX5_init 43 = .ok (.aload_n 0, 1) := by decide +kernel
theorem dX5_init_44 : decode cX5_init 44 = .ok (.sipush 720, 3) := by decide +kernel
theorem dX5_init_47 : decode cX5_init 47 = .ok (.newarray .int, 2) := by decide +kernel
theorem dX5_init_49 : decode cX5_init 49 = .ok (.putfield 28, 3) := by decide +kernel
theorem dX5_init_52 : decode cX5_init 52 = .ok (.aload_n 0, 1) := by decide +kernel
theorem dX5_init_53 : decode cX5_init 53 = .ok (.sipush 720, 3) := by decide +kernel
theorem dX5_init_56 : decode cX5_init 56 = .ok (.newarray .int, 2) := by decide +kernel
theorem dX5_init_58 : decode cX5_init 58 = .ok (.putfield 31, 3) := by decide +kernel
theorem dX5_init_61 : decode cX5_init 61 = .ok (.return_, 1) := by decide +kernel
theorem dX5_forget_0 : decode cX5_forget 0 = .ok (.aload_n 0, 1) := by decide +kernel
theorem dX5_forget_1 : decode cX5_forget 1 = .ok (.iconst (-1), 1) := by decide +kernel
theorem dX5_forget_2 : decode cX5_forget 2 = .ok (.putfield 9, 3) := by decide +kernel
theorem dX5_forget_5 : decode cX5_forget 5 = .ok (.return_, 1) := by decide +kernel
theorem dX5_make_0 : decode cX5_make 0 = .ok (.aload_n 0, 1) := by decide +kernel
theorem dX5_make_1 : decode cX5_make 1 = .ok (.getfield 9, 3) := by decide +kernel
theorem dX5_make_4 : decode cX5_make 4 = .ok (.iload_n 1, 1) := by decide +kernel
theorem dX5_make_5 : decode cX5_make 5 = .ok (.if_icmp .ne 4, 3) := by decide +kernel
theorem dX5_make_8 : decode cX5_make 8 = .ok (.return_, 1) := by decide +kernel
theorem dX5_make_9 : decode cX5_make 9 = .ok (.aload_n 0, 1) := by decide +kernel
theorem dX5_make_10 : decode cX5_make 10 = .ok (.iload_n 1, 1) := by decide +kernel
theorem dX5_make_11 : decode cX5_make 11 = .ok (.putfield 9, 3) := by decide +kernel
theorem dX5_make_14 : decode cX5_make 14 = .ok (.aload_n 0, 1) := by decide +kernel
theorem dX5_make_15 : decode cX5_make 15 = .ok (.iconst 0, 1) := by decide +kernel
theorem dX5_make_16 : decode cX5_make 16 = .ok (.putfield 34, 3) := by decide +kernel
theorem dX5_make_19 : decode cX5_make 19 = .ok (.aload_n 0, 1) := by decide +kernel
theorem dX5_make_20 : decode cX5_make 20 = .ok (.aload_n 2, 1) := by decide +kernel
theorem dX5_make_21 : decode cX5_make 21 = .ok (.getfield 37, 3) := by decide +kernel
theorem dX5_make_24 : decode cX5_make 24 = .ok (.bipush 6, 2) := by decide +kernel
theorem dX5_make_26 : decode cX5_make 26 = .ok (.invokestatic 42, 3) := by decide +kernel
theorem dX5_make_29 : decode cX5_make 29 = .ok (.putfield 48, 3) := by decide +kernel
theorem dX5_make_32 : decode cX5_make 32 = .ok (.aload_n 0, 1) := by decide +kernel
theorem dX5_make_33 : decode cX5_make 33 = .ok (.aload_n 2, 1) := by decide +kernel
theorem dX5_make_34 : decode cX5_make 34 = .ok (.getfield 49, 3) := by decide +kernel
theorem dX5_make_37 : decode cX5_make 37 = .ok (.putfield 52, 3) := by decide +kernel
theorem dX5_make_40 : decode cX5_make 40 = .ok (.iconst 0, 1) := by decide +kernel
theorem dX5_make_41 : decode cX5_make 41 = .ok (.istore_n 3, 1) := by decide +kernel
theorem dX5_make_42 : decode cX5_make 42 = .ok (.iload_n 3, 1) := by decide +kernel
theorem dX5_make_43 : decode cX5_make 43 = .ok (.aload_n 0, 1) := by decide +kernel
theorem dX5_make_44 : decode cX5_make 44 = .ok (.getfield 48, 3) := by decide +kernel
theorem dX5_make_47 : decode cX5_make 47 = .ok (.if_icmp .ge 16, 3) := by decide +kernel
theorem dX5_make_50 : decode cX5_make 50 = .ok (.aload_n 0, 1) := by decide +kernel
theorem dX5_make_51 : decode cX5_make 51 = .ok (.getfield 15, 3) := by decide +kernel
theorem dX5_make_54 : decode cX5_make 54 = .ok (.iload_n 3, 1) := by decide +kernel
theorem dX5_make_55 : decode cX5_make 55 = .ok (.iload_n 3, 1) := by decide +kernel
theorem dX5_make_56 : decode cX5_make 56 = .ok (.iastore, 1) := by decide +kernel
theorem dX5_make_57 : decode cX5_make 57 = .ok (.iinc 3 1, 3) := by decide +kernel
theorem dX5_make_60 : decode cX5_make 60 = .ok (.goto (-18), 3) := by decide +kernel
theorem dX5_make_63 : decode cX5_make 63 = .ok (.aload_n 0, 1) := by decide +kernel
theorem dX5_make_64 : decode cX5_make 64 = .ok (.getfield 19, 3) := by decide +kernel
theorem dX5_make_67 : decode cX5_make 67 = .ok (.iconst 0, 1) := by decide +kernel
theorem dX5_make_68 : decode cX5_make 68 = .ok (.aload_n 2, 1) := by decide +kernel
theorem dX5_make_69 : decode cX5_make 69 = .ok (.getfield 53, 3) := by decide +kernel
theorem dX5_make_72 : decode cX5_make 72 = .ok (.iastore, 1) := by decide +kernel
theorem dX5_make_73 : decode cX5_make 73 = .ok (.iconst 0, 1) := by decide +kernel
theorem dX5_make_74 : decode cX5_make 74 = .ok (.istore_n 3, 1) := by decide +kernel
theorem dX5_make_75 : decode cX5_make 75 = .ok (.iconst 0, 1) := by decide +kernel
theorem dX5_make_76 : decode cX5_make 76 = .ok (.istore 4, 2) := by decide +kernel
theorem dX5_make_78 : decode cX5_make 78 = .ok (.iload 4, 2) := by decide +kernel
theorem dX5_make_80 : decode cX5_make 80 = .ok (.sipush 720, 3) := by decide +kernel
theorem dX5_make_83 : decode cX5_make 83 = .ok (.if_icmp .ge 69, 3) := by decide +kernel
theorem dX5_make_86 : decode cX5_make 86 = .ok (.iload_n 3, 1) := by decide +kernel
theorem dX5_make_87 : decode cX5_make 87 = .ok (.iconst (-1), 1) := by decide +kernel
theorem dX5_make_88 : decode cX5_make 88 = .ok (.if_icmp .eq 64, 3) := by decide +kernel
theorem dX5_make_91 : decode cX5_make 91 = .ok (.iload_n 3, 1) := by decide +kernel
theorem dX5_make_92 : decode cX5_make 92 = .ok (.istore 5, 2) := by decide +kernel
theorem dX5_make_94 : decode cX5_make 94 = .ok (.iload 5, 2) := by decide +kernel
theorem dX5_make_96 : decode cX5_make 96 = .ok (.aload_n 0, 1) := by decide +kernel
theorem dX5_make_97 : decode cX5_make 97 = .ok (.getfield 48, 3) := by decide +kernel
theorem dX5_make_100 : decode cX5_make 100 = .ok (.if_icmp .ge 36, 3) := by decide +kernel
theorem dX5_make_103 : decode cX5_make 103 = .ok (.aload_n 0, 1) := by decide +kernel
theorem dX5_make_104 : decode cX5_make 104 = .ok (.getfield 19, 3) := by decide +kernel
theorem dX5_make_107 : decode cX5_make 107 = .ok (.iload 5, 2) := by decide +kernel
theorem dX5_make_109 : decode cX5_make 109 = .ok (.iconst 1, 1) := by decide +kernel
theorem dX5_make_110 : decode cX5_make 110 = .ok (.iadd, 1) := by decide +kernel
theorem dX5_make_111 : decode cX5_make 111 = .ok (.aload_n 2, 1) := by decide +kernel
theorem dX5_make_112 : decode cX5_make 112 = .ok (.aload_n 0, 1) := by decide +kernel
theorem dX5_make_113 : decode cX5_make 113 = .ok (.getfield 15, 3) := by decide +kernel
theorem dX5_make_116 : decode cX5_make 116 = .ok (.iload 5, 2) := by decide +kernel
theorem dX5_make_118 : decode cX5_make 118 = .ok (.iaload, 1) := by decide +kernel
theorem dX5_make_119 : decode cX5_make 119 = .ok (.aload_n 0, 1) := by decide +kernel
theorem dX5_make_120 : decode cX5_make 120 = .ok (.getfield 19, 3) := by decide +kernel
theorem dX5_make_123 : decode cX5_make 123 = .ok (.iload 5, 2) := by decide +kernel
theorem dX5_make_125 : decode cX5_make 125 = .ok (.iaload, 1) := by decide +kernel
theorem dX5_make_126 : decode cX5_make 126 = .ok (.invokevirtual 55, 3) := by decide +kernel
theorem dX5_make_129 : decode cX5_make 129 = .ok (.iastore, 1) := by decide +kernel
theorem dX5_make_130 : decode cX5_make 130 = .ok (.iinc 5 1, 3) := by decide +kernel
theorem dX5_make_133 : decode cX5_make 133 = .ok (.goto (-39), 3) := by decide +kernel
theorem dX5_make_136 : decode cX5_make 136 = .ok (.aload_n 0, 1) := by decide +kernel
theorem dX5_make_137 : decode cX5_make 137 = .ok (.aload_n 2, 1) := by decide +kernel
theorem dX5_make_138 : decode cX5_make 138 = .ok (.invokevirtual 58, 3) := by decide +kernel
theorem dX5_make_141 : decode cX5_make 141 = .ok (.aload_n 0, 1) := by decide +kernel
theorem dX5_make_142 : decode cX5_make 142 = .ok (.invokevirtual 62, 3) := by decide +kernel
theorem dX5_make_145 : decode cX5_make 145 = .ok (.istore_n 3, 1) := by decide +kernel
theorem dX5_make_146 : decode cX5_make 146 = .ok (.iinc 4 1, 3) := by decide +kernel
theorem dX5_make_149 : decode cX5_make 149 = .ok (.goto (-71), 3) := by decide +kernel
theorem dX5_make_152 : decode cX5_make 152 = .ok (.return_, 1) := by decide +kernel
theorem dX5_keep_0 : decode cX5_keep 0 = .ok (.iconst 1, 1) := by decide +kernel
theorem dX5_keep_1 : decode cX5_keep 1 = .ok (.istore_n 2, 1) := by decide +kernel
theorem dX5_keep_2 : decode cX5_keep 2 = .ok (.iconst 0, 1) := by decide +kernel
theorem dX5_keep_3 : decode cX5_keep 3 = .ok (.istore_n 3, 1) := by decide +kernel
theorem dX5_keep_4 : decode cX5_keep 4 = .ok (.iload_n 3, 1) := by decide +kernel
theorem dX5_keep_5 : decode cX5_keep 5 = .ok (.aload_n 0, 1) := by decide +kernel
theorem dX5_keep_6 : decode cX5_keep 6 = .ok (.getfield 48, 3) := by decide +kernel
theorem dX5_keep_9 : decode cX5_keep 9 = .ok (.if_icmp .ge 21, 3) := by decide +kernel
theorem dX5_keep_12 : decode cX5_keep 12 = .ok (.bipush 10, 2) := by decide +kernel
theorem dX5_keep_14 : decode cX5_keep 14 = .ok (.iload_n 2, 1) := by decide +kernel
theorem dX5_keep_15 : decode cX5_keep 15 = .ok (.imul, 1) := by decide +kernel
theorem dX5_keep_16 : decode cX5_keep 16 = .ok (.aload_n 0, 1) := by decide +kernel
theorem dX5_keep_17 : decode cX5_keep 17 = .ok (.getfield 15, 3) := by decide +kernel
theorem dX5_keep_20 : decode cX5_keep 20 = .ok (.iload_n 3, 1) := by decide +kernel
theorem dX5_keep_21 : decode cX5_keep 21 = .ok (.iaload, 1) := by decide +kernel
theorem dX5_keep_22 : decode cX5_keep 22 = .ok (.iadd, 1) := by decide +kernel
theorem dX5_keep_23 : decode cX5_keep 23 = .ok (.istore_n 2, 1) := by decide +kernel
theorem dX5_keep_24 : decode cX5_keep 24 = .ok (.iinc 3 1, 3) := by decide +kernel
theorem dX5_keep_27 : decode cX5_keep 27 = .ok (.goto (-23), 3) := by decide +kernel
theorem dX5_keep_30 : decode cX5_keep 30 = .ok (.aload_n 0, 1) := by decide +kernel
theorem dX5_keep_31 : decode cX5_keep 31 = .ok (.getfield 22, 3) := by decide +kernel
theorem dX5_keep_34 : decode cX5_keep 34 = .ok (.aload_n 0, 1) := by decide +kernel
theorem dX5_keep_35 : decode cX5_keep 35 = .ok (.getfield 34, 3) := by decide +kernel
theorem dX5_keep_38 : decode cX5_keep 38 = .ok (.iload_n 2, 1) := by decide +kernel
theorem dX5_keep_39 : decode cX5_keep 39 = .ok (.iastore, 1) := by decide +kernel
theorem dX5_keep_40 : decode cX5_keep 40 = .ok (.aload_n 0, 1) := by decide +kernel
theorem dX5_keep_41 : decode cX5_keep 41 = .ok (.getfield 25, 3) := by decide +kernel
theorem dX5_keep_44 : decode cX5_keep 44 = .ok (.aload_n 0, 1) := by decide +kernel
theorem dX5_keep_45 : decode cX5_keep 45 = .ok (.getfield 34, 3) := by decide +kernel
theorem dX5_keep_48 : decode cX5_keep 48 = .ok (.aload_n 0, 1) := by decide +kernel
theorem dX5_keep_49 : decode cX5_keep 49 = .ok (.getfield 19, 3) := by decide +kernel
theorem dX5_keep_52 : decode cX5_keep 52 = .ok (.aload_n 0, 1) := by decide +kernel
theorem dX5_keep_53 : decode cX5_keep 53 = .ok (.getfield 48, 3) := by decide +kernel
theorem dX5_keep_56 : decode cX5_keep 56 = .ok (.iaload, 1) := by decide +kernel
theorem dX5_keep_57 : decode cX5_keep 57 = .ok (.iastore, 1) := by decide +kernel
theorem dX5_keep_58 : decode cX5_keep 58 = .ok (.aload_n 0, 1) := by decide +kernel
theorem dX5_keep_59 : decode cX5_keep 59 = .ok (.getfield 28, 3) := by decide +kernel
theorem dX5_keep_62 : decode cX5_keep 62 = .ok (.aload_n 0, 1) := by decide +kernel
theorem dX5_keep_63 : decode cX5_keep 63 = .ok (.getfield 34, 3) := by decide +kernel
theorem dX5_keep_66 : decode cX5_keep 66 = .ok (.aload_n 1, 1) := by decide +kernel
theorem dX5_keep_67 : decode cX5_keep 67 = .ok (.aload_n 0, 1) := by decide +kernel
theorem dX5_keep_68 : decode cX5_keep 68 = .ok (.getfield 19, 3) := by decide +kernel
theorem dX5_keep_71 : decode cX5_keep 71 = .ok (.aload_n 0, 1) := by decide +kernel
theorem dX5_keep_72 : decode cX5_keep 72 = .ok (.getfield 48, 3) := by decide +kernel
theorem dX5_keep_75 : decode cX5_keep 75 = .ok (.iaload, 1) := by decide +kernel
theorem dX5_keep_76 : decode cX5_keep 76 = .ok (.invokevirtual 66, 3) := by decide +kernel
theorem dX5_keep_79 : decode cX5_keep 79 = .ok (.iastore, 1) := by decide +kernel
theorem dX5_keep_80 : decode cX5_keep 80 = .ok (.aload_n 0, 1) := by decide +kernel
theorem dX5_keep_81 : decode cX5_keep 81 = .ok (.dup, 1) := by decide +kernel
theorem dX5_keep_82 : decode cX5_keep 82 = .ok (.getfield 34, 3) := by decide +kernel
theorem dX5_keep_85 : decode cX5_keep 85 = .ok (.iconst 1, 1) := by decide +kernel
theorem dX5_keep_86 : decode cX5_keep 86 = .ok (.iadd, 1) := by decide +kernel
theorem dX5_keep_87 : decode cX5_keep 87 = .ok (.putfield 34, 3) := by decide +kernel
theorem dX5_keep_90 : decode cX5_keep 90 = .ok (.return_, 1) := by decide +kernel
theorem dX5_turn_0 : decode cX5_turn 0 = .ok (.aload_n 0, 1) := by decide +kernel
theorem dX5_turn_1 : decode cX5_turn 1 = .ok (.getfield 48, 3) := by decide +kernel
theorem dX5_turn_4 : decode cX5_turn 4 = .ok (.iconst 2, 1) := by decide +kernel
theorem dX5_turn_5 : decode cX5_turn 5 = .ok (.isub, 1) := by decide +kernel
theorem dX5_turn_6 : decode cX5_turn 6 = .ok (.istore_n 1, 1) := by decide +kernel
theorem dX5_turn_7 : decode cX5_turn 7 = .ok (.iload_n 1, 1) := by decide +kernel
theorem dX5_turn_8 : decode cX5_turn 8 = .ok (.ifCond .lt 26, 3) := by decide +kernel
theorem dX5_turn_11 : decode cX5_turn 11 = .ok (.aload_n 0, 1) := by decide +kernel
theorem dX5_turn_12 : decode cX5_turn 12 = .ok (.getfield 15, 3) := by decide +kernel
theorem dX5_turn_15 : decode cX5_turn 15 = .ok (.iload_n 1, 1) := by decide +kernel
theorem dX5_turn_16 : decode cX5_turn 16 = .ok (.iaload, 1) := by decide +kernel
theorem dX5_turn_17 : decode cX5_turn 17 = .ok (.aload_n 0, 1) := by decide +kernel
theorem dX5_turn_18 : decode cX5_turn 18 = .ok (.getfield 15, 3) := by decide +kernel
theorem dX5_turn_21 : decode cX5_turn 21 = .ok (.iload_n 1, 1) := by decide +kernel
theorem dX5_turn_22 : decode cX5_turn 22 = .ok (.iconst 1, 1) := by decide +kernel
theorem dX5_turn_23 : decode cX5_turn 23 = .ok (.iadd, 1) := by decide +kernel
theorem dX5_turn_24 : decode cX5_turn 24 = .ok (.iaload, 1) := by decide +kernel
theorem dX5_turn_25 : decode cX5_turn 25 = .ok (.if_icmp .le 9, 3) := by decide +kernel
theorem dX5_turn_28 : decode cX5_turn 28 = .ok (.iinc 1 (-1), 3) := by decide +kernel
theorem dX5_turn_31 : decode cX5_turn 31 = .ok (.goto (-24), 3) := by decide +kernel
theorem dX5_turn_34 : decode cX5_turn 34 = .ok (.iload_n 1, 1) := by decide +kernel
theorem dX5_turn_35 : decode cX5_turn 35 = .ok (.ifCond .ge 5, 3) := by decide +kernel
theorem dX5_turn_38 : decode cX5_turn 38 = .ok (.iconst (-1), 1) := by decide +kernel
theorem dX5_turn_39 : decode cX5_turn 39 = .ok (.ireturn, 1) := by decide +kernel
theorem dX5_turn_40 : decode cX5_turn 40 = .ok (.aload_n 0, 1) := by decide +kernel
theorem dX5_turn_41 : decode cX5_turn 41 = .ok (.getfield 48, 3) := by decide +kernel
theorem dX5_turn_44 : decode cX5_turn 44 = .ok (.iconst 1, 1) := by decide +kernel
theorem dX5_turn_45 : decode cX5_turn 45 = .ok (.isub, 1) := by decide +kernel
theorem dX5_turn_46 : decode cX5_turn 46 = .ok (.istore_n 2, 1) := by decide +kernel
theorem dX5_turn_47 : decode cX5_turn 47 = .ok (.iload_n 2, 1) := by decide +kernel
theorem dX5_turn_48 : decode cX5_turn 48 = .ok (.iload_n 1, 1) := by decide +kernel
theorem dX5_turn_49 : decode cX5_turn 49 = .ok (.if_icmp .le 24, 3) := by decide +kernel
theorem dX5_turn_52 : decode cX5_turn 52 = .ok (.aload_n 0, 1) := by decide +kernel
theorem dX5_turn_53 : decode cX5_turn 53 = .ok (.getfield 15, 3) := by decide +kernel
theorem dX5_turn_56 : decode cX5_turn 56 = .ok (.iload_n 2, 1) := by decide +kernel
theorem dX5_turn_57 : decode cX5_turn 57 = .ok (.iaload, 1) := by decide +kernel
theorem dX5_turn_58 : decode cX5_turn 58 = .ok (.aload_n 0, 1) := by decide +kernel
theorem dX5_turn_59 : decode cX5_turn 59 = .ok (.getfield 15, 3) := by decide +kernel
theorem dX5_turn_62 : decode cX5_turn 62 = .ok (.iload_n 1, 1) := by decide +kernel
theorem dX5_turn_63 : decode cX5_turn 63 = .ok (.iaload, 1) := by decide +kernel
theorem dX5_turn_64 : decode cX5_turn 64 = .ok (.if_icmp .ge 9, 3) := by decide +kernel
theorem dX5_turn_67 : decode cX5_turn 67 = .ok (.iinc 2 (-1), 3) := by decide +kernel
theorem dX5_turn_70 : decode cX5_turn 70 = .ok (.goto (-23), 3) := by decide +kernel
theorem dX5_turn_73 : decode cX5_turn 73 = .ok (.aload_n 0, 1) := by decide +kernel
theorem dX5_turn_74 : decode cX5_turn 74 = .ok (.iload_n 1, 1) := by decide +kernel
theorem dX5_turn_75 : decode cX5_turn 75 = .ok (.iload_n 2, 1) := by decide +kernel
theorem dX5_turn_76 : decode cX5_turn 76 = .ok (.invokevirtual 70, 3) := by decide +kernel
theorem dX5_turn_79 : decode cX5_turn 79 = .ok (.iload_n 1, 1) := by decide +kernel
theorem dX5_turn_80 : decode cX5_turn 80 = .ok (.iconst 1, 1) := by decide +kernel
theorem dX5_turn_81 : decode cX5_turn 81 = .ok (.iadd, 1) := by decide +kernel
theorem dX5_turn_82 : decode cX5_turn 82 = .ok (.istore_n 3, 1) := by decide +kernel
theorem dX5_turn_83 : decode cX5_turn 83 = .ok (.aload_n 0, 1) := by decide +kernel
theorem dX5_turn_84 : decode cX5_turn 84 = .ok (.getfield 48, 3) := by decide +kernel
theorem dX5_turn_87 : decode cX5_turn 87 = .ok (.iconst 1, 1) := by decide +kernel
theorem dX5_turn_88 : decode cX5_turn 88 = .ok (.isub, 1) := by decide +kernel
theorem dX5_turn_89 : decode cX5_turn 89 = .ok (.istore 4, 2) := by decide +kernel
theorem dX5_turn_91 : decode cX5_turn 91 = .ok (.iload_n 3, 1) := by decide +kernel
theorem dX5_turn_92 : decode cX5_turn 92 = .ok (.iload 4, 2) := by decide +kernel
theorem dX5_turn_94 : decode cX5_turn 94 = .ok (.if_icmp .ge 19, 3) := by decide +kernel
theorem dX5_turn_97 : decode cX5_turn 97 = .ok (.aload_n 0, 1) := by decide +kernel
theorem dX5_turn_98 : decode cX5_turn 98 = .ok (.iload_n 3, 1) := by decide +kernel
theorem dX5_turn_99 : decode cX5_turn 99 = .ok (.iload 4, 2) := by decide +kernel
theorem dX5_turn_101 : decode cX5_turn 101 = .ok (.invokevirtual 70, 3) := by decide +kernel
theorem dX5_turn_104 : decode cX5_turn 104 = .ok (.iinc 3 1, 3) := by decide +kernel
theorem dX5_turn_107 : decode cX5_turn 107 = .ok (.iinc 4 (-1), 3) := by decide +kernel
theorem dX5_turn_110 : decode cX5_turn 110 = .ok (.goto (-19), 3) := by decide +kernel
theorem dX5_turn_113 : decode cX5_turn 113 = .ok (.iload_n 1, 1) := by decide +kernel
theorem dX5_turn_114 : decode cX5_turn 114 = .ok (.ireturn, 1) := by decide +kernel
theorem dX5_swap_0 : decode cX5_swap 0 = .ok (.aload_n 0, 1) := by decide +kernel
theorem dX5_swap_1 : decode cX5_swap 1 = .ok (.getfield 15, 3) := by decide +kernel
theorem dX5_swap_4 : decode cX5_swap 4 = .ok (.iload_n 1, 1) := by decide +kernel
theorem dX5_swap_5 : decode cX5_swap 5 = .ok (.iaload, 1) := by decide +kernel
theorem dX5_swap_6 : decode cX5_swap 6 = .ok (.istore_n 3, 1) := by decide +kernel
theorem dX5_swap_7 : decode cX5_swap 7 = .ok (.aload_n 0, 1) := by decide +kernel
theorem dX5_swap_8 : decode cX5_swap 8 = .ok (.getfield 15, 3) := by decide +kernel
theorem dX5_swap_11 : decode cX5_swap 11 = .ok (.iload_n 1, 1) := by decide +kernel
theorem dX5_swap_12 : decode cX5_swap 12 = .ok (.aload_n 0, 1) := by decide +kernel
theorem dX5_swap_13 : decode cX5_swap 13 = .ok (.getfield 15, 3) := by decide +kernel
theorem dX5_swap_16 : decode cX5_swap 16 = .ok (.iload_n 2, 1) := by decide +kernel
theorem dX5_swap_17 : decode cX5_swap 17 = .ok (.iaload, 1) := by decide +kernel
theorem dX5_swap_18 : decode cX5_swap 18 = .ok (.iastore, 1) := by decide +kernel
theorem dX5_swap_19 : decode cX5_swap 19 = .ok (.aload_n 0, 1) := by decide +kernel
theorem dX5_swap_20 : decode cX5_swap 20 = .ok (.getfield 15, 3) := by decide +kernel
theorem dX5_swap_23 : decode cX5_swap 23 = .ok (.iload_n 2, 1) := by decide +kernel
theorem dX5_swap_24 : decode cX5_swap 24 = .ok (.iload_n 3, 1) := by decide +kernel
theorem dX5_swap_25 : decode cX5_swap 25 = .ok (.iastore, 1) := by decide +kernel
theorem dX5_swap_26 : decode cX5_swap 26 = .ok (.return_, 1) := by decide +kernel
theorem dX5_readerAt_0 : decode cX5_readerAt 0 = .ok (.iload_n 1, 1) := by decide +kernel
theorem dX5_readerAt_1 : decode cX5_readerAt 1 = .ok (.ifCond .lt 23, 3) := by decide +kernel
theorem dX5_readerAt_4 : decode cX5_readerAt 4 = .ok (.iload_n 1, 1) := by decide +kernel
theorem dX5_readerAt_5 : decode cX5_readerAt 5 = .ok (.aload_n 0, 1) := by decide +kernel
theorem dX5_readerAt_6 : decode cX5_readerAt 6 = .ok (.getfield 34, 3) := by decide +kernel
theorem dX5_readerAt_9 : decode cX5_readerAt 9 = .ok (.if_icmp .ge 15, 3) := by decide +kernel
theorem dX5_readerAt_12 : decode cX5_readerAt 12 = .ok (.iload_n 2, 1) := by decide +kernel
theorem dX5_readerAt_13 : decode cX5_readerAt 13 = .ok (.ifCond .lt 11, 3) := by decide +kernel
theorem dX5_readerAt_16 : decode cX5_readerAt 16 = .ok (.iload_n 2, 1) := by decide +kernel
theorem dX5_readerAt_17 : decode cX5_readerAt 17 = .ok (.aload_n 0, 1) := by decide +kernel
theorem dX5_readerAt_18 : decode cX5_readerAt 18 = .ok (.getfield 48, 3) := by decide +kernel
theorem dX5_readerAt_21 : decode cX5_readerAt 21 = .ok (.if_icmp .lt 5, 3) := by decide +kernel
theorem dX5_readerAt_24 : decode cX5_readerAt 24 = .ok (.iconst (-1), 1) := by decide +kernel
theorem dX5_readerAt_25 : decode cX5_readerAt 25 = .ok (.ireturn, 1) := by decide +kernel
theorem dX5_readerAt_26 : decode cX5_readerAt 26 = .ok (.aload_n 0, 1) := by decide +kernel
theorem dX5_readerAt_27 : decode cX5_readerAt 27 = .ok (.getfield 22, 3) := by decide +kernel
theorem dX5_readerAt_30 : decode cX5_readerAt 30 = .ok (.iload_n 1, 1) := by decide +kernel
theorem dX5_readerAt_31 : decode cX5_readerAt 31 = .ok (.iaload, 1) := by decide +kernel
theorem dX5_readerAt_32 : decode cX5_readerAt 32 = .ok (.getstatic 74, 3) := by decide +kernel
theorem dX5_readerAt_35 : decode cX5_readerAt 35 = .ok (.aload_n 0, 1) := by decide +kernel
theorem dX5_readerAt_36 : decode cX5_readerAt 36 = .ok (.getfield 48, 3) := by decide +kernel
theorem dX5_readerAt_39 : decode cX5_readerAt 39 = .ok (.iconst 1, 1) := by decide +kernel
theorem dX5_readerAt_40 : decode cX5_readerAt 40 = .ok (.isub, 1) := by decide +kernel
theorem dX5_readerAt_41 : decode cX5_readerAt 41 = .ok (.iload_n 2, 1) := by decide +kernel
theorem dX5_readerAt_42 : decode cX5_readerAt 42 = .ok (.isub, 1) := by decide +kernel
theorem dX5_readerAt_43 : decode cX5_readerAt 43 = .ok (.iaload, 1) := by decide +kernel
theorem dX5_readerAt_44 : decode cX5_readerAt 44 = .ok (.idiv, 1) := by decide +kernel
theorem dX5_readerAt_45 : decode cX5_readerAt 45 = .ok (.bipush 10, 2) := by decide +kernel
theorem dX5_readerAt_47 : decode cX5_readerAt 47 = .ok (.irem, 1) := by decide +kernel
theorem dX5_readerAt_48 : decode cX5_readerAt 48 = .ok (.ireturn, 1) := by decide +kernel
theorem dX5_mostContent_0 : decode cX5_mostContent 0 = .ok (.iconst 0, 1) := by decide +kernel
theorem dX5_mostContent_1 : decode cX5_mostContent 1 = .ok (.istore_n 1, 1) := by decide +kernel
theorem dX5_mostContent_2 : decode cX5_mostContent 2 = .ok (.iconst 1, 1) := by decide +kernel
theorem dX5_mostContent_3 : decode cX5_mostContent 3 = .ok (.istore_n 2, 1) := by decide +kernel
theorem dX5_mostContent_4 : decode cX5_mostContent 4 = .ok (.iload_n 2, 1) := by decide +kernel
theorem dX5_mostContent_5 : decode cX5_mostContent 5 = .ok (.aload_n 0, 1) := by decide +kernel
theorem dX5_mostContent_6 : decode cX5_mostContent 6 = .ok (.getfield 34, 3) := by decide +kernel
theorem dX5_mostContent_9 : decode cX5_mostContent 9 = .ok (.if_icmp .ge 30, 3) := by decide +kernel
theorem dX5_mostContent_12 : decode cX5_mostContent 12 = .ok (.aload_n 0, 1) := by decide +kernel
theorem dX5_mostContent_13 : decode cX5_mostContent 13 = .ok (.getfield 28, 3) := by decide +kernel
theorem dX5_mostContent_16 : decode cX5_mostContent 16 = .ok (.iload_n 2, 1) := by decide +kernel
theorem dX5_mostContent_17 : decode cX5_mostContent 17 = .ok (.iaload, 1) := by decide +kernel
theorem dX5_mostContent_18 : decode cX5_mostContent 18 = .ok (.aload_n 0, 1) := by decide +kernel
theorem dX5_mostContent_19 : decode cX5_mostContent 19 = .ok (.getfield 28, 3) := by decide +kernel
theorem dX5_mostContent_22 : decode cX5_mostContent 22 = .ok (.iload_n 1, 1) := by decide +kernel
theorem dX5_mostContent_23 : decode cX5_mostContent 23 = .ok (.iaload, 1) := by decide +kernel
theorem dX5_mostContent_24 : decode cX5_mostContent 24 = .ok (.if_icmp .le 7, 3) := by decide +kernel
theorem dX5_mostContent_27 : decode cX5_mostContent 27 = .ok (.iload_n 2, 1) := by decide +kernel
theorem dX5_mostContent_28 : decode cX5_mostContent 28 = .ok (.goto 4, 3) := by decide +kernel
theorem dX5_mostContent_31 : decode cX5_mostContent 31 = .ok (.iload_n 1, 1) := by decide +kernel
theorem dX5_mostContent_32 : decode cX5_mostContent 32 = .ok (.istore_n 1, 1) := by decide +kernel
theorem dX5_mostContent_33 : decode cX5_mostContent 33 = .ok (.iinc 2 1, 3) := by decide +kernel
theorem dX5_mostContent_36 : decode cX5_mostContent 36 = .ok (.goto (-32), 3) := by decide +kernel
theorem dX5_mostContent_39 : decode cX5_mostContent 39 = .ok (.iload_n 1, 1) := by decide +kernel
theorem dX5_mostContent_40 : decode cX5_mostContent 40 = .ok (.ireturn, 1) := by decide +kernel
theorem dX5_choose_0 : decode cX5_choose 0 = .ok (.aload_n 0, 1) := by decide +kernel
theorem dX5_choose_1 : decode cX5_choose 1 = .ok (.iconst 0, 1) := by decide +kernel
theorem dX5_choose_2 : decode cX5_choose 2 = .ok (.putfield 77, 3) := by decide +kernel
theorem dX5_choose_5 : decode cX5_choose 5 = .ok (.iconst 0, 1) := by decide +kernel
theorem dX5_choose_6 : decode cX5_choose 6 = .ok (.istore_n 2, 1) := by decide +kernel
theorem dX5_choose_7 : decode cX5_choose 7 = .ok (.iload_n 2, 1) := by decide +kernel
theorem dX5_choose_8 : decode cX5_choose 8 = .ok (.aload_n 0, 1) := by decide +kernel
theorem dX5_choose_9 : decode cX5_choose 9 = .ok (.getfield 34, 3) := by decide +kernel
theorem dX5_choose_12 : decode cX5_choose 12 = .ok (.if_icmp .ge 46, 3) := by decide +kernel
theorem dX5_choose_15 : decode cX5_choose 15 = .ok (.aload_n 1, 1) := by decide +kernel
theorem dX5_choose_16 : decode cX5_choose 16 = .ok (.aload_n 0, 1) := by decide +kernel
theorem dX5_choose_17 : decode cX5_choose 17 = .ok (.getfield 52, 3) := by decide +kernel
theorem dX5_choose_20 : decode cX5_choose 20 = .ok (.aload_n 0, 1) := by decide +kernel
theorem dX5_choose_21 : decode cX5_choose 21 = .ok (.getfield 25, 3) := by decide +kernel
theorem dX5_choose_24 : decode cX5_choose 24 = .ok (.iload_n 2, 1) := by decide +kernel
theorem dX5_choose_25 : decode cX5_choose 25 = .ok (.iaload, 1) := by decide +kernel
theorem dX5_choose_26 : decode cX5_choose 26 = .ok (.invokevirtual 80, 3) := by decide +kernel
theorem dX5_choose_29 : decode cX5_choose 29 = .ok (.ifCond .eq 23, 3) := by decide +kernel
theorem dX5_choose_32 : decode cX5_choose 32 = .ok (.aload_n 0, 1) := by decide +kernel
theorem dX5_choose_33 : decode cX5_choose 33 = .ok (.getfield 31, 3) := by decide +kernel
theorem dX5_choose_36 : decode cX5_choose 36 = .ok (.aload_n 0, 1) := by decide +kernel
theorem dX5_choose_37 : decode cX5_choose 37 = .ok (.getfield 77, 3) := by decide +kernel
theorem dX5_choose_40 : decode cX5_choose 40 = .ok (.iload_n 2, 1) := by decide +kernel
theorem dX5_choose_41 : decode cX5_choose 41 = .ok (.iastore, 1) := by decide +kernel
theorem dX5_choose_42 : decode cX5_choose 42 = .ok (.aload_n 0, 1) := by decide +kernel
theorem dX5_choose_43 : decode cX5_choose 43 = .ok (.dup, 1) := by decide +kernel
theorem dX5_choose_44 : decode cX5_choose 44 = .ok (.getfield 77, 3) := by decide +kernel
theorem dX5_choose_47 : decode cX5_choose 47 = .ok (.iconst 1, 1) := by decide +kernel
theorem dX5_choose_48 : decode cX5_choose 48 = .ok (.iadd, 1) := by decide +kernel
theorem dX5_choose_49 : decode cX5_choose 49 = .ok (.putfield 77, 3) := by decide +kernel
theorem dX5_choose_52 : decode cX5_choose 52 = .ok (.iinc 2 1, 3) := by decide +kernel
theorem dX5_choose_55 : decode cX5_choose 55 = .ok (.goto (-48), 3) := by decide +kernel
theorem dX5_choose_58 : decode cX5_choose 58 = .ok (.return_, 1) := by decide +kernel
theorem dX5_ask_0 : decode cX5_ask 0 = .ok (.iconst (-1), 1) := by decide +kernel
theorem dX5_ask_1 : decode cX5_ask 1 = .ok (.istore_n 2, 1) := by decide +kernel
theorem dX5_ask_2 : decode cX5_ask 2 = .ok (.sipush 721, 3) := by decide +kernel
theorem dX5_ask_5 : decode cX5_ask 5 = .ok (.istore_n 3, 1) := by decide +kernel
theorem dX5_ask_6 : decode cX5_ask 6 = .ok (.iconst 0, 1) := by decide +kernel
theorem dX5_ask_7 : decode cX5_ask 7 = .ok (.istore 4, 2) := by decide +kernel
theorem dX5_ask_9 : decode cX5_ask 9 = .ok (.iload 4, 2) := by decide +kernel
theorem dX5_ask_11 : decode cX5_ask 11 = .ok (.aload_n 0, 1) := by decide +kernel
theorem dX5_ask_12 : decode cX5_ask 12 = .ok (.getfield 52, 3) := by decide +kernel
theorem dX5_ask_15 : decode cX5_ask 15 = .ok (.if_icmp .ge 37, 3) := by decide +kernel
theorem dX5_ask_18 : decode cX5_ask 18 = .ok (.aload_n 0, 1) := by decide +kernel
theorem dX5_ask_19 : decode cX5_ask 19 = .ok (.getfield 77, 3) := by decide +kernel
theorem dX5_ask_22 : decode cX5_ask 22 = .ok (.ifCond .le 30, 3) := by decide +kernel
theorem dX5_ask_25 : decode cX5_ask 25 = .ok (.aload_n 0, 1) := by decide +kernel
theorem dX5_ask_26 : decode cX5_ask 26 = .ok (.iload 4, 2) := by decide +kernel
theorem dX5_ask_28 : decode cX5_ask 28 = .ok (.aload_n 1, 1) := by decide +kernel
theorem dX5_ask_29 : decode cX5_ask 29 = .ok (.invokevirtual 86, 3) := by decide +kernel
theorem dX5_ask_32 : decode cX5_ask 32 = .ok (.istore 5, 2) := by decide +kernel
theorem dX5_ask_34 : decode cX5_ask 34 = .ok (.iload 5, 2) := by decide +kernel
theorem dX5_ask_36 : decode cX5_ask 36 = .ok (.iload_n 3, 1) := by decide +kernel
theorem dX5_ask_37 : decode cX5_ask 37 = .ok (.if_icmp .ge 9, 3) := by decide +kernel
theorem dX5_ask_40 : decode cX5_ask 40 = .ok (.iload 5, 2) := by decide +kernel
theorem dX5_ask_42 : decode cX5_ask 42 = .ok (.istore_n 3, 1) := by decide +kernel
theorem dX5_ask_43 : decode cX5_ask 43 = .ok (.iload 4, 2) := by decide +kernel
theorem dX5_ask_45 : decode cX5_ask 45 = .ok (.istore_n 2, 1) := by decide +kernel
theorem dX5_ask_46 : decode cX5_ask 46 = .ok (.iinc 4 1, 3) := by decide +kernel
theorem dX5_ask_49 : decode cX5_ask 49 = .ok (.goto (-40), 3) := by decide +kernel
theorem dX5_ask_52 : decode cX5_ask 52 = .ok (.iload_n 2, 1) := by decide +kernel
theorem dX5_ask_53 : decode cX5_ask 53 = .ok (.ireturn, 1) := by decide +kernel
theorem dX5_mostAlike_0 : decode cX5_mostAlike 0 = .ok (.iconst 0, 1) := by decide +kernel
theorem dX5_mostAlike_1 : decode cX5_mostAlike 1 = .ok (.istore_n 3, 1) := by decide +kernel
theorem dX5_mostAlike_2 : decode cX5_mostAlike 2 = .ok (.iload_n 3, 1) := by decide +kernel
theorem dX5_mostAlike_3 : decode cX5_mostAlike 3 = .ok (.aload_n 2, 1) := by decide +kernel
theorem dX5_mostAlike_4 : decode cX5_mostAlike 4 = .ok (.arraylength, 1) := by decide +kernel
theorem dX5_mostAlike_5 : decode cX5_mostAlike 5 = .ok (.if_icmp .ge 13, 3) := by decide +kernel
theorem dX5_mostAlike_8 : decode cX5_mostAlike 8 = .ok (.aload_n 2, 1) := by decide +kernel
theorem dX5_mostAlike_9 : decode cX5_mostAlike 9 = .ok (.iload_n 3, 1) := by decide +kernel
theorem dX5_mostAlike_10 : decode cX5_mostAlike 10 = .ok (.iconst 0, 1) := by decide +kernel
theorem dX5_mostAlike_11 : decode cX5_mostAlike 11 = .ok (.iastore, 1) := by decide +kernel
theorem dX5_mostAlike_12 : decode cX5_mostAlike 12 = .ok (.iinc 3 1, 3) := by decide +kernel
theorem dX5_mostAlike_15 : decode cX5_mostAlike 15 = .ok (.goto (-13), 3) := by decide +kernel
theorem dX5_mostAlike_18 : decode cX5_mostAlike 18 = .ok (.iconst 0, 1) := by decide +kernel
theorem dX5_mostAlike_19 : decode cX5_mostAlike 19 = .ok (.istore_n 3, 1) := by decide +kernel
theorem dX5_mostAlike_20 : decode cX5_mostAlike 20 = .ok (.iconst 0, 1) := by decide +kernel
theorem dX5_mostAlike_21 : decode cX5_mostAlike 21 = .ok (.istore 4, 2) := by decide +kernel
theorem dX5_mostAlike_23 : decode cX5_mostAlike 23 = .ok (.iload 4, 2) := by decide +kernel
theorem dX5_mostAlike_25 : decode cX5_mostAlike 25 = .ok (.aload_n 0, 1) := by decide +kernel
theorem dX5_mostAlike_26 : decode cX5_mostAlike 26 = .ok (.getfield 77, 3) := by decide +kernel
theorem dX5_mostAlike_29 : decode cX5_mostAlike 29 = .ok (.if_icmp .ge 51, 3) := by decide +kernel
theorem dX5_mostAlike_32 : decode cX5_mostAlike 32 = .ok (.aload_n 0, 1) := by decide +kernel
theorem dX5_mostAlike_33 : decode cX5_mostAlike 33 = .ok (.getfield 25, 3) := by decide +kernel
theorem dX5_mostAlike_36 : decode cX5_mostAlike 36 = .ok (.aload_n 0, 1) := by decide +kernel
theorem dX5_mostAlike_37 : decode cX5_mostAlike 37 = .ok (.getfield 31, 3) := by decide +kernel
theorem dX5_mostAlike_40 : decode cX5_mostAlike 40 = .ok (.iload 4, 2) := by decide +kernel
theorem dX5_mostAlike_42 : decode cX5_mostAlike 42 = .ok (.iaload, 1) := by decide +kernel
theorem dX5_mostAlike_43 : decode cX5_mostAlike 43 = .ok (.iaload, 1) := by decide +kernel
theorem dX5_mostAlike_44 : decode cX5_mostAlike 44 = .ok (.iload_n 1, 1) := by decide +kernel
theorem dX5_mostAlike_45 : decode cX5_mostAlike 45 = .ok (.invokestatic 90, 3) := by decide +kernel
theorem dX5_mostAlike_48 : decode cX5_mostAlike 48 = .ok (.istore 5, 2) := by decide +kernel
theorem dX5_mostAlike_50 : decode cX5_mostAlike 50 = .ok (.iload 5, 2) := by decide +kernel
theorem dX5_mostAlike_52 : decode cX5_mostAlike 52 = .ok (.aload_n 2, 1) := by decide +kernel
theorem dX5_mostAlike_53 : decode cX5_mostAlike 53 = .ok (.arraylength, 1) := by decide +kernel
theorem dX5_mostAlike_54 : decode cX5_mostAlike 54 = .ok (.if_icmp .ge 20, 3) := by decide +kernel
theorem dX5_mostAlike_57 : decode cX5_mostAlike 57 = .ok (.aload_n 2, 1) := by decide +kernel
theorem dX5_mostAlike_58 : decode cX5_mostAlike 58 = .ok (.iload 5, 2) := by decide +kernel
theorem dX5_mostAlike_60 : decode cX5_mostAlike 60 = .ok (.dup2, 1) := by decide +kernel
theorem dX5_mostAlike_61 : decode cX5_mostAlike 61 = .ok (.iaload, 1) := by decide +kernel
theorem dX5_mostAlike_62 : decode cX5_mostAlike 62 = .ok (.iconst 1, 1) := by decide +kernel
theorem dX5_mostAlike_63 : decode cX5_mostAlike 63 = .ok (.iadd, 1) := by decide +kernel
theorem dX5_mostAlike_64 : decode cX5_mostAlike 64 = .ok (.iastore, 1) := by decide +kernel
theorem dX5_mostAlike_65 : decode cX5_mostAlike 65 = .ok (.iload_n 3, 1) := by decide +kernel
theorem dX5_mostAlike_66 : decode cX5_mostAlike 66 = .ok (.aload_n 2, 1) := by decide +kernel
theorem dX5_mostAlike_67 : decode cX5_mostAlike 67 = .ok (.iload 5, 2) := by decide +kernel
theorem dX5_mostAlike_69 : decode cX5_mostAlike 69 = .ok (.iaload, 1) := by decide +kernel
theorem dX5_mostAlike_70 : decode cX5_mostAlike 70 = .ok (.invokestatic 93, 3) := by decide +kernel
theorem dX5_mostAlike_73 : decode cX5_mostAlike 73 = .ok (.istore_n 3, 1) := by decide +kernel
theorem dX5_mostAlike_74 : decode cX5_mostAlike 74 = .ok (.iinc 4 1, 3) := by decide +kernel
theorem dX5_mostAlike_77 : decode cX5_mostAlike 77 = .ok (.goto (-54), 3) := by decide +kernel
theorem dX5_mostAlike_80 : decode cX5_mostAlike 80 = .ok (.iload_n 3, 1) := by decide +kernel
theorem dX5_mostAlike_81 : decode cX5_mostAlike 81 = .ok (.ireturn, 1) := by decide +kernel
theorem dX5_sure_0 : decode cX5_sure 0 = .ok (.aload_n 0, 1) := by decide +kernel
theorem dX5_sure_1 : decode cX5_sure 1 = .ok (.getfield 77, 3) := by decide +kernel
theorem dX5_sure_4 : decode cX5_sure 4 = .ok (.ifCond .le 17, 3) := by decide +kernel
theorem dX5_sure_7 : decode cX5_sure 7 = .ok (.aload_n 0, 1) := by decide +kernel
theorem dX5_sure_8 : decode cX5_sure 8 = .ok (.aload_n 0, 1) := by decide +kernel
theorem dX5_sure_9 : decode cX5_sure 9 = .ok (.getfield 31, 3) := by decide +kernel
theorem dX5_sure_12 : decode cX5_sure 12 = .ok (.iconst 0, 1) := by decide +kernel
theorem dX5_sure_13 : decode cX5_sure 13 = .ok (.iaload, 1) := by decide +kernel
theorem dX5_sure_14 : decode cX5_sure 14 = .ok (.iload_n 1, 1) := by decide +kernel
theorem dX5_sure_15 : decode cX5_sure 15 = .ok (.invokevirtual 96, 3) := by decide +kernel
theorem dX5_sure_18 : decode cX5_sure 18 = .ok (.goto 4, 3) := by decide +kernel
theorem dX5_sure_21 : decode cX5_sure 21 = .ok (.iconst (-1), 1) := by decide +kernel
theorem dX5_sure_22 : decode cX5_sure 22 = .ok (.istore_n 2, 1) := by decide +kernel
theorem dX5_sure_23 : decode cX5_sure 23 = .ok (.iconst 1, 1) := by decide +kernel
theorem dX5_sure_24 : decode cX5_sure 24 = .ok (.istore_n 3, 1) := by decide +kernel
theorem dX5_sure_25 : decode cX5_sure 25 = .ok (.iload_n 3, 1) := by decide +kernel
theorem dX5_sure_26 : decode cX5_sure 26 = .ok (.aload_n 0, 1) := by decide +kernel
theorem dX5_sure_27 : decode cX5_sure 27 = .ok (.getfield 77, 3) := by decide +kernel
theorem dX5_sure_30 : decode cX5_sure 30 = .ok (.if_icmp .ge 26, 3) := by decide +kernel
theorem dX5_sure_33 : decode cX5_sure 33 = .ok (.aload_n 0, 1) := by decide +kernel
theorem dX5_sure_34 : decode cX5_sure 34 = .ok (.aload_n 0, 1) := by decide +kernel
theorem dX5_sure_35 : decode cX5_sure 35 = .ok (.getfield 31, 3) := by decide +kernel
theorem dX5_sure_38 : decode cX5_sure 38 = .ok (.iload_n 3, 1) := by decide +kernel
theorem dX5_sure_39 : decode cX5_sure 39 = .ok (.iaload, 1) := by decide +kernel
theorem dX5_sure_40 : decode cX5_sure 40 = .ok (.iload_n 1, 1) := by decide +kernel
theorem dX5_sure_41 : decode cX5_sure 41 = .ok (.invokevirtual 96, 3) := by decide +kernel
theorem dX5_sure_44 : decode cX5_sure 44 = .ok (.iload_n 2, 1) := by decide +kernel
theorem dX5_sure_45 : decode cX5_sure 45 = .ok (.if_icmp .eq 5, 3) := by decide +kernel
theorem dX5_sure_48 : decode cX5_sure 48 = .ok (.iconst (-1), 1) := by decide +kernel
theorem dX5_sure_49 : decode cX5_sure 49 = .ok (.ireturn, 1) := by decide +kernel
theorem dX5_sure_50 : decode cX5_sure 50 = .ok (.iinc 3 1, 3) := by decide +kernel
theorem dX5_sure_53 : decode cX5_sure 53 = .ok (.goto (-28), 3) := by decide +kernel
theorem dX5_sure_56 : decode cX5_sure 56 = .ok (.iload_n 2, 1) := by decide +kernel
theorem dX5_sure_57 : decode cX5_sure 57 = .ok (.ireturn, 1) := by decide +kernel
theorem dX5_manyAhead_0 : decode cX5_manyAhead 0 = .ok (.iconst 0, 1) := by decide +kernel
theorem dX5_manyAhead_1 : decode cX5_manyAhead 1 = .ok (.istore_n 3, 1) := by decide +kernel
theorem dX5_manyAhead_2 : decode cX5_manyAhead 2 = .ok (.iconst 0, 1) := by decide +kernel
theorem dX5_manyAhead_3 : decode cX5_manyAhead 3 = .ok (.istore 4, 2) := by decide +kernel
theorem dX5_manyAhead_5 : decode cX5_manyAhead 5 = .ok (.iload 4, 2) := by decide +kernel
theorem dX5_manyAhead_7 : decode cX5_manyAhead 7 = .ok (.aload_n 0, 1) := by decide +kernel
theorem dX5_manyAhead_8 : decode cX5_manyAhead 8 = .ok (.getfield 77, 3) := by decide +kernel
theorem dX5_manyAhead_11 : decode cX5_manyAhead 11 = .ok (.if_icmp .ge 71, 3) := by decide +kernel
theorem dX5_manyAhead_14 : decode cX5_manyAhead 14 = .ok (.iconst 0, 1) := by decide +kernel
theorem dX5_manyAhead_15 : decode cX5_manyAhead 15 = .ok (.istore 5, 2) := by decide +kernel
theorem dX5_manyAhead_17 : decode cX5_manyAhead 17 = .ok (.iload 5, 2) := by decide +kernel
theorem dX5_manyAhead_19 : decode cX5_manyAhead 19 = .ok (.aload_n 0, 1) := by decide +kernel
theorem dX5_manyAhead_20 : decode cX5_manyAhead 20 = .ok (.getfield 48, 3) := by decide +kernel
theorem dX5_manyAhead_23 : decode cX5_manyAhead 23 = .ok (.if_icmp .ge 53, 3) := by decide +kernel
theorem dX5_manyAhead_26 : decode cX5_manyAhead 26 = .ok (.aload_n 0, 1) := by decide +kernel
theorem dX5_manyAhead_27 : decode cX5_manyAhead 27 = .ok (.aload_n 0, 1) := by decide +kernel
theorem dX5_manyAhead_28 : decode cX5_manyAhead 28 = .ok (.getfield 31, 3) := by decide +kernel
theorem dX5_manyAhead_31 : decode cX5_manyAhead 31 = .ok (.iload 4, 2) := by decide +kernel
theorem dX5_manyAhead_33 : decode cX5_manyAhead 33 = .ok (.iaload, 1) := by decide +kernel
theorem dX5_manyAhead_34 : decode cX5_manyAhead 34 = .ok (.iload 5, 2) := by decide +kernel
theorem dX5_manyAhead_36 : decode cX5_manyAhead 36 = .ok (.invokevirtual 96, 3) := by decide +kernel
theorem dX5_manyAhead_39 : decode cX5_manyAhead 39 = .ok (.istore 6, 2) := by decide +kernel
theorem dX5_manyAhead_41 : decode cX5_manyAhead 41 = .ok (.iload 6, 2) := by decide +kernel
theorem dX5_manyAhead_43 : decode cX5_manyAhead 43 = .ok (.iload_n 1, 1) := by decide +kernel
theorem dX5_manyAhead_44 : decode cX5_manyAhead 44 = .ok (.if_icmp .eq 9, 3) := by decide +kernel
theorem dX5_manyAhead_47 : decode cX5_manyAhead 47 = .ok (.iload 6, 2) := by decide +kernel
theorem dX5_manyAhead_49 : decode cX5_manyAhead 49 = .ok (.iload_n 2, 1) := by decide +kernel
theorem dX5_manyAhead_50 : decode cX5_manyAhead 50 = .ok (.if_icmp .ne 20, 3) := by decide +kernel
theorem dX5_manyAhead_53 : decode cX5_manyAhead 53 = .ok (.iload_n 3, 1) := by decide +kernel
theorem dX5_manyAhead_54 : decode cX5_manyAhead 54 = .ok (.iload 6, 2) := by decide +kernel
theorem dX5_manyAhead_56 : decode cX5_manyAhead 56 = .ok (.iload_n 1, 1) := by decide +kernel
theorem dX5_manyAhead_57 : decode cX5_manyAhead 57 = .ok (.if_icmp .ne 7, 3) := by decide +kernel
theorem dX5_manyAhead_60 : decode cX5_manyAhead 60 = .ok (.iconst 1, 1) := by decide +kernel
theorem dX5_manyAhead_61 : decode cX5_manyAhead 61 = .ok (.goto 4, 3) := by decide +kernel
theorem dX5_manyAhead_64 : decode cX5_manyAhead 64 = .ok (.iconst 0, 1) := by decide +kernel
theorem dX5_manyAhead_65 : decode cX5_manyAhead 65 = .ok (.iadd, 1) := by decide +kernel
theorem dX5_manyAhead_66 : decode cX5_manyAhead 66 = .ok (.istore_n 3, 1) := by decide +kernel
theorem dX5_manyAhead_67 : decode cX5_manyAhead 67 = .ok (.goto 9, 3) := by decide +kernel
theorem dX5_manyAhead_70 : decode cX5_manyAhead 70 = .ok (.iinc 5 1, 3) := by decide +kernel
theorem dX5_manyAhead_73 : decode cX5_manyAhead 73 = .ok (.goto (-56), 3) := by decide +kernel
theorem dX5_manyAhead_76 : decode cX5_manyAhead 76 = .ok (.iinc 4 1, 3) := by decide +kernel
theorem dX5_manyAhead_79 : decode cX5_manyAhead 79 = .ok (.goto (-74), 3) := by decide +kernel
theorem dX5_manyAhead_82 : decode cX5_manyAhead 82 = .ok (.iload_n 3, 1) := by decide +kernel
theorem dX5_manyAhead_83 : decode cX5_manyAhead 83 = .ok (.ireturn, 1) := by decide +kernel
theorem dX5_readersAt_0 : decode cX5_readersAt 0 = .ok (.iconst 0, 1) := by decide +kernel
theorem dX5_readersAt_1 : decode cX5_readersAt 1 = .ok (.istore_n 2, 1) := by decide +kernel
theorem dX5_readersAt_2 : decode cX5_readersAt 2 = .ok (.iconst 0, 1) := by decide +kernel
theorem dX5_readersAt_3 : decode cX5_readersAt 3 = .ok (.istore_n 3, 1) := by decide +kernel
theorem dX5_readersAt_4 : decode cX5_readersAt 4 = .ok (.iload_n 3, 1) := by decide +kernel
theorem dX5_readersAt_5 : decode cX5_readersAt 5 = .ok (.aload_n 0, 1) := by decide +kernel
theorem dX5_readersAt_6 : decode cX5_readersAt 6 = .ok (.getfield 77, 3) := by decide +kernel
theorem dX5_readersAt_9 : decode cX5_readersAt 9 = .ok (.if_icmp .ge 39, 3) := by decide +kernel
theorem dX5_readersAt_12 : decode cX5_readersAt 12 = .ok (.aload_n 0, 1) := by decide +kernel
theorem dX5_readersAt_13 : decode cX5_readersAt 13 = .ok (.aload_n 0, 1) := by decide +kernel
theorem dX5_readersAt_14 : decode cX5_readersAt 14 = .ok (.getfield 31, 3) := by decide +kernel
theorem dX5_readersAt_17 : decode cX5_readersAt 17 = .ok (.iload_n 3, 1) := by decide +kernel
theorem dX5_readersAt_18 : decode cX5_readersAt 18 = .ok (.iaload, 1) := by decide +kernel
theorem dX5_readersAt_19 : decode cX5_readersAt 19 = .ok (.iload_n 1, 1) := by decide +kernel
theorem dX5_readersAt_20 : decode cX5_readersAt 20 = .ok (.invokevirtual 96, 3) := by decide +kernel
theorem dX5_readersAt_23 : decode cX5_readersAt 23 = .ok (.istore 4, 2) := by decide +kernel
theorem dX5_readersAt_25 : decode cX5_readersAt 25 = .ok (.iload_n 2, 1) := by decide +kernel
theorem dX5_readersAt_26 : decode cX5_readersAt 26 = .ok (.iload 4, 2) := by decide +kernel
theorem dX5_readersAt_28 : decode cX5_readersAt 28 = .ok (.iconst (-1), 1) := by decide +kernel
theorem dX5_readersAt_29 : decode cX5_readersAt 29 = .ok (.if_icmp .ne 7, 3) := by decide +kernel
theorem dX5_readersAt_32 : decode cX5_readersAt 32 = .ok (.iconst 0, 1) := by decide +kernel
theorem dX5_readersAt_33 : decode cX5_readersAt 33 = .ok (.goto 7, 3) := by decide +kernel
theorem dX5_readersAt_36 : decode cX5_readersAt 36 = .ok (.iconst 1, 1) := by decide +kernel
theorem dX5_readersAt_37 : decode cX5_readersAt 37 = .ok (.iload 4, 2) := by decide +kernel
theorem dX5_readersAt_39 : decode cX5_readersAt 39 = .ok (.ishl, 1) := by decide +kernel
theorem dX5_readersAt_40 : decode cX5_readersAt 40 = .ok (.ior, 1) := by decide +kernel
theorem dX5_readersAt_41 : decode cX5_readersAt 41 = .ok (.istore_n 2, 1) := by decide +kernel
theorem dX5_readersAt_42 : decode cX5_readersAt 42 = .ok (.iinc 3 1, 3) := by decide +kernel
theorem dX5_readersAt_45 : decode cX5_readersAt 45 = .ok (.goto (-41), 3) := by decide +kernel
theorem dX5_readersAt_48 : decode cX5_readersAt 48 = .ok (.iload_n 2, 1) := by decide +kernel
theorem dX5_readersAt_49 : decode cX5_readersAt 49 = .ok (.ireturn, 1) := by decide +kernel
theorem dX5_mostFitting_0 : decode cX5_mostFitting 0 = .ok (.iconst (-1), 1) := by decide +kernel
theorem dX5_mostFitting_1 : decode cX5_mostFitting 1 = .ok (.istore_n 1, 1) := by decide +kernel
theorem dX5_mostFitting_2 : decode cX5_mostFitting 2 = .ok (.iconst 0, 1) := by decide +kernel
theorem dX5_mostFitting_3 : decode cX5_mostFitting 3 = .ok (.istore_n 2, 1) := by decide +kernel
theorem dX5_mostFitting_4 : decode cX5_mostFitting 4 = .ok (.iload_n 2, 1) := by decide +kernel
theorem dX5_mostFitting_5 : decode cX5_mostFitting 5 = .ok (.aload_n 0, 1) := by decide +kernel
theorem dX5_mostFitting_6 : decode cX5_mostFitting 6 = .ok (.getfield 77, 3) := by decide +kernel
theorem dX5_mostFitting_9 : decode cX5_mostFitting 9 = .ok (.if_icmp .ge 25, 3) := by decide +kernel
theorem dX5_mostFitting_12 : decode cX5_mostFitting 12 = .ok (.iload_n 1, 1) := by decide +kernel
theorem dX5_mostFitting_13 : decode cX5_mostFitting 13 = .ok (.aload_n 0, 1) := by decide +kernel
theorem dX5_mostFitting_14 : decode cX5_mostFitting 14 = .ok (.getfield 28, 3) := by decide +kernel
theorem dX5_mostFitting_17 : decode cX5_mostFitting 17 = .ok (.aload_n 0, 1) := by decide +kernel
theorem dX5_mostFitting_18 : decode cX5_mostFitting 18 = .ok (.getfield 31, 3) := by decide +kernel
theorem dX5_mostFitting_21 : decode cX5_mostFitting 21 = .ok (.iload_n 2, 1) := by decide +kernel
theorem dX5_mostFitting_22 : decode cX5_mostFitting 22 = .ok (.iaload, 1) := by decide +kernel
theorem dX5_mostFitting_23 : decode cX5_mostFitting 23 = .ok (.iaload, 1) := by decide +kernel
theorem dX5_mostFitting_24 : decode cX5_mostFitting 24 = .ok (.invokestatic 93, 3) := by decide +kernel
theorem dX5_mostFitting_27 : decode cX5_mostFitting 27 = .ok (.istore_n 1, 1) := by decide +kernel
theorem dX5_mostFitting_28 : decode cX5_mostFitting 28 = .ok (.iinc 2 1, 3) := by decide +kernel
theorem dX5_mostFitting_31 : decode cX5_mostFitting 31 = .ok (.goto (-27), 3) := by decide +kernel
theorem dX5_mostFitting_34 : decode cX5_mostFitting 34 = .ok (.iload_n 1, 1) := by decide +kernel
theorem dX5_mostFitting_35 : decode cX5_mostFitting 35 = .ok (.ireturn, 1) := by decide +kernel
theorem dX5_leastFitting_0 : decode cX5_leastFitting 0 = .ok (.iconst (-1), 1) := by decide +kernel
theorem dX5_leastFitting_1 : decode cX5_leastFitting 1 = .ok (.istore_n 1, 1) := by decide +kernel
theorem dX5_leastFitting_2 : decode cX5_leastFitting 2 = .ok (.iconst 0, 1) := by decide +kernel
theorem dX5_leastFitting_3 : decode cX5_leastFitting 3 = .ok (.istore_n 2, 1) := by decide +kernel
theorem dX5_leastFitting_4 : decode cX5_leastFitting 4 = .ok (.iload_n 2, 1) := by decide +kernel
theorem dX5_leastFitting_5 : decode cX5_leastFitting 5 = .ok (.aload_n 0, 1) := by decide +kernel
theorem dX5_leastFitting_6 : decode cX5_leastFitting 6 = .ok (.getfield 77, 3) := by decide +kernel
theorem dX5_leastFitting_9 : decode cX5_leastFitting 9 = .ok (.if_icmp .ge 36, 3) := by decide +kernel
theorem dX5_leastFitting_12 : decode cX5_leastFitting 12 = .ok (.aload_n 0, 1) := by decide +kernel
theorem dX5_leastFitting_13 : decode cX5_leastFitting 13 = .ok (.getfield 28, 3) := by decide +kernel
theorem dX5_leastFitting_16 : decode cX5_leastFitting 16 = .ok (.aload_n 0, 1) := by decide +kernel
theorem dX5_leastFitting_17 : decode cX5_leastFitting 17 = .ok (.getfield 31, 3) := by decide +kernel
theorem dX5_leastFitting_20 : decode cX5_leastFitting 20 = .ok (.iload_n 2, 1) := by decide +kernel
theorem dX5_leastFitting_21 : decode cX5_leastFitting 21 = .ok (.iaload, 1) := by decide +kernel
theorem dX5_leastFitting_22 : decode cX5_leastFitting 22 = .ok (.iaload, 1) := by decide +kernel
theorem dX5_leastFitting_23 : decode cX5_leastFitting 23 = .ok (.istore_n 3, 1) := by decide +kernel
theorem dX5_leastFitting_24 : decode cX5_leastFitting 24 = .ok (.iload_n 1, 1) := by decide +kernel
theorem dX5_leastFitting_25 : decode cX5_leastFitting 25 = .ok (.iconst (-1), 1) := by decide +kernel
theorem dX5_leastFitting_26 : decode cX5_leastFitting 26 = .ok (.if_icmp .ne 7, 3) := by decide +kernel
theorem dX5_leastFitting_29 : decode cX5_leastFitting 29 = .ok (.iload_n 3, 1) := by decide +kernel
theorem dX5_leastFitting_30 : decode cX5_leastFitting 30 = .ok (.goto 8, 3) := by decide +kernel
theorem dX5_leastFitting_33 : decode cX5_leastFitting 33 = .ok (.iload_n 1, 1) := by decide +kernel
theorem dX5_leastFitting_34 : decode cX5_leastFitting 34 = .ok (.iload_n 3, 1) := by decide +kernel
theorem dX5_leastFitting_35 : decode cX5_leastFitting 35 = .ok (.invokestatic 42, 3) := by decide +kernel
theorem dX5_leastFitting_38 : decode cX5_leastFitting 38 = .ok (.istore_n 1, 1) := by decide +kernel
theorem dX5_leastFitting_39 : decode cX5_leastFitting 39 = .ok (.iinc 2 1, 3) := by decide +kernel
theorem dX5_leastFitting_42 : decode cX5_leastFitting 42 = .ok (.goto (-38), 3) := by decide +kernel
theorem dX5_leastFitting_45 : decode cX5_leastFitting 45 = .ok (.iload_n 1, 1) := by decide +kernel
theorem dX5_leastFitting_46 : decode cX5_leastFitting 46 = .ok (.ireturn, 1) := by decide +kernel
theorem dX6_init_0 : decode cX6_init 0 = .ok (.aload_n 0, 1) := by decide +kernel
theorem dX6_init_1 : decode cX6_init 1 = .ok (.invokespecial 3, 3) := by decide +kernel
theorem dX6_init_4 : decode cX6_init 4 = .ok (.aload_n 0, 1) := by decide +kernel
theorem dX6_init_5 : decode cX6_init 5 = .ok (.new 9, 3) := by decide +kernel
theorem dX6_init_8 : decode cX6_init 8 = .ok (.dup, 1) := by decide +kernel
theorem dX6_init_9 : decode cX6_init 9 = .ok (.invokespecial 11, 3) := by decide +kernel
theorem dX6_init_12 : decode cX6_init 12 = .ok (.putfield 12, 3) := by decide +kernel
theorem dX6_init_15 : decode cX6_init 15 = .ok (.aload_n 0, 1) := by decide +kernel
theorem dX6_init_16 : decode cX6_init 16 = .ok (.new 18, 3) := by decide +kernel
theorem dX6_init_19 : decode cX6_init 19 = .ok (.dup, 1) := by decide +kernel
theorem dX6_init_20 : decode cX6_init 20 = .ok (.invokespecial 20, 3) := by decide +kernel
theorem dX6_init_23 : decode cX6_init 23 = .ok (.putfield 21, 3) := by decide +kernel
theorem dX6_init_26 : decode cX6_init 26 = .ok (.aload_n 0, 1) := by decide +kernel
theorem dX6_init_27 : decode cX6_init 27 = .ok (.new 25, 3) := by decide +kernel
theorem dX6_init_30 : decode cX6_init 30 = .ok (.dup, 1) := by decide +kernel
theorem dX6_init_31 : decode cX6_init 31 = .ok (.invokespecial 27, 3) := by decide +kernel
theorem dX6_init_34 : decode cX6_init 34 = .ok (.putfield 28, 3) := by decide +kernel
theorem dX6_init_37 : decode cX6_init 37 = .ok (.aload_n 0, 1) := by decide +kernel
theorem dX6_init_38 : decode cX6_init 38 = .ok (.sipush 600, 3) := by decide +kernel
theorem dX6_init_41 : decode cX6_init 41 = .ok (.newarray .byte, 2) := by decide +kernel
theorem dX6_init_43 : decode cX6_init 43 = .ok (.putfield 32, 3) := by decide +kernel
theorem dX6_init_46 : decode cX6_init 46 = .ok (.aload_n 0, 1) := by decide +kernel
theorem dX6_init_47 : decode cX6_init 47 = .ok (.iconst 3, 1) := by decide +kernel
theorem dX6_init_48 : decode cX6_init 48 = .ok (.newarray .int, 2) := by decide +kernel
theorem dX6_init_50 : decode cX6_init 50 = .ok (.putfield 36, 3) := by decide +kernel
theorem dX6_init_53 : decode cX6_init 53 = .ok (.return_, 1) := by decide +kernel
theorem dX6_take_0 : decode cX6_take 0 = .ok (.aload_n 0, 1) := by decide +kernel
theorem dX6_take_1 : decode cX6_take 1 = .ok (.iconst 0, 1) := by decide +kernel
theorem dX6_take_2 : decode cX6_take 2 = .ok (.iload_n 2, 1) := by decide +kernel
theorem dX6_take_3 : decode cX6_take 3 = .ok (.aload_n 1, 1) := by decide +kernel
theorem dX6_take_4 : decode cX6_take 4 = .ok (.arraylength, 1) := by decide +kernel
theorem dX6_take_5 : decode cX6_take 5 = .ok (.sipush 600, 3) := by decide +kernel
theorem dX6_take_8 : decode cX6_take 8 = .ok (.invokestatic 40, 3) := by decide +kernel
theorem dX6_take_11 : decode cX6_take 11 = .ok (.invokestatic 40, 3) := by decide +kernel
theorem dX6_take_14 : decode cX6_take 14 = .ok (.invokestatic 46, 3) := by decide +kernel
theorem dX6_take_17 : decode cX6_take 17 = .ok (.putfield 49, 3) := by decide +kernel
theorem dX6_take_20 : decode cX6_take 20 = .ok (.aload_n 1, 1) := by decide +kernel
theorem dX6_take_21 : decode cX6_take 21 = .ok (.iconst 0, 1) := by decide +kernel
theorem dX6_take_22 : decode cX6_take 22 = .ok (.aload_n 0, 1) := by decide +kernel
theorem dX6_take_23 : decode cX6_take 23 = .ok (.getfield 32, 3) := by decide +kernel
theorem dX6_take_26 : decode cX6_take 26 = .ok (.iconst 0, 1) := by decide +kernel
theorem dX6_take_27 : decode cX6_take 27 = .ok (.aload_n 0, 1) := by decide +kernel
theorem dX6_take_28 : decode cX6_take 28 = .ok (.getfield 49, 3) := by decide +kernel
theorem dX6_take_31 : decode cX6_take 31 = .ok (.invokestatic 53, 3) := by decide +kernel
theorem dX6_take_34 : decode cX6_take 34 = .ok (.aload_n 0, 1) := by decide +kernel
theorem dX6_take_35 : decode cX6_take 35 = .ok (.getfield 12, 3) := by decide +kernel
theorem dX6_take_38 : decode cX6_take 38 = .ok (.invokevirtual 59, 3) := by decide +kernel
theorem dX6_take_41 : decode cX6_take 41 = .ok (.aload_n 0, 1) := by decide +kernel
theorem dX6_take_42 : decode cX6_take 42 = .ok (.getfield 21, 3) := by decide +kernel
theorem dX6_take_45 : decode cX6_take 45 = .ok (.iconst 0, 1) := by decide +kernel
theorem dX6_take_46 : decode cX6_take 46 = .ok (.putfield 62, 3) := by decide +kernel
theorem dX6_take_49 : decode cX6_take 49 = .ok (.aload_n 0, 1) := by decide +kernel
theorem dX6_take_50 : decode cX6_take 50 = .ok (.getfield 28, 3) := by decide +kernel
theorem dX6_take_53 : decode cX6_take 53 = .ok (.iconst 0, 1) := by decide +kernel
theorem dX6_take_54 : decode cX6_take 54 = .ok (.putfield 65, 3) := by decide +kernel
theorem dX6_take_57 : decode cX6_take 57 = .ok (.aload_n 0, 1) := by decide +kernel
theorem dX6_take_58 : decode cX6_take 58 = .ok (.iconst 0, 1) := by decide +kernel
theorem dX6_take_59 : decode cX6_take 59 = .ok (.putfield 68, 3) := by decide +kernel
theorem dX6_take_62 : decode cX6_take 62 = .ok (.aload_n 0, 1) := by decide +kernel
theorem dX6_take_63 : decode cX6_take 63 = .ok (.iconst (-1), 1) := by decide +kernel
theorem dX6_take_64 : decode cX6_take 64 = .ok (.putfield 71, 3) := by decide +kernel
theorem dX6_take_67 : decode cX6_take 67 = .ok (.aload_n 0, 1) := by decide +kernel
theorem dX6_take_68 : decode cX6_take 68 = .ok (.iconst 0, 1) := by decide +kernel
theorem dX6_take_69 : decode cX6_take 69 = .ok (.putfield 74, 3) := by decide +kernel
theorem dX6_take_72 : decode cX6_take 72 = .ok (.aload_n 0, 1) := by decide +kernel
theorem dX6_take_73 : decode cX6_take 73 = .ok (.iconst (-1), 1) := by decide +kernel
theorem dX6_take_74 : decode cX6_take 74 = .ok (.putfield 77, 3) := by decide +kernel
theorem dX6_take_77 : decode cX6_take 77 = .ok (.aload_n 0, 1) := by decide +kernel
theorem dX6_take_78 : decode cX6_take 78 = .ok (.iconst (-1), 1) := by decide +kernel
theorem dX6_take_79 : decode cX6_take 79 = .ok (.putfield 80, 3) := by decide +kernel
theorem dX6_take_82 : decode cX6_take 82 = .ok (.aload_n 0, 1) := by decide +kernel
theorem dX6_take_83 : decode cX6_take 83 = .ok (.invokevirtual 83, 3) := by decide +kernel
theorem dX6_take_86 : decode cX6_take 86 = .ok (.iconst 0, 1) := by decide +kernel
theorem dX6_take_87 : decode cX6_take 87 = .ok (.istore 4, 2) := by decide +kernel
theorem dX6_take_89 : decode cX6_take 89 = .ok (.iload 4, 2) := by decide +kernel
theorem dX6_take_91 : decode cX6_take 91 = .ok (.sipush 600, 3) := by decide +kernel
theorem dX6_take_94 : decode cX6_take 94 = .ok (.if_icmp .ge 29, 3) := by decide +kernel
theorem dX6_take_97 : decode cX6_take 97 = .ok (.aload_n 0, 1) := by decide +kernel
theorem dX6_take_98 : decode cX6_take 98 = .ok (.getfield 86, 3) := by decide +kernel
theorem dX6_take_101 : decode cX6_take 101 = .ok (.ifCond .eq 22, 3) := by decide +kernel
theorem dX6_take_104 : decode cX6_take 104 = .ok (.aload_n 0, 1) := by decide +kernel
theorem dX6_take_105 : decode cX6_take 105 = .ok (.getfield 68, 3) := by decide +kernel
theorem dX6_take_108 : decode cX6_take 108 = .ok (.iconst 1, 1) := by decide +kernel
theorem dX6_take_109 : decode cX6_take 109 = .ok (.if_icmp .eq 14, 3) := by decide +kernel
theorem dX6_take_112 : decode cX6_take 112 = .ok (.aload_n 0, 1) := by decide +kernel
theorem dX6_take_113 : decode cX6_take 113 = .ok (.iload_n 3, 1) := by decide +kernel
theorem dX6_take_114 : decode cX6_take 114 = .ok (.invokevirtual 89, 3) := by decide +kernel
theorem dX6_take_117 : decode cX6_take 117 = .ok (.iinc 4 1, 3) := by decide +kernel
theorem dX6_take_120 : decode cX6_take 120 = .ok (.goto (-31), 3) := by decide +kernel
theorem dX6_take_123 : decode cX6_take 123 = .ok (.aload_n 0, 1) := by decide +kernel
theorem dX6_take_124 : decode cX6_take 124 = .ok (.getfield 68, 3) := by decide +kernel
theorem dX6_take_127 : decode cX6_take 127 = .ok (.ifCond .ne 26, 3) := by decide +kernel
theorem dX6_take_130 : decode cX6_take 130 = .ok (.aload_n 0, 1) := by decide +kernel
theorem dX6_take_131 : decode cX6_take 131 = .ok (.getfield 77, 3) := by decide +kernel
theorem dX6_take_134 : decode cX6_take 134 = .ok (.aload_n 0, 1) := by decide +kernel
theorem dX6_take_135 : decode cX6_take 135 = .ok (.getfield 12, 3) := by decide +kernel
theorem dX6_take_138 : decode cX6_take 138 = .ok (.getfield 93, 3) := by decide +kernel
theorem dX6_take_141 : decode cX6_take 141 = .ok (.if_icmp .lt 12, 3) := by decide +kernel
theorem dX6_take_144 : decode cX6_take 144 = .ok (.aload_n 0, 1) := by decide +kernel
theorem dX6_take_145 : decode cX6_take 145 = .ok (.iconst 4, 1) := by decide +kernel
theorem dX6_take_146 : decode cX6_take 146 = .ok (.aload_n 0, 1) := by decide +kernel
theorem dX6_take_147 : decode cX6_take 147 = .ok (.getfield 49, 3) := by decide +kernel
theorem dX6_take_150 : decode cX6_take 150 = .ok (.invokevirtual 96, 3) := by decide +kernel
theorem dX6_take_153 : decode cX6_take 153 = .ok (.aload_n 0, 1) := by decide +kernel
theorem dX6_take_154 : decode cX6_take 154 = .ok (.getfield 68, 3) := by decide +kernel
theorem dX6_take_157 : decode cX6_take 157 = .ok (.ifCond .ne 26, 3) := by decide +kernel
theorem dX6_take_160 : decode cX6_take 160 = .ok (.aload_n 0, 1) := by decide +kernel
theorem dX6_take_161 : decode cX6_take 161 = .ok (.getfield 80, 3) := by decide +kernel
theorem dX6_take_164 : decode cX6_take 164 = .ok (.aload_n 0, 1) := by decide +kernel
theorem dX6_take_165 : decode cX6_take 165 = .ok (.getfield 12, 3) := by decide +kernel
theorem dX6_take_168 : decode cX6_take 168 = .ok (.getfield 100, 3) := by decide +kernel
theorem dX6_take_171 : decode cX6_take 171 = .ok (.if_icmp .lt 12, 3) := by decide +kernel
theorem dX6_take_174 : decode cX6_take 174 = .ok (.aload_n 0, 1) := by decide +kernel
theorem dX6_take_175 : decode cX6_take 175 = .ok (.iconst 5, 1) := by decide +kernel
theorem dX6_take_176 : decode cX6_take 176 = .ok (.aload_n 0, 1) := by decide +kernel
theorem dX6_take_177 : decode cX6_take 177 = .ok (.getfield 49, 3) := by decide +kernel
theorem dX6_take_180 : decode cX6_take 180 = .ok (.invokevirtual 96, 3) := by decide +kernel
theorem dX6_take_183 : decode cX6_take 183 = .ok (.return_, 1) := by decide +kernel
theorem dX6_line_0 : decode cX6_line 0 = .ok (.aload_n 0, 1) := by decide +kernel
theorem dX6_line_1 : decode cX6_line 1 = .ok (.iload_n 1, 1) := by decide +kernel
theorem dX6_line_2 : decode cX6_line 2 = .ok (.invokevirtual 103, 3) := by decide +kernel
theorem dX6_line_5 : decode cX6_line 5 = .ok (.istore_n 2, 1) := by decide +kernel
theorem dX6_line_6 : decode cX6_line 6 = .ok (.iload_n 2, 1) := by decide +kernel
theorem dX6_line_7 : decode cX6_line 7 = .ok (.iconst (-1), 1) := by decide +kernel
theorem dX6_line_8 : decode cX6_line 8 = .ok (.if_icmp .ne 8, 3) := by decide +kernel
theorem dX6_line_11 : decode cX6_line 11 = .ok (.aload_n 0, 1) := by decide +kernel
theorem dX6_line_12 : decode cX6_line 12 = .ok (.invokevirtual 107, 3) := by decide +kernel
theorem dX6_line_15 : decode cX6_line 15 = .ok (.return_, 1) := by decide +kernel
theorem dX6_line_16 : decode cX6_line 16 = .ok (.aload_n 0, 1) := by decide +kernel
theorem dX6_line_17 : decode cX6_line 17 = .ok (.iload_n 2, 1) := by decide +kernel
theorem dX6_line_18 : decode cX6_line 18 = .ok (.invokevirtual 110, 3) := by decide +kernel
theorem dX6_line_21 : decode cX6_line 21 = .ok (.ifCond .eq 12, 3) := by decide +kernel
theorem dX6_line_24 : decode cX6_line 24 = .ok (.aload_n 0, 1) := by decide +kernel
theorem dX6_line_25 : decode cX6_line 25 = .ok (.iconst 3, 1) := by decide +kernel
theorem dX6_line_26 : decode cX6_line 26 = .ok (.aload_n 0, 1) := by decide +kernel
theorem dX6_line_27 : decode cX6_line 27 = .ok (.getfield 114, 3) := by decide +kernel
theorem dX6_line_30 : decode cX6_line 30 = .ok (.invokevirtual 96, 3) := by decide +kernel
theorem dX6_line_33 : decode cX6_line 33 = .ok (.getstatic 117, 3) := by decide +kernel
theorem dX6_line_36 : decode cX6_line 36 = .ok (.iload_n 2, 1) := by decide +kernel
theorem dX6_line_37 : decode cX6_line 37 = .ok (.iaload, 1) := by decide +kernel
theorem dX6_line_38 : decode cX6_line 38 = .ok (.istore_n 3, 1) := by decide +kernel
theorem dX6_line_39 : decode cX6_line 39 = .ok (.aload_n 0, 1) := by decide +kernel
theorem dX6_line_40 : decode cX6_line 40 = .ok (.invokevirtual 83, 3) := by decide +kernel
theorem dX6_line_43 : decode cX6_line 43 = .ok (.iconst 0, 1) := by decide +kernel
theorem dX6_line_44 : decode cX6_line 44 = .ok (.istore 4, 2) := by decide +kernel
theorem dX6_line_46 : decode cX6_line 46 = .ok (.iload 4, 2) := by decide +kernel
theorem dX6_line_48 : decode cX6_line 48 = .ok (.iload_n 3, 1) := by decide +kernel
theorem dX6_line_49 : decode cX6_line 49 = .ok (.if_icmp .ge 56, 3) := by decide +kernel
theorem dX6_line_52 : decode cX6_line 52 = .ok (.aload_n 0, 1) := by decide +kernel
theorem dX6_line_53 : decode cX6_line 53 = .ok (.getfield 86, 3) := by decide +kernel
theorem dX6_line_56 : decode cX6_line 56 = .ok (.iconst 2, 1) := by decide +kernel
theorem dX6_line_57 : decode cX6_line 57 = .ok (.if_icmp .eq 8, 3) := by decide +kernel
theorem dX6_line_60 : decode cX6_line 60 = .ok (.aload_n 0, 1) := by decide +kernel
theorem dX6_line_61 : decode cX6_line 61 = .ok (.invokevirtual 107, 3) := by decide +kernel
theorem dX6_line_64 : decode cX6_line 64 = .ok (.return_, 1) := by decide +kernel
theorem dX6_line_65 : decode cX6_line 65 = .ok (.aload_n 0, 1) := by decide +kernel
theorem dX6_line_66 : decode cX6_line 66 = .ok (.getfield 36, 3) := by decide +kernel
theorem dX6_line_69 : decode cX6_line 69 = .ok (.iload 4, 2) := by decide +kernel
theorem dX6_line_71 : decode cX6_line 71 = .ok (.aload_n 0, 1) := by decide +kernel
theorem dX6_line_72 : decode cX6_line 72 = .ok (.getfield 120, 3) := by decide +kernel
theorem dX6_line_75 : decode cX6_line 75 = .ok (.iastore, 1) := by decide +kernel
theorem dX6_line_76 : decode cX6_line 76 = .ok (.aload_n 0, 1) := by decide +kernel
theorem dX6_line_77 : decode cX6_line 77 = .ok (.iload_n 2, 1) := by decide +kernel
theorem dX6_line_78 : decode cX6_line 78 = .ok (.iload 4, 2) := by decide +kernel
theorem dX6_line_80 : decode cX6_line 80 = .ok (.invokevirtual 123, 3) := by decide +kernel
theorem dX6_line_83 : decode cX6_line 83 = .ok (.ifCond .ne 12, 3) := by decide +kernel
theorem dX6_line_86 : decode cX6_line 86 = .ok (.aload_n 0, 1) := by decide +kernel
theorem dX6_line_87 : decode cX6_line 87 = .ok (.iconst 2, 1) := by decide +kernel
theorem dX6_line_88 : decode cX6_line 88 = .ok (.aload_n 0, 1) := by decide +kernel
theorem dX6_line_89 : decode cX6_line 89 = .ok (.getfield 114, 3) := by decide +kernel
theorem dX6_line_92 : decode cX6_line 92 = .ok (.invokevirtual 96, 3) := by decide +kernel
theorem dX6_line_95 : decode cX6_line 95 = .ok (.aload_n 0, 1) := by decide +kernel
theorem dX6_line_96 : decode cX6_line 96 = .ok (.invokevirtual 83, 3) := by decide +kernel
theorem dX6_line_99 : decode cX6_line 99 = .ok (.iinc 4 1, 3) := by decide +kernel
theorem dX6_line_102 : decode cX6_line 102 = .ok (.goto (-56), 3) := by decide +kernel
theorem dX6_line_105 : decode cX6_line 105 = .ok (.aload_n 0, 1) := by decide +kernel
theorem dX6_line_106 : decode cX6_line 106 = .ok (.getfield 86, 3) := by decide +kernel
theorem dX6_line_109 : decode cX6_line 109 = .ok (.iconst 3, 1) := by decide +kernel
theorem dX6_line_110 : decode cX6_line 110 = .ok (.if_icmp .eq 8, 3) := by decide +kernel
theorem dX6_line_113 : decode cX6_line 113 = .ok (.aload_n 0, 1) := by decide +kernel
theorem dX6_line_114 : decode cX6_line 114 = .ok (.invokevirtual 107, 3) := by decide +kernel
theorem dX6_line_117 : decode cX6_line 117 = .ok (.return_, 1) := by decide +kernel
theorem dX6_line_118 : decode cX6_line 118 = .ok (.aload_n 0, 1) := by decide +kernel
theorem dX6_line_119 : decode cX6_line 119 = .ok (.invokevirtual 83, 3) := by decide +kernel
theorem dX6_line_122 : decode cX6_line 122 = .ok (.aload_n 0, 1) := by decide +kernel
theorem dX6_line_123 : decode cX6_line 123 = .ok (.iload_n 2, 1) := by decide +kernel
theorem dX6_line_124 : decode cX6_line 124 = .ok (.invokevirtual 127, 3) := by decide +kernel
theorem dX6_line_127 : decode cX6_line 127 = .ok (.return_, 1) := by decide +kernel
theorem dX6_note_0 : decode cX6_note 0 = .ok (.aload_n 0, 1) := by decide +kernel
theorem dX6_note_1 : decode cX6_note 1 = .ok (.getfield 68, 3) := by decide +kernel
theorem dX6_note_4 : decode cX6_note 4 = .ok (.ifCond .ne 13, 3) := by decide +kernel
theorem dX6_note_7 : decode cX6_note 7 = .ok (.aload_n 0, 1) := by decide +kernel
theorem dX6_note_8 : decode cX6_note 8 = .ok (.iload_n 1, 1) := by decide +kernel
theorem dX6_note_9 : decode cX6_note 9 = .ok (.putfield 68, 3) := by decide +kernel
theorem dX6_note_12 : decode cX6_note 12 = .ok (.aload_n 0, 1) := by decide +kernel
theorem dX6_note_13 : decode cX6_note 13 = .ok (.iload_n 2, 1) := by decide +kernel
theorem dX6_note_14 : decode cX6_note 14 = .ok (.putfield 71, 3) := by decide +kernel
theorem dX6_note_17 : decode cX6_note 17 = .ok (.return_, 1) := by decide +kernel
theorem dX6_breakOff_0 : decode cX6_breakOff 0 = .ok (.aload_n 0, 1) := by decide +kernel
theorem dX6_breakOff_1 : decode cX6_breakOff 1 = .ok (.iconst 1, 1) := by decide +kernel
theorem dX6_breakOff_2 : decode cX6_breakOff 2 = .ok (.putfield 68, 3) := by decide +kernel
theorem dX6_breakOff_5 : decode cX6_breakOff 5 = .ok (.aload_n 0, 1) := by decide +kernel
theorem dX6_breakOff_6 : decode cX6_breakOff 6 = .ok (.aload_n 0, 1) := by decide +kernel
theorem dX6_breakOff_7 : decode cX6_breakOff 7 = .ok (.getfield 114, 3) := by decide +kernel
theorem dX6_breakOff_10 : decode cX6_breakOff 10 = .ok (.putfield 71, 3) := by decide +kernel
theorem dX6_breakOff_13 : decode cX6_breakOff 13 = .ok (.return_, 1) := by decide +kernel
theorem dX6_lineOf_0 : decode cX6_lineOf 0 = .ok (.aload_n 0, 1) := by decide +kernel
theorem dX6_lineOf_1 : decode cX6_lineOf 1 = .ok (.getfield 86, 3) := by decide +kernel
theorem dX6_lineOf_4 : decode cX6_lineOf 4 = .ok (.iconst 1, 1) := by decide +kernel
theorem dX6_lineOf_5 : decode cX6_lineOf 5 = .ok (.if_icmp .eq 5, 3) := by decide +kernel
theorem dX6_lineOf_8 : decode cX6_lineOf 8 = .ok (.iconst (-1), 1) := by decide +kernel
theorem dX6_lineOf_9 : decode cX6_lineOf 9 = .ok (.ireturn, 1) := by decide +kernel
theorem dX6_lineOf_10 : decode cX6_lineOf 10 = .ok (.iload_n 1, 1) := by decide +kernel
theorem dX6_lineOf_11 : decode cX6_lineOf 11 = .ok (.ifCond .ne 61, 3) := by decide +kernel
theorem dX6_lineOf_14 : decode cX6_lineOf 14 = .ok (.aload_n 0, 1) := by decide +kernel
theorem dX6_lineOf_15 : decode cX6_lineOf 15 = .ok (.ldc 130, 2) := by decide +kernel
theorem dX6_lineOf_17 : decode cX6_lineOf 17 = .ok (.invokevirtual 132, 3) := by decide +kernel
theorem dX6_lineOf_20 : decode cX6_lineOf 20 = .ok (.ifCond .eq 8, 3) := by decide +kernel
theorem dX6_lineOf_23 : decode cX6_lineOf 23 = .ok (.bipush 6, 2) := by decide +kernel
theorem dX6_lineOf_25 : decode cX6_lineOf 25 = .ok (.goto 46, 3) := by decide +kernel
theorem dX6_lineOf_28 : decode cX6_lineOf 28 = .ok (.aload_n 0, 1) := by decide +kernel
theorem dX6_lineOf_29 : decode cX6_lineOf 29 = .ok (.ldc 136, 2) := by decide +kernel
theorem dX6_lineOf_31 : decode cX6_lineOf 31 = .ok (.invokevirtual 132, 3) := by decide +kernel
theorem dX6_lineOf_34 : decode cX6_lineOf 34 = .ok (.ifCond .eq 8, 3) := by decide +kernel
theorem dX6_lineOf_37 : decode cX6_lineOf 37 = .ok (.bipush 7, 2) := by decide +kernel
theorem dX6_lineOf_39 : decode cX6_lineOf 39 = .ok (.goto 32, 3) := by decide +kernel
theorem dX6_lineOf_42 : decode cX6_lineOf 42 = .ok (.aload_n 0, 1) := by decide +kernel
theorem dX6_lineOf_43 : decode cX6_lineOf 43 = .ok (.ldc 138, 2) := by decide +kernel
theorem dX6_lineOf_45 : decode cX6_lineOf 45 = .ok (.invokevirtual 132, 3) := by decide +kernel
theorem dX6_lineOf_48 : decode cX6_lineOf 48 = .ok (.ifCond .eq 8, 3) := by decide +kernel
theorem dX6_lineOf_51 : decode cX6_lineOf 51 = .ok (.bipush 8, 2) := by decide +kernel
theorem dX6_lineOf_53 : decode cX6_lineOf 53 = .ok (.goto 18, 3) := by decide +kernel
theorem dX6_lineOf_56 : decode cX6_lineOf 56 = .ok (.aload_n 0, 1) := by decide +kernel
theorem dX6_lineOf_57 : decode cX6_lineOf 57 = .ok (.ldc 140, 2) := by decide +kernel
theorem dX6_lineOf_59 : decode cX6_lineOf 59 = .ok (.invokevirtual 132, 3) := by decide +kernel
theorem dX6_lineOf_62 : decode cX6_lineOf 62 = .ok (.ifCond .eq 8, 3) := by decide +kernel
theorem dX6_lineOf_65 : decode cX6_lineOf 65 = .ok (.bipush 9, 2) := by decide +kernel
theorem dX6_lineOf_67 : decode cX6_lineOf 67 = .ok (.goto 4, 3) := by decide +kernel
theorem dX6_lineOf_70 : decode cX6_lineOf 70 = .ok (.iconst (-1), 1) := by decide +kernel
theorem dX6_lineOf_71 : decode cX6_lineOf 71 = .ok (.ireturn, 1) := by decide +kernel
theorem dX6_lineOf_72 : decode cX6_lineOf 72 = .ok (.iload_n 1, 1) := by decide +kernel
theorem dX6_lineOf_73 : decode cX6_lineOf 73 = .ok (.iconst 1, 1) := by decide +kernel
theorem dX6_lineOf_74 : decode cX6_lineOf 74 = .ok (.if_icmp .ne 83, 3) := by decide +kernel
theorem dX6_lineOf_77 : decode cX6_lineOf 77 = .ok (.aload_n 0, 1) := by decide +kernel
theorem dX6_lineOf_78 : decode cX6_lineOf 78 = .ok (.ldc 142, 2) := by decide +kernel
theorem dX6_lineOf_80 : decode cX6_lineOf 80 = .ok (.invokevirtual 132, 3) := by decide +kernel
theorem dX6_lineOf_83 : decode cX6_lineOf 83 = .ok (.ifCond .eq 7, 3) := by decide +kernel
theorem dX6_lineOf_86 : decode cX6_lineOf 86 = .ok (.iconst 0, 1) := by decide +kernel
theorem dX6_lineOf_87 : decode cX6_lineOf 87 = .ok (.goto 69, 3) := by decide +kernel
theorem dX6_lineOf_90 : decode cX6_lineOf 90 = .ok (.aload_n 0, 1) := by decide +kernel
theorem dX6_lineOf_91 : decode cX6_lineOf 91 = .ok (.ldc 144, 2) := by decide +kernel
theorem dX6_lineOf_93 : decode cX6_lineOf 93 = .ok (.invokevirtual 132, 3) := by decide +kernel
theorem dX6_lineOf_96 : decode cX6_lineOf 96 = .ok (.ifCond .eq 7, 3) := by decide +kernel
theorem dX6_lineOf_99 : decode cX6_lineOf 99 = .ok (.iconst 1, 1) := by decide +kernel
theorem dX6_lineOf_100 : decode cX6_lineOf 100 = .ok (.goto 56, 3) := by decide +kernel
theorem dX6_lineOf_103 : decode cX6_lineOf 103 = .ok (.aload_n 0, 1) := by decide +kernel
theorem dX6_lineOf_104 : decode cX6_lineOf 104 = .ok (.ldc 146, 2) := by decide +kernel
theorem dX6_lineOf_106 : decode cX6_lineOf 106 = .ok (.invokevirtual 132, 3) := by decide +kernel
theorem dX6_lineOf_109 : decode cX6_lineOf 109 = .ok (.ifCond .eq 7, 3) := by decide +kernel
theorem dX6_lineOf_112 : decode cX6_lineOf 112 = .ok (.iconst 2, 1) := by decide +kernel
theorem dX6_lineOf_113 : decode cX6_lineOf 113 = .ok (.goto 43, 3) := by decide +kernel
theorem dX6_lineOf_116 : decode cX6_lineOf 116 = .ok (.aload_n 0, 1) := by decide +kernel
theorem dX6_lineOf_117 : decode cX6_lineOf 117 = .ok (.ldc 148, 2) := by decide +kernel
theorem dX6_lineOf_119 : decode cX6_lineOf 119 = .ok (.invokevirtual 132, 3) := by decide +kernel
theorem dX6_lineOf_122 : decode cX6_lineOf 122 = .ok (.ifCond .eq 7, 3) := by decide +kernel
theorem dX6_lineOf_125 : decode cX6_lineOf 125 = .ok (.iconst 3, 1) := by decide +kernel
theorem dX6_lineOf_126 : decode cX6_lineOf 126 = .ok (.goto 30, 3) := by decide +kernel
theorem dX6_lineOf_129 : decode cX6_lineOf 129 = .ok (.aload_n 0, 1) := by decide +kernel
theorem dX6_lineOf_130 : decode cX6_lineOf 130 = .ok (.ldc 150, 2) := by decide +kernel
theorem dX6_lineOf_132 : decode cX6_lineOf 132 = .ok (.invokevirtual 132, 3) := by decide +kernel
theorem dX6_lineOf_135 : decode cX6_lineOf 135 = .ok (.ifCond .eq 7, 3) := by decide +kernel
theorem dX6_lineOf_138 : decode cX6_lineOf 138 = .ok (.iconst 4, 1) := by decide +kernel
theorem dX6_lineOf_139 : decode cX6_lineOf 139 = .ok (.goto 17, 3) := by decide +kernel
theorem dX6_lineOf_142 : decode cX6_lineOf 142 = .ok (.aload_n 0, 1) := by decide +kernel
theorem dX6_lineOf_143 : decode cX6_lineOf 143 = .ok (.ldc 152, 2) := by decide +kernel
theorem dX6_lineOf_145 : decode cX6_lineOf 145 = .ok (.invokevirtual 132, 3) := by decide +kernel
theorem dX6_lineOf_148 : decode cX6_lineOf 148 = .ok (.ifCond .eq 7, 3) := by decide +kernel
theorem dX6_lineOf_151 : decode cX6_lineOf 151 = .ok (.iconst 5, 1) := by decide +kernel
theorem dX6_lineOf_152 : decode cX6_lineOf 152 = .ok (.goto 4, 3) := by decide +kernel
theorem dX6_lineOf_155 : decode cX6_lineOf 155 = .ok (.iconst (-1), 1) := by decide +kernel
theorem dX6_lineOf_156 : decode cX6_lineOf 156 = .ok (.ireturn, 1) := by decide +kernel
theorem dX6_lineOf_157 : decode cX6_lineOf 157 = .ok (.aload_n 0, 1) := by decide +kernel
theorem dX6_lineOf_158 : decode cX6_lineOf 158 = .ok (.ldc 154, 2) := by decide +kernel
theorem dX6_lineOf_160 : decode cX6_lineOf 160 = .ok (.invokevirtual 132, 3) := by decide +kernel
theorem dX6_lineOf_163 : decode cX6_lineOf 163 = .ok (.ifCond .eq 8, 3) := by decide +kernel
theorem dX6_lineOf_166 : decode cX6_lineOf 166 = .ok (.bipush 10, 2) := by decide +kernel
theorem dX6_lineOf_168 : decode cX6_lineOf 168 = .ok (.goto 4, 3) := by decide +kernel
theorem dX6_lineOf_171 : decode cX6_lineOf 171 = .ok (.iconst (-1), 1) := by decide +kernel
theorem dX6_lineOf_172 : decode cX6_lineOf 172 = .ok (.ireturn, 1) := by decide +kernel
theorem dX6_spells_0 : decode cX6_spells 0 = .ok (.aload_n 1, 1) := by decide +kernel
theorem dX6_spells_1 : decode cX6_spells 1 = .ok (.invokevirtual 156, 3) := by decide +kernel
theorem dX6_spells_4 : decode cX6_spells 4 = .ok (.istore_n 2, 1) := by decide +kernel
theorem dX6_spells_5 : decode cX6_spells 5 = .ok (.aload_n 0, 1) := by decide +kernel
theorem dX6_spells_6 : decode cX6_spells 6 = .ok (.getfield 74, 3) := by decide +kernel
theorem dX6_spells_9 : decode cX6_spells 9 = .ok (.aload_n 0, 1) := by decide +kernel
theorem dX6_spells_10 : decode cX6_spells 10 = .ok (.getfield 114, 3) := by decide +kernel
theorem dX6_spells_13 : decode cX6_spells 13 = .ok (.isub, 1) := by decide +kernel
theorem dX6_spells_14 : decode cX6_spells 14 = .ok (.iload_n 2, 1) := by decide +kernel
theorem dX6_spells_15 : decode cX6_spells 15 = .ok (.if_icmp .eq 5, 3) := by decide +kernel
theorem dX6_spells_18 : decode cX6_spells 18 = .ok (.iconst 0, 1) := by decide +kernel
theorem dX6_spells_19 : decode cX6_spells 19 = .ok (.ireturn, 1) := by decide +kernel
theorem dX6_spells_20 : decode cX6_spells 20 = .ok (.iconst 0, 1) := by decide +kernel
theorem dX6_spells_21 : decode cX6_spells 21 = .ok (.istore_n 3, 1) := by decide +kernel
theorem dX6_spells_22 : decode cX6_spells 22 = .ok (.iload_n 3, 1) := by decide +kernel
theorem dX6_spells_23 : decode cX6_spells 23 = .ok (.iload_n 2, 1) := by decide +kernel
theorem dX6_spells_24 : decode cX6_spells 24 = .ok (.if_icmp .ge 29, 3) := by decide +kernel
theorem dX6_spells_27 : decode cX6_spells 27 = .ok (.aload_n 0, 1) := by decide +kernel
theorem dX6_spells_28 : decode cX6_spells 28 = .ok (.aload_n 0, 1) := by decide +kernel
theorem dX6_spells_29 : decode cX6_spells 29 = .ok (.getfield 114, 3) := by decide +kernel
theorem dX6_spells_32 : decode cX6_spells 32 = .ok (.iload_n 3, 1) := by decide +kernel
theorem dX6_spells_33 : decode cX6_spells 33 = .ok (.iadd, 1) := by decide +kernel
theorem dX6_spells_34 : decode cX6_spells 34 = .ok (.invokevirtual 162, 3) := by decide +kernel
theorem dX6_spells_37 : decode cX6_spells 37 = .ok (.aload_n 1, 1) := by decide +kernel
theorem dX6_spells_38 : decode cX6_spells 38 = .ok (.iload_n 3, 1) := by decide +kernel
theorem dX6_spells_39 : decode cX6_spells 39 = .ok (.invokevirtual 165, 3) := by decide +kernel
theorem dX6_spells_42 : decode cX6_spells 42 = .ok (.if_icmp .eq 5, 3) := by decide +kernel
theorem dX6_spells_45 : decode cX6_spells 45 = .ok (.iconst 0, 1) := by decide +kernel
theorem dX6_spells_46 : decode cX6_spells 46 = .ok (.ireturn, 1) := by decide +kernel
theorem dX6_spells_47 : decode cX6_spells 47 = .ok (.iinc 3 1, 3) := by decide +kernel
theorem dX6_spells_50 : decode cX6_spells 50 = .ok (.goto (-28), 3) := by decide +kernel
theorem dX6_spells_53 : decode cX6_spells 53 = .ok (.iconst 1, 1) := by decide +kernel
theorem dX6_spells_54 : decode cX6_spells 54 = .ok (.ireturn, 1) := by decide +kernel
theorem dX6_isFull_0 : decode cX6_isFull 0 = .ok (.iload_n 1, 1) := by decide +kernel
theorem dX6_isFull_1 : decode cX6_isFull 1 = .ok (.tableswitch 91 6 10 #[35, 71, 53, 71, 73], 35) := by decide +kernel
theorem dX6_isFull_36 : decode cX6_isFull 36 = .ok (.aload_n 0, 1) := by decide +kernel
theorem dX6_isFull_37 : decode cX6_isFull 37 = .ok (.getfield 12, 3) := by decide +kernel
theorem dX6_isFull_40 : decode cX6_isFull 40 = .ok (.getfield 100, 3) := by decide +kernel
theorem dX6_isFull_43 : decode cX6_isFull 43 = .ok (.bipush 8, 2) := by decide +kernel
theorem dX6_isFull_45 : decode cX6_isFull 45 = .ok (.if_icmp .lt 7, 3) := by decide +kernel
theorem dX6_isFull_48 : decode cX6_isFull 48 = .ok (.iconst 1, 1) := by decide +kernel
theorem dX6_isFull_49 : decode cX6_isFull 49 = .ok (.goto 4, 3) := by decide +kernel
theorem dX6_isFull_52 : decode cX6_isFull 52 = .ok (.iconst 0, 1) := by decide +kernel
theorem dX6_isFull_53 : decode cX6_isFull 53 = .ok (.ireturn, 1) := by decide +kernel
theorem dX6_isFull_54 : decode cX6_isFull 54 = .ok (.aload_n 0, 1) := by decide +kernel
theorem dX6_isFull_55 : decode cX6_isFull 55 = .ok (.getfield 12, 3) := by decide +kernel
theorem dX6_isFull_58 : decode cX6_isFull 58 = .ok (.getfield 93, 3) := by decide +kernel
theorem dX6_isFull_61 : decode cX6_isFull 61 = .ok (.bipush 6, 2) := by decide +kernel
theorem dX6_isFull_63 : decode cX6_isFull 63 = .ok (.if_icmp .lt 7, 3) := by decide +kernel
theorem dX6_isFull_66 : decode cX6_isFull 66 = .ok (.iconst 1, 1) := by decide +kernel
theorem dX6_isFull_67 : decode cX6_isFull 67 = .ok (.goto 4, 3) := by decide +kernel
theorem dX6_isFull_70 : decode cX6_isFull 70 = .ok (.iconst 0, 1) := by decide +kernel
theorem dX6_isFull_71 : decode cX6_isFull 71 = .ok (.ireturn, 1) := by decide +kernel
theorem dX6_isFull_72 : decode cX6_isFull 72 = .ok (.iconst 0, 1) := by decide +kernel
theorem dX6_isFull_73 : decode cX6_isFull 73 = .ok (.ireturn, 1) := by decide +kernel
theorem dX6_isFull_74 : decode cX6_isFull 74 = .ok (.aload_n 0, 1) := by decide +kernel
theorem dX6_isFull_75 : decode cX6_isFull 75 = .ok (.getfield 28, 3) := by decide +kernel
theorem dX6_isFull_78 : decode cX6_isFull 78 = .ok (.getfield 65, 3) := by decide +kernel
theorem dX6_isFull_81 : decode cX6_isFull 81 = .ok (.bipush 8, 2) := by decide +kernel
theorem dX6_isFull_83 : decode cX6_isFull 83 = .ok (.if_icmp .lt 7, 3) := by decide +kernel
theorem dX6_isFull_86 : decode cX6_isFull 86 = .ok (.iconst 1, 1) := by decide +kernel
theorem dX6_isFull_87 : decode cX6_isFull 87 = .ok (.goto 4, 3) := by decide +kernel
theorem dX6_isFull_90 : decode cX6_isFull 90 = .ok (.iconst 0, 1) := by decide +kernel
theorem dX6_isFull_91 : decode cX6_isFull 91 = .ok (.ireturn, 1) := by decide +kernel
theorem dX6_isFull_92 : decode cX6_isFull 92 = .ok (.aload_n 0, 1) := by decide +kernel
theorem dX6_isFull_93 : decode cX6_isFull 93 = .ok (.getfield 21, 3) := by decide +kernel
theorem dX6_isFull_96 : decode cX6_isFull 96 = .ok (.getfield 62, 3) := by decide +kernel
theorem dX6_isFull_99 : decode cX6_isFull 99 = .ok (.bipush 40, 2) := by decide +kernel
theorem dX6_isFull_101 : decode cX6_isFull 101 = .ok (.if_icmp .lt 7, 3) := by decide +kernel
theorem dX6_isFull_104 : decode cX6_isFull 104 = .ok (.iconst 1, 1) := by decide +kernel
theorem dX6_isFull_105 : decode cX6_isFull 105 = .ok (.goto 4, 3) := by decide +kernel
theorem dX6_isFull_108 : decode cX6_isFull 108 = .ok (.iconst 0, 1) := by decide +kernel
theorem dX6_isFull_109 : decode cX6_isFull 109 = .ok (.ireturn, 1) := by decide +kernel
theorem dX6_mayBe_0 : decode cX6_mayBe 0 = .ok (.aload_n 0, 1) := by decide +kernel
theorem dX6_mayBe_1 : decode cX6_mayBe 1 = .ok (.getfield 36, 3) := by decide +kernel
theorem dX6_mayBe_4 : decode cX6_mayBe 4 = .ok (.iload_n 2, 1) := by decide +kernel
theorem dX6_mayBe_5 : decode cX6_mayBe 5 = .ok (.iaload, 1) := by decide +kernel
theorem dX6_mayBe_6 : decode cX6_mayBe 6 = .ok (.getstatic 169, 3) := by decide +kernel
theorem dX6_mayBe_9 : decode cX6_mayBe 9 = .ok (.iconst 3, 1) := by decide +kernel
theorem dX6_mayBe_10 : decode cX6_mayBe 10 = .ok (.iload_n 1, 1) := by decide +kernel
theorem dX6_mayBe_11 : decode cX6_mayBe 11 = .ok (.imul, 1) := by decide +kernel
theorem dX6_mayBe_12 : decode cX6_mayBe 12 = .ok (.iload_n 2, 1) := by decide +kernel
theorem dX6_mayBe_13 : decode cX6_mayBe 13 = .ok (.iadd, 1) := by decide +kernel
theorem dX6_mayBe_14 : decode cX6_mayBe 14 = .ok (.iaload, 1) := by decide +kernel
theorem dX6_mayBe_15 : decode cX6_mayBe 15 = .ok (.if_icmp .le 5, 3) := by decide +kernel
theorem dX6_mayBe_18 : decode cX6_mayBe 18 = .ok (.iconst 0, 1) := by decide +kernel
theorem dX6_mayBe_19 : decode cX6_mayBe 19 = .ok (.ireturn, 1) := by decide +kernel
theorem dX6_mayBe_20 : decode cX6_mayBe 20 = .ok (.iload_n 2, 1) := by decide +kernel
theorem dX6_mayBe_21 : decode cX6_mayBe 21 = .ok (.iconst 1, 1) := by decide +kernel
theorem dX6_mayBe_22 : decode cX6_mayBe 22 = .ok (.if_icmp .ne 24, 3) := by decide +kernel
theorem dX6_mayBe_25 : decode cX6_mayBe 25 = .ok (.iload_n 1, 1) := by decide +kernel
theorem dX6_mayBe_26 : decode cX6_mayBe 26 = .ok (.bipush 8, 2) := by decide +kernel
theorem dX6_mayBe_28 : decode cX6_mayBe 28 = .ok (.if_icmp .ne 18, 3) := by decide +kernel
theorem dX6_mayBe_31 : decode cX6_mayBe 31 = .ok (.aload_n 0, 1) := by decide +kernel
theorem dX6_mayBe_32 : decode cX6_mayBe 32 = .ok (.getfield 36, 3) := by decide +kernel
theorem dX6_mayBe_35 : decode cX6_mayBe 35 = .ok (.iconst 1, 1) := by decide +kernel
theorem dX6_mayBe_36 : decode cX6_mayBe 36 = .ok (.iaload, 1) := by decide +kernel
theorem dX6_mayBe_37 : decode cX6_mayBe 37 = .ok (.ifCond .le 7, 3) := by decide +kernel
theorem dX6_mayBe_40 : decode cX6_mayBe 40 = .ok (.iconst 1, 1) := by decide +kernel
theorem dX6_mayBe_41 : decode cX6_mayBe 41 = .ok (.goto 4, 3) := by decide +kernel
theorem dX6_mayBe_44 : decode cX6_mayBe 44 = .ok (.iconst 0, 1) := by decide +kernel
theorem dX6_mayBe_45 : decode cX6_mayBe 45 = .ok (.ireturn, 1) := by decide +kernel
theorem dX6_mayBe_46 : decode cX6_mayBe 46 = .ok (.iload_n 1, 1) := by decide +kernel
theorem dX6_mayBe_47 : decode cX6_mayBe 47 = .ok (.bipush 7, 2) := by decide +kernel
theorem dX6_mayBe_49 : decode cX6_mayBe 49 = .ok (.if_icmp .eq 13, 3) := by decide +kernel
theorem dX6_mayBe_52 : decode cX6_mayBe 52 = .ok (.iload_n 1, 1) := by decide +kernel
theorem dX6_mayBe_53 : decode cX6_mayBe 53 = .ok (.iconst 3, 1) := by decide +kernel
theorem dX6_mayBe_54 : decode cX6_mayBe 54 = .ok (.if_icmp .eq 8, 3) := by decide +kernel
theorem dX6_mayBe_57 : decode cX6_mayBe 57 = .ok (.iload_n 1, 1) := by decide +kernel
theorem dX6_mayBe_58 : decode cX6_mayBe 58 = .ok (.iconst 4, 1) := by decide +kernel
theorem dX6_mayBe_59 : decode cX6_mayBe 59 = .ok (.if_icmp .ne 7, 3) := by decide +kernel
theorem dX6_mayBe_62 : decode cX6_mayBe 62 = .ok (.iconst 1, 1) := by decide +kernel
theorem dX6_mayBe_63 : decode cX6_mayBe 63 = .ok (.goto 4, 3) := by decide +kernel
theorem dX6_mayBe_66 : decode cX6_mayBe 66 = .ok (.iconst 0, 1) := by decide +kernel
theorem dX6_mayBe_67 : decode cX6_mayBe 67 = .ok (.istore_n 3, 1) := by decide +kernel
theorem dX6_mayBe_68 : decode cX6_mayBe 68 = .ok (.iload_n 2, 1) := by decide +kernel
theorem dX6_mayBe_69 : decode cX6_mayBe 69 = .ok (.iconst 1, 1) := by decide +kernel
theorem dX6_mayBe_70 : decode cX6_mayBe 70 = .ok (.if_icmp .ne 22, 3) := by decide +kernel
theorem dX6_mayBe_73 : decode cX6_mayBe 73 = .ok (.iload_n 3, 1) := by decide +kernel
theorem dX6_mayBe_74 : decode cX6_mayBe 74 = .ok (.ifCond .eq 18, 3) := by decide +kernel
theorem dX6_mayBe_77 : decode cX6_mayBe 77 = .ok (.aload_n 0, 1) := by decide +kernel
theorem dX6_mayBe_78 : decode cX6_mayBe 78 = .ok (.getfield 36, 3) := by decide +kernel
theorem dX6_mayBe_81 : decode cX6_mayBe 81 = .ok (.iconst 1, 1) := by decide +kernel
theorem dX6_mayBe_82 : decode cX6_mayBe 82 = .ok (.iaload, 1) := by decide +kernel
theorem dX6_mayBe_83 : decode cX6_mayBe 83 = .ok (.aload_n 0, 1) := by decide +kernel
theorem dX6_mayBe_84 : decode cX6_mayBe 84 = .ok (.getfield 36, 3) := by decide +kernel
theorem dX6_mayBe_87 : decode cX6_mayBe 87 = .ok (.iconst 0, 1) := by decide +kernel
theorem dX6_mayBe_88 : decode cX6_mayBe 88 = .ok (.iaload, 1) := by decide +kernel
theorem dX6_mayBe_89 : decode cX6_mayBe 89 = .ok (.if_icmp .eq 7, 3) := by decide +kernel
theorem dX6_mayBe_92 : decode cX6_mayBe 92 = .ok (.iconst 1, 1) := by decide +kernel
theorem dX6_mayBe_93 : decode cX6_mayBe 93 = .ok (.goto 4, 3) := by decide +kernel
theorem dX6_mayBe_96 : decode cX6_mayBe 96 = .ok (.iconst 0, 1) := by decide +kernel
theorem dX6_mayBe_97 : decode cX6_mayBe 97 = .ok (.ireturn, 1) := by decide +kernel
theorem dX6_keep_0 : decode cX6_keep 0 = .ok (.iload_n 1, 1) := by decide +kernel
theorem dX6_keep_1 : decode cX6_keep 1 = .ok (.tableswitch 182 6 10 #[35, 51, 76, 98, 160], 35) := by decide +kernel
theorem dX6_keep_36 : decode cX6_keep 36 = .ok (.aload_n 0, 1) := by decide +kernel
theorem dX6_keep_37 : decode cX6_keep 37 = .ok (.getfield 12, 3) := by decide +kernel
theorem dX6_keep_40 : decode cX6_keep 40 = .ok (.aload_n 0, 1) := by decide +kernel
theorem dX6_keep_41 : decode cX6_keep 41 = .ok (.getfield 36, 3) := by decide +kernel
theorem dX6_keep_44 : decode cX6_keep 44 = .ok (.iconst 0, 1) := by decide +kernel
theorem dX6_keep_45 : decode cX6_keep 45 = .ok (.iaload, 1) := by decide +kernel
theorem dX6_keep_46 : decode cX6_keep 46 = .ok (.invokevirtual 172, 3) := by decide +kernel
theorem dX6_keep_49 : decode cX6_keep 49 = .ok (.goto 177, 3) := by decide +kernel
theorem dX6_keep_52 : decode cX6_keep 52 = .ok (.aload_n 0, 1) := by decide +kernel
theorem dX6_keep_53 : decode cX6_keep 53 = .ok (.getfield 12, 3) := by decide +kernel
theorem dX6_keep_56 : decode cX6_keep 56 = .ok (.getfield 175, 3) := by decide +kernel
theorem dX6_keep_59 : decode cX6_keep 59 = .ok (.aload_n 0, 1) := by decide +kernel
theorem dX6_keep_60 : decode cX6_keep 60 = .ok (.getfield 36, 3) := by decide +kernel
theorem dX6_keep_63 : decode cX6_keep 63 = .ok (.iconst 0, 1) := by decide +kernel
theorem dX6_keep_64 : decode cX6_keep 64 = .ok (.iaload, 1) := by decide +kernel
theorem dX6_keep_65 : decode cX6_keep 65 = .ok (.aload_n 0, 1) := by decide +kernel
theorem dX6_keep_66 : decode cX6_keep 66 = .ok (.getfield 36, 3) := by decide +kernel
theorem dX6_keep_69 : decode cX6_keep 69 = .ok (.iconst 1, 1) := by decide +kernel
theorem dX6_keep_70 : decode cX6_keep 70 = .ok (.iaload, 1) := by decide +kernel
theorem dX6_keep_71 : decode cX6_keep 71 = .ok (.invokevirtual 179, 3) := by decide +kernel
theorem dX6_keep_74 : decode cX6_keep 74 = .ok (.goto 152, 3) := by decide +kernel
theorem dX6_keep_77 : decode cX6_keep 77 = .ok (.aload_n 0, 1) := by decide +kernel
theorem dX6_keep_78 : decode cX6_keep 78 = .ok (.getfield 12, 3) := by decide +kernel
theorem dX6_keep_81 : decode cX6_keep 81 = .ok (.aload_n 0, 1) := by decide +kernel
theorem dX6_keep_82 : decode cX6_keep 82 = .ok (.getfield 36, 3) := by decide +kernel
theorem dX6_keep_85 : decode cX6_keep 85 = .ok (.iconst 0, 1) := by decide +kernel
theorem dX6_keep_86 : decode cX6_keep 86 = .ok (.iaload, 1) := by decide +kernel
theorem dX6_keep_87 : decode cX6_keep 87 = .ok (.aload_n 0, 1) := by decide +kernel
theorem dX6_keep_88 : decode cX6_keep 88 = .ok (.getfield 36, 3) := by decide +kernel
theorem dX6_keep_91 : decode cX6_keep 91 = .ok (.iconst 1, 1) := by decide +kernel
theorem dX6_keep_92 : decode cX6_keep 92 = .ok (.iaload, 1) := by decide +kernel
theorem dX6_keep_93 : decode cX6_keep 93 = .ok (.invokevirtual 183, 3) := by decide +kernel
theorem dX6_keep_96 : decode cX6_keep 96 = .ok (.goto 130, 3) := by decide +kernel
theorem dX6_keep_99 : decode cX6_keep 99 = .ok (.aload_n 0, 1) := by decide +kernel
theorem dX6_keep_100 : decode cX6_keep 100 = .ok (.getfield 12, 3) := by decide +kernel
theorem dX6_keep_103 : decode cX6_keep 103 = .ok (.aload_n 0, 1) := by decide +kernel
theorem dX6_keep_104 : decode cX6_keep 104 = .ok (.getfield 36, 3) := by decide +kernel
theorem dX6_keep_107 : decode cX6_keep 107 = .ok (.iconst 0, 1) := by decide +kernel
theorem dX6_keep_108 : decode cX6_keep 108 = .ok (.iaload, 1) := by decide +kernel
theorem dX6_keep_109 : decode cX6_keep 109 = .ok (.aload_n 0, 1) := by decide +kernel
theorem dX6_keep_110 : decode cX6_keep 110 = .ok (.getfield 36, 3) := by decide +kernel
theorem dX6_keep_113 : decode cX6_keep 113 = .ok (.iconst 1, 1) := by decide +kernel
theorem dX6_keep_114 : decode cX6_keep 114 = .ok (.iaload, 1) := by decide +kernel
theorem dX6_keep_115 : decode cX6_keep 115 = .ok (.aload_n 0, 1) := by decide +kernel
theorem dX6_keep_116 : decode cX6_keep 116 = .ok (.getfield 36, 3) := by decide +kernel
theorem dX6_keep_119 : decode cX6_keep 119 = .ok (.iconst 2, 1) := by decide +kernel
theorem dX6_keep_120 : decode cX6_keep 120 = .ok (.iaload, 1) := by decide +kernel
theorem dX6_keep_121 : decode cX6_keep 121 = .ok (.invokevirtual 186, 3) := by decide +kernel
theorem dX6_keep_124 : decode cX6_keep 124 = .ok (.aload_n 0, 1) := by decide +kernel
theorem dX6_keep_125 : decode cX6_keep 125 = .ok (.aload_n 0, 1) := by decide +kernel
theorem dX6_keep_126 : decode cX6_keep 126 = .ok (.getfield 77, 3) := by decide +kernel
theorem dX6_keep_129 : decode cX6_keep 129 = .ok (.aload_n 0, 1) := by decide +kernel
theorem dX6_keep_130 : decode cX6_keep 130 = .ok (.getfield 36, 3) := by decide +kernel
theorem dX6_keep_133 : decode cX6_keep 133 = .ok (.iconst 0, 1) := by decide +kernel
theorem dX6_keep_134 : decode cX6_keep 134 = .ok (.iaload, 1) := by decide +kernel
theorem dX6_keep_135 : decode cX6_keep 135 = .ok (.invokestatic 46, 3) := by decide +kernel
theorem dX6_keep_138 : decode cX6_keep 138 = .ok (.putfield 77, 3) := by decide +kernel
theorem dX6_keep_141 : decode cX6_keep 141 = .ok (.aload_n 0, 1) := by decide +kernel
theorem dX6_keep_142 : decode cX6_keep 142 = .ok (.aload_n 0, 1) := by decide +kernel
theorem dX6_keep_143 : decode cX6_keep 143 = .ok (.getfield 80, 3) := by decide +kernel
theorem dX6_keep_146 : decode cX6_keep 146 = .ok (.aload_n 0, 1) := by decide +kernel
theorem dX6_keep_147 : decode cX6_keep 147 = .ok (.getfield 36, 3) := by decide +kernel
theorem dX6_keep_150 : decode cX6_keep 150 = .ok (.iconst 1, 1) := by decide +kernel
theorem dX6_keep_151 : decode cX6_keep 151 = .ok (.iaload, 1) := by decide +kernel
theorem dX6_keep_152 : decode cX6_keep 152 = .ok (.invokestatic 46, 3) := by decide +kernel
theorem dX6_keep_155 : decode cX6_keep 155 = .ok (.putfield 80, 3) := by decide +kernel
theorem dX6_keep_158 : decode cX6_keep 158 = .ok (.goto 68, 3) := by decide +kernel
theorem dX6_keep_161 : decode cX6_keep 161 = .ok (.aload_n 0, 1) := by decide +kernel
theorem dX6_keep_162 : decode cX6_keep 162 = .ok (.getfield 28, 3) := by decide +kernel
theorem dX6_keep_165 : decode cX6_keep 165 = .ok (.aload_n 0, 1) := by decide +kernel
theorem dX6_keep_166 : decode cX6_keep 166 = .ok (.getfield 36, 3) := by decide +kernel
theorem dX6_keep_169 : decode cX6_keep 169 = .ok (.iconst 0, 1) := by decide +kernel
theorem dX6_keep_170 : decode cX6_keep 170 = .ok (.iaload, 1) := by decide +kernel
theorem dX6_keep_171 : decode cX6_keep 171 = .ok (.aload_n 0, 1) := by decide +kernel
theorem dX6_keep_172 : decode cX6_keep 172 = .ok (.getfield 36, 3) := by decide +kernel
theorem dX6_keep_175 : decode cX6_keep 175 = .ok (.iconst 1, 1) := by decide +kernel
theorem dX6_keep_176 : decode cX6_keep 176 = .ok (.iaload, 1) := by decide +kernel
theorem dX6_keep_177 : decode cX6_keep 177 = .ok (.invokevirtual 190, 3) := by decide +kernel
theorem dX6_keep_180 : decode cX6_keep 180 = .ok (.goto 46, 3) := by decide +kernel
theorem dX6_keep_183 : decode cX6_keep 183 = .ok (.getstatic 117, 3) := by decide +kernel
theorem dX6_keep_186 : decode cX6_keep 186 = .ok (.iload_n 1, 1) := by decide +kernel
theorem dX6_keep_187 : decode cX6_keep 187 = .ok (.iaload, 1) := by decide +kernel
theorem dX6_keep_188 : decode cX6_keep 188 = .ok (.istore_n 2, 1) := by decide +kernel
theorem dX6_keep_189 : decode cX6_keep 189 = .ok (.aload_n 0, 1) := by decide +kernel
theorem dX6_keep_190 : decode cX6_keep 190 = .ok (.getfield 21, 3) := by decide +kernel
theorem dX6_keep_193 : decode cX6_keep 193 = .ok (.iload_n 1, 1) := by decide +kernel
theorem dX6_keep_194 : decode cX6_keep 194 = .ok (.iload_n 2, 1) := by decide +kernel
theorem dX6_keep_195 : decode cX6_keep 195 = .ok (.ifCond .le 12, 3) := by decide +kernel
theorem dX6_keep_198 : decode cX6_keep 198 = .ok (.aload_n 0, 1) := by decide +kernel
theorem dX6_keep_199 : decode cX6_keep 199 = .ok (.getfield 36, 3) := by decide +kernel
theorem dX6_keep_202 : decode cX6_keep 202 = .ok (.iconst 0, 1) := by decide +kernel
theorem dX6_keep_203 : decode cX6_keep 203 = .ok (.iaload, 1) := by decide +kernel
theorem dX6_keep_204 : decode cX6_keep 204 = .ok (.goto 4, 3) := by decide +kernel
theorem dX6_keep_207 : decode cX6_keep 207 = .ok (.iconst (-1), 1) := by decide +kernel
theorem dX6_keep_208 : decode cX6_keep 208 = .ok (.iload_n 2, 1) := by decide +kernel
theorem dX6_keep_209 : decode cX6_keep 209 = .ok (.iconst 1, 1) := by decide +kernel
theorem dX6_keep_210 : decode cX6_keep 210 = .ok (.if_icmp .le 12, 3) := by decide +kernel
theorem dX6_keep_213 : decode cX6_keep 213 = .ok (.aload_n 0, 1) := by decide +kernel
theorem dX6_keep_214 : decode cX6_keep 214 = .ok (.getfield 36, 3) := by decide +kernel
theorem dX6_keep_217 : decode cX6_keep 217 = .ok (.iconst 1, 1) := by decide +kernel
theorem dX6_keep_218 : decode cX6_keep 218 = .ok (.iaload, 1) := by decide +kernel
theorem dX6_keep_219 : decode cX6_keep 219 = .ok (.goto 4, 3) := by decide +kernel
theorem dX6_keep_222 : decode cX6_keep 222 = .ok (.iconst (-1), 1) := by decide +kernel
theorem dX6_keep_223 : decode cX6_keep 223 = .ok (.invokevirtual 193, 3) := by decide +kernel
theorem dX6_keep_226 : decode cX6_keep 226 = .ok (.return_, 1) := by decide +kernel
theorem dX6_byteAt_0 : decode cX6_byteAt 0 = .ok (.iload_n 1, 1) := by decide +kernel
theorem dX6_byteAt_1 : decode cX6_byteAt 1 = .ok (.ifCond .lt 20, 3) := by decide +kernel
theorem dX6_byteAt_4 : decode cX6_byteAt 4 = .ok (.iload_n 1, 1) := by decide +kernel
theorem dX6_byteAt_5 : decode cX6_byteAt 5 = .ok (.aload_n 0, 1) := by decide +kernel
theorem dX6_byteAt_6 : decode cX6_byteAt 6 = .ok (.getfield 49, 3) := by decide +kernel
theorem dX6_byteAt_9 : decode cX6_byteAt 9 = .ok (.if_icmp .ge 12, 3) := by decide +kernel
theorem dX6_byteAt_12 : decode cX6_byteAt 12 = .ok (.aload_n 0, 1) := by decide +kernel
theorem dX6_byteAt_13 : decode cX6_byteAt 13 = .ok (.getfield 32, 3) := by decide +kernel
theorem dX6_byteAt_16 : decode cX6_byteAt 16 = .ok (.iload_n 1, 1) := by decide +kernel
theorem dX6_byteAt_17 : decode cX6_byteAt 17 = .ok (.baload, 1) := by decide +kernel
theorem dX6_byteAt_18 : decode cX6_byteAt 18 = .ok (.goto 4, 3) := by decide +kernel
theorem dX6_byteAt_21 : decode cX6_byteAt 21 = .ok (.iconst (-1), 1) := by decide +kernel
theorem dX6_byteAt_22 : decode cX6_byteAt 22 = .ok (.ireturn, 1) := by decide +kernel
theorem dX6_isLetter_0 : decode cX6_isLetter 0 = .ok (.iload_n 0, 1) := by decide +kernel
theorem dX6_isLetter_1 : decode cX6_isLetter 1 = .ok (.bipush 97, 2) := by decide +kernel
theorem dX6_isLetter_3 : decode cX6_isLetter 3 = .ok (.if_icmp .lt 13, 3) := by decide +kernel
theorem dX6_isLetter_6 : decode cX6_isLetter 6 = .ok (.iload_n 0, 1) := by decide +kernel
theorem dX6_isLetter_7 : decode cX6_isLetter 7 = .ok (.bipush 122, 2) := by decide +kernel
theorem dX6_isLetter_9 : decode cX6_isLetter 9 = .ok (.if_icmp .gt 7, 3) := by decide +kernel
theorem dX6_isLetter_12 : decode cX6_isLetter 12 = .ok (.iconst 1, 1) := by decide +kernel
theorem dX6_isLetter_13 : decode cX6_isLetter 13 = .ok (.goto 4, 3) := by decide +kernel
theorem dX6_isLetter_16 : decode cX6_isLetter 16 = .ok (.iconst 0, 1) := by decide +kernel
theorem dX6_isLetter_17 : decode cX6_isLetter 17 = .ok (.ireturn, 1) := by decide +kernel
theorem dX6_isDigit_0 : decode cX6_isDigit 0 = .ok (.iload_n 0, 1) := by decide +kernel
theorem dX6_isDigit_1 : decode cX6_isDigit 1 = .ok (.bipush 48, 2) := by decide +kernel
theorem dX6_isDigit_3 : decode cX6_isDigit 3 = .ok (.if_icmp .lt 13, 3) := by decide +kernel
theorem dX6_isDigit_6 : decode cX6_isDigit 6 = .ok (.iload_n 0, 1) := by decide +kernel
theorem dX6_isDigit_7 : decode cX6_isDigit 7 = .ok (.bipush 57, 2) := by decide +kernel
theorem dX6_isDigit_9 : decode cX6_isDigit 9 = .ok (.if_icmp .gt 7, 3) := by decide +kernel
theorem dX6_isDigit_12 : decode cX6_isDigit 12 = .ok (.iconst 1, 1) := by decide +kernel
theorem dX6_isDigit_13 : decode cX6_isDigit 13 = .ok (.goto 4, 3) := by decide +kernel
theorem dX6_isDigit_16 : decode cX6_isDigit 16 = .ok (.iconst 0, 1) := by decide +kernel
theorem dX6_isDigit_17 : decode cX6_isDigit 17 = .ok (.ireturn, 1) := by decide +kernel
theorem dX6_move_0 : decode cX6_move 0 = .ok (.aload_n 0, 1) := by decide +kernel
theorem dX6_move_1 : decode cX6_move 1 = .ok (.getfield 74, 3) := by decide +kernel
theorem dX6_move_4 : decode cX6_move 4 = .ok (.aload_n 0, 1) := by decide +kernel
theorem dX6_move_5 : decode cX6_move 5 = .ok (.getfield 49, 3) := by decide +kernel
theorem dX6_move_8 : decode cX6_move 8 = .ok (.if_icmp .ge 42, 3) := by decide +kernel
theorem dX6_move_11 : decode cX6_move 11 = .ok (.aload_n 0, 1) := by decide +kernel
theorem dX6_move_12 : decode cX6_move 12 = .ok (.aload_n 0, 1) := by decide +kernel
theorem dX6_move_13 : decode cX6_move 13 = .ok (.getfield 74, 3) := by decide +kernel
theorem dX6_move_16 : decode cX6_move 16 = .ok (.invokevirtual 162, 3) := by decide +kernel
theorem dX6_move_19 : decode cX6_move 19 = .ok (.bipush 10, 2) := by decide +kernel
theorem dX6_move_21 : decode cX6_move 21 = .ok (.if_icmp .eq 16, 3) := by decide +kernel
theorem dX6_move_24 : decode cX6_move 24 = .ok (.aload_n 0, 1) := by decide +kernel
theorem dX6_move_25 : decode cX6_move 25 = .ok (.aload_n 0, 1) := by decide +kernel
theorem dX6_move_26 : decode cX6_move 26 = .ok (.getfield 74, 3) := by decide +kernel
theorem dX6_move_29 : decode cX6_move 29 = .ok (.invokevirtual 162, 3) := by decide +kernel
theorem dX6_move_32 : decode cX6_move 32 = .ok (.bipush 32, 2) := by decide +kernel
theorem dX6_move_34 : decode cX6_move 34 = .ok (.if_icmp .ne 16, 3) := by decide +kernel
theorem dX6_move_37 : decode cX6_move 37 = .ok (.aload_n 0, 1) := by decide +kernel
theorem dX6_move_38 : decode cX6_move 38 = .ok (.dup, 1) := by decide +kernel
theorem dX6_move_39 : decode cX6_move 39 = .ok (.getfield 74, 3) := by decide +kernel
theorem dX6_move_42 : decode cX6_move 42 = .ok (.iconst 1, 1) := by decide +kernel
theorem dX6_move_43 : decode cX6_move 43 = .ok (.iadd, 1) := by decide +kernel
theorem dX6_move_44 : decode cX6_move 44 = .ok (.putfield 74, 3) := by decide +kernel
theorem dX6_move_47 : decode cX6_move 47 = .ok (.goto (-47), 3) := by decide +kernel
theorem dX6_move_50 : decode cX6_move 50 = .ok (.aload_n 0, 1) := by decide +kernel
theorem dX6_move_51 : decode cX6_move 51 = .ok (.aload_n 0, 1) := by decide +kernel
theorem dX6_move_52 : decode cX6_move 52 = .ok (.getfield 74, 3) := by decide +kernel
theorem dX6_move_55 : decode cX6_move 55 = .ok (.putfield 114, 3) := by decide +kernel
theorem dX6_move_58 : decode cX6_move 58 = .ok (.aload_n 0, 1) := by decide +kernel
theorem dX6_move_59 : decode cX6_move 59 = .ok (.getfield 74, 3) := by decide +kernel
theorem dX6_move_62 : decode cX6_move 62 = .ok (.aload_n 0, 1) := by decide +kernel
theorem dX6_move_63 : decode cX6_move 63 = .ok (.getfield 49, 3) := by decide +kernel
theorem dX6_move_66 : decode cX6_move 66 = .ok (.if_icmp .lt 11, 3) := by decide +kernel
theorem dX6_move_69 : decode cX6_move 69 = .ok (.aload_n 0, 1) := by decide +kernel
theorem dX6_move_70 : decode cX6_move 70 = .ok (.iconst 0, 1) := by decide +kernel
theorem dX6_move_71 : decode cX6_move 71 = .ok (.putfield 86, 3) := by decide +kernel
theorem dX6_move_74 : decode cX6_move 74 = .ok (.goto 113, 3) := by decide +kernel
theorem dX6_move_77 : decode cX6_move 77 = .ok (.aload_n 0, 1) := by decide +kernel
theorem dX6_move_78 : decode cX6_move 78 = .ok (.aload_n 0, 1) := by decide +kernel
theorem dX6_move_79 : decode cX6_move 79 = .ok (.getfield 74, 3) := by decide +kernel
theorem dX6_move_82 : decode cX6_move 82 = .ok (.invokevirtual 162, 3) := by decide +kernel
theorem dX6_move_85 : decode cX6_move 85 = .ok (.invokestatic 195, 3) := by decide +kernel
theorem dX6_move_88 : decode cX6_move 88 = .ok (.ifCond .eq 46, 3) := by decide +kernel
theorem dX6_move_91 : decode cX6_move 91 = .ok (.aload_n 0, 1) := by decide +kernel
theorem dX6_move_92 : decode cX6_move 92 = .ok (.iconst 1, 1) := by decide +kernel
theorem dX6_move_93 : decode cX6_move 93 = .ok (.putfield 86, 3) := by decide +kernel
theorem dX6_move_96 : decode cX6_move 96 = .ok (.aload_n 0, 1) := by decide +kernel
theorem dX6_move_97 : decode cX6_move 97 = .ok (.getfield 74, 3) := by decide +kernel
theorem dX6_move_100 : decode cX6_move 100 = .ok (.aload_n 0, 1) := by decide +kernel
theorem dX6_move_101 : decode cX6_move 101 = .ok (.getfield 49, 3) := by decide +kernel
theorem dX6_move_104 : decode cX6_move 104 = .ok (.if_icmp .ge 83, 3) := by decide +kernel
theorem dX6_move_107 : decode cX6_move 107 = .ok (.aload_n 0, 1) := by decide +kernel
theorem dX6_move_108 : decode cX6_move 108 = .ok (.aload_n 0, 1) := by decide +kernel
theorem dX6_move_109 : decode cX6_move 109 = .ok (.getfield 74, 3) := by decide +kernel
theorem dX6_move_112 : decode cX6_move 112 = .ok (.invokevirtual 162, 3) := by decide +kernel
theorem dX6_move_115 : decode cX6_move 115 = .ok (.invokestatic 195, 3) := by decide +kernel
theorem dX6_move_118 : decode cX6_move 118 = .ok (.ifCond .eq 69, 3) := by decide +kernel
theorem dX6_move_121 : decode cX6_move 121 = .ok (.aload_n 0, 1) := by decide +kernel
theorem dX6_move_122 : decode cX6_move 122 = .ok (.dup, 1) := by decide +kernel
theorem dX6_move_123 : decode cX6_move 123 = .ok (.getfield 74, 3) := by decide +kernel
theorem dX6_move_126 : decode cX6_move 126 = .ok (.iconst 1, 1) := by decide +kernel
theorem dX6_move_127 : decode cX6_move 127 = .ok (.iadd, 1) := by decide +kernel
theorem dX6_move_128 : decode cX6_move 128 = .ok (.putfield 74, 3) := by decide +kernel
theorem dX6_move_131 : decode cX6_move 131 = .ok (.goto (-35), 3) := by decide +kernel
theorem dX6_move_134 : decode cX6_move 134 = .ok (.aload_n 0, 1) := by decide +kernel
theorem dX6_move_135 : decode cX6_move 135 = .ok (.aload_n 0, 1) := by decide +kernel
theorem dX6_move_136 : decode cX6_move 136 = .ok (.getfield 74, 3) := by decide +kernel
theorem dX6_move_139 : decode cX6_move 139 = .ok (.invokevirtual 162, 3) := by decide +kernel
theorem dX6_move_142 : decode cX6_move 142 = .ok (.invokestatic 198, 3) := by decide +kernel
theorem dX6_move_145 : decode cX6_move 145 = .ok (.ifCond .eq 10, 3) := by decide +kernel
theorem dX6_move_148 : decode cX6_move 148 = .ok (.aload_n 0, 1) := by decide +kernel
theorem dX6_move_149 : decode cX6_move 149 = .ok (.invokevirtual 201, 3) := by decide +kernel
theorem dX6_move_152 : decode cX6_move 152 = .ok (.goto 35, 3) := by decide +kernel
theorem dX6_move_155 : decode cX6_move 155 = .ok (.aload_n 0, 1) := by decide +kernel
theorem dX6_move_156 : decode cX6_move 156 = .ok (.aload_n 0, 1) := by decide +kernel
theorem dX6_move_157 : decode cX6_move 157 = .ok (.aload_n 0, 1) := by decide +kernel
theorem dX6_move_158 : decode cX6_move 158 = .ok (.getfield 74, 3) := by decide +kernel
theorem dX6_move_161 : decode cX6_move 161 = .ok (.invokevirtual 162, 3) := by decide +kernel
theorem dX6_move_164 : decode cX6_move 164 = .ok (.bipush 59, 2) := by decide +kernel
theorem dX6_move_166 : decode cX6_move 166 = .ok (.if_icmp .ne 7, 3) := by decide +kernel
theorem dX6_move_169 : decode cX6_move 169 = .ok (.iconst 3, 1) := by decide +kernel
theorem dX6_move_170 : decode cX6_move 170 = .ok (.goto 4, 3) := by decide +kernel
theorem dX6_move_173 : decode cX6_move 173 = .ok (.iconst 4, 1) := by decide +kernel
theorem dX6_move_174 : decode cX6_move 174 = .ok (.putfield 86, 3) := by decide +kernel
theorem dX6_move_177 : decode cX6_move 177 = .ok (.aload_n 0, 1) := by decide +kernel
theorem dX6_move_178 : decode cX6_move 178 = .ok (.dup, 1) := by decide +kernel
theorem dX6_move_179 : decode cX6_move 179 = .ok (.getfield 74, 3) := by decide +kernel
theorem dX6_move_182 : decode cX6_move 182 = .ok (.iconst 1, 1) := by decide +kernel
theorem dX6_move_183 : decode cX6_move 183 = .ok (.iadd, 1) := by decide +kernel
theorem dX6_move_184 : decode cX6_move 184 = .ok (.putfield 74, 3) := by decide +kernel
theorem dX6_move_187 : decode cX6_move 187 = .ok (.return_, 1) := by decide +kernel
theorem dX6_moveOverDigits_0 : decode cX6_moveOverDigits 0 = .ok (.aload_n 0, 1) := by decide +kernel
theorem dX6_moveOverDigits_1 : decode cX6_moveOverDigits 1 = .ok (.iconst 0, 1) := by decide +kernel
theorem dX6_moveOverDigits_2 : decode cX6_moveOverDigits 2 = .ok (.putfield 120, 3) := by decide +kernel
theorem dX6_moveOverDigits_5 : decode cX6_moveOverDigits 5 = .ok (.aload_n 0, 1) := by decide +kernel
theorem dX6_moveOverDigits_6 : decode cX6_moveOverDigits 6 = .ok (.getfield 74, 3) := by decide +kernel
theorem dX6_moveOverDigits_9 : decode cX6_moveOverDigits 9 = .ok (.aload_n 0, 1) := by decide +kernel
theorem dX6_moveOverDigits_10 : decode cX6_moveOverDigits 10 = .ok (.getfield 49, 3) := by decide +kernel
theorem dX6_moveOverDigits_13 : decode cX6_moveOverDigits 13 = .ok (.if_icmp .ge 73, 3) := by decide +kernel
theorem dX6_moveOverDigits_16 : decode cX6_moveOverDigits 16 = .ok (.aload_n 0, 1) := by decide +kernel
theorem dX6_moveOverDigits_17 : decode cX6_moveOverDigits 17 = .ok (.aload_n 0, 1) := by decide +kernel
theorem dX6_moveOverDigits_18 : decode cX6_moveOverDigits 18 = .ok (.getfield 74, 3) := by decide +kernel
theorem dX6_moveOverDigits_21 : decode cX6_moveOverDigits 21 = .ok (.invokevirtual 162, 3) := by decide +kernel
theorem dX6_moveOverDigits_24 : decode cX6_moveOverDigits 24 = .ok (.invokestatic 198, 3) := by decide +kernel
theorem dX6_moveOverDigits_27 : decode cX6_moveOverDigits 27 = .ok (.ifCond .eq 59, 3) := by decide +kernel
theorem dX6_moveOverDigits_30 : decode cX6_moveOverDigits 30 = .ok (.aload_n 0, 1) := by decide +kernel
theorem dX6_moveOverDigits_31 : decode cX6_moveOverDigits 31 = .ok (.aload_n 0, 1) := by decide +kernel
theorem dX6_moveOverDigits_32 : decode cX6_moveOverDigits 32 = .ok (.getfield 74, 3) := by decide +kernel
theorem dX6_moveOverDigits_35 : decode cX6_moveOverDigits 35 = .ok (.aload_n 0, 1) := by decide +kernel
theorem dX6_moveOverDigits_36 : decode cX6_moveOverDigits 36 = .ok (.getfield 114, 3) := by decide +kernel
theorem dX6_moveOverDigits_39 : decode cX6_moveOverDigits 39 = .ok (.isub, 1) := by decide +kernel
theorem dX6_moveOverDigits_40 : decode cX6_moveOverDigits 40 = .ok (.iconst 2, 1) := by decide +kernel
theorem dX6_moveOverDigits_41 : decode cX6_moveOverDigits 41 = .ok (.if_icmp .ge 25, 3) := by decide +kernel
theorem dX6_moveOverDigits_44 : decode cX6_moveOverDigits 44 = .ok (.bipush 10, 2) := by decide +kernel
theorem dX6_moveOverDigits_46 : decode cX6_moveOverDigits 46 = .ok (.aload_n 0, 1) := by decide +kernel
theorem dX6_moveOverDigits_47 : decode cX6_moveOverDigits 47 = .ok (.getfield 120, 3) := by decide +kernel
theorem dX6_moveOverDigits_50 : decode cX6_moveOverDigits 50 = .ok (.imul, 1) := by decide +kernel
theorem dX6_moveOverDigits_51 : decode cX6_moveOverDigits 51 = .ok (.aload_n 0, 1) := by decide +kernel
theorem dX6_moveOverDigits_52 : decode cX6_moveOverDigits 52 = .ok (.aload_n 0, 1) := by decide +kernel
theorem dX6_moveOverDigits_53 : decode cX6_moveOverDigits 53 = .ok (.getfield 74, 3) := by decide +kernel
theorem dX6_moveOverDigits_56 : decode cX6_moveOverDigits 56 = .ok (.invokevirtual 162, 3) := by decide +kernel
theorem dX6_moveOverDigits_59 : decode cX6_moveOverDigits 59 = .ok (.iadd, 1) := by decide +kernel
theorem dX6_moveOverDigits_60 : decode cX6_moveOverDigits 60 = .ok (.bipush 48, 2) := by decide +kernel
theorem dX6_moveOverDigits_62 : decode cX6_moveOverDigits 62 = .ok (.isub, 1) := by decide +kernel
theorem dX6_moveOverDigits_63 : decode cX6_moveOverDigits 63 = .ok (.goto 7, 3) := by decide +kernel
theorem dX6_moveOverDigits_66 : decode cX6_moveOverDigits 66 = .ok (.aload_n 0, 1) := by decide +kernel
theorem dX6_moveOverDigits_67 : decode cX6_moveOverDigits 67 = .ok (.getfield 120, 3) := by decide +kernel
theorem dX6_moveOverDigits_70 : decode cX6_moveOverDigits 70 = .ok (.putfield 120, 3) := by decide +kernel
theorem dX6_moveOverDigits_73 : decode cX6_moveOverDigits 73 = .ok (.aload_n 0, 1) := by decide +kernel
theorem dX6_moveOverDigits_74 : decode cX6_moveOverDigits 74 = .ok (.dup, 1) := by decide +kernel
theorem dX6_moveOverDigits_75 : decode cX6_moveOverDigits 75 = .ok (.getfield 74, 3) := by decide +kernel
theorem dX6_moveOverDigits_78 : decode cX6_moveOverDigits 78 = .ok (.iconst 1, 1) := by decide +kernel
theorem dX6_moveOverDigits_79 : decode cX6_moveOverDigits 79 = .ok (.iadd, 1) := by decide +kernel
theorem dX6_moveOverDigits_80 : decode cX6_moveOverDigits 80 = .ok (.putfield 74, 3) := by decide +kernel
theorem dX6_moveOverDigits_83 : decode cX6_moveOverDigits 83 = .ok (.goto (-78), 3) := by decide +kernel
theorem dX6_moveOverDigits_86 : decode cX6_moveOverDigits 86 = .ok (.aload_n 0, 1) := by decide +kernel
theorem dX6_moveOverDigits_87 : decode cX6_moveOverDigits 87 = .ok (.aload_n 0, 1) := by decide +kernel
theorem dX6_moveOverDigits_88 : decode cX6_moveOverDigits 88 = .ok (.getfield 74, 3) := by decide +kernel
theorem dX6_moveOverDigits_91 : decode cX6_moveOverDigits 91 = .ok (.aload_n 0, 1) := by decide +kernel
theorem dX6_moveOverDigits_92 : decode cX6_moveOverDigits 92 = .ok (.getfield 114, 3) := by decide +kernel
theorem dX6_moveOverDigits_95 : decode cX6_moveOverDigits 95 = .ok (.isub, 1) := by decide +kernel
theorem dX6_moveOverDigits_96 : decode cX6_moveOverDigits 96 = .ok (.iconst 2, 1) := by decide +kernel
theorem dX6_moveOverDigits_97 : decode cX6_moveOverDigits 97 = .ok (.if_icmp .gt 7, 3) := by decide +kernel
theorem dX6_moveOverDigits_100 : decode cX6_moveOverDigits 100 = .ok (.iconst 2, 1) := by decide +kernel
theorem dX6_moveOverDigits_101 : decode cX6_moveOverDigits 101 = .ok (.goto 4, 3) := by decide +kernel
theorem dX6_moveOverDigits_104 : decode cX6_moveOverDigits 104 = .ok (.iconst 4, 1) := by decide +kernel
theorem dX6_moveOverDigits_105 : decode cX6_moveOverDigits 105 = .ok (.putfield 86, 3) := by decide +kernel
theorem dX6_moveOverDigits_108 : decode cX6_moveOverDigits 108 = .ok (.return_, 1) := by decide +kernel
theorem dX7_init_0 : decode cX7_init 0 = .ok (.aload_n 0, 1) := by decide +kernel
theorem dX7_init_1 : decode cX7_init 1 = .ok (.invokespecial 3, 3) := by decide +kernel
theorem dX7_init_4 : decode cX7_init 4 = .ok (.aload_n 0, 1) := by decide +kernel
theorem dX7_init_5 : decode cX7_init 5 = .ok (.new 9, 3) := by decide +kernel
theorem dX7_init_8 : decode cX7_init 8 = .ok (.dup, 1) := by decide +kernel
theorem dX7_init_9 : decode cX7_init 9 = .ok (.invokespecial 11, 3) := by decide +kernel
theorem dX7_init_12 : decode cX7_init 12 = .ok (.putfield 12, 3) := by decide +kernel
theorem dX7_init_15 : decode cX7_init 15 = .ok (.aload_n 0, 1) := by decide +kernel
theorem dX7_init_16 : decode cX7_init 16 = .ok (.new 18, 3) := by decide +kernel
theorem dX7_init_19 : decode cX7_init 19 = .ok (.dup, 1) := by decide +kernel
theorem dX7_init_20 : decode cX7_init 20 = .ok (.invokespecial 20, 3) := by decide +kernel
theorem dX7_init_23 : decode cX7_init 23 = .ok (.putfield 21, 3) := by decide +kernel
theorem dX7_init_26 : decode cX7_init 26 = .ok (.aload_n 0, 1) := by decide +kernel
theorem dX7_init_27 : decode cX7_init 27 = .ok (.bipush 6, 2) := by decide +kernel
theorem dX7_init_29 : decode cX7_init 29 = .ok (.newarray .int, 2) := by decide +kernel
theorem dX7_init_31 : decode cX7_init 31 = .ok (.putfield 25, 3) := by decide +kernel
theorem dX7_init_34 : decode cX7_init 34 = .ok (.aload_n 0, 1) := by decide +kernel
theorem dX7_init_35 : decode cX7_init 35 = .ok (.bipush 6, 2) := by decide +kernel
theorem dX7_init_37 : decode cX7_init 37 = .ok (.newarray .int, 2) := by decide +kernel
theorem dX7_init_39 : decode cX7_init 39 = .ok (.putfield 29, 3) := by decide +kernel
theorem dX7_init_42 : decode cX7_init 42 = .ok (.aload_n 0, 1) := by decide +kernel
theorem dX7_init_43 : decode cX7_init 43 = .ok (.bipush 60, 2) := by decide +kernel
theorem dX7_init_45 : decode cX7_init 45 = .ok (.newarray .int, 2) := by decide +kernel
theorem dX7_init_47 : decode cX7_init 47 = .ok (.putfield 32, 3) := by decide +kernel
theorem dX7_init_50 : decode cX7_init 50 = .ok (.return_, 1) := by decide +kernel
theorem dX7_begin_0 : decode cX7_begin 0 = .ok (.aload_n 0, 1) := by decide +kernel
theorem dX7_begin_1 : decode cX7_begin 1 = .ok (.aload_n 1, 1) := by decide +kernel
theorem dX7_begin_2 : decode cX7_begin 2 = .ok (.putfield 12, 3) := by decide +kernel
theorem dX7_begin_5 : decode cX7_begin 5 = .ok (.aload_n 0, 1) := by decide +kernel
theorem dX7_begin_6 : decode cX7_begin 6 = .ok (.getfield 21, 3) := by decide +kernel
theorem dX7_begin_9 : decode cX7_begin 9 = .ok (.aload_n 1, 1) := by decide +kernel
theorem dX7_begin_10 : decode cX7_begin 10 = .ok (.getfield 35, 3) := by decide +kernel
theorem dX7_begin_13 : decode cX7_begin 13 = .ok (.invokevirtual 36, 3) := by decide +kernel
theorem dX7_begin_16 : decode cX7_begin 16 = .ok (.aload_n 0, 1) := by decide +kernel
theorem dX7_begin_17 : decode cX7_begin 17 = .ok (.aload_n 1, 1) := by decide +kernel
theorem dX7_begin_18 : decode cX7_begin 18 = .ok (.getfield 40, 3) := by decide +kernel
theorem dX7_begin_21 : decode cX7_begin 21 = .ok (.putfield 44, 3) := by decide +kernel
theorem dX7_begin_24 : decode cX7_begin 24 = .ok (.iconst 0, 1) := by decide +kernel
theorem dX7_begin_25 : decode cX7_begin 25 = .ok (.istore_n 2, 1) := by decide +kernel
theorem dX7_begin_26 : decode cX7_begin 26 = .ok (.iload_n 2, 1) := by decide +kernel
theorem dX7_begin_27 : decode cX7_begin 27 = .ok (.bipush 6, 2) := by decide +kernel
theorem dX7_begin_29 : decode cX7_begin 29 = .ok (.if_icmp .ge 23, 3) := by decide +kernel
theorem dX7_begin_32 : decode cX7_begin 32 = .ok (.aload_n 0, 1) := by decide +kernel
theorem dX7_begin_33 : decode cX7_begin 33 = .ok (.getfield 25, 3) := by decide +kernel
theorem dX7_begin_36 : decode cX7_begin 36 = .ok (.iload_n 2, 1) := by decide +kernel
theorem dX7_begin_37 : decode cX7_begin 37 = .ok (.iconst 0, 1) := by decide +kernel
theorem dX7_begin_38 : decode cX7_begin 38 = .ok (.iastore, 1) := by decide +kernel
theorem dX7_begin_39 : decode cX7_begin 39 = .ok (.aload_n 0, 1) := by decide +kernel
theorem dX7_begin_40 : decode cX7_begin 40 = .ok (.getfield 29, 3) := by decide +kernel
theorem dX7_begin_43 : decode cX7_begin 43 = .ok (.iload_n 2, 1) := by decide +kernel
theorem dX7_begin_44 : decode cX7_begin 44 = .ok (.iconst 0, 1) := by decide +kernel
theorem dX7_begin_45 : decode cX7_begin 45 = .ok (.iastore, 1) := by decide +kernel
theorem dX7_begin_46 : decode cX7_begin 46 = .ok (.iinc 2 1, 3) := by decide +kernel
theorem dX7_begin_49 : decode cX7_begin 49 = .ok (.goto (-23), 3) := by decide +kernel
theorem dX7_begin_52 : decode cX7_begin 52 = .ok (.aload_n 0, 1) := by decide +kernel
theorem dX7_begin_53 : decode cX7_begin 53 = .ok (.iconst 0, 1) := by decide +kernel
theorem dX7_begin_54 : decode cX7_begin 54 = .ok (.putfield 45, 3) := by decide +kernel
theorem dX7_begin_57 : decode cX7_begin 57 = .ok (.aload_n 0, 1) := by decide +kernel
