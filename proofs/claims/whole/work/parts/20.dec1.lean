theorem dJ6_numberOfTrailingZeros_0f7a4_0 : decode cJ6_numberOfTrailingZeros_0f7a4 0 = .ok (.iload_n 0, 1) := by decide +kernel
theorem dJ6_numberOfTrailingZeros_0f7a4_1 : decode cJ6_numberOfTrailingZeros_0f7a4 1 = .ok (.iconst (-1), 1) := by decide +kernel
theorem dJ6_numberOfTrailingZeros_0f7a4_2 : decode cJ6_numberOfTrailingZeros_0f7a4 2 = .ok (.ixor, 1) := by decide +kernel
theorem dJ6_numberOfTrailingZeros_0f7a4_3 : decode cJ6_numberOfTrailingZeros_0f7a4 3 = .ok (.iload_n 0, 1) := by decide +kernel
theorem dJ6_numberOfTrailingZeros_0f7a4_4 : decode cJ6_numberOfTrailingZeros_0f7a4 4 = .ok (.iconst 1, 1) := by decide +kernel
theorem dJ6_numberOfTrailingZeros_0f7a4_5 : decode cJ6_numberOfTrailingZeros_0f7a4 5 = .ok (.isub, 1) := by decide +kernel
theorem dJ6_numberOfTrailingZeros_0f7a4_6 : decode cJ6_numberOfTrailingZeros_0f7a4 6 = .ok (.iand, 1) := by decide +kernel
theorem dJ6_numberOfTrailingZeros_0f7a4_7 : decode cJ6_numberOfTrailingZeros_0f7a4 7 = .ok (.istore_n 0, 1) := by decide +kernel
theorem dJ6_numberOfTrailingZeros_0f7a4_8 : decode cJ6_numberOfTrailingZeros_0f7a4 8 = .ok (.iload_n 0, 1) := by decide +kernel
theorem dJ6_numberOfTrailingZeros_0f7a4_9 : decode cJ6_numberOfTrailingZeros_0f7a4 9 = .ok (.ifCond .gt 8, 3) := by decide +kernel
theorem dJ6_numberOfTrailingZeros_0f7a4_12 : decode cJ6_numberOfTrailingZeros_0f7a4 12 = .ok (.iload_n 0, 1) := by decide +kernel
theorem dJ6_numberOfTrailingZeros_0f7a4_13 : decode cJ6_numberOfTrailingZeros_0f7a4 13 = .ok (.bipush 32, 2) := by decide +kernel
theorem dJ6_numberOfTrailingZeros_0f7a4_15 : decode cJ6_numberOfTrailingZeros_0f7a4 15 = .ok (.iand, 1) := by decide +kernel
theorem dJ6_numberOfTrailingZeros_0f7a4_16 : decode cJ6_numberOfTrailingZeros_0f7a4 16 = .ok (.ireturn, 1) := by decide +kernel
theorem dJ6_numberOfTrailingZeros_0f7a4_17 : decode cJ6_numberOfTrailingZeros_0f7a4 17 = .ok (.iconst 1, 1) := by decide +kernel
theorem dJ6_numberOfTrailingZeros_0f7a4_18 : decode cJ6_numberOfTrailingZeros_0f7a4 18 = .ok (.istore_n 1, 1) := by decide +kernel
theorem dJ6_numberOfTrailingZeros_0f7a4_19 : decode cJ6_numberOfTrailingZeros_0f7a4 19 = .ok (.iload_n 0, 1) := by decide +kernel
theorem dJ6_numberOfTrailingZeros_0f7a4_20 : decode cJ6_numberOfTrailingZeros_0f7a4 20 = .ok (.ldc_w 264, 3) := by decide +kernel
theorem dJ6_numberOfTrailingZeros_0f7a4_23 : decode cJ6_numberOfTrailingZeros_0f7a4 23 = .ok (.if_icmp .le 11, 3) := by decide +kernel
theorem dJ6_numberOfTrailingZeros_0f7a4_26 : decode cJ6_numberOfTrailingZeros_0f7a4 26 = .ok (.iinc 1 16, 3) := by decide +kernel
theorem dJ6_numberOfTrailingZeros_0f7a4_29 : decode cJ6_numberOfTrailingZeros_0f7a4 29 = .ok (.iload_n 0, 1) := by decide +kernel
theorem dJ6_numberOfTrailingZeros_0f7a4_30 : decode cJ6_numberOfTrailingZeros_0f7a4 30 = .ok (.bipush 16, 2) := by decide +kernel
theorem dJ6_numberOfTrailingZeros_0f7a4_32 : decode cJ6_numberOfTrailingZeros_0f7a4 32 = .ok (.iushr, 1) := by decide +kernel
theorem dJ6_numberOfTrailingZeros_0f7a4_33 : decode cJ6_numberOfTrailingZeros_0f7a4 33 = .ok (.istore_n 0, 1) := by decide +kernel
theorem dJ6_numberOfTrailingZeros_0f7a4_34 : decode cJ6_numberOfTrailingZeros_0f7a4 34 = .ok (.iload_n 0, 1) := by decide +kernel
theorem dJ6_numberOfTrailingZeros_0f7a4_35 : decode cJ6_numberOfTrailingZeros_0f7a4 35 = .ok (.sipush 256, 3) := by decide +kernel
theorem dJ6_numberOfTrailingZeros_0f7a4_38 : decode cJ6_numberOfTrailingZeros_0f7a4 38 = .ok (.if_icmp .le 11, 3) := by decide +kernel
theorem dJ6_numberOfTrailingZeros_0f7a4_41 : decode cJ6_numberOfTrailingZeros_0f7a4 41 = .ok (.iinc 1 8, 3) := by decide +kernel
theorem dJ6_numberOfTrailingZeros_0f7a4_44 : decode cJ6_numberOfTrailingZeros_0f7a4 44 = .ok (.iload_n 0, 1) := by decide +kernel
theorem dJ6_numberOfTrailingZeros_0f7a4_45 : decode cJ6_numberOfTrailingZeros_0f7a4 45 = .ok (.bipush 8, 2) := by decide +kernel
theorem dJ6_numberOfTrailingZeros_0f7a4_47 : decode cJ6_numberOfTrailingZeros_0f7a4 47 = .ok (.iushr, 1) := by decide +kernel
theorem dJ6_numberOfTrailingZeros_0f7a4_48 : decode cJ6_numberOfTrailingZeros_0f7a4 48 = .ok (.istore_n 0, 1) := by decide +kernel
theorem dJ6_numberOfTrailingZeros_0f7a4_49 : decode cJ6_numberOfTrailingZeros_0f7a4 49 = .ok (.iload_n 0, 1) := by decide +kernel
theorem dJ6_numberOfTrailingZeros_0f7a4_50 : decode cJ6_numberOfTrailingZeros_0f7a4 50 = .ok (.bipush 16, 2) := by decide +kernel
theorem dJ6_numberOfTrailingZeros_0f7a4_52 : decode cJ6_numberOfTrailingZeros_0f7a4 52 = .ok (.if_icmp .le 10, 3) := by decide +kernel
theorem dJ6_numberOfTrailingZeros_0f7a4_55 : decode cJ6_numberOfTrailingZeros_0f7a4 55 = .ok (.iinc 1 4, 3) := by decide +kernel
theorem dJ6_numberOfTrailingZeros_0f7a4_58 : decode cJ6_numberOfTrailingZeros_0f7a4 58 = .ok (.iload_n 0, 1) := by decide +kernel
theorem dJ6_numberOfTrailingZeros_0f7a4_59 : decode cJ6_numberOfTrailingZeros_0f7a4 59 = .ok (.iconst 4, 1) := by decide +kernel
theorem dJ6_numberOfTrailingZeros_0f7a4_60 : decode cJ6_numberOfTrailingZeros_0f7a4 60 = .ok (.iushr, 1) := by decide +kernel
theorem dJ6_numberOfTrailingZeros_0f7a4_61 : decode cJ6_numberOfTrailingZeros_0f7a4 61 = .ok (.istore_n 0, 1) := by decide +kernel
theorem dJ6_numberOfTrailingZeros_0f7a4_62 : decode cJ6_numberOfTrailingZeros_0f7a4 62 = .ok (.iload_n 0, 1) := by decide +kernel
theorem dJ6_numberOfTrailingZeros_0f7a4_63 : decode cJ6_numberOfTrailingZeros_0f7a4 63 = .ok (.iconst 4, 1) := by decide +kernel
theorem dJ6_numberOfTrailingZeros_0f7a4_64 : decode cJ6_numberOfTrailingZeros_0f7a4 64 = .ok (.if_icmp .le 10, 3) := by decide +kernel
theorem dJ6_numberOfTrailingZeros_0f7a4_67 : decode cJ6_numberOfTrailingZeros_0f7a4 67 = .ok (.iinc 1 2, 3) := by decide +kernel
theorem dJ6_numberOfTrailingZeros_0f7a4_70 : decode cJ6_numberOfTrailingZeros_0f7a4 70 = .ok (.iload_n 0, 1) := by decide +kernel
theorem dJ6_numberOfTrailingZeros_0f7a4_71 : decode cJ6_numberOfTrailingZeros_0f7a4 71 = .ok (.iconst 2, 1) := by decide +kernel
theorem dJ6_numberOfTrailingZeros_0f7a4_72 : decode cJ6_numberOfTrailingZeros_0f7a4 72 = .ok (.iushr, 1) := by decide +kernel
theorem dJ6_numberOfTrailingZeros_0f7a4_73 : decode cJ6_numberOfTrailingZeros_0f7a4 73 = .ok (.istore_n 0, 1) := by decide +kernel
theorem dJ6_numberOfTrailingZeros_0f7a4_74 : decode cJ6_numberOfTrailingZeros_0f7a4 74 = .ok (.iload_n 1, 1) := by decide +kernel
theorem dJ6_numberOfTrailingZeros_0f7a4_75 : decode cJ6_numberOfTrailingZeros_0f7a4 75 = .ok (.iload_n 0, 1) := by decide +kernel
theorem dJ6_numberOfTrailingZeros_0f7a4_76 : decode cJ6_numberOfTrailingZeros_0f7a4 76 = .ok (.iconst 1, 1) := by decide +kernel
theorem dJ6_numberOfTrailingZeros_0f7a4_77 : decode cJ6_numberOfTrailingZeros_0f7a4 77 = .ok (.iushr, 1) := by decide +kernel
theorem dJ6_numberOfTrailingZeros_0f7a4_78 : decode cJ6_numberOfTrailingZeros_0f7a4 78 = .ok (.iadd, 1) := by decide +kernel
theorem dJ6_numberOfTrailingZeros_0f7a4_79 : decode cJ6_numberOfTrailingZeros_0f7a4 79 = .ok (.ireturn, 1) := by decide +kernel
theorem dJ6_bitCount_0f7a4_0 : decode cJ6_bitCount_0f7a4 0 = .ok (.iload_n 0, 1) := by decide +kernel
theorem dJ6_bitCount_0f7a4_1 : decode cJ6_bitCount_0f7a4 1 = .ok (.iload_n 0, 1) := by decide +kernel
theorem dJ6_bitCount_0f7a4_2 : decode cJ6_bitCount_0f7a4 2 = .ok (.iconst 1, 1) := by decide +kernel
theorem dJ6_bitCount_0f7a4_3 : decode cJ6_bitCount_0f7a4 3 = .ok (.iushr, 1) := by decide +kernel
theorem dJ6_bitCount_0f7a4_4 : decode cJ6_bitCount_0f7a4 4 = .ok (.ldc_w 265, 3) := by decide +kernel
theorem dJ6_bitCount_0f7a4_7 : decode cJ6_bitCount_0f7a4 7 = .ok (.iand, 1) := by decide +kernel
theorem dJ6_bitCount_0f7a4_8 : decode cJ6_bitCount_0f7a4 8 = .ok (.isub, 1) := by decide +kernel
theorem dJ6_bitCount_0f7a4_9 : decode cJ6_bitCount_0f7a4 9 = .ok (.istore_n 0, 1) := by decide +kernel
theorem dJ6_bitCount_0f7a4_10 : decode cJ6_bitCount_0f7a4 10 = .ok (.iload_n 0, 1) := by decide +kernel
theorem dJ6_bitCount_0f7a4_11 : decode cJ6_bitCount_0f7a4 11 = .ok (.ldc_w 266, 3) := by decide +kernel
theorem dJ6_bitCount_0f7a4_14 : decode cJ6_bitCount_0f7a4 14 = .ok (.iand, 1) := by decide +kernel
theorem dJ6_bitCount_0f7a4_15 : decode cJ6_bitCount_0f7a4 15 = .ok (.iload_n 0, 1) := by decide +kernel
theorem dJ6_bitCount_0f7a4_16 : decode cJ6_bitCount_0f7a4 16 = .ok (.iconst 2, 1) := by decide +kernel
theorem dJ6_bitCount_0f7a4_17 : decode cJ6_bitCount_0f7a4 17 = .ok (.iushr, 1) := by decide +kernel
theorem dJ6_bitCount_0f7a4_18 : decode cJ6_bitCount_0f7a4 18 = .ok (.ldc_w 266, 3) := by decide +kernel
theorem dJ6_bitCount_0f7a4_21 : decode cJ6_bitCount_0f7a4 21 = .ok (.iand, 1) := by decide +kernel
theorem dJ6_bitCount_0f7a4_22 : decode cJ6_bitCount_0f7a4 22 = .ok (.iadd, 1) := by decide +kernel
theorem dJ6_bitCount_0f7a4_23 : decode cJ6_bitCount_0f7a4 23 = .ok (.istore_n 0, 1) := by decide +kernel
theorem dJ6_bitCount_0f7a4_24 : decode cJ6_bitCount_0f7a4 24 = .ok (.iload_n 0, 1) := by decide +kernel
theorem dJ6_bitCount_0f7a4_25 : decode cJ6_bitCount_0f7a4 25 = .ok (.iload_n 0, 1) := by decide +kernel
theorem dJ6_bitCount_0f7a4_26 : decode cJ6_bitCount_0f7a4 26 = .ok (.iconst 4, 1) := by decide +kernel
theorem dJ6_bitCount_0f7a4_27 : decode cJ6_bitCount_0f7a4 27 = .ok (.iushr, 1) := by decide +kernel
theorem dJ6_bitCount_0f7a4_28 : decode cJ6_bitCount_0f7a4 28 = .ok (.iadd, 1) := by decide +kernel
theorem dJ6_bitCount_0f7a4_29 : decode cJ6_bitCount_0f7a4 29 = .ok (.ldc_w 267, 3) := by decide +kernel
theorem dJ6_bitCount_0f7a4_32 : decode cJ6_bitCount_0f7a4 32 = .ok (.iand, 1) := by decide +kernel
theorem dJ6_bitCount_0f7a4_33 : decode cJ6_bitCount_0f7a4 33 = .ok (.istore_n 0, 1) := by decide +kernel
theorem dJ6_bitCount_0f7a4_34 : decode cJ6_bitCount_0f7a4 34 = .ok (.iload_n 0, 1) := by decide +kernel
theorem dJ6_bitCount_0f7a4_35 : decode cJ6_bitCount_0f7a4 35 = .ok (.iload_n 0, 1) := by decide +kernel
theorem dJ6_bitCount_0f7a4_36 : decode cJ6_bitCount_0f7a4 36 = .ok (.bipush 8, 2) := by decide +kernel
theorem dJ6_bitCount_0f7a4_38 : decode cJ6_bitCount_0f7a4 38 = .ok (.iushr, 1) := by decide +kernel
theorem dJ6_bitCount_0f7a4_39 : decode cJ6_bitCount_0f7a4 39 = .ok (.iadd, 1) := by decide +kernel
theorem dJ6_bitCount_0f7a4_40 : decode cJ6_bitCount_0f7a4 40 = .ok (.istore_n 0, 1) := by decide +kernel
theorem dJ6_bitCount_0f7a4_41 : decode cJ6_bitCount_0f7a4 41 = .ok (.iload_n 0, 1) := by decide +kernel
theorem dJ6_bitCount_0f7a4_42 : decode cJ6_bitCount_0f7a4 42 = .ok (.iload_n 0, 1) := by decide +kernel
theorem dJ6_bitCount_0f7a4_43 : decode cJ6_bitCount_0f7a4 43 = .ok (.bipush 16, 2) := by decide +kernel
theorem dJ6_bitCount_0f7a4_45 : decode cJ6_bitCount_0f7a4 45 = .ok (.iushr, 1) := by decide +kernel
theorem dJ6_bitCount_0f7a4_46 : decode cJ6_bitCount_0f7a4 46 = .ok (.iadd, 1) := by decide +kernel
theorem dJ6_bitCount_0f7a4_47 : decode cJ6_bitCount_0f7a4 47 = .ok (.istore_n 0, 1) := by decide +kernel
theorem dJ6_bitCount_0f7a4_48 : decode cJ6_bitCount_0f7a4 48 = .ok (.iload_n 0, 1) := by decide +kernel
theorem dJ6_bitCount_0f7a4_49 : decode cJ6_bitCount_0f7a4 49 = .ok (.bipush 63, 2) := by decide +kernel
theorem dJ6_bitCount_0f7a4_51 : decode cJ6_bitCount_0f7a4 51 = .ok (.iand, 1) := by decide +kernel
theorem dJ6_bitCount_0f7a4_52 : decode cJ6_bitCount_0f7a4 52 = .ok (.ireturn, 1) := by decide +kernel
theorem dJ7_fill_53178_0 : decode cJ7_fill_53178 0 = .ok (.iconst 0, 1) := by decide +kernel
theorem dJ7_fill_53178_1 : decode cJ7_fill_53178 1 = .ok (.istore_n 2, 1) := by decide +kernel
theorem dJ7_fill_53178_2 : decode cJ7_fill_53178 2 = .ok (.aload_n 0, 1) := by decide +kernel
theorem dJ7_fill_53178_3 : decode cJ7_fill_53178 3 = .ok (.arraylength, 1) := by decide +kernel
theorem dJ7_fill_53178_4 : decode cJ7_fill_53178 4 = .ok (.istore_n 3, 1) := by decide +kernel
theorem dJ7_fill_53178_5 : decode cJ7_fill_53178 5 = .ok (.iload_n 2, 1) := by decide +kernel
theorem dJ7_fill_53178_6 : decode cJ7_fill_53178 6 = .ok (.iload_n 3, 1) := by decide +kernel
theorem dJ7_fill_53178_7 : decode cJ7_fill_53178 7 = .ok (.if_icmp .ge 13, 3) := by decide +kernel
theorem dJ7_fill_53178_10 : decode cJ7_fill_53178 10 = .ok (.aload_n 0, 1) := by decide +kernel
theorem dJ7_fill_53178_11 : decode cJ7_fill_53178 11 = .ok (.iload_n 2, 1) := by decide +kernel
theorem dJ7_fill_53178_12 : decode cJ7_fill_53178 12 = .ok (.iload_n 1, 1) := by decide +kernel
theorem dJ7_fill_53178_13 : decode cJ7_fill_53178 13 = .ok (.iastore, 1) := by decide +kernel
theorem dJ7_fill_53178_14 : decode cJ7_fill_53178 14 = .ok (.iinc 2 1, 3) := by decide +kernel
theorem dJ7_fill_53178_17 : decode cJ7_fill_53178 17 = .ok (.goto (-12), 3) := by decide +kernel
theorem dJ7_fill_53178_20 : decode cJ7_fill_53178 20 = .ok (.return_, 1) := by decide +kernel
theorem dJ9_abs_0f7a4_0 : decode cJ9_abs_0f7a4 0 = .ok (.iload_n 0, 1) := by decide +kernel
theorem dJ9_abs_0f7a4_1 : decode cJ9_abs_0f7a4 1 = .ok (.ifCond .ge 8, 3) := by decide +kernel
theorem dJ9_abs_0f7a4_4 : decode cJ9_abs_0f7a4 4 = .ok (.iload_n 0, 1) := by decide +kernel
theorem dJ9_abs_0f7a4_5 : decode cJ9_abs_0f7a4 5 = .ok (.ineg, 1) := by decide +kernel
theorem dJ9_abs_0f7a4_6 : decode cJ9_abs_0f7a4 6 = .ok (.goto 4, 3) := by decide +kernel
theorem dJ9_abs_0f7a4_9 : decode cJ9_abs_0f7a4 9 = .ok (.iload_n 0, 1) := by decide +kernel
theorem dJ9_abs_0f7a4_10 : decode cJ9_abs_0f7a4 10 = .ok (.ireturn, 1) := by decide +kernel
theorem dJ9_max_7cf53_0 : decode cJ9_max_7cf53 0 = .ok (.iload_n 0, 1) := by decide +kernel
theorem dJ9_max_7cf53_1 : decode cJ9_max_7cf53 1 = .ok (.iload_n 1, 1) := by decide +kernel
theorem dJ9_max_7cf53_2 : decode cJ9_max_7cf53 2 = .ok (.if_icmp .lt 7, 3) := by decide +kernel
theorem dJ9_max_7cf53_5 : decode cJ9_max_7cf53 5 = .ok (.iload_n 0, 1) := by decide +kernel
theorem dJ9_max_7cf53_6 : decode cJ9_max_7cf53 6 = .ok (.goto 4, 3) := by decide +kernel
theorem dJ9_max_7cf53_9 : decode cJ9_max_7cf53 9 = .ok (.iload_n 1, 1) := by decide +kernel
theorem dJ9_max_7cf53_10 : decode cJ9_max_7cf53 10 = .ok (.ireturn, 1) := by decide +kernel
theorem dJ9_min_7cf53_0 : decode cJ9_min_7cf53 0 = .ok (.iload_n 0, 1) := by decide +kernel
theorem dJ9_min_7cf53_1 : decode cJ9_min_7cf53 1 = .ok (.iload_n 1, 1) := by decide +kernel
theorem dJ9_min_7cf53_2 : decode cJ9_min_7cf53 2 = .ok (.if_icmp .gt 7, 3) := by decide +kernel
theorem dJ9_min_7cf53_5 : decode cJ9_min_7cf53 5 = .ok (.iload_n 0, 1) := by decide +kernel
theorem dJ9_min_7cf53_6 : decode cJ9_min_7cf53 6 = .ok (.goto 4, 3) := by decide +kernel
theorem dJ9_min_7cf53_9 : decode cJ9_min_7cf53 9 = .ok (.iload_n 1, 1) := by decide +kernel
theorem dJ9_min_7cf53_10 : decode cJ9_min_7cf53 10 = .ok (.ireturn, 1) := by decide +kernel
theorem dX0_init_0 : decode cX0_init 0 = .ok (.aload_n 0, 1) := by decide +kernel
theorem dX0_init_1 : decode cX0_init 1 = .ok (.invokespecial 3, 3) := by decide +kernel
theorem dX0_init_4 : decode cX0_init 4 = .ok (.aload_n 0, 1) := by decide +kernel
theorem dX0_init_5 : decode cX0_init 5 = .ok (.bipush 10, 2) := by decide +kernel
theorem dX0_init_7 : decode cX0_init 7 = .ok (.anewarray 9, 3) := by decide +kernel
theorem dX0_init_10 : decode cX0_init 10 = .ok (.putfield 11, 3) := by decide +kernel
theorem dX0_init_13 : decode cX0_init 13 = .ok (.aload_n 0, 1) := by decide +kernel
theorem dX0_init_14 : decode cX0_init 14 = .ok (.iconst 0, 1) := by decide +kernel
theorem dX0_init_15 : decode cX0_init 15 = .ok (.putfield 17, 3) := by decide +kernel
theorem dX0_init_18 : decode cX0_init 18 = .ok (.aload_n 0, 1) := by decide +kernel
theorem dX0_init_19 : decode cX0_init 19 = .ok (.iconst 0, 1) := by decide +kernel
theorem dX0_init_20 : decode cX0_init 20 = .ok (.putfield 21, 3) := by decide +kernel
theorem dX0_init_23 : decode cX0_init 23 = .ok (.iconst 0, 1) := by decide +kernel
theorem dX0_init_24 : decode cX0_init 24 = .ok (.istore_n 1, 1) := by decide +kernel
theorem dX0_init_25 : decode cX0_init 25 = .ok (.iload_n 1, 1) := by decide +kernel
theorem dX0_init_26 : decode cX0_init 26 = .ok (.bipush 10, 2) := by decide +kernel
theorem dX0_init_28 : decode cX0_init 28 = .ok (.if_icmp .ge 22, 3) := by decide +kernel
theorem dX0_init_31 : decode cX0_init 31 = .ok (.aload_n 0, 1) := by decide +kernel
theorem dX0_init_32 : decode cX0_init 32 = .ok (.getfield 11, 3) := by decide +kernel
theorem dX0_init_35 : decode cX0_init 35 = .ok (.iload_n 1, 1) := by decide +kernel
theorem dX0_init_36 : decode cX0_init 36 = .ok (.new 9, 3) := by decide +kernel
theorem dX0_init_39 : decode cX0_init 39 = .ok (.dup, 1) := by decide +kernel
theorem dX0_init_40 : decode cX0_init 40 = .ok (.invokespecial 24, 3) := by decide +kernel
theorem dX0_init_43 : decode cX0_init 43 = .ok (.aastore, 1) := by decide +kernel
theorem dX0_init_44 : decode cX0_init 44 = .ok (.iinc 1 1, 3) := by decide +kernel
theorem dX0_init_47 : decode cX0_init 47 = .ok (.goto (-22), 3) := by decide +kernel
theorem dX0_init_50 : decode cX0_init 50 = .ok (.return_, 1) := by decide +kernel
theorem dX0_lose_0 : decode cX0_lose 0 = .ok (.aload_n 0, 1) := by decide +kernel
theorem dX0_lose_1 : decode cX0_lose 1 = .ok (.iconst 0, 1) := by decide +kernel
theorem dX0_lose_2 : decode cX0_lose 2 = .ok (.putfield 21, 3) := by decide +kernel
theorem dX0_lose_5 : decode cX0_lose 5 = .ok (.return_, 1) := by decide +kernel
theorem dX0_remember_0 : decode cX0_remember 0 = .ok (.aload_n 0, 1) := by decide +kernel
theorem dX0_remember_1 : decode cX0_remember 1 = .ok (.getfield 11, 3) := by decide +kernel
theorem dX0_remember_4 : decode cX0_remember 4 = .ok (.aload_n 0, 1) := by decide +kernel
theorem dX0_remember_5 : decode cX0_remember 5 = .ok (.getfield 17, 3) := by decide +kernel
theorem dX0_remember_8 : decode cX0_remember 8 = .ok (.aaload, 1) := by decide +kernel
theorem dX0_remember_9 : decode cX0_remember 9 = .ok (.aload_n 1, 1) := by decide +kernel
theorem dX0_remember_10 : decode cX0_remember 10 = .ok (.invokevirtual 25, 3) := by decide +kernel
theorem dX0_remember_13 : decode cX0_remember 13 = .ok (.aload_n 0, 1) := by decide +kernel
theorem dX0_remember_14 : decode cX0_remember 14 = .ok (.aload_n 0, 1) := by decide +kernel
theorem dX0_remember_15 : decode cX0_remember 15 = .ok (.getfield 17, 3) := by decide +kernel
theorem dX0_remember_18 : decode cX0_remember 18 = .ok (.iconst 1, 1) := by decide +kernel
theorem dX0_remember_19 : decode cX0_remember 19 = .ok (.iadd, 1) := by decide +kernel
theorem dX0_remember_20 : decode cX0_remember 20 = .ok (.bipush 10, 2) := by decide +kernel
theorem dX0_remember_22 : decode cX0_remember 22 = .ok (.if_icmp .ge 12, 3) := by decide +kernel
theorem dX0_remember_25 : decode cX0_remember 25 = .ok (.aload_n 0, 1) := by decide +kernel
theorem dX0_remember_26 : decode cX0_remember 26 = .ok (.getfield 17, 3) := by decide +kernel
theorem dX0_remember_29 : decode cX0_remember 29 = .ok (.iconst 1, 1) := by decide +kernel
theorem dX0_remember_30 : decode cX0_remember 30 = .ok (.iadd, 1) := by decide +kernel
theorem dX0_remember_31 : decode cX0_remember 31 = .ok (.goto 4, 3) := by decide +kernel
theorem dX0_remember_34 : decode cX0_remember 34 = .ok (.iconst 0, 1) := by decide +kernel
theorem dX0_remember_35 : decode cX0_remember 35 = .ok (.putfield 17, 3) := by decide +kernel
theorem dX0_remember_38 : decode cX0_remember 38 = .ok (.aload_n 0, 1) := by decide +kernel
theorem dX0_remember_39 : decode cX0_remember 39 = .ok (.aload_n 0, 1) := by decide +kernel
theorem dX0_remember_40 : decode cX0_remember 40 = .ok (.getfield 21, 3) := by decide +kernel
theorem dX0_remember_43 : decode cX0_remember 43 = .ok (.iconst 1, 1) := by decide +kernel
theorem dX0_remember_44 : decode cX0_remember 44 = .ok (.iadd, 1) := by decide +kernel
theorem dX0_remember_45 : decode cX0_remember 45 = .ok (.bipush 10, 2) := by decide +kernel
theorem dX0_remember_47 : decode cX0_remember 47 = .ok (.invokestatic 29, 3) := by decide +kernel
theorem dX0_remember_50 : decode cX0_remember 50 = .ok (.putfield 21, 3) := by decide +kernel
theorem dX0_remember_53 : decode cX0_remember 53 = .ok (.return_, 1) := by decide +kernel
theorem dX0_restore_0 : decode cX0_restore 0 = .ok (.aload_n 0, 1) := by decide +kernel
theorem dX0_restore_1 : decode cX0_restore 1 = .ok (.getfield 21, 3) := by decide +kernel
theorem dX0_restore_4 : decode cX0_restore 4 = .ok (.ifCond .gt 5, 3) := by decide +kernel
theorem dX0_restore_7 : decode cX0_restore 7 = .ok (.iconst 0, 1) := by decide +kernel
theorem dX0_restore_8 : decode cX0_restore 8 = .ok (.ireturn, 1) := by decide +kernel
theorem dX0_restore_9 : decode cX0_restore 9 = .ok (.aload_n 0, 1) := by decide +kernel
theorem dX0_restore_10 : decode cX0_restore 10 = .ok (.aload_n 0, 1) := by decide +kernel
theorem dX0_restore_11 : decode cX0_restore 11 = .ok (.getfield 17, 3) := by decide +kernel
theorem dX0_restore_14 : decode cX0_restore 14 = .ok (.ifCond .le 12, 3) := by decide +kernel
theorem dX0_restore_17 : decode cX0_restore 17 = .ok (.aload_n 0, 1) := by decide +kernel
theorem dX0_restore_18 : decode cX0_restore 18 = .ok (.getfield 17, 3) := by decide +kernel
theorem dX0_restore_21 : decode cX0_restore 21 = .ok (.iconst 1, 1) := by decide +kernel
theorem dX0_restore_22 : decode cX0_restore 22 = .ok (.isub, 1) := by decide +kernel
theorem dX0_restore_23 : decode cX0_restore 23 = .ok (.goto 5, 3) := by decide +kernel
theorem dX0_restore_26 : decode cX0_restore 26 = .ok (.bipush 9, 2) := by decide +kernel
theorem dX0_restore_28 : decode cX0_restore 28 = .ok (.putfield 17, 3) := by decide +kernel
theorem dX0_restore_31 : decode cX0_restore 31 = .ok (.aload_n 0, 1) := by decide +kernel
theorem dX0_restore_32 : decode cX0_restore 32 = .ok (.dup, 1) := by decide +kernel
theorem dX0_restore_33 : decode cX0_restore 33 = .ok (.getfield 21, 3) := by decide +kernel
theorem dX0_restore_36 : decode cX0_restore 36 = .ok (.iconst 1, 1) := by decide +kernel
theorem dX0_restore_37 : decode cX0_restore 37 = .ok (.isub, 1) := by decide +kernel
theorem dX0_restore_38 : decode cX0_restore 38 = .ok (.putfield 21, 3) := by decide +kernel
theorem dX0_restore_41 : decode cX0_restore 41 = .ok (.aload_n 1, 1) := by decide +kernel
theorem dX0_restore_42 : decode cX0_restore 42 = .ok (.aload_n 0, 1) := by decide +kernel
theorem dX0_restore_43 : decode cX0_restore 43 = .ok (.getfield 11, 3) := by decide +kernel
theorem dX0_restore_46 : decode cX0_restore 46 = .ok (.aload_n 0, 1) := by decide +kernel
theorem dX0_restore_47 : decode cX0_restore 47 = .ok (.getfield 17, 3) := by decide +kernel
theorem dX0_restore_50 : decode cX0_restore 50 = .ok (.aaload, 1) := by decide +kernel
theorem dX0_restore_51 : decode cX0_restore 51 = .ok (.invokevirtual 25, 3) := by decide +kernel
theorem dX0_restore_54 : decode cX0_restore 54 = .ok (.iconst 1, 1) := by decide +kernel
theorem dX0_restore_55 : decode cX0_restore 55 = .ok (.ireturn, 1) := by decide +kernel
theorem dX1_init_0 : decode cX1_init 0 = .ok (.aload_n 0, 1) := by decide +kernel
theorem dX1_init_1 : decode cX1_init 1 = .ok (.invokespecial 3, 3) := by decide +kernel
theorem dX1_init_4 : decode cX1_init 4 = .ok (.aload_n 0, 1) := by decide +kernel
theorem dX1_init_5 : decode cX1_init 5 = .ok (.iconst 0, 1) := by decide +kernel
theorem dX1_init_6 : decode cX1_init 6 = .ok (.putfield 9, 3) := by decide +kernel
theorem dX1_init_9 : decode cX1_init 9 = .ok (.aload_n 0, 1) := by decide +kernel
theorem dX1_init_10 : decode cX1_init 10 = .ok (.bipush 9, 2) := by decide +kernel
theorem dX1_init_12 : decode cX1_init 12 = .ok (.newarray .int, 2) := by decide +kernel
theorem dX1_init_14 : decode cX1_init 14 = .ok (.putfield 15, 3) := by decide +kernel
theorem dX1_init_17 : decode cX1_init 17 = .ok (.aload_n 0, 1) := by decide +kernel
theorem dX1_init_18 : decode cX1_init 18 = .ok (.bipush 9, 2) := by decide +kernel
theorem dX1_init_20 : decode cX1_init 20 = .ok (.newarray .int, 2) := by decide +kernel
theorem dX1_init_22 : decode cX1_init 22 = .ok (.putfield 19, 3) := by decide +kernel
theorem dX1_init_25 : decode cX1_init 25 = .ok (.aload_n 0, 1) := by decide +kernel
theorem dX1_init_26 : decode cX1_init 26 = .ok (.bipush 9, 2) := by decide +kernel
theorem dX1_init_28 : decode cX1_init 28 = .ok (.newarray .int, 2) := by decide +kernel
theorem dX1_init_30 : decode cX1_init 30 = .ok (.putfield 22, 3) := by decide +kernel
theorem dX1_init_33 : decode cX1_init 33 = .ok (.aload_n 0, 1) := by decide +kernel
theorem dX1_init_34 : decode cX1_init 34 = .ok (.iconst 0, 1) := by decide +kernel
theorem dX1_init_35 : decode cX1_init 35 = .ok (.putfield 25, 3) := by decide +kernel
theorem dX1_init_38 : decode cX1_init 38 = .ok (.aload_n 0, 1) := by decide +kernel
theorem dX1_init_39 : decode cX1_init 39 = .ok (.bipush 14, 2) := by decide +kernel
theorem dX1_init_41 : decode cX1_init 41 = .ok (.newarray .int, 2) := by decide +kernel
theorem dX1_init_43 : decode cX1_init 43 = .ok (.putfield 28, 3) := by decide +kernel
theorem dX1_init_46 : decode cX1_init 46 = .ok (.aload_n 0, 1) := by decide +kernel
theorem dX1_init_47 : decode cX1_init 47 = .ok (.bipush 14, 2) := by decide +kernel
theorem dX1_init_49 : decode cX1_init 49 = .ok (.newarray .int, 2) := by decide +kernel
theorem dX1_init_51 : decode cX1_init 51 = .ok (.putfield 31, 3) := by decide +kernel
theorem dX1_init_54 : decode cX1_init 54 = .ok (.aload_n 0, 1) := by decide +kernel
theorem dX1_init_55 : decode cX1_init 55 = .ok (.iconst 0, 1) := by decide +kernel
theorem dX1_init_56 : decode cX1_init 56 = .ok (.putfield 34, 3) := by decide +kernel
theorem dX1_init_59 : decode cX1_init 59 = .ok (.aload_n 0, 1) := by decide +kernel
theorem dX1_init_60 : decode cX1_init 60 = .ok (.iconst 4, 1) := by decide +kernel
theorem dX1_init_61 : decode cX1_init 61 = .ok (.newarray .int, 2) := by decide +kernel
theorem dX1_init_63 : decode cX1_init 63 = .ok (.putfield 37, 3) := by decide +kernel
theorem dX1_init_66 : decode cX1_init 66 = .ok (.aload_n 0, 1) := by decide +kernel
theorem dX1_init_67 : decode cX1_init 67 = .ok (.iconst 4, 1) := by decide +kernel
theorem dX1_init_68 : decode cX1_init 68 = .ok (.iconst 5, 1) := by decide +kernel
theorem dX1_init_69 : decode cX1_init 69 = .ok (.multianewarray 40 2, 4) := by decide +kernel
theorem dX1_init_73 : decode cX1_init 73 = .ok (.putfield 42, 3) := by decide +kernel
theorem dX1_init_76 : decode cX1_init 76 = .ok (.aload_n 0, 1) := by decide +kernel
theorem dX1_init_77 : decode cX1_init 77 = .ok (.iconst 4, 1) := by decide +kernel
theorem dX1_init_78 : decode cX1_init 78 = .ok (.newarray .int, 2) := by decide +kernel
theorem dX1_init_80 : decode cX1_init 80 = .ok (.putfield 45, 3) := by decide +kernel
theorem dX1_init_83 : decode cX1_init 83 = .ok (.aload_n 0, 1) := by decide +kernel
theorem dX1_init_84 : decode cX1_init 84 = .ok (.iconst 4, 1) := by decide +kernel
theorem dX1_init_85 : decode cX1_init 85 = .ok (.newarray .int, 2) := by decide +kernel
theorem dX1_init_87 : decode cX1_init 87 = .ok (.putfield 48, 3) := by decide +kernel
theorem dX1_init_90 : decode cX1_init 90 = .ok (.aload_n 0, 1) := by decide +kernel
theorem dX1_init_91 : decode cX1_init 91 = .ok (.iconst 0, 1) := by decide +kernel
theorem dX1_init_92 : decode cX1_init 92 = .ok (.putfield 51, 3) := by decide +kernel
theorem dX1_init_95 : decode cX1_init 95 = .ok (.aload_n 0, 1) := by decide +kernel
theorem dX1_init_96 : decode cX1_init 96 = .ok (.iconst 0, 1) := by decide +kernel
theorem dX1_init_97 : decode cX1_init 97 = .ok (.putfield 54, 3) := by decide +kernel
theorem dX1_init_100 : decode cX1_init 100 = .ok (.return_, 1) := by decide +kernel
theorem dX1_wipe_0 : decode cX1_wipe 0 = .ok (.aload_n 0, 1) := by decide +kernel
theorem dX1_wipe_1 : decode cX1_wipe 1 = .ok (.iconst 0, 1) := by decide +kernel
theorem dX1_wipe_2 : decode cX1_wipe 2 = .ok (.putfield 9, 3) := by decide +kernel
theorem dX1_wipe_5 : decode cX1_wipe 5 = .ok (.aload_n 0, 1) := by decide +kernel
theorem dX1_wipe_6 : decode cX1_wipe 6 = .ok (.iconst 0, 1) := by decide +kernel
theorem dX1_wipe_7 : decode cX1_wipe 7 = .ok (.putfield 25, 3) := by decide +kernel
theorem dX1_wipe_10 : decode cX1_wipe 10 = .ok (.aload_n 0, 1) := by decide +kernel
theorem dX1_wipe_11 : decode cX1_wipe 11 = .ok (.iconst 0, 1) := by decide +kernel
theorem dX1_wipe_12 : decode cX1_wipe 12 = .ok (.putfield 34, 3) := by decide +kernel
theorem dX1_wipe_15 : decode cX1_wipe 15 = .ok (.aload_n 0, 1) := by decide +kernel
theorem dX1_wipe_16 : decode cX1_wipe 16 = .ok (.iconst 0, 1) := by decide +kernel
theorem dX1_wipe_17 : decode cX1_wipe 17 = .ok (.putfield 51, 3) := by decide +kernel
theorem dX1_wipe_20 : decode cX1_wipe 20 = .ok (.aload_n 0, 1) := by decide +kernel
theorem dX1_wipe_21 : decode cX1_wipe 21 = .ok (.iconst 0, 1) := by decide +kernel
theorem dX1_wipe_22 : decode cX1_wipe 22 = .ok (.putfield 54, 3) := by decide +kernel
theorem dX1_wipe_25 : decode cX1_wipe 25 = .ok (.aload_n 0, 1) := by decide +kernel
theorem dX1_wipe_26 : decode cX1_wipe 26 = .ok (.getfield 22, 3) := by decide +kernel
theorem dX1_wipe_29 : decode cX1_wipe 29 = .ok (.iconst 0, 1) := by decide +kernel
theorem dX1_wipe_30 : decode cX1_wipe 30 = .ok (.invokestatic 57, 3) := by decide +kernel
theorem dX1_wipe_33 : decode cX1_wipe 33 = .ok (.return_, 1) := by decide +kernel
theorem dX1_hasCorner_0 : decode cX1_hasCorner 0 = .ok (.iload_n 1, 1) := by decide +kernel
theorem dX1_hasCorner_1 : decode cX1_hasCorner 1 = .ok (.ifCond .lt 21, 3) := by decide +kernel
theorem dX1_hasCorner_4 : decode cX1_hasCorner 4 = .ok (.iload_n 1, 1) := by decide +kernel
theorem dX1_hasCorner_5 : decode cX1_hasCorner 5 = .ok (.aload_n 0, 1) := by decide +kernel
theorem dX1_hasCorner_6 : decode cX1_hasCorner 6 = .ok (.getfield 9, 3) := by decide +kernel
theorem dX1_hasCorner_9 : decode cX1_hasCorner 9 = .ok (.if_icmp .ge 13, 3) := by decide +kernel
theorem dX1_hasCorner_12 : decode cX1_hasCorner 12 = .ok (.iload_n 1, 1) := by decide +kernel
theorem dX1_hasCorner_13 : decode cX1_hasCorner 13 = .ok (.bipush 9, 2) := by decide +kernel
theorem dX1_hasCorner_15 : decode cX1_hasCorner 15 = .ok (.if_icmp .ge 7, 3) := by decide +kernel
theorem dX1_hasCorner_18 : decode cX1_hasCorner 18 = .ok (.iconst 1, 1) := by decide +kernel
theorem dX1_hasCorner_19 : decode cX1_hasCorner 19 = .ok (.goto 4, 3) := by decide +kernel
theorem dX1_hasCorner_22 : decode cX1_hasCorner 22 = .ok (.iconst 0, 1) := by decide +kernel
theorem dX1_hasCorner_23 : decode cX1_hasCorner 23 = .ok (.ireturn, 1) := by decide +kernel
theorem dX1_way_0 : decode cX1_way 0 = .ok (.aload_n 0, 1) := by decide +kernel
theorem dX1_way_1 : decode cX1_way 1 = .ok (.iload_n 1, 1) := by decide +kernel
theorem dX1_way_2 : decode cX1_way 2 = .ok (.invokevirtual 63, 3) := by decide +kernel
theorem dX1_way_5 : decode cX1_way 5 = .ok (.ifCond .eq 11, 3) := by decide +kernel
theorem dX1_way_8 : decode cX1_way 8 = .ok (.aload_n 0, 1) := by decide +kernel
theorem dX1_way_9 : decode cX1_way 9 = .ok (.iload_n 2, 1) := by decide +kernel
theorem dX1_way_10 : decode cX1_way 10 = .ok (.invokevirtual 63, 3) := by decide +kernel
theorem dX1_way_13 : decode cX1_way 13 = .ok (.ifCond .ne 5, 3) := by decide +kernel
theorem dX1_way_16 : decode cX1_way 16 = .ok (.iconst 0, 1) := by decide +kernel
theorem dX1_way_17 : decode cX1_way 17 = .ok (.ireturn, 1) := by decide +kernel
theorem dX1_way_18 : decode cX1_way 18 = .ok (.aload_n 0, 1) := by decide +kernel
theorem dX1_way_19 : decode cX1_way 19 = .ok (.getfield 15, 3) := by decide +kernel
theorem dX1_way_22 : decode cX1_way 22 = .ok (.iload_n 1, 1) := by decide +kernel
theorem dX1_way_23 : decode cX1_way 23 = .ok (.iaload, 1) := by decide +kernel
theorem dX1_way_24 : decode cX1_way 24 = .ok (.aload_n 0, 1) := by decide +kernel
theorem dX1_way_25 : decode cX1_way 25 = .ok (.getfield 15, 3) := by decide +kernel
theorem dX1_way_28 : decode cX1_way 28 = .ok (.iload_n 2, 1) := by decide +kernel
theorem dX1_way_29 : decode cX1_way 29 = .ok (.iaload, 1) := by decide +kernel
theorem dX1_way_30 : decode cX1_way 30 = .ok (.isub, 1) := by decide +kernel
theorem dX1_way_31 : decode cX1_way 31 = .ok (.invokestatic 67, 3) := by decide +kernel
theorem dX1_way_34 : decode cX1_way 34 = .ok (.aload_n 0, 1) := by decide +kernel
theorem dX1_way_35 : decode cX1_way 35 = .ok (.getfield 19, 3) := by decide +kernel
theorem dX1_way_38 : decode cX1_way 38 = .ok (.iload_n 1, 1) := by decide +kernel
theorem dX1_way_39 : decode cX1_way 39 = .ok (.iaload, 1) := by decide +kernel
theorem dX1_way_40 : decode cX1_way 40 = .ok (.aload_n 0, 1) := by decide +kernel
theorem dX1_way_41 : decode cX1_way 41 = .ok (.getfield 19, 3) := by decide +kernel
theorem dX1_way_44 : decode cX1_way 44 = .ok (.iload_n 2, 1) := by decide +kernel
theorem dX1_way_45 : decode cX1_way 45 = .ok (.iaload, 1) := by decide +kernel
theorem dX1_way_46 : decode cX1_way 46 = .ok (.isub, 1) := by decide +kernel
theorem dX1_way_47 : decode cX1_way 47 = .ok (.invokestatic 67, 3) := by decide +kernel
theorem dX1_way_50 : decode cX1_way 50 = .ok (.iadd, 1) := by decide +kernel
theorem dX1_way_51 : decode cX1_way 51 = .ok (.ireturn, 1) := by decide +kernel
theorem dX1_addCorner_0 : decode cX1_addCorner 0 = .ok (.aload_n 0, 1) := by decide +kernel
theorem dX1_addCorner_1 : decode cX1_addCorner 1 = .ok (.getfield 9, 3) := by decide +kernel
theorem dX1_addCorner_4 : decode cX1_addCorner 4 = .ok (.bipush 9, 2) := by decide +kernel
theorem dX1_addCorner_6 : decode cX1_addCorner 6 = .ok (.if_icmp .lt 5, 3) := by decide +kernel
theorem dX1_addCorner_9 : decode cX1_addCorner 9 = .ok (.iconst 0, 1) := by decide +kernel
theorem dX1_addCorner_10 : decode cX1_addCorner 10 = .ok (.ireturn, 1) := by decide +kernel
theorem dX1_addCorner_11 : decode cX1_addCorner 11 = .ok (.iconst 0, 1) := by decide +kernel
theorem dX1_addCorner_12 : decode cX1_addCorner 12 = .ok (.istore_n 3, 1) := by decide +kernel
theorem dX1_addCorner_13 : decode cX1_addCorner 13 = .ok (.iload_n 3, 1) := by decide +kernel
theorem dX1_addCorner_14 : decode cX1_addCorner 14 = .ok (.aload_n 0, 1) := by decide +kernel
theorem dX1_addCorner_15 : decode cX1_addCorner 15 = .ok (.getfield 9, 3) := by decide +kernel
theorem dX1_addCorner_18 : decode cX1_addCorner 18 = .ok (.if_icmp .ge 31, 3) := by decide +kernel
theorem dX1_addCorner_21 : decode cX1_addCorner 21 = .ok (.aload_n 0, 1) := by decide +kernel
theorem dX1_addCorner_22 : decode cX1_addCorner 22 = .ok (.getfield 15, 3) := by decide +kernel
theorem dX1_addCorner_25 : decode cX1_addCorner 25 = .ok (.iload_n 3, 1) := by decide +kernel
theorem dX1_addCorner_26 : decode cX1_addCorner 26 = .ok (.iaload, 1) := by decide +kernel
theorem dX1_addCorner_27 : decode cX1_addCorner 27 = .ok (.iload_n 1, 1) := by decide +kernel
theorem dX1_addCorner_28 : decode cX1_addCorner 28 = .ok (.if_icmp .ne 15, 3) := by decide +kernel
theorem dX1_addCorner_31 : decode cX1_addCorner 31 = .ok (.aload_n 0, 1) := by decide +kernel
theorem dX1_addCorner_32 : decode cX1_addCorner 32 = .ok (.getfield 19, 3) := by decide +kernel
theorem dX1_addCorner_35 : decode cX1_addCorner 35 = .ok (.iload_n 3, 1) := by decide +kernel
theorem dX1_addCorner_36 : decode cX1_addCorner 36 = .ok (.iaload, 1) := by decide +kernel
theorem dX1_addCorner_37 : decode cX1_addCorner 37 = .ok (.iload_n 2, 1) := by decide +kernel
theorem dX1_addCorner_38 : decode cX1_addCorner 38 = .ok (.if_icmp .ne 5, 3) := by decide +kernel
theorem dX1_addCorner_41 : decode cX1_addCorner 41 = .ok (.iconst 0, 1) := by decide +kernel
theorem dX1_addCorner_42 : decode cX1_addCorner 42 = .ok (.ireturn, 1) := by decide +kernel
theorem dX1_addCorner_43 : decode cX1_addCorner 43 = .ok (.iinc 3 1, 3) := by decide +kernel
theorem dX1_addCorner_46 : decode cX1_addCorner 46 = .ok (.goto (-33), 3) := by decide +kernel
theorem dX1_addCorner_49 : decode cX1_addCorner 49 = .ok (.aload_n 0, 1) := by decide +kernel
theorem dX1_addCorner_50 : decode cX1_addCorner 50 = .ok (.getfield 15, 3) := by decide +kernel
theorem dX1_addCorner_53 : decode cX1_addCorner 53 = .ok (.aload_n 0, 1) := by decide +kernel
theorem dX1_addCorner_54 : decode cX1_addCorner 54 = .ok (.getfield 9, 3) := by decide +kernel
theorem dX1_addCorner_57 : decode cX1_addCorner 57 = .ok (.iload_n 1, 1) := by decide +kernel
theorem dX1_addCorner_58 : decode cX1_addCorner 58 = .ok (.iastore, 1) := by decide +kernel
theorem dX1_addCorner_59 : decode cX1_addCorner 59 = .ok (.aload_n 0, 1) := by decide +kernel
theorem dX1_addCorner_60 : decode cX1_addCorner 60 = .ok (.getfield 19, 3) := by decide +kernel
theorem dX1_addCorner_63 : decode cX1_addCorner 63 = .ok (.aload_n 0, 1) := by decide +kernel
theorem dX1_addCorner_64 : decode cX1_addCorner 64 = .ok (.getfield 9, 3) := by decide +kernel
theorem dX1_addCorner_67 : decode cX1_addCorner 67 = .ok (.iload_n 2, 1) := by decide +kernel
theorem dX1_addCorner_68 : decode cX1_addCorner 68 = .ok (.iastore, 1) := by decide +kernel
theorem dX1_addCorner_69 : decode cX1_addCorner 69 = .ok (.aload_n 0, 1) := by decide +kernel
theorem dX1_addCorner_70 : decode cX1_addCorner 70 = .ok (.dup, 1) := by decide +kernel
theorem dX1_addCorner_71 : decode cX1_addCorner 71 = .ok (.getfield 9, 3) := by decide +kernel
theorem dX1_addCorner_74 : decode cX1_addCorner 74 = .ok (.iconst 1, 1) := by decide +kernel
theorem dX1_addCorner_75 : decode cX1_addCorner 75 = .ok (.iadd, 1) := by decide +kernel
theorem dX1_addCorner_76 : decode cX1_addCorner 76 = .ok (.putfield 9, 3) := by decide +kernel
theorem dX1_addCorner_79 : decode cX1_addCorner 79 = .ok (.iconst 1, 1) := by decide +kernel
theorem dX1_addCorner_80 : decode cX1_addCorner 80 = .ok (.ireturn, 1) := by decide +kernel
theorem dX1_join_0 : decode cX1_join 0 = .ok (.aload_n 0, 1) := by decide +kernel
theorem dX1_join_1 : decode cX1_join 1 = .ok (.iload_n 1, 1) := by decide +kernel
theorem dX1_join_2 : decode cX1_join 2 = .ok (.invokevirtual 63, 3) := by decide +kernel
theorem dX1_join_5 : decode cX1_join 5 = .ok (.ifCond .eq 11, 3) := by decide +kernel
theorem dX1_join_8 : decode cX1_join 8 = .ok (.aload_n 0, 1) := by decide +kernel
theorem dX1_join_9 : decode cX1_join 9 = .ok (.iload_n 2, 1) := by decide +kernel
theorem dX1_join_10 : decode cX1_join 10 = .ok (.invokevirtual 63, 3) := by decide +kernel
theorem dX1_join_13 : decode cX1_join 13 = .ok (.ifCond .ne 5, 3) := by decide +kernel
theorem dX1_join_16 : decode cX1_join 16 = .ok (.iconst 0, 1) := by decide +kernel
theorem dX1_join_17 : decode cX1_join 17 = .ok (.ireturn, 1) := by decide +kernel
theorem dX1_join_18 : decode cX1_join 18 = .ok (.aload_n 0, 1) := by decide +kernel
theorem dX1_join_19 : decode cX1_join 19 = .ok (.getfield 22, 3) := by decide +kernel
theorem dX1_join_22 : decode cX1_join 22 = .ok (.iload_n 1, 1) := by decide +kernel
theorem dX1_join_23 : decode cX1_join 23 = .ok (.iaload, 1) := by decide +kernel
theorem dX1_join_24 : decode cX1_join 24 = .ok (.iload_n 2, 1) := by decide +kernel
theorem dX1_join_25 : decode cX1_join 25 = .ok (.invokestatic 73, 3) := by decide +kernel
theorem dX1_join_28 : decode cX1_join 28 = .ok (.ifCond .eq 5, 3) := by decide +kernel
theorem dX1_join_31 : decode cX1_join 31 = .ok (.iconst 1, 1) := by decide +kernel
theorem dX1_join_32 : decode cX1_join 32 = .ok (.ireturn, 1) := by decide +kernel
theorem dX1_join_33 : decode cX1_join 33 = .ok (.aload_n 0, 1) := by decide +kernel
theorem dX1_join_34 : decode cX1_join 34 = .ok (.getfield 25, 3) := by decide +kernel
theorem dX1_join_37 : decode cX1_join 37 = .ok (.bipush 14, 2) := by decide +kernel
theorem dX1_join_39 : decode cX1_join 39 = .ok (.if_icmp .lt 5, 3) := by decide +kernel
theorem dX1_join_42 : decode cX1_join 42 = .ok (.iconst 0, 1) := by decide +kernel
theorem dX1_join_43 : decode cX1_join 43 = .ok (.ireturn, 1) := by decide +kernel
theorem dX1_join_44 : decode cX1_join 44 = .ok (.aload_n 0, 1) := by decide +kernel
theorem dX1_join_45 : decode cX1_join 45 = .ok (.getfield 22, 3) := by decide +kernel
theorem dX1_join_48 : decode cX1_join 48 = .ok (.iload_n 1, 1) := by decide +kernel
theorem dX1_join_49 : decode cX1_join 49 = .ok (.dup2, 1) := by decide +kernel
theorem dX1_join_50 : decode cX1_join 50 = .ok (.iaload, 1) := by decide +kernel
theorem dX1_join_51 : decode cX1_join 51 = .ok (.iconst 1, 1) := by decide +kernel
theorem dX1_join_52 : decode cX1_join 52 = .ok (.iload_n 2, 1) := by decide +kernel
theorem dX1_join_53 : decode cX1_join 53 = .ok (.ishl, 1) := by decide +kernel
theorem dX1_join_54 : decode cX1_join 54 = .ok (.ior, 1) := by decide +kernel
theorem dX1_join_55 : decode cX1_join 55 = .ok (.iastore, 1) := by decide +kernel
theorem dX1_join_56 : decode cX1_join 56 = .ok (.aload_n 0, 1) := by decide +kernel
theorem dX1_join_57 : decode cX1_join 57 = .ok (.getfield 22, 3) := by decide +kernel
theorem dX1_join_60 : decode cX1_join 60 = .ok (.iload_n 2, 1) := by decide +kernel
theorem dX1_join_61 : decode cX1_join 61 = .ok (.dup2, 1) := by decide +kernel
theorem dX1_join_62 : decode cX1_join 62 = .ok (.iaload, 1) := by decide +kernel
theorem dX1_join_63 : decode cX1_join 63 = .ok (.iconst 1, 1) := by decide +kernel
theorem dX1_join_64 : decode cX1_join 64 = .ok (.iload_n 1, 1) := by decide +kernel
theorem dX1_join_65 : decode cX1_join 65 = .ok (.ishl, 1) := by decide +kernel
theorem dX1_join_66 : decode cX1_join 66 = .ok (.ior, 1) := by decide +kernel
theorem dX1_join_67 : decode cX1_join 67 = .ok (.iastore, 1) := by decide +kernel
theorem dX1_join_68 : decode cX1_join 68 = .ok (.aload_n 0, 1) := by decide +kernel
theorem dX1_join_69 : decode cX1_join 69 = .ok (.dup, 1) := by decide +kernel
theorem dX1_join_70 : decode cX1_join 70 = .ok (.getfield 25, 3) := by decide +kernel
theorem dX1_join_73 : decode cX1_join 73 = .ok (.iconst 1, 1) := by decide +kernel
theorem dX1_join_74 : decode cX1_join 74 = .ok (.iadd, 1) := by decide +kernel
theorem dX1_join_75 : decode cX1_join 75 = .ok (.putfield 25, 3) := by decide +kernel
theorem dX1_join_78 : decode cX1_join 78 = .ok (.iconst 1, 1) := by decide +kernel
theorem dX1_join_79 : decode cX1_join 79 = .ok (.ireturn, 1) := by decide +kernel
theorem dX1_settle_0 : decode cX1_settle 0 = .ok (.aload_n 0, 1) := by decide +kernel
theorem dX1_settle_1 : decode cX1_settle 1 = .ok (.invokevirtual 77, 3) := by decide +kernel
theorem dX1_settle_4 : decode cX1_settle 4 = .ok (.iconst 0, 1) := by decide +kernel
theorem dX1_settle_5 : decode cX1_settle 5 = .ok (.istore_n 1, 1) := by decide +kernel
theorem dX1_settle_6 : decode cX1_settle 6 = .ok (.iload_n 1, 1) := by decide +kernel
theorem dX1_settle_7 : decode cX1_settle 7 = .ok (.aload_n 0, 1) := by decide +kernel
theorem dX1_settle_8 : decode cX1_settle 8 = .ok (.getfield 34, 3) := by decide +kernel
theorem dX1_settle_11 : decode cX1_settle 11 = .ok (.if_icmp .ge 20, 3) := by decide +kernel
theorem dX1_settle_14 : decode cX1_settle 14 = .ok (.aload_n 0, 1) := by decide +kernel
theorem dX1_settle_15 : decode cX1_settle 15 = .ok (.getfield 45, 3) := by decide +kernel
theorem dX1_settle_18 : decode cX1_settle 18 = .ok (.iload_n 1, 1) := by decide +kernel
theorem dX1_settle_19 : decode cX1_settle 19 = .ok (.aload_n 0, 1) := by decide +kernel
theorem dX1_settle_20 : decode cX1_settle 20 = .ok (.iload_n 1, 1) := by decide +kernel
theorem dX1_settle_21 : decode cX1_settle 21 = .ok (.invokevirtual 80, 3) := by decide +kernel
theorem dX1_settle_24 : decode cX1_settle 24 = .ok (.iastore, 1) := by decide +kernel
theorem dX1_settle_25 : decode cX1_settle 25 = .ok (.iinc 1 1, 3) := by decide +kernel
theorem dX1_settle_28 : decode cX1_settle 28 = .ok (.goto (-22), 3) := by decide +kernel
theorem dX1_settle_31 : decode cX1_settle 31 = .ok (.iconst 0, 1) := by decide +kernel
theorem dX1_settle_32 : decode cX1_settle 32 = .ok (.istore_n 1, 1) := by decide +kernel
theorem dX1_settle_33 : decode cX1_settle 33 = .ok (.iload_n 1, 1) := by decide +kernel
theorem dX1_settle_34 : decode cX1_settle 34 = .ok (.aload_n 0, 1) := by decide +kernel
theorem dX1_settle_35 : decode cX1_settle 35 = .ok (.getfield 34, 3) := by decide +kernel
theorem dX1_settle_38 : decode cX1_settle 38 = .ok (.if_icmp .ge 20, 3) := by decide +kernel
theorem dX1_settle_41 : decode cX1_settle 41 = .ok (.aload_n 0, 1) := by decide +kernel
theorem dX1_settle_42 : decode cX1_settle 42 = .ok (.getfield 48, 3) := by decide +kernel
theorem dX1_settle_45 : decode cX1_settle 45 = .ok (.iload_n 1, 1) := by decide +kernel
theorem dX1_settle_46 : decode cX1_settle 46 = .ok (.aload_n 0, 1) := by decide +kernel
theorem dX1_settle_47 : decode cX1_settle 47 = .ok (.iload_n 1, 1) := by decide +kernel
theorem dX1_settle_48 : decode cX1_settle 48 = .ok (.invokevirtual 83, 3) := by decide +kernel
theorem dX1_settle_51 : decode cX1_settle 51 = .ok (.iastore, 1) := by decide +kernel
theorem dX1_settle_52 : decode cX1_settle 52 = .ok (.iinc 1 1, 3) := by decide +kernel
theorem dX1_settle_55 : decode cX1_settle 55 = .ok (.goto (-22), 3) := by decide +kernel
theorem dX1_settle_58 : decode cX1_settle 58 = .ok (.return_, 1) := by decide +kernel
theorem dX1_numberCuts_0 : decode cX1_numberCuts 0 = .ok (.iconst 0, 1) := by decide +kernel
theorem dX1_numberCuts_1 : decode cX1_numberCuts 1 = .ok (.istore_n 1, 1) := by decide +kernel
theorem dX1_numberCuts_2 : decode cX1_numberCuts 2 = .ok (.iconst 0, 1) := by decide +kernel
theorem dX1_numberCuts_3 : decode cX1_numberCuts 3 = .ok (.istore_n 2, 1) := by decide +kernel
theorem dX1_numberCuts_4 : decode cX1_numberCuts 4 = .ok (.iload_n 2, 1) := by decide +kernel
theorem dX1_numberCuts_5 : decode cX1_numberCuts 5 = .ok (.aload_n 0, 1) := by decide +kernel
theorem dX1_numberCuts_6 : decode cX1_numberCuts 6 = .ok (.getfield 9, 3) := by decide +kernel
theorem dX1_numberCuts_9 : decode cX1_numberCuts 9 = .ok (.if_icmp .ge 63, 3) := by decide +kernel
theorem dX1_numberCuts_12 : decode cX1_numberCuts 12 = .ok (.iload_n 2, 1) := by decide +kernel
theorem dX1_numberCuts_13 : decode cX1_numberCuts 13 = .ok (.iconst 1, 1) := by decide +kernel
theorem dX1_numberCuts_14 : decode cX1_numberCuts 14 = .ok (.iadd, 1) := by decide +kernel
theorem dX1_numberCuts_15 : decode cX1_numberCuts 15 = .ok (.istore_n 3, 1) := by decide +kernel
theorem dX1_numberCuts_16 : decode cX1_numberCuts 16 = .ok (.iload_n 3, 1) := by decide +kernel
theorem dX1_numberCuts_17 : decode cX1_numberCuts 17 = .ok (.aload_n 0, 1) := by decide +kernel
theorem dX1_numberCuts_18 : decode cX1_numberCuts 18 = .ok (.getfield 9, 3) := by decide +kernel
theorem dX1_numberCuts_21 : decode cX1_numberCuts 21 = .ok (.if_icmp .ge 45, 3) := by decide +kernel
theorem dX1_numberCuts_24 : decode cX1_numberCuts 24 = .ok (.aload_n 0, 1) := by decide +kernel
theorem dX1_numberCuts_25 : decode cX1_numberCuts 25 = .ok (.getfield 22, 3) := by decide +kernel
theorem dX1_numberCuts_28 : decode cX1_numberCuts 28 = .ok (.iload_n 2, 1) := by decide +kernel
theorem dX1_numberCuts_29 : decode cX1_numberCuts 29 = .ok (.iaload, 1) := by decide +kernel
theorem dX1_numberCuts_30 : decode cX1_numberCuts 30 = .ok (.iload_n 3, 1) := by decide +kernel
theorem dX1_numberCuts_31 : decode cX1_numberCuts 31 = .ok (.invokestatic 73, 3) := by decide +kernel
theorem dX1_numberCuts_34 : decode cX1_numberCuts 34 = .ok (.ifCond .eq 26, 3) := by decide +kernel
theorem dX1_numberCuts_37 : decode cX1_numberCuts 37 = .ok (.iload_n 1, 1) := by decide +kernel
theorem dX1_numberCuts_38 : decode cX1_numberCuts 38 = .ok (.bipush 14, 2) := by decide +kernel
theorem dX1_numberCuts_40 : decode cX1_numberCuts 40 = .ok (.if_icmp .ge 20, 3) := by decide +kernel
theorem dX1_numberCuts_43 : decode cX1_numberCuts 43 = .ok (.aload_n 0, 1) := by decide +kernel
theorem dX1_numberCuts_44 : decode cX1_numberCuts 44 = .ok (.getfield 28, 3) := by decide +kernel
theorem dX1_numberCuts_47 : decode cX1_numberCuts 47 = .ok (.iload_n 1, 1) := by decide +kernel
theorem dX1_numberCuts_48 : decode cX1_numberCuts 48 = .ok (.iload_n 2, 1) := by decide +kernel
theorem dX1_numberCuts_49 : decode cX1_numberCuts 49 = .ok (.iastore, 1) := by decide +kernel
theorem dX1_numberCuts_50 : decode cX1_numberCuts 50 = .ok (.aload_n 0, 1) := by decide +kernel
theorem dX1_numberCuts_51 : decode cX1_numberCuts 51 = .ok (.getfield 31, 3) := by decide +kernel
theorem dX1_numberCuts_54 : decode cX1_numberCuts 54 = .ok (.iload_n 1, 1) := by decide +kernel
theorem dX1_numberCuts_55 : decode cX1_numberCuts 55 = .ok (.iload_n 3, 1) := by decide +kernel
theorem dX1_numberCuts_56 : decode cX1_numberCuts 56 = .ok (.iastore, 1) := by decide +kernel
theorem dX1_numberCuts_57 : decode cX1_numberCuts 57 = .ok (.iinc 1 1, 3) := by decide +kernel
theorem dX1_numberCuts_60 : decode cX1_numberCuts 60 = .ok (.iinc 3 1, 3) := by decide +kernel
theorem dX1_numberCuts_63 : decode cX1_numberCuts 63 = .ok (.goto (-47), 3) := by decide +kernel
theorem dX1_numberCuts_66 : decode cX1_numberCuts 66 = .ok (.iinc 2 1, 3) := by decide +kernel
theorem dX1_numberCuts_69 : decode cX1_numberCuts 69 = .ok (.goto (-65), 3) := by decide +kernel
theorem dX1_numberCuts_72 : decode cX1_numberCuts 72 = .ok (.return_, 1) := by decide +kernel
theorem dX1_cutsOfRing_0 : decode cX1_cutsOfRing 0 = .ok (.iconst 0, 1) := by decide +kernel
theorem dX1_cutsOfRing_1 : decode cX1_cutsOfRing 1 = .ok (.istore_n 2, 1) := by decide +kernel
theorem dX1_cutsOfRing_2 : decode cX1_cutsOfRing 2 = .ok (.iconst 0, 1) := by decide +kernel
theorem dX1_cutsOfRing_3 : decode cX1_cutsOfRing 3 = .ok (.istore_n 3, 1) := by decide +kernel
theorem dX1_cutsOfRing_4 : decode cX1_cutsOfRing 4 = .ok (.iload_n 3, 1) := by decide +kernel
theorem dX1_cutsOfRing_5 : decode cX1_cutsOfRing 5 = .ok (.aload_n 0, 1) := by decide +kernel
theorem dX1_cutsOfRing_6 : decode cX1_cutsOfRing 6 = .ok (.getfield 37, 3) := by decide +kernel
theorem dX1_cutsOfRing_9 : decode cX1_cutsOfRing 9 = .ok (.iload_n 1, 1) := by decide +kernel
theorem dX1_cutsOfRing_10 : decode cX1_cutsOfRing 10 = .ok (.iaload, 1) := by decide +kernel
theorem dX1_cutsOfRing_11 : decode cX1_cutsOfRing 11 = .ok (.if_icmp .ge 50, 3) := by decide +kernel
theorem dX1_cutsOfRing_14 : decode cX1_cutsOfRing 14 = .ok (.aload_n 0, 1) := by decide +kernel
theorem dX1_cutsOfRing_15 : decode cX1_cutsOfRing 15 = .ok (.aload_n 0, 1) := by decide +kernel
theorem dX1_cutsOfRing_16 : decode cX1_cutsOfRing 16 = .ok (.getfield 42, 3) := by decide +kernel
theorem dX1_cutsOfRing_19 : decode cX1_cutsOfRing 19 = .ok (.iload_n 1, 1) := by decide +kernel
theorem dX1_cutsOfRing_20 : decode cX1_cutsOfRing 20 = .ok (.aaload, 1) := by decide +kernel
theorem dX1_cutsOfRing_21 : decode cX1_cutsOfRing 21 = .ok (.iload_n 3, 1) := by decide +kernel
theorem dX1_cutsOfRing_22 : decode cX1_cutsOfRing 22 = .ok (.iaload, 1) := by decide +kernel
theorem dX1_cutsOfRing_23 : decode cX1_cutsOfRing 23 = .ok (.aload_n 0, 1) := by decide +kernel
theorem dX1_cutsOfRing_24 : decode cX1_cutsOfRing 24 = .ok (.getfield 42, 3) := by decide +kernel
theorem dX1_cutsOfRing_27 : decode cX1_cutsOfRing 27 = .ok (.iload_n 1, 1) := by decide +kernel
theorem dX1_cutsOfRing_28 : decode cX1_cutsOfRing 28 = .ok (.aaload, 1) := by decide +kernel
theorem dX1_cutsOfRing_29 : decode cX1_cutsOfRing 29 = .ok (.aload_n 0, 1) := by decide +kernel
theorem dX1_cutsOfRing_30 : decode cX1_cutsOfRing 30 = .ok (.iload_n 1, 1) := by decide +kernel
theorem dX1_cutsOfRing_31 : decode cX1_cutsOfRing 31 = .ok (.iload_n 3, 1) := by decide +kernel
theorem dX1_cutsOfRing_32 : decode cX1_cutsOfRing 32 = .ok (.invokevirtual 86, 3) := by decide +kernel
theorem dX1_cutsOfRing_35 : decode cX1_cutsOfRing 35 = .ok (.iaload, 1) := by decide +kernel
theorem dX1_cutsOfRing_36 : decode cX1_cutsOfRing 36 = .ok (.invokevirtual 90, 3) := by decide +kernel
theorem dX1_cutsOfRing_39 : decode cX1_cutsOfRing 39 = .ok (.istore 4, 2) := by decide +kernel
theorem dX1_cutsOfRing_41 : decode cX1_cutsOfRing 41 = .ok (.iload 4, 2) := by decide +kernel
theorem dX1_cutsOfRing_43 : decode cX1_cutsOfRing 43 = .ok (.bipush (-9), 2) := by decide +kernel
theorem dX1_cutsOfRing_45 : decode cX1_cutsOfRing 45 = .ok (.if_icmp .eq 10, 3) := by decide +kernel
theorem dX1_cutsOfRing_48 : decode cX1_cutsOfRing 48 = .ok (.iload_n 2, 1) := by decide +kernel
theorem dX1_cutsOfRing_49 : decode cX1_cutsOfRing 49 = .ok (.iconst 1, 1) := by decide +kernel
theorem dX1_cutsOfRing_50 : decode cX1_cutsOfRing 50 = .ok (.iload 4, 2) := by decide +kernel
theorem dX1_cutsOfRing_52 : decode cX1_cutsOfRing 52 = .ok (.ishl, 1) := by decide +kernel
theorem dX1_cutsOfRing_53 : decode cX1_cutsOfRing 53 = .ok (.ior, 1) := by decide +kernel
theorem dX1_cutsOfRing_54 : decode cX1_cutsOfRing 54 = .ok (.istore_n 2, 1) := by decide +kernel
theorem dX1_cutsOfRing_55 : decode cX1_cutsOfRing 55 = .ok (.iinc 3 1, 3) := by decide +kernel
theorem dX1_cutsOfRing_58 : decode cX1_cutsOfRing 58 = .ok (.goto (-54), 3) := by decide +kernel
theorem dX1_cutsOfRing_61 : decode cX1_cutsOfRing 61 = .ok (.iload_n 2, 1) := by decide +kernel
theorem dX1_cutsOfRing_62 : decode cX1_cutsOfRing 62 = .ok (.ireturn, 1) := by decide +kernel
theorem dX1_nextInRing_0 : decode cX1_nextInRing 0 = .ok (.iload_n 2, 1) := by decide +kernel
theorem dX1_nextInRing_1 : decode cX1_nextInRing 1 = .ok (.iconst 1, 1) := by decide +kernel
theorem dX1_nextInRing_2 : decode cX1_nextInRing 2 = .ok (.iadd, 1) := by decide +kernel
theorem dX1_nextInRing_3 : decode cX1_nextInRing 3 = .ok (.aload_n 0, 1) := by decide +kernel
theorem dX1_nextInRing_4 : decode cX1_nextInRing 4 = .ok (.getfield 37, 3) := by decide +kernel
theorem dX1_nextInRing_7 : decode cX1_nextInRing 7 = .ok (.iload_n 1, 1) := by decide +kernel
theorem dX1_nextInRing_8 : decode cX1_nextInRing 8 = .ok (.iaload, 1) := by decide +kernel
theorem dX1_nextInRing_9 : decode cX1_nextInRing 9 = .ok (.if_icmp .ge 9, 3) := by decide +kernel
theorem dX1_nextInRing_12 : decode cX1_nextInRing 12 = .ok (.iload_n 2, 1) := by decide +kernel
theorem dX1_nextInRing_13 : decode cX1_nextInRing 13 = .ok (.iconst 1, 1) := by decide +kernel
theorem dX1_nextInRing_14 : decode cX1_nextInRing 14 = .ok (.iadd, 1) := by decide +kernel
theorem dX1_nextInRing_15 : decode cX1_nextInRing 15 = .ok (.goto 4, 3) := by decide +kernel
theorem dX1_nextInRing_18 : decode cX1_nextInRing 18 = .ok (.iconst 0, 1) := by decide +kernel
theorem dX1_nextInRing_19 : decode cX1_nextInRing 19 = .ok (.ireturn, 1) := by decide +kernel
theorem dX1_cutBetween_0 : decode cX1_cutBetween 0 = .ok (.iload_n 1, 1) := by decide +kernel
theorem dX1_cutBetween_1 : decode cX1_cutBetween 1 = .ok (.iload_n 2, 1) := by decide +kernel
theorem dX1_cutBetween_2 : decode cX1_cutBetween 2 = .ok (.invokestatic 93, 3) := by decide +kernel
theorem dX1_cutBetween_5 : decode cX1_cutBetween 5 = .ok (.istore_n 3, 1) := by decide +kernel
theorem dX1_cutBetween_6 : decode cX1_cutBetween 6 = .ok (.iload_n 1, 1) := by decide +kernel
theorem dX1_cutBetween_7 : decode cX1_cutBetween 7 = .ok (.iload_n 2, 1) := by decide +kernel
theorem dX1_cutBetween_8 : decode cX1_cutBetween 8 = .ok (.invokestatic 96, 3) := by decide +kernel
theorem dX1_cutBetween_11 : decode cX1_cutBetween 11 = .ok (.istore 4, 2) := by decide +kernel
theorem dX1_cutBetween_13 : decode cX1_cutBetween 13 = .ok (.iconst 0, 1) := by decide +kernel
theorem dX1_cutBetween_14 : decode cX1_cutBetween 14 = .ok (.istore 5, 2) := by decide +kernel
theorem dX1_cutBetween_16 : decode cX1_cutBetween 16 = .ok (.iload 5, 2) := by decide +kernel
theorem dX1_cutBetween_18 : decode cX1_cutBetween 18 = .ok (.aload_n 0, 1) := by decide +kernel
theorem dX1_cutBetween_19 : decode cX1_cutBetween 19 = .ok (.getfield 25, 3) := by decide +kernel
theorem dX1_cutBetween_22 : decode cX1_cutBetween 22 = .ok (.if_icmp .ge 35, 3) := by decide +kernel
theorem dX1_cutBetween_25 : decode cX1_cutBetween 25 = .ok (.aload_n 0, 1) := by decide +kernel
theorem dX1_cutBetween_26 : decode cX1_cutBetween 26 = .ok (.getfield 28, 3) := by decide +kernel
theorem dX1_cutBetween_29 : decode cX1_cutBetween 29 = .ok (.iload 5, 2) := by decide +kernel
theorem dX1_cutBetween_31 : decode cX1_cutBetween 31 = .ok (.iaload, 1) := by decide +kernel
theorem dX1_cutBetween_32 : decode cX1_cutBetween 32 = .ok (.iload_n 3, 1) := by decide +kernel
theorem dX1_cutBetween_33 : decode cX1_cutBetween 33 = .ok (.if_icmp .ne 18, 3) := by decide +kernel
theorem dX1_cutBetween_36 : decode cX1_cutBetween 36 = .ok (.aload_n 0, 1) := by decide +kernel
theorem dX1_cutBetween_37 : decode cX1_cutBetween 37 = .ok (.getfield 31, 3) := by decide +kernel
theorem dX1_cutBetween_40 : decode cX1_cutBetween 40 = .ok (.iload 5, 2) := by decide +kernel
theorem dX1_cutBetween_42 : decode cX1_cutBetween 42 = .ok (.iaload, 1) := by decide +kernel
theorem dX1_cutBetween_43 : decode cX1_cutBetween 43 = .ok (.iload 4, 2) := by decide +kernel
theorem dX1_cutBetween_45 : decode cX1_cutBetween 45 = .ok (.if_icmp .ne 6, 3) := by decide +kernel
theorem dX1_cutBetween_48 : decode cX1_cutBetween 48 = .ok (.iload 5, 2) := by decide +kernel
theorem dX1_cutBetween_50 : decode cX1_cutBetween 50 = .ok (.ireturn, 1) := by decide +kernel
theorem dX1_cutBetween_51 : decode cX1_cutBetween 51 = .ok (.iinc 5 1, 3) := by decide +kernel
theorem dX1_cutBetween_54 : decode cX1_cutBetween 54 = .ok (.goto (-38), 3) := by decide +kernel
theorem dX1_cutBetween_57 : decode cX1_cutBetween 57 = .ok (.bipush (-9), 2) := by decide +kernel
theorem dX1_cutBetween_59 : decode cX1_cutBetween 59 = .ok (.ireturn, 1) := by decide +kernel
theorem dX1_partsAround_0 : decode cX1_partsAround 0 = .ok (.iconst 0, 1) := by decide +kernel
theorem dX1_partsAround_1 : decode cX1_partsAround 1 = .ok (.istore_n 2, 1) := by decide +kernel
theorem dX1_partsAround_2 : decode cX1_partsAround 2 = .ok (.iconst 0, 1) := by decide +kernel
theorem dX1_partsAround_3 : decode cX1_partsAround 3 = .ok (.istore_n 3, 1) := by decide +kernel
theorem dX1_partsAround_4 : decode cX1_partsAround 4 = .ok (.iload_n 3, 1) := by decide +kernel
theorem dX1_partsAround_5 : decode cX1_partsAround 5 = .ok (.aload_n 0, 1) := by decide +kernel
theorem dX1_partsAround_6 : decode cX1_partsAround 6 = .ok (.getfield 34, 3) := by decide +kernel
theorem dX1_partsAround_9 : decode cX1_partsAround 9 = .ok (.if_icmp .ge 36, 3) := by decide +kernel
theorem dX1_partsAround_12 : decode cX1_partsAround 12 = .ok (.iload_n 3, 1) := by decide +kernel
theorem dX1_partsAround_13 : decode cX1_partsAround 13 = .ok (.iload_n 1, 1) := by decide +kernel
theorem dX1_partsAround_14 : decode cX1_partsAround 14 = .ok (.if_icmp .eq 25, 3) := by decide +kernel
theorem dX1_partsAround_17 : decode cX1_partsAround 17 = .ok (.aload_n 0, 1) := by decide +kernel
theorem dX1_partsAround_18 : decode cX1_partsAround 18 = .ok (.iload_n 3, 1) := by decide +kernel
theorem dX1_partsAround_19 : decode cX1_partsAround 19 = .ok (.aload_n 0, 1) := by decide +kernel
theorem dX1_partsAround_20 : decode cX1_partsAround 20 = .ok (.getfield 42, 3) := by decide +kernel
theorem dX1_partsAround_23 : decode cX1_partsAround 23 = .ok (.iload_n 1, 1) := by decide +kernel
theorem dX1_partsAround_24 : decode cX1_partsAround 24 = .ok (.aaload, 1) := by decide +kernel
theorem dX1_partsAround_25 : decode cX1_partsAround 25 = .ok (.iconst 0, 1) := by decide +kernel
theorem dX1_partsAround_26 : decode cX1_partsAround 26 = .ok (.iaload, 1) := by decide +kernel
theorem dX1_partsAround_27 : decode cX1_partsAround 27 = .ok (.invokevirtual 99, 3) := by decide +kernel
theorem dX1_partsAround_30 : decode cX1_partsAround 30 = .ok (.ifCond .eq 9, 3) := by decide +kernel
theorem dX1_partsAround_33 : decode cX1_partsAround 33 = .ok (.iload_n 2, 1) := by decide +kernel
theorem dX1_partsAround_34 : decode cX1_partsAround 34 = .ok (.iconst 1, 1) := by decide +kernel
theorem dX1_partsAround_35 : decode cX1_partsAround 35 = .ok (.iload_n 3, 1) := by decide +kernel
theorem dX1_partsAround_36 : decode cX1_partsAround 36 = .ok (.ishl, 1) := by decide +kernel
theorem dX1_partsAround_37 : decode cX1_partsAround 37 = .ok (.ior, 1) := by decide +kernel
theorem dX1_partsAround_38 : decode cX1_partsAround 38 = .ok (.istore_n 2, 1) := by decide +kernel
theorem dX1_partsAround_39 : decode cX1_partsAround 39 = .ok (.iinc 3 1, 3) := by decide +kernel
theorem dX1_partsAround_42 : decode cX1_partsAround 42 = .ok (.goto (-38), 3) := by decide +kernel
theorem dX1_partsAround_45 : decode cX1_partsAround 45 = .ok (.iload_n 2, 1) := by decide +kernel
theorem dX1_partsAround_46 : decode cX1_partsAround 46 = .ok (.ireturn, 1) := by decide +kernel
theorem dX1_goesRound_0 : decode cX1_goesRound 0 = .ok (.iconst 0, 1) := by decide +kernel
theorem dX1_goesRound_1 : decode cX1_goesRound 1 = .ok (.istore_n 3, 1) := by decide +kernel
theorem dX1_goesRound_2 : decode cX1_goesRound 2 = .ok (.iconst 0, 1) := by decide +kernel
theorem dX1_goesRound_3 : decode cX1_goesRound 3 = .ok (.istore 4, 2) := by decide +kernel
theorem dX1_goesRound_5 : decode cX1_goesRound 5 = .ok (.iload 4, 2) := by decide +kernel
theorem dX1_goesRound_7 : decode cX1_goesRound 7 = .ok (.aload_n 0, 1) := by decide +kernel
theorem dX1_goesRound_8 : decode cX1_goesRound 8 = .ok (.getfield 37, 3) := by decide +kernel
theorem dX1_goesRound_11 : decode cX1_goesRound 11 = .ok (.iload_n 1, 1) := by decide +kernel
theorem dX1_goesRound_12 : decode cX1_goesRound 12 = .ok (.iaload, 1) := by decide +kernel
theorem dX1_goesRound_13 : decode cX1_goesRound 13 = .ok (.if_icmp .ge 62, 3) := by decide +kernel
theorem dX1_goesRound_16 : decode cX1_goesRound 16 = .ok (.aload_n 0, 1) := by decide +kernel
theorem dX1_goesRound_17 : decode cX1_goesRound 17 = .ok (.getfield 42, 3) := by decide +kernel
theorem dX1_goesRound_20 : decode cX1_goesRound 20 = .ok (.iload_n 1, 1) := by decide +kernel
theorem dX1_goesRound_21 : decode cX1_goesRound 21 = .ok (.aaload, 1) := by decide +kernel
theorem dX1_goesRound_22 : decode cX1_goesRound 22 = .ok (.iload 4, 2) := by decide +kernel
theorem dX1_goesRound_24 : decode cX1_goesRound 24 = .ok (.iaload, 1) := by decide +kernel
theorem dX1_goesRound_25 : decode cX1_goesRound 25 = .ok (.istore 5, 2) := by decide +kernel
theorem dX1_goesRound_27 : decode cX1_goesRound 27 = .ok (.aload_n 0, 1) := by decide +kernel
theorem dX1_goesRound_28 : decode cX1_goesRound 28 = .ok (.getfield 42, 3) := by decide +kernel
theorem dX1_goesRound_31 : decode cX1_goesRound 31 = .ok (.iload_n 1, 1) := by decide +kernel
theorem dX1_goesRound_32 : decode cX1_goesRound 32 = .ok (.aaload, 1) := by decide +kernel
theorem dX1_goesRound_33 : decode cX1_goesRound 33 = .ok (.aload_n 0, 1) := by decide +kernel
theorem dX1_goesRound_34 : decode cX1_goesRound 34 = .ok (.iload_n 1, 1) := by decide +kernel
theorem dX1_goesRound_35 : decode cX1_goesRound 35 = .ok (.iload 4, 2) := by decide +kernel
theorem dX1_goesRound_37 : decode cX1_goesRound 37 = .ok (.invokevirtual 86, 3) := by decide +kernel
theorem dX1_goesRound_40 : decode cX1_goesRound 40 = .ok (.iaload, 1) := by decide +kernel
theorem dX1_goesRound_41 : decode cX1_goesRound 41 = .ok (.istore 6, 2) := by decide +kernel
theorem dX1_goesRound_43 : decode cX1_goesRound 43 = .ok (.aload_n 0, 1) := by decide +kernel
theorem dX1_goesRound_44 : decode cX1_goesRound 44 = .ok (.iload_n 2, 1) := by decide +kernel
theorem dX1_goesRound_45 : decode cX1_goesRound 45 = .ok (.iload 5, 2) := by decide +kernel
theorem dX1_goesRound_47 : decode cX1_goesRound 47 = .ok (.iload 6, 2) := by decide +kernel
theorem dX1_goesRound_49 : decode cX1_goesRound 49 = .ok (.invokevirtual 102, 3) := by decide +kernel
theorem dX1_goesRound_52 : decode cX1_goesRound 52 = .ok (.ifCond .eq 5, 3) := by decide +kernel
theorem dX1_goesRound_55 : decode cX1_goesRound 55 = .ok (.iconst 0, 1) := by decide +kernel
theorem dX1_goesRound_56 : decode cX1_goesRound 56 = .ok (.ireturn, 1) := by decide +kernel
theorem dX1_goesRound_57 : decode cX1_goesRound 57 = .ok (.iload_n 3, 1) := by decide +kernel
theorem dX1_goesRound_58 : decode cX1_goesRound 58 = .ok (.aload_n 0, 1) := by decide +kernel
theorem dX1_goesRound_59 : decode cX1_goesRound 59 = .ok (.iload_n 2, 1) := by decide +kernel
theorem dX1_goesRound_60 : decode cX1_goesRound 60 = .ok (.iload 5, 2) := by decide +kernel
theorem dX1_goesRound_62 : decode cX1_goesRound 62 = .ok (.iload 6, 2) := by decide +kernel
theorem dX1_goesRound_64 : decode cX1_goesRound 64 = .ok (.invokevirtual 106, 3) := by decide +kernel
theorem dX1_goesRound_67 : decode cX1_goesRound 67 = .ok (.iadd, 1) := by decide +kernel
theorem dX1_goesRound_68 : decode cX1_goesRound 68 = .ok (.istore_n 3, 1) := by decide +kernel
theorem dX1_goesRound_69 : decode cX1_goesRound 69 = .ok (.iinc 4 1, 3) := by decide +kernel
theorem dX1_goesRound_72 : decode cX1_goesRound 72 = .ok (.goto (-67), 3) := by decide +kernel
theorem dX1_goesRound_75 : decode cX1_goesRound 75 = .ok (.iload_n 3, 1) := by decide +kernel
theorem dX1_goesRound_76 : decode cX1_goesRound 76 = .ok (.ifCond .eq 7, 3) := by decide +kernel
theorem dX1_goesRound_79 : decode cX1_goesRound 79 = .ok (.iconst 1, 1) := by decide +kernel
theorem dX1_goesRound_80 : decode cX1_goesRound 80 = .ok (.goto 4, 3) := by decide +kernel
theorem dX1_goesRound_83 : decode cX1_goesRound 83 = .ok (.iconst 0, 1) := by decide +kernel
theorem dX1_goesRound_84 : decode cX1_goesRound 84 = .ok (.ireturn, 1) := by decide +kernel
theorem dX1_liesOn_0 : decode cX1_liesOn 0 = .ok (.aload_n 0, 1) := by decide +kernel
theorem dX1_liesOn_1 : decode cX1_liesOn 1 = .ok (.iload_n 1, 1) := by decide +kernel
theorem dX1_liesOn_2 : decode cX1_liesOn 2 = .ok (.iload_n 2, 1) := by decide +kernel
theorem dX1_liesOn_3 : decode cX1_liesOn 3 = .ok (.iload_n 3, 1) := by decide +kernel
theorem dX1_liesOn_4 : decode cX1_liesOn 4 = .ok (.invokevirtual 110, 3) := by decide +kernel
theorem dX1_liesOn_7 : decode cX1_liesOn 7 = .ok (.ifCond .ne 103, 3) := by decide +kernel
theorem dX1_liesOn_10 : decode cX1_liesOn 10 = .ok (.aload_n 0, 1) := by decide +kernel
theorem dX1_liesOn_11 : decode cX1_liesOn 11 = .ok (.getfield 15, 3) := by decide +kernel
theorem dX1_liesOn_14 : decode cX1_liesOn 14 = .ok (.iload_n 1, 1) := by decide +kernel
theorem dX1_liesOn_15 : decode cX1_liesOn 15 = .ok (.iaload, 1) := by decide +kernel
theorem dX1_liesOn_16 : decode cX1_liesOn 16 = .ok (.aload_n 0, 1) := by decide +kernel
theorem dX1_liesOn_17 : decode cX1_liesOn 17 = .ok (.getfield 15, 3) := by decide +kernel
theorem dX1_liesOn_20 : decode cX1_liesOn 20 = .ok (.iload_n 2, 1) := by decide +kernel
theorem dX1_liesOn_21 : decode cX1_liesOn 21 = .ok (.iaload, 1) := by decide +kernel
theorem dX1_liesOn_22 : decode cX1_liesOn 22 = .ok (.aload_n 0, 1) := by decide +kernel
theorem dX1_liesOn_23 : decode cX1_liesOn 23 = .ok (.getfield 15, 3) := by decide +kernel
theorem dX1_liesOn_26 : decode cX1_liesOn 26 = .ok (.iload_n 3, 1) := by decide +kernel
theorem dX1_liesOn_27 : decode cX1_liesOn 27 = .ok (.iaload, 1) := by decide +kernel
theorem dX1_liesOn_28 : decode cX1_liesOn 28 = .ok (.invokestatic 93, 3) := by decide +kernel
theorem dX1_liesOn_31 : decode cX1_liesOn 31 = .ok (.if_icmp .lt 79, 3) := by decide +kernel
theorem dX1_liesOn_34 : decode cX1_liesOn 34 = .ok (.aload_n 0, 1) := by decide +kernel
theorem dX1_liesOn_35 : decode cX1_liesOn 35 = .ok (.getfield 15, 3) := by decide +kernel
theorem dX1_liesOn_38 : decode cX1_liesOn 38 = .ok (.iload_n 1, 1) := by decide +kernel
theorem dX1_liesOn_39 : decode cX1_liesOn 39 = .ok (.iaload, 1) := by decide +kernel
theorem dX1_liesOn_40 : decode cX1_liesOn 40 = .ok (.aload_n 0, 1) := by decide +kernel
theorem dX1_liesOn_41 : decode cX1_liesOn 41 = .ok (.getfield 15, 3) := by decide +kernel
theorem dX1_liesOn_44 : decode cX1_liesOn 44 = .ok (.iload_n 2, 1) := by decide +kernel
theorem dX1_liesOn_45 : decode cX1_liesOn 45 = .ok (.iaload, 1) := by decide +kernel
theorem dX1_liesOn_46 : decode cX1_liesOn 46 = .ok (.aload_n 0, 1) := by decide +kernel
theorem dX1_liesOn_47 : decode cX1_liesOn 47 = .ok (.getfield 15, 3) := by decide +kernel
theorem dX1_liesOn_50 : decode cX1_liesOn 50 = .ok (.iload_n 3, 1) := by decide +kernel
theorem dX1_liesOn_51 : decode cX1_liesOn 51 = .ok (.iaload, 1) := by decide +kernel
theorem dX1_liesOn_52 : decode cX1_liesOn 52 = .ok (.invokestatic 96, 3) := by decide +kernel
theorem dX1_liesOn_55 : decode cX1_liesOn 55 = .ok (.if_icmp .gt 55, 3) := by decide +kernel
theorem dX1_liesOn_58 : decode cX1_liesOn 58 = .ok (.aload_n 0, 1) := by decide +kernel
theorem dX1_liesOn_59 : decode cX1_liesOn 59 = .ok (.getfield 19, 3) := by decide +kernel
theorem dX1_liesOn_62 : decode cX1_liesOn 62 = .ok (.iload_n 1, 1) := by decide +kernel
theorem dX1_liesOn_63 : decode cX1_liesOn 63 = .ok (.iaload, 1) := by decide +kernel
theorem dX1_liesOn_64 : decode cX1_liesOn 64 = .ok (.aload_n 0, 1) := by decide +kernel
theorem dX1_liesOn_65 : decode cX1_liesOn 65 = .ok (.getfield 19, 3) := by decide +kernel
theorem dX1_liesOn_68 : decode cX1_liesOn 68 = .ok (.iload_n 2, 1) := by decide +kernel
theorem dX1_liesOn_69 : decode cX1_liesOn 69 = .ok (.iaload, 1) := by decide +kernel
theorem dX1_liesOn_70 : decode cX1_liesOn 70 = .ok (.aload_n 0, 1) := by decide +kernel
theorem dX1_liesOn_71 : decode cX1_liesOn 71 = .ok (.getfield 19, 3) := by decide +kernel
theorem dX1_liesOn_74 : decode cX1_liesOn 74 = .ok (.iload_n 3, 1) := by decide +kernel
theorem dX1_liesOn_75 : decode cX1_liesOn 75 = .ok (.iaload, 1) := by decide +kernel
theorem dX1_liesOn_76 : decode cX1_liesOn 76 = .ok (.invokestatic 93, 3) := by decide +kernel
theorem dX1_liesOn_79 : decode cX1_liesOn 79 = .ok (.if_icmp .lt 31, 3) := by decide +kernel
theorem dX1_liesOn_82 : decode cX1_liesOn 82 = .ok (.aload_n 0, 1) := by decide +kernel
theorem dX1_liesOn_83 : decode cX1_liesOn 83 = .ok (.getfield 19, 3) := by decide +kernel
theorem dX1_liesOn_86 : decode cX1_liesOn 86 = .ok (.iload_n 1, 1) := by decide +kernel
theorem dX1_liesOn_87 : decode cX1_liesOn 87 = .ok (.iaload, 1) := by decide +kernel
theorem dX1_liesOn_88 : decode cX1_liesOn 88 = .ok (.aload_n 0, 1) := by decide +kernel
theorem dX1_liesOn_89 : decode cX1_liesOn 89 = .ok (.getfield 19, 3) := by decide +kernel
theorem dX1_liesOn_92 : decode cX1_liesOn 92 = .ok (.iload_n 2, 1) := by decide +kernel
theorem dX1_liesOn_93 : decode cX1_liesOn 93 = .ok (.iaload, 1) := by decide +kernel
theorem dX1_liesOn_94 : decode cX1_liesOn 94 = .ok (.aload_n 0, 1) := by decide +kernel
theorem dX1_liesOn_95 : decode cX1_liesOn 95 = .ok (.getfield 19, 3) := by decide +kernel
theorem dX1_liesOn_98 : decode cX1_liesOn 98 = .ok (.iload_n 3, 1) := by decide +kernel
theorem dX1_liesOn_99 : decode cX1_liesOn 99 = .ok (.iaload, 1) := by decide +kernel
theorem dX1_liesOn_100 : decode cX1_liesOn 100 = .ok (.invokestatic 96, 3) := by decide +kernel
theorem dX1_liesOn_103 : decode cX1_liesOn 103 = .ok (.if_icmp .gt 7, 3) := by decide +kernel
theorem dX1_liesOn_106 : decode cX1_liesOn 106 = .ok (.iconst 1, 1) := by decide +kernel
theorem dX1_liesOn_107 : decode cX1_liesOn 107 = .ok (.goto 4, 3) := by decide +kernel
theorem dX1_liesOn_110 : decode cX1_liesOn 110 = .ok (.iconst 0, 1) := by decide +kernel
theorem dX1_liesOn_111 : decode cX1_liesOn 111 = .ok (.ireturn, 1) := by decide +kernel
theorem dX1_crossing_0 : decode cX1_crossing 0 = .ok (.aload_n 0, 1) := by decide +kernel
theorem dX1_crossing_1 : decode cX1_crossing 1 = .ok (.getfield 19, 3) := by decide +kernel
theorem dX1_crossing_4 : decode cX1_crossing 4 = .ok (.iload_n 2, 1) := by decide +kernel
theorem dX1_crossing_5 : decode cX1_crossing 5 = .ok (.iaload, 1) := by decide +kernel
theorem dX1_crossing_6 : decode cX1_crossing 6 = .ok (.aload_n 0, 1) := by decide +kernel
theorem dX1_crossing_7 : decode cX1_crossing 7 = .ok (.getfield 19, 3) := by decide +kernel
theorem dX1_crossing_10 : decode cX1_crossing 10 = .ok (.iload_n 1, 1) := by decide +kernel
theorem dX1_crossing_11 : decode cX1_crossing 11 = .ok (.iaload, 1) := by decide +kernel
theorem dX1_crossing_12 : decode cX1_crossing 12 = .ok (.if_icmp .gt 30, 3) := by decide +kernel
theorem dX1_crossing_15 : decode cX1_crossing 15 = .ok (.aload_n 0, 1) := by decide +kernel
theorem dX1_crossing_16 : decode cX1_crossing 16 = .ok (.getfield 19, 3) := by decide +kernel
theorem dX1_crossing_19 : decode cX1_crossing 19 = .ok (.iload_n 3, 1) := by decide +kernel
theorem dX1_crossing_20 : decode cX1_crossing 20 = .ok (.iaload, 1) := by decide +kernel
theorem dX1_crossing_21 : decode cX1_crossing 21 = .ok (.aload_n 0, 1) := by decide +kernel
theorem dX1_crossing_22 : decode cX1_crossing 22 = .ok (.getfield 19, 3) := by decide +kernel
theorem dX1_crossing_25 : decode cX1_crossing 25 = .ok (.iload_n 1, 1) := by decide +kernel
theorem dX1_crossing_26 : decode cX1_crossing 26 = .ok (.iaload, 1) := by decide +kernel
theorem dX1_crossing_27 : decode cX1_crossing 27 = .ok (.if_icmp .le 15, 3) := by decide +kernel
theorem dX1_crossing_30 : decode cX1_crossing 30 = .ok (.aload_n 0, 1) := by decide +kernel
theorem dX1_crossing_31 : decode cX1_crossing 31 = .ok (.iload_n 1, 1) := by decide +kernel
theorem dX1_crossing_32 : decode cX1_crossing 32 = .ok (.iload_n 2, 1) := by decide +kernel
theorem dX1_crossing_33 : decode cX1_crossing 33 = .ok (.iload_n 3, 1) := by decide +kernel
theorem dX1_crossing_34 : decode cX1_crossing 34 = .ok (.invokevirtual 110, 3) := by decide +kernel
theorem dX1_crossing_37 : decode cX1_crossing 37 = .ok (.ifCond .le 5, 3) := by decide +kernel
theorem dX1_crossing_40 : decode cX1_crossing 40 = .ok (.iconst 1, 1) := by decide +kernel
theorem dX1_crossing_41 : decode cX1_crossing 41 = .ok (.ireturn, 1) := by decide +kernel
theorem dX1_crossing_42 : decode cX1_crossing 42 = .ok (.aload_n 0, 1) := by decide +kernel
theorem dX1_crossing_43 : decode cX1_crossing 43 = .ok (.getfield 19, 3) := by decide +kernel
theorem dX1_crossing_46 : decode cX1_crossing 46 = .ok (.iload_n 2, 1) := by decide +kernel
theorem dX1_crossing_47 : decode cX1_crossing 47 = .ok (.iaload, 1) := by decide +kernel
theorem dX1_crossing_48 : decode cX1_crossing 48 = .ok (.aload_n 0, 1) := by decide +kernel
theorem dX1_crossing_49 : decode cX1_crossing 49 = .ok (.getfield 19, 3) := by decide +kernel
theorem dX1_crossing_52 : decode cX1_crossing 52 = .ok (.iload_n 1, 1) := by decide +kernel
theorem dX1_crossing_53 : decode cX1_crossing 53 = .ok (.iaload, 1) := by decide +kernel
theorem dX1_crossing_54 : decode cX1_crossing 54 = .ok (.if_icmp .le 30, 3) := by decide +kernel
theorem dX1_crossing_57 : decode cX1_crossing 57 = .ok (.aload_n 0, 1) := by decide +kernel
theorem dX1_crossing_58 : decode cX1_crossing 58 = .ok (.getfield 19, 3) := by decide +kernel
theorem dX1_crossing_61 : decode cX1_crossing 61 = .ok (.iload_n 3, 1) := by decide +kernel
theorem dX1_crossing_62 : decode cX1_crossing 62 = .ok (.iaload, 1) := by decide +kernel
theorem dX1_crossing_63 : decode cX1_crossing 63 = .ok (.aload_n 0, 1) := by decide +kernel
theorem dX1_crossing_64 : decode cX1_crossing 64 = .ok (.getfield 19, 3) := by decide +kernel
theorem dX1_crossing_67 : decode cX1_crossing 67 = .ok (.iload_n 1, 1) := by decide +kernel
theorem dX1_crossing_68 : decode cX1_crossing 68 = .ok (.iaload, 1) := by decide +kernel
theorem dX1_crossing_69 : decode cX1_crossing 69 = .ok (.if_icmp .gt 15, 3) := by decide +kernel
theorem dX1_crossing_72 : decode cX1_crossing 72 = .ok (.aload_n 0, 1) := by decide +kernel
theorem dX1_crossing_73 : decode cX1_crossing 73 = .ok (.iload_n 1, 1) := by decide +kernel
theorem dX1_crossing_74 : decode cX1_crossing 74 = .ok (.iload_n 2, 1) := by decide +kernel
theorem dX1_crossing_75 : decode cX1_crossing 75 = .ok (.iload_n 3, 1) := by decide +kernel
theorem dX1_crossing_76 : decode cX1_crossing 76 = .ok (.invokevirtual 110, 3) := by decide +kernel
theorem dX1_crossing_79 : decode cX1_crossing 79 = .ok (.ifCond .ge 5, 3) := by decide +kernel
theorem dX1_crossing_82 : decode cX1_crossing 82 = .ok (.iconst (-1), 1) := by decide +kernel
theorem dX1_crossing_83 : decode cX1_crossing 83 = .ok (.ireturn, 1) := by decide +kernel
theorem dX1_crossing_84 : decode cX1_crossing 84 = .ok (.iconst 0, 1) := by decide +kernel
theorem dX1_crossing_85 : decode cX1_crossing 85 = .ok (.ireturn, 1) := by decide +kernel
theorem dX1_side_0 : decode cX1_side 0 = .ok (.aload_n 0, 1) := by decide +kernel
theorem dX1_side_1 : decode cX1_side 1 = .ok (.getfield 15, 3) := by decide +kernel
theorem dX1_side_4 : decode cX1_side 4 = .ok (.iload_n 3, 1) := by decide +kernel
theorem dX1_side_5 : decode cX1_side 5 = .ok (.iaload, 1) := by decide +kernel
theorem dX1_side_6 : decode cX1_side 6 = .ok (.aload_n 0, 1) := by decide +kernel
theorem dX1_side_7 : decode cX1_side 7 = .ok (.getfield 15, 3) := by decide +kernel
theorem dX1_side_10 : decode cX1_side 10 = .ok (.iload_n 2, 1) := by decide +kernel
theorem dX1_side_11 : decode cX1_side 11 = .ok (.iaload, 1) := by decide +kernel
theorem dX1_side_12 : decode cX1_side 12 = .ok (.isub, 1) := by decide +kernel
theorem dX1_side_13 : decode cX1_side 13 = .ok (.aload_n 0, 1) := by decide +kernel
theorem dX1_side_14 : decode cX1_side 14 = .ok (.getfield 19, 3) := by decide +kernel
theorem dX1_side_17 : decode cX1_side 17 = .ok (.iload_n 1, 1) := by decide +kernel
theorem dX1_side_18 : decode cX1_side 18 = .ok (.iaload, 1) := by decide +kernel
theorem dX1_side_19 : decode cX1_side 19 = .ok (.aload_n 0, 1) := by decide +kernel
theorem dX1_side_20 : decode cX1_side 20 = .ok (.getfield 19, 3) := by decide +kernel
theorem dX1_side_23 : decode cX1_side 23 = .ok (.iload_n 2, 1) := by decide +kernel
theorem dX1_side_24 : decode cX1_side 24 = .ok (.iaload, 1) := by decide +kernel
theorem dX1_side_25 : decode cX1_side 25 = .ok (.isub, 1) := by decide +kernel
theorem dX1_side_26 : decode cX1_side 26 = .ok (.imul, 1) := by decide +kernel
theorem dX1_side_27 : decode cX1_side 27 = .ok (.aload_n 0, 1) := by decide +kernel
theorem dX1_side_28 : decode cX1_side 28 = .ok (.getfield 15, 3) := by decide +kernel
theorem dX1_side_31 : decode cX1_side 31 = .ok (.iload_n 1, 1) := by decide +kernel
theorem dX1_side_32 : decode cX1_side 32 = .ok (.iaload, 1) := by decide +kernel
theorem dX1_side_33 : decode cX1_side 33 = .ok (.aload_n 0, 1) := by decide +kernel
theorem dX1_side_34 : decode cX1_side 34 = .ok (.getfield 15, 3) := by decide +kernel
theorem dX1_side_37 : decode cX1_side 37 = .ok (.iload_n 2, 1) := by decide +kernel
theorem dX1_side_38 : decode cX1_side 38 = .ok (.iaload, 1) := by decide +kernel
theorem dX1_side_39 : decode cX1_side 39 = .ok (.isub, 1) := by decide +kernel
theorem dX1_side_40 : decode cX1_side 40 = .ok (.aload_n 0, 1) := by decide +kernel
theorem dX1_side_41 : decode cX1_side 41 = .ok (.getfield 19, 3) := by decide +kernel
theorem dX1_side_44 : decode cX1_side 44 = .ok (.iload_n 3, 1) := by decide +kernel
theorem dX1_side_45 : decode cX1_side 45 = .ok (.iaload, 1) := by decide +kernel
theorem dX1_side_46 : decode cX1_side 46 = .ok (.aload_n 0, 1) := by decide +kernel
theorem dX1_side_47 : decode cX1_side 47 = .ok (.getfield 19, 3) := by decide +kernel
theorem dX1_side_50 : decode cX1_side 50 = .ok (.iload_n 2, 1) := by decide +kernel
theorem dX1_side_51 : decode cX1_side 51 = .ok (.iaload, 1) := by decide +kernel
theorem dX1_side_52 : decode cX1_side 52 = .ok (.isub, 1) := by decide +kernel
theorem dX1_side_53 : decode cX1_side 53 = .ok (.imul, 1) := by decide +kernel
theorem dX1_side_54 : decode cX1_side 54 = .ok (.isub, 1) := by decide +kernel
theorem dX1_side_55 : decode cX1_side 55 = .ok (.ireturn, 1) := by decide +kernel
theorem dX1_cutsAt_0 : decode cX1_cutsAt 0 = .ok (.iconst 0, 1) := by decide +kernel
theorem dX1_cutsAt_1 : decode cX1_cutsAt 1 = .ok (.istore_n 3, 1) := by decide +kernel
theorem dX1_cutsAt_2 : decode cX1_cutsAt 2 = .ok (.iconst 0, 1) := by decide +kernel
theorem dX1_cutsAt_3 : decode cX1_cutsAt 3 = .ok (.istore 4, 2) := by decide +kernel
theorem dX1_cutsAt_5 : decode cX1_cutsAt 5 = .ok (.iload 4, 2) := by decide +kernel
theorem dX1_cutsAt_7 : decode cX1_cutsAt 7 = .ok (.aload_n 0, 1) := by decide +kernel
theorem dX1_cutsAt_8 : decode cX1_cutsAt 8 = .ok (.getfield 25, 3) := by decide +kernel
theorem dX1_cutsAt_11 : decode cX1_cutsAt 11 = .ok (.if_icmp .ge 43, 3) := by decide +kernel
theorem dX1_cutsAt_14 : decode cX1_cutsAt 14 = .ok (.iload_n 2, 1) := by decide +kernel
theorem dX1_cutsAt_15 : decode cX1_cutsAt 15 = .ok (.iload 4, 2) := by decide +kernel
theorem dX1_cutsAt_17 : decode cX1_cutsAt 17 = .ok (.invokestatic 73, 3) := by decide +kernel
theorem dX1_cutsAt_20 : decode cX1_cutsAt 20 = .ok (.ifCond .eq 28, 3) := by decide +kernel
theorem dX1_cutsAt_23 : decode cX1_cutsAt 23 = .ok (.aload_n 0, 1) := by decide +kernel
theorem dX1_cutsAt_24 : decode cX1_cutsAt 24 = .ok (.getfield 28, 3) := by decide +kernel
theorem dX1_cutsAt_27 : decode cX1_cutsAt 27 = .ok (.iload 4, 2) := by decide +kernel
theorem dX1_cutsAt_29 : decode cX1_cutsAt 29 = .ok (.iaload, 1) := by decide +kernel
theorem dX1_cutsAt_30 : decode cX1_cutsAt 30 = .ok (.iload_n 1, 1) := by decide +kernel
theorem dX1_cutsAt_31 : decode cX1_cutsAt 31 = .ok (.if_icmp .eq 14, 3) := by decide +kernel
theorem dX1_cutsAt_34 : decode cX1_cutsAt 34 = .ok (.aload_n 0, 1) := by decide +kernel
theorem dX1_cutsAt_35 : decode cX1_cutsAt 35 = .ok (.getfield 31, 3) := by decide +kernel
theorem dX1_cutsAt_38 : decode cX1_cutsAt 38 = .ok (.iload 4, 2) := by decide +kernel
theorem dX1_cutsAt_40 : decode cX1_cutsAt 40 = .ok (.iaload, 1) := by decide +kernel
theorem dX1_cutsAt_41 : decode cX1_cutsAt 41 = .ok (.iload_n 1, 1) := by decide +kernel
theorem dX1_cutsAt_42 : decode cX1_cutsAt 42 = .ok (.if_icmp .ne 6, 3) := by decide +kernel
theorem dX1_cutsAt_45 : decode cX1_cutsAt 45 = .ok (.iinc 3 1, 3) := by decide +kernel
theorem dX1_cutsAt_48 : decode cX1_cutsAt 48 = .ok (.iinc 4 1, 3) := by decide +kernel
theorem dX1_cutsAt_51 : decode cX1_cutsAt 51 = .ok (.goto (-46), 3) := by decide +kernel
theorem dX1_cutsAt_54 : decode cX1_cutsAt 54 = .ok (.iload_n 3, 1) := by decide +kernel
theorem dX1_cutsAt_55 : decode cX1_cutsAt 55 = .ok (.ireturn, 1) := by decide +kernel
theorem dX2_init_0 : decode cX2_init 0 = .ok (.aload_n 0, 1) := by decide +kernel
theorem dX2_init_1 : decode cX2_init 1 = .ok (.invokespecial 3, 3) := by decide +kernel
theorem dX2_init_4 : decode cX2_init 4 = .ok (.aload_n 0, 1) := by decide +kernel
theorem dX2_init_5 : decode cX2_init 5 = .ok (.iconst 0, 1) := by decide +kernel
theorem dX2_init_6 : decode cX2_init 6 = .ok (.putfield 9, 3) := by decide +kernel
theorem dX2_init_9 : decode cX2_init 9 = .ok (.aload_n 0, 1) := by decide +kernel
theorem dX2_init_10 : decode cX2_init 10 = .ok (.bipush (-9), 2) := by decide +kernel
theorem dX2_init_12 : decode cX2_init 12 = .ok (.putfield 15, 3) := by decide +kernel
theorem dX2_init_15 : decode cX2_init 15 = .ok (.aload_n 0, 1) := by decide +kernel
theorem dX2_init_16 : decode cX2_init 16 = .ok (.iconst 0, 1) := by decide +kernel
theorem dX2_init_17 : decode cX2_init 17 = .ok (.putfield 18, 3) := by decide +kernel
theorem dX2_init_20 : decode cX2_init 20 = .ok (.aload_n 0, 1) := by decide +kernel
theorem dX2_init_21 : decode cX2_init 21 = .ok (.iconst 0, 1) := by decide +kernel
theorem dX2_init_22 : decode cX2_init 22 = .ok (.putfield 21, 3) := by decide +kernel
theorem dX2_init_25 : decode cX2_init 25 = .ok (.aload_n 0, 1) := by decide +kernel
theorem dX2_init_26 : decode cX2_init 26 = .ok (.bipush 9, 2) := by decide +kernel
theorem dX2_init_28 : decode cX2_init 28 = .ok (.newarray .int, 2) := by decide +kernel
theorem dX2_init_30 : decode cX2_init 30 = .ok (.putfield 25, 3) := by decide +kernel
theorem dX2_init_33 : decode cX2_init 33 = .ok (.return_, 1) := by decide +kernel
theorem dX2_beginOn_0 : decode cX2_beginOn 0 = .ok (.aload_n 0, 1) := by decide +kernel
theorem dX2_beginOn_1 : decode cX2_beginOn 1 = .ok (.iconst 1, 1) := by decide +kernel
theorem dX2_beginOn_2 : decode cX2_beginOn 2 = .ok (.aload_n 1, 1) := by decide +kernel
theorem dX2_beginOn_3 : decode cX2_beginOn 3 = .ok (.getfield 29, 3) := by decide +kernel
theorem dX2_beginOn_6 : decode cX2_beginOn 6 = .ok (.ishl, 1) := by decide +kernel
theorem dX2_beginOn_7 : decode cX2_beginOn 7 = .ok (.iconst 1, 1) := by decide +kernel
theorem dX2_beginOn_8 : decode cX2_beginOn 8 = .ok (.isub, 1) := by decide +kernel
theorem dX2_beginOn_9 : decode cX2_beginOn 9 = .ok (.putfield 9, 3) := by decide +kernel
theorem dX2_beginOn_12 : decode cX2_beginOn 12 = .ok (.aload_n 0, 1) := by decide +kernel
theorem dX2_beginOn_13 : decode cX2_beginOn 13 = .ok (.aload_n 1, 1) := by decide +kernel
theorem dX2_beginOn_14 : decode cX2_beginOn 14 = .ok (.getfield 34, 3) := by decide +kernel
theorem dX2_beginOn_17 : decode cX2_beginOn 17 = .ok (.ifCond .le 7, 3) := by decide +kernel
theorem dX2_beginOn_20 : decode cX2_beginOn 20 = .ok (.iconst 0, 1) := by decide +kernel
theorem dX2_beginOn_21 : decode cX2_beginOn 21 = .ok (.goto 5, 3) := by decide +kernel
theorem dX2_beginOn_24 : decode cX2_beginOn 24 = .ok (.bipush (-9), 2) := by decide +kernel
theorem dX2_beginOn_26 : decode cX2_beginOn 26 = .ok (.putfield 15, 3) := by decide +kernel
theorem dX2_beginOn_29 : decode cX2_beginOn 29 = .ok (.aload_n 0, 1) := by decide +kernel
theorem dX2_beginOn_30 : decode cX2_beginOn 30 = .ok (.iconst 0, 1) := by decide +kernel
theorem dX2_beginOn_31 : decode cX2_beginOn 31 = .ok (.putfield 18, 3) := by decide +kernel
theorem dX2_beginOn_34 : decode cX2_beginOn 34 = .ok (.aload_n 0, 1) := by decide +kernel
theorem dX2_beginOn_35 : decode cX2_beginOn 35 = .ok (.iconst 0, 1) := by decide +kernel
theorem dX2_beginOn_36 : decode cX2_beginOn 36 = .ok (.putfield 21, 3) := by decide +kernel
theorem dX2_beginOn_39 : decode cX2_beginOn 39 = .ok (.aload_n 0, 1) := by decide +kernel
theorem dX2_beginOn_40 : decode cX2_beginOn 40 = .ok (.getfield 25, 3) := by decide +kernel
theorem dX2_beginOn_43 : decode cX2_beginOn 43 = .ok (.bipush (-9), 2) := by decide +kernel
theorem dX2_beginOn_45 : decode cX2_beginOn 45 = .ok (.invokestatic 37, 3) := by decide +kernel
theorem dX2_beginOn_48 : decode cX2_beginOn 48 = .ok (.return_, 1) := by decide +kernel
theorem dX2_become_0 : decode cX2_become 0 = .ok (.aload_n 0, 1) := by decide +kernel
theorem dX2_become_1 : decode cX2_become 1 = .ok (.aload_n 1, 1) := by decide +kernel
theorem dX2_become_2 : decode cX2_become 2 = .ok (.getfield 9, 3) := by decide +kernel
theorem dX2_become_5 : decode cX2_become 5 = .ok (.putfield 9, 3) := by decide +kernel
theorem dX2_become_8 : decode cX2_become 8 = .ok (.aload_n 0, 1) := by decide +kernel
theorem dX2_become_9 : decode cX2_become 9 = .ok (.aload_n 1, 1) := by decide +kernel
theorem dX2_become_10 : decode cX2_become 10 = .ok (.getfield 15, 3) := by decide +kernel
theorem dX2_become_13 : decode cX2_become 13 = .ok (.putfield 15, 3) := by decide +kernel
theorem dX2_become_16 : decode cX2_become 16 = .ok (.aload_n 0, 1) := by decide +kernel
theorem dX2_become_17 : decode cX2_become 17 = .ok (.aload_n 1, 1) := by decide +kernel
theorem dX2_become_18 : decode cX2_become 18 = .ok (.getfield 18, 3) := by decide +kernel
theorem dX2_become_21 : decode cX2_become 21 = .ok (.putfield 18, 3) := by decide +kernel
theorem dX2_become_24 : decode cX2_become 24 = .ok (.aload_n 0, 1) := by decide +kernel
theorem dX2_become_25 : decode cX2_become 25 = .ok (.aload_n 1, 1) := by decide +kernel
theorem dX2_become_26 : decode cX2_become 26 = .ok (.getfield 21, 3) := by decide +kernel
theorem dX2_become_29 : decode cX2_become 29 = .ok (.putfield 21, 3) := by decide +kernel
theorem dX2_become_32 : decode cX2_become 32 = .ok (.aload_n 1, 1) := by decide +kernel
theorem dX2_become_33 : decode cX2_become 33 = .ok (.getfield 25, 3) := by decide +kernel
theorem dX2_become_36 : decode cX2_become 36 = .ok (.iconst 0, 1) := by decide +kernel
theorem dX2_become_37 : decode cX2_become 37 = .ok (.aload_n 0, 1) := by decide +kernel
theorem dX2_become_38 : decode cX2_become 38 = .ok (.getfield 25, 3) := by decide +kernel
theorem dX2_become_41 : decode cX2_become 41 = .ok (.iconst 0, 1) := by decide +kernel
theorem dX2_become_42 : decode cX2_become 42 = .ok (.bipush 9, 2) := by decide +kernel
theorem dX2_become_44 : decode cX2_become 44 = .ok (.invokestatic 43, 3) := by decide +kernel
theorem dX2_become_47 : decode cX2_become 47 = .ok (.return_, 1) := by decide +kernel
theorem dX2_move_0 : decode cX2_move 0 = .ok (.aload_n 0, 1) := by decide +kernel
theorem dX2_move_1 : decode cX2_move 1 = .ok (.dup, 1) := by decide +kernel
theorem dX2_move_2 : decode cX2_move 2 = .ok (.getfield 18, 3) := by decide +kernel
theorem dX2_move_5 : decode cX2_move 5 = .ok (.aload_n 2, 1) := by decide +kernel
theorem dX2_move_6 : decode cX2_move 6 = .ok (.aload_n 0, 1) := by decide +kernel
theorem dX2_move_7 : decode cX2_move 7 = .ok (.getfield 15, 3) := by decide +kernel
theorem dX2_move_10 : decode cX2_move 10 = .ok (.iload_n 1, 1) := by decide +kernel
theorem dX2_move_11 : decode cX2_move 11 = .ok (.invokevirtual 49, 3) := by decide +kernel
theorem dX2_move_14 : decode cX2_move 14 = .ok (.iadd, 1) := by decide +kernel
theorem dX2_move_15 : decode cX2_move 15 = .ok (.putfield 18, 3) := by decide +kernel
theorem dX2_move_18 : decode cX2_move 18 = .ok (.aload_n 0, 1) := by decide +kernel
theorem dX2_move_19 : decode cX2_move 19 = .ok (.iload_n 1, 1) := by decide +kernel
theorem dX2_move_20 : decode cX2_move 20 = .ok (.putfield 15, 3) := by decide +kernel
theorem dX2_move_23 : decode cX2_move 23 = .ok (.aload_n 0, 1) := by decide +kernel
theorem dX2_move_24 : decode cX2_move 24 = .ok (.iconst 0, 1) := by decide +kernel
theorem dX2_move_25 : decode cX2_move 25 = .ok (.putfield 21, 3) := by decide +kernel
theorem dX2_move_28 : decode cX2_move 28 = .ok (.return_, 1) := by decide +kernel
theorem dX2_burn_0 : decode cX2_burn 0 = .ok (.aload_n 3, 1) := by decide +kernel
theorem dX2_burn_1 : decode cX2_burn 1 = .ok (.aload_n 0, 1) := by decide +kernel
theorem dX2_burn_2 : decode cX2_burn 2 = .ok (.getfield 15, 3) := by decide +kernel
theorem dX2_burn_5 : decode cX2_burn 5 = .ok (.invokevirtual 53, 3) := by decide +kernel
theorem dX2_burn_8 : decode cX2_burn 8 = .ok (.ifCond .eq 11, 3) := by decide +kernel
theorem dX2_burn_11 : decode cX2_burn 11 = .ok (.aload_n 3, 1) := by decide +kernel
theorem dX2_burn_12 : decode cX2_burn 12 = .ok (.iload_n 2, 1) := by decide +kernel
theorem dX2_burn_13 : decode cX2_burn 13 = .ok (.invokevirtual 53, 3) := by decide +kernel
theorem dX2_burn_16 : decode cX2_burn 16 = .ok (.ifCond .ne 4, 3) := by decide +kernel
theorem dX2_burn_19 : decode cX2_burn 19 = .ok (.return_, 1) := by decide +kernel
theorem dX2_burn_20 : decode cX2_burn 20 = .ok (.aload_n 0, 1) := by decide +kernel
theorem dX2_burn_21 : decode cX2_burn 21 = .ok (.iload_n 2, 1) := by decide +kernel
theorem dX2_burn_22 : decode cX2_burn 22 = .ok (.aload_n 3, 1) := by decide +kernel
theorem dX2_burn_23 : decode cX2_burn 23 = .ok (.invokevirtual 57, 3) := by decide +kernel
theorem dX2_burn_26 : decode cX2_burn 26 = .ok (.istore 4, 2) := by decide +kernel
theorem dX2_burn_28 : decode cX2_burn 28 = .ok (.aload_n 0, 1) := by decide +kernel
theorem dX2_burn_29 : decode cX2_burn 29 = .ok (.getfield 25, 3) := by decide +kernel
theorem dX2_burn_32 : decode cX2_burn 32 = .ok (.aload_n 0, 1) := by decide +kernel
theorem dX2_burn_33 : decode cX2_burn 33 = .ok (.getfield 15, 3) := by decide +kernel
theorem dX2_burn_36 : decode cX2_burn 36 = .ok (.iload 4, 2) := by decide +kernel
theorem dX2_burn_38 : decode cX2_burn 38 = .ok (.iastore, 1) := by decide +kernel
theorem dX2_burn_39 : decode cX2_burn 39 = .ok (.aload_n 0, 1) := by decide +kernel
theorem dX2_burn_40 : decode cX2_burn 40 = .ok (.iload 4, 2) := by decide +kernel
theorem dX2_burn_42 : decode cX2_burn 42 = .ok (.aload_n 3, 1) := by decide +kernel
theorem dX2_burn_43 : decode cX2_burn 43 = .ok (.aload_n 0, 1) := by decide +kernel
theorem dX2_burn_44 : decode cX2_burn 44 = .ok (.getfield 15, 3) := by decide +kernel
theorem dX2_burn_47 : decode cX2_burn 47 = .ok (.iload_n 2, 1) := by decide +kernel
theorem dX2_burn_48 : decode cX2_burn 48 = .ok (.invokevirtual 49, 3) := by decide +kernel
theorem dX2_burn_51 : decode cX2_burn 51 = .ok (.iadd, 1) := by decide +kernel
theorem dX2_burn_52 : decode cX2_burn 52 = .ok (.putfield 18, 3) := by decide +kernel
theorem dX2_burn_55 : decode cX2_burn 55 = .ok (.aload_n 0, 1) := by decide +kernel
theorem dX2_burn_56 : decode cX2_burn 56 = .ok (.getfield 25, 3) := by decide +kernel
theorem dX2_burn_59 : decode cX2_burn 59 = .ok (.iload_n 2, 1) := by decide +kernel
theorem dX2_burn_60 : decode cX2_burn 60 = .ok (.aload_n 0, 1) := by decide +kernel
theorem dX2_burn_61 : decode cX2_burn 61 = .ok (.getfield 18, 3) := by decide +kernel
theorem dX2_burn_64 : decode cX2_burn 64 = .ok (.iastore, 1) := by decide +kernel
theorem dX2_burn_65 : decode cX2_burn 65 = .ok (.aload_n 0, 1) := by decide +kernel
theorem dX2_burn_66 : decode cX2_burn 66 = .ok (.dup, 1) := by decide +kernel
theorem dX2_burn_67 : decode cX2_burn 67 = .ok (.getfield 9, 3) := by decide +kernel
theorem dX2_burn_70 : decode cX2_burn 70 = .ok (.iconst 1, 1) := by decide +kernel
theorem dX2_burn_71 : decode cX2_burn 71 = .ok (.iload_n 1, 1) := by decide +kernel
theorem dX2_burn_72 : decode cX2_burn 72 = .ok (.ishl, 1) := by decide +kernel
theorem dX2_burn_73 : decode cX2_burn 73 = .ok (.iconst (-1), 1) := by decide +kernel
theorem dX2_burn_74 : decode cX2_burn 74 = .ok (.ixor, 1) := by decide +kernel
theorem dX2_burn_75 : decode cX2_burn 75 = .ok (.iand, 1) := by decide +kernel
theorem dX2_burn_76 : decode cX2_burn 76 = .ok (.putfield 9, 3) := by decide +kernel
theorem dX2_burn_79 : decode cX2_burn 79 = .ok (.aload_n 0, 1) := by decide +kernel
theorem dX2_burn_80 : decode cX2_burn 80 = .ok (.iload_n 2, 1) := by decide +kernel
theorem dX2_burn_81 : decode cX2_burn 81 = .ok (.putfield 15, 3) := by decide +kernel
theorem dX2_burn_84 : decode cX2_burn 84 = .ok (.aload_n 0, 1) := by decide +kernel
theorem dX2_burn_85 : decode cX2_burn 85 = .ok (.iconst 1, 1) := by decide +kernel
theorem dX2_burn_86 : decode cX2_burn 86 = .ok (.putfield 21, 3) := by decide +kernel
theorem dX2_burn_89 : decode cX2_burn 89 = .ok (.return_, 1) := by decide +kernel
theorem dX2_beginOfBurn_0 : decode cX2_beginOfBurn 0 = .ok (.aload_n 0, 1) := by decide +kernel
theorem dX2_beginOfBurn_1 : decode cX2_beginOfBurn 1 = .ok (.iload_n 1, 1) := by decide +kernel
theorem dX2_beginOfBurn_2 : decode cX2_beginOfBurn 2 = .ok (.aload_n 2, 1) := by decide +kernel
theorem dX2_beginOfBurn_3 : decode cX2_beginOfBurn 3 = .ok (.getfield 61, 3) := by decide +kernel
theorem dX2_beginOfBurn_6 : decode cX2_beginOfBurn 6 = .ok (.invokevirtual 64, 3) := by decide +kernel
theorem dX2_beginOfBurn_9 : decode cX2_beginOfBurn 9 = .ok (.aload_n 2, 1) := by decide +kernel
theorem dX2_beginOfBurn_10 : decode cX2_beginOfBurn 10 = .ok (.aload_n 0, 1) := by decide +kernel
theorem dX2_beginOfBurn_11 : decode cX2_beginOfBurn 11 = .ok (.getfield 15, 3) := by decide +kernel
theorem dX2_beginOfBurn_14 : decode cX2_beginOfBurn 14 = .ok (.iload_n 1, 1) := by decide +kernel
theorem dX2_beginOfBurn_15 : decode cX2_beginOfBurn 15 = .ok (.invokevirtual 49, 3) := by decide +kernel
theorem dX2_beginOfBurn_18 : decode cX2_beginOfBurn 18 = .ok (.isub, 1) := by decide +kernel
theorem dX2_beginOfBurn_19 : decode cX2_beginOfBurn 19 = .ok (.istore_n 3, 1) := by decide +kernel
theorem dX2_beginOfBurn_20 : decode cX2_beginOfBurn 20 = .ok (.aload_n 0, 1) := by decide +kernel
theorem dX2_beginOfBurn_21 : decode cX2_beginOfBurn 21 = .ok (.getfield 21, 3) := by decide +kernel
theorem dX2_beginOfBurn_24 : decode cX2_beginOfBurn 24 = .ok (.ifCond .eq 16, 3) := by decide +kernel
theorem dX2_beginOfBurn_27 : decode cX2_beginOfBurn 27 = .ok (.iload_n 3, 1) := by decide +kernel
theorem dX2_beginOfBurn_28 : decode cX2_beginOfBurn 28 = .ok (.aload_n 0, 1) := by decide +kernel
theorem dX2_beginOfBurn_29 : decode cX2_beginOfBurn 29 = .ok (.getfield 18, 3) := by decide +kernel
theorem dX2_beginOfBurn_32 : decode cX2_beginOfBurn 32 = .ok (.if_icmp .gt 8, 3) := by decide +kernel
theorem dX2_beginOfBurn_35 : decode cX2_beginOfBurn 35 = .ok (.aload_n 0, 1) := by decide +kernel
theorem dX2_beginOfBurn_36 : decode cX2_beginOfBurn 36 = .ok (.getfield 18, 3) := by decide +kernel
theorem dX2_beginOfBurn_39 : decode cX2_beginOfBurn 39 = .ok (.ireturn, 1) := by decide +kernel
theorem dX2_beginOfBurn_40 : decode cX2_beginOfBurn 40 = .ok (.aload_n 0, 1) := by decide +kernel
theorem dX2_beginOfBurn_41 : decode cX2_beginOfBurn 41 = .ok (.getfield 18, 3) := by decide +kernel
theorem dX2_beginOfBurn_44 : decode cX2_beginOfBurn 44 = .ok (.iload_n 3, 1) := by decide +kernel
theorem dX2_beginOfBurn_45 : decode cX2_beginOfBurn 45 = .ok (.invokestatic 67, 3) := by decide +kernel
theorem dX2_beginOfBurn_48 : decode cX2_beginOfBurn 48 = .ok (.aload_n 0, 1) := by decide +kernel
theorem dX2_beginOfBurn_49 : decode cX2_beginOfBurn 49 = .ok (.aload_n 0, 1) := by decide +kernel
theorem dX2_beginOfBurn_50 : decode cX2_beginOfBurn 50 = .ok (.getfield 15, 3) := by decide +kernel
theorem dX2_beginOfBurn_53 : decode cX2_beginOfBurn 53 = .ok (.aload_n 2, 1) := by decide +kernel
theorem dX2_beginOfBurn_54 : decode cX2_beginOfBurn 54 = .ok (.getfield 61, 3) := by decide +kernel
theorem dX2_beginOfBurn_57 : decode cX2_beginOfBurn 57 = .ok (.invokevirtual 64, 3) := by decide +kernel
theorem dX2_beginOfBurn_60 : decode cX2_beginOfBurn 60 = .ok (.invokestatic 67, 3) := by decide +kernel
theorem dX2_beginOfBurn_63 : decode cX2_beginOfBurn 63 = .ok (.ireturn, 1) := by decide +kernel
theorem dX2_coolAt_0 : decode cX2_coolAt 0 = .ok (.aload_n 0, 1) := by decide +kernel
theorem dX2_coolAt_1 : decode cX2_coolAt 1 = .ok (.getfield 25, 3) := by decide +kernel
theorem dX2_coolAt_4 : decode cX2_coolAt 4 = .ok (.iload_n 1, 1) := by decide +kernel
theorem dX2_coolAt_5 : decode cX2_coolAt 5 = .ok (.iaload, 1) := by decide +kernel
theorem dX2_coolAt_6 : decode cX2_coolAt 6 = .ok (.bipush (-9), 2) := by decide +kernel
theorem dX2_coolAt_8 : decode cX2_coolAt 8 = .ok (.if_icmp .ne 7, 3) := by decide +kernel
theorem dX2_coolAt_11 : decode cX2_coolAt 11 = .ok (.iconst 0, 1) := by decide +kernel
theorem dX2_coolAt_12 : decode cX2_coolAt 12 = .ok (.goto 11, 3) := by decide +kernel
theorem dX2_coolAt_15 : decode cX2_coolAt 15 = .ok (.aload_n 0, 1) := by decide +kernel
theorem dX2_coolAt_16 : decode cX2_coolAt 16 = .ok (.getfield 25, 3) := by decide +kernel
theorem dX2_coolAt_19 : decode cX2_coolAt 19 = .ok (.iload_n 1, 1) := by decide +kernel
theorem dX2_coolAt_20 : decode cX2_coolAt 20 = .ok (.iaload, 1) := by decide +kernel
theorem dX2_coolAt_21 : decode cX2_coolAt 21 = .ok (.iload_n 2, 1) := by decide +kernel
theorem dX2_coolAt_22 : decode cX2_coolAt 22 = .ok (.iadd, 1) := by decide +kernel
theorem dX2_coolAt_23 : decode cX2_coolAt 23 = .ok (.ireturn, 1) := by decide +kernel
theorem dX2_mayLose_0 : decode cX2_mayLose 0 = .ok (.aload_n 0, 1) := by decide +kernel
theorem dX2_mayLose_1 : decode cX2_mayLose 1 = .ok (.getfield 9, 3) := by decide +kernel
theorem dX2_mayLose_4 : decode cX2_mayLose 4 = .ok (.iconst 1, 1) := by decide +kernel
theorem dX2_mayLose_5 : decode cX2_mayLose 5 = .ok (.iload_n 1, 1) := by decide +kernel
theorem dX2_mayLose_6 : decode cX2_mayLose 6 = .ok (.ishl, 1) := by decide +kernel
theorem dX2_mayLose_7 : decode cX2_mayLose 7 = .ok (.iconst (-1), 1) := by decide +kernel
theorem dX2_mayLose_8 : decode cX2_mayLose 8 = .ok (.ixor, 1) := by decide +kernel
theorem dX2_mayLose_9 : decode cX2_mayLose 9 = .ok (.iand, 1) := by decide +kernel
theorem dX2_mayLose_10 : decode cX2_mayLose 10 = .ok (.istore_n 3, 1) := by decide +kernel
theorem dX2_mayLose_11 : decode cX2_mayLose 11 = .ok (.iconst 0, 1) := by decide +kernel
theorem dX2_mayLose_12 : decode cX2_mayLose 12 = .ok (.istore 4, 2) := by decide +kernel
theorem dX2_mayLose_14 : decode cX2_mayLose 14 = .ok (.iload 4, 2) := by decide +kernel
theorem dX2_mayLose_16 : decode cX2_mayLose 16 = .ok (.aload_n 2, 1) := by decide +kernel
theorem dX2_mayLose_17 : decode cX2_mayLose 17 = .ok (.getfield 72, 3) := by decide +kernel
theorem dX2_mayLose_20 : decode cX2_mayLose 20 = .ok (.if_icmp .ge 71, 3) := by decide +kernel
theorem dX2_mayLose_23 : decode cX2_mayLose 23 = .ok (.aload_n 2, 1) := by decide +kernel
theorem dX2_mayLose_24 : decode cX2_mayLose 24 = .ok (.getfield 75, 3) := by decide +kernel
theorem dX2_mayLose_27 : decode cX2_mayLose 27 = .ok (.iload 4, 2) := by decide +kernel
theorem dX2_mayLose_29 : decode cX2_mayLose 29 = .ok (.iaload, 1) := by decide +kernel
theorem dX2_mayLose_30 : decode cX2_mayLose 30 = .ok (.iload_n 3, 1) := by decide +kernel
theorem dX2_mayLose_31 : decode cX2_mayLose 31 = .ok (.iand, 1) := by decide +kernel
theorem dX2_mayLose_32 : decode cX2_mayLose 32 = .ok (.ifCond .ne 6, 3) := by decide +kernel
theorem dX2_mayLose_35 : decode cX2_mayLose 35 = .ok (.goto 50, 3) := by decide +kernel
theorem dX2_mayLose_38 : decode cX2_mayLose 38 = .ok (.iconst 0, 1) := by decide +kernel
theorem dX2_mayLose_39 : decode cX2_mayLose 39 = .ok (.istore 5, 2) := by decide +kernel
theorem dX2_mayLose_41 : decode cX2_mayLose 41 = .ok (.iload 5, 2) := by decide +kernel
theorem dX2_mayLose_43 : decode cX2_mayLose 43 = .ok (.aload_n 2, 1) := by decide +kernel
theorem dX2_mayLose_44 : decode cX2_mayLose 44 = .ok (.getfield 72, 3) := by decide +kernel
theorem dX2_mayLose_47 : decode cX2_mayLose 47 = .ok (.if_icmp .ge 38, 3) := by decide +kernel
theorem dX2_mayLose_50 : decode cX2_mayLose 50 = .ok (.aload_n 2, 1) := by decide +kernel
theorem dX2_mayLose_51 : decode cX2_mayLose 51 = .ok (.getfield 78, 3) := by decide +kernel
theorem dX2_mayLose_54 : decode cX2_mayLose 54 = .ok (.iload 4, 2) := by decide +kernel
theorem dX2_mayLose_56 : decode cX2_mayLose 56 = .ok (.iaload, 1) := by decide +kernel
theorem dX2_mayLose_57 : decode cX2_mayLose 57 = .ok (.iload 5, 2) := by decide +kernel
theorem dX2_mayLose_59 : decode cX2_mayLose 59 = .ok (.invokestatic 81, 3) := by decide +kernel
theorem dX2_mayLose_62 : decode cX2_mayLose 62 = .ok (.ifCond .eq 17, 3) := by decide +kernel
theorem dX2_mayLose_65 : decode cX2_mayLose 65 = .ok (.aload_n 2, 1) := by decide +kernel
theorem dX2_mayLose_66 : decode cX2_mayLose 66 = .ok (.getfield 75, 3) := by decide +kernel
theorem dX2_mayLose_69 : decode cX2_mayLose 69 = .ok (.iload 5, 2) := by decide +kernel
theorem dX2_mayLose_71 : decode cX2_mayLose 71 = .ok (.iaload, 1) := by decide +kernel
theorem dX2_mayLose_72 : decode cX2_mayLose 72 = .ok (.iload_n 3, 1) := by decide +kernel
theorem dX2_mayLose_73 : decode cX2_mayLose 73 = .ok (.iand, 1) := by decide +kernel
theorem dX2_mayLose_74 : decode cX2_mayLose 74 = .ok (.ifCond .ne 5, 3) := by decide +kernel
theorem dX2_mayLose_77 : decode cX2_mayLose 77 = .ok (.iconst 0, 1) := by decide +kernel
theorem dX2_mayLose_78 : decode cX2_mayLose 78 = .ok (.ireturn, 1) := by decide +kernel
theorem dX2_mayLose_79 : decode cX2_mayLose 79 = .ok (.iinc 5 1, 3) := by decide +kernel
theorem dX2_mayLose_82 : decode cX2_mayLose 82 = .ok (.goto (-41), 3) := by decide +kernel
theorem dX2_mayLose_85 : decode cX2_mayLose 85 = .ok (.iinc 4 1, 3) := by decide +kernel
theorem dX2_mayLose_88 : decode cX2_mayLose 88 = .ok (.goto (-74), 3) := by decide +kernel
theorem dX2_mayLose_91 : decode cX2_mayLose 91 = .ok (.iconst 1, 1) := by decide +kernel
theorem dX2_mayLose_92 : decode cX2_mayLose 92 = .ok (.ireturn, 1) := by decide +kernel
theorem dX3_init_0 : decode cX3_init 0 = .ok (.aload_n 0, 1) := by decide +kernel
theorem dX3_init_1 : decode cX3_init 1 = .ok (.invokespecial 3, 3) := by decide +kernel
theorem dX3_init_4 : decode cX3_init 4 = .ok (.aload_n 0, 1) := by decide +kernel
theorem dX3_init_5 : decode cX3_init 5 = .ok (.iconst 0, 1) := by decide +kernel
theorem dX3_init_6 : decode cX3_init 6 = .ok (.putfield 9, 3) := by decide +kernel
theorem dX3_init_9 : decode cX3_init 9 = .ok (.aload_n 0, 1) := by decide +kernel
theorem dX3_init_10 : decode cX3_init 10 = .ok (.iconst 0, 1) := by decide +kernel
theorem dX3_init_11 : decode cX3_init 11 = .ok (.putfield 15, 3) := by decide +kernel
theorem dX3_init_14 : decode cX3_init 14 = .ok (.aload_n 0, 1) := by decide +kernel
theorem dX3_init_15 : decode cX3_init 15 = .ok (.iconst 0, 1) := by decide +kernel
theorem dX3_init_16 : decode cX3_init 16 = .ok (.putfield 18, 3) := by decide +kernel
theorem dX3_init_19 : decode cX3_init 19 = .ok (.aload_n 0, 1) := by decide +kernel
theorem dX3_init_20 : decode cX3_init 20 = .ok (.iconst 0, 1) := by decide +kernel
theorem dX3_init_21 : decode cX3_init 21 = .ok (.putfield 21, 3) := by decide +kernel
theorem dX3_init_24 : decode cX3_init 24 = .ok (.aload_n 0, 1) := by decide +kernel
theorem dX3_init_25 : decode cX3_init 25 = .ok (.iconst 0, 1) := by decide +kernel
theorem dX3_init_26 : decode cX3_init 26 = .ok (.putfield 24, 3) := by decide +kernel
theorem dX3_init_29 : decode cX3_init 29 = .ok (.aload_n 0, 1) := by decide +kernel
theorem dX3_init_30 : decode cX3_init 30 = .ok (.iconst 0, 1) := by decide +kernel
theorem dX3_init_31 : decode cX3_init 31 = .ok (.putfield 27, 3) := by decide +kernel
theorem dX3_init_34 : decode cX3_init 34 = .ok (.aload_n 0, 1) := by decide +kernel
theorem dX3_init_35 : decode cX3_init 35 = .ok (.iconst 0, 1) := by decide +kernel
theorem dX3_init_36 : decode cX3_init 36 = .ok (.putfield 30, 3) := by decide +kernel
theorem dX3_init_39 : decode cX3_init 39 = .ok (.aload_n 0, 1) := by decide +kernel
theorem dX3_init_40 : decode cX3_init 40 = .ok (.iconst 0, 1) := by decide +kernel
theorem dX3_init_41 : decode cX3_init 41 = .ok (.putfield 33, 3) := by decide +kernel
theorem dX3_init_44 : decode cX3_init 44 = .ok (.aload_n 0, 1) := by decide +kernel
theorem dX3_init_45 : decode cX3_init 45 = .ok (.iconst 0, 1) := by decide +kernel
theorem dX3_init_46 : decode cX3_init 46 = .ok (.putfield 36, 3) := by decide +kernel
theorem dX3_init_49 : decode cX3_init 49 = .ok (.return_, 1) := by decide +kernel
theorem dX3_read_0 : decode cX3_read 0 = .ok (.aload_n 0, 1) := by decide +kernel
theorem dX3_read_1 : decode cX3_read 1 = .ok (.iconst 0, 1) := by decide +kernel
theorem dX3_read_2 : decode cX3_read 2 = .ok (.putfield 15, 3) := by decide +kernel
theorem dX3_read_5 : decode cX3_read 5 = .ok (.aload_n 0, 1) := by decide +kernel
theorem dX3_read_6 : decode cX3_read 6 = .ok (.iconst 0, 1) := by decide +kernel
theorem dX3_read_7 : decode cX3_read 7 = .ok (.putfield 24, 3) := by decide +kernel
theorem dX3_read_10 : decode cX3_read 10 = .ok (.aload_n 0, 1) := by decide +kernel
theorem dX3_read_11 : decode cX3_read 11 = .ok (.iconst 0, 1) := by decide +kernel
theorem dX3_read_12 : decode cX3_read 12 = .ok (.putfield 36, 3) := by decide +kernel
theorem dX3_read_15 : decode cX3_read 15 = .ok (.aload_n 3, 1) := by decide +kernel
theorem dX3_read_16 : decode cX3_read 16 = .ok (.invokevirtual 40, 3) := by decide +kernel
theorem dX3_read_19 : decode cX3_read 19 = .ok (.iconst 0, 1) := by decide +kernel
theorem dX3_read_20 : decode cX3_read 20 = .ok (.istore 4, 2) := by decide +kernel
theorem dX3_read_22 : decode cX3_read 22 = .ok (.iload 4, 2) := by decide +kernel
theorem dX3_read_24 : decode cX3_read 24 = .ok (.iload_n 2, 1) := by decide +kernel
theorem dX3_read_25 : decode cX3_read 25 = .ok (.if_icmp .gt 38, 3) := by decide +kernel
theorem dX3_read_28 : decode cX3_read 28 = .ok (.aload_n 0, 1) := by decide +kernel
theorem dX3_read_29 : decode cX3_read 29 = .ok (.aload_n 1, 1) := by decide +kernel
theorem dX3_read_30 : decode cX3_read 30 = .ok (.iload_n 2, 1) := by decide +kernel
theorem dX3_read_31 : decode cX3_read 31 = .ok (.invokevirtual 45, 3) := by decide +kernel
theorem dX3_read_34 : decode cX3_read 34 = .ok (.aload_n 0, 1) := by decide +kernel
theorem dX3_read_35 : decode cX3_read 35 = .ok (.getfield 18, 3) := by decide +kernel
theorem dX3_read_38 : decode cX3_read 38 = .ok (.ifCond .ne 6, 3) := by decide +kernel
theorem dX3_read_41 : decode cX3_read 41 = .ok (.goto 22, 3) := by decide +kernel
theorem dX3_read_44 : decode cX3_read 44 = .ok (.aload_n 0, 1) := by decide +kernel
theorem dX3_read_45 : decode cX3_read 45 = .ok (.aload_n 3, 1) := by decide +kernel
theorem dX3_read_46 : decode cX3_read 46 = .ok (.invokevirtual 49, 3) := by decide +kernel
theorem dX3_read_49 : decode cX3_read 49 = .ok (.ifCond .ne 8, 3) := by decide +kernel
theorem dX3_read_52 : decode cX3_read 52 = .ok (.aload_n 0, 1) := by decide +kernel
theorem dX3_read_53 : decode cX3_read 53 = .ok (.getfield 9, 3) := by decide +kernel
theorem dX3_read_56 : decode cX3_read 56 = .ok (.ireturn, 1) := by decide +kernel
theorem dX3_read_57 : decode cX3_read 57 = .ok (.iinc 4 1, 3) := by decide +kernel
theorem dX3_read_60 : decode cX3_read 60 = .ok (.goto (-38), 3) := by decide +kernel
theorem dX3_read_63 : decode cX3_read 63 = .ok (.aload_n 0, 1) := by decide +kernel
theorem dX3_read_64 : decode cX3_read 64 = .ok (.getfield 24, 3) := by decide +kernel
theorem dX3_read_67 : decode cX3_read 67 = .ok (.ifCond .eq 5, 3) := by decide +kernel
theorem dX3_read_70 : decode cX3_read 70 = .ok (.iload_n 2, 1) := by decide +kernel
theorem dX3_read_71 : decode cX3_read 71 = .ok (.ireturn, 1) := by decide +kernel
theorem dX3_read_72 : decode cX3_read 72 = .ok (.aload_n 3, 1) := by decide +kernel
theorem dX3_read_73 : decode cX3_read 73 = .ok (.invokevirtual 53, 3) := by decide +kernel
theorem dX3_read_76 : decode cX3_read 76 = .ok (.iconst (-1), 1) := by decide +kernel
theorem dX3_read_77 : decode cX3_read 77 = .ok (.ireturn, 1) := by decide +kernel
theorem dX3_readToken_0 : decode cX3_readToken 0 = .ok (.iload_n 2, 1) := by decide +kernel
theorem dX3_readToken_1 : decode cX3_readToken 1 = .ok (.aload_n 1, 1) := by decide +kernel
theorem dX3_readToken_2 : decode cX3_readToken 2 = .ok (.arraylength, 1) := by decide +kernel
theorem dX3_readToken_3 : decode cX3_readToken 3 = .ok (.invokestatic 56, 3) := by decide +kernel
theorem dX3_readToken_6 : decode cX3_readToken 6 = .ok (.istore_n 3, 1) := by decide +kernel
theorem dX3_readToken_7 : decode cX3_readToken 7 = .ok (.aload_n 0, 1) := by decide +kernel
theorem dX3_readToken_8 : decode cX3_readToken 8 = .ok (.getfield 15, 3) := by decide +kernel
theorem dX3_readToken_11 : decode cX3_readToken 11 = .ok (.iload_n 3, 1) := by decide +kernel
theorem dX3_readToken_12 : decode cX3_readToken 12 = .ok (.if_icmp .ge 27, 3) := by decide +kernel
theorem dX3_readToken_15 : decode cX3_readToken 15 = .ok (.aload_n 1, 1) := by decide +kernel
theorem dX3_readToken_16 : decode cX3_readToken 16 = .ok (.aload_n 0, 1) := by decide +kernel
theorem dX3_readToken_17 : decode cX3_readToken 17 = .ok (.getfield 15, 3) := by decide +kernel
theorem dX3_readToken_20 : decode cX3_readToken 20 = .ok (.iaload, 1) := by decide +kernel
theorem dX3_readToken_21 : decode cX3_readToken 21 = .ok (.bipush 32, 2) := by decide +kernel
theorem dX3_readToken_23 : decode cX3_readToken 23 = .ok (.if_icmp .ne 16, 3) := by decide +kernel
theorem dX3_readToken_26 : decode cX3_readToken 26 = .ok (.aload_n 0, 1) := by decide +kernel
theorem dX3_readToken_27 : decode cX3_readToken 27 = .ok (.dup, 1) := by decide +kernel
theorem dX3_readToken_28 : decode cX3_readToken 28 = .ok (.getfield 15, 3) := by decide +kernel
theorem dX3_readToken_31 : decode cX3_readToken 31 = .ok (.iconst 1, 1) := by decide +kernel
theorem dX3_readToken_32 : decode cX3_readToken 32 = .ok (.iadd, 1) := by decide +kernel
theorem dX3_readToken_33 : decode cX3_readToken 33 = .ok (.putfield 15, 3) := by decide +kernel
theorem dX3_readToken_36 : decode cX3_readToken 36 = .ok (.goto (-29), 3) := by decide +kernel
theorem dX3_readToken_39 : decode cX3_readToken 39 = .ok (.aload_n 0, 1) := by decide +kernel
theorem dX3_readToken_40 : decode cX3_readToken 40 = .ok (.aload_n 0, 1) := by decide +kernel
theorem dX3_readToken_41 : decode cX3_readToken 41 = .ok (.getfield 15, 3) := by decide +kernel
theorem dX3_readToken_44 : decode cX3_readToken 44 = .ok (.putfield 9, 3) := by decide +kernel
theorem dX3_readToken_47 : decode cX3_readToken 47 = .ok (.aload_n 0, 1) := by decide +kernel
theorem dX3_readToken_48 : decode cX3_readToken 48 = .ok (.getfield 15, 3) := by decide +kernel
theorem dX3_readToken_51 : decode cX3_readToken 51 = .ok (.iload_n 3, 1) := by decide +kernel
theorem dX3_readToken_52 : decode cX3_readToken 52 = .ok (.if_icmp .lt 9, 3) := by decide +kernel
theorem dX3_readToken_55 : decode cX3_readToken 55 = .ok (.aload_n 0, 1) := by decide +kernel
theorem dX3_readToken_56 : decode cX3_readToken 56 = .ok (.iconst 0, 1) := by decide +kernel
theorem dX3_readToken_57 : decode cX3_readToken 57 = .ok (.putfield 18, 3) := by decide +kernel
theorem dX3_readToken_60 : decode cX3_readToken 60 = .ok (.return_, 1) := by decide +kernel
theorem dX3_readToken_61 : decode cX3_readToken 61 = .ok (.aload_n 1, 1) := by decide +kernel
theorem dX3_readToken_62 : decode cX3_readToken 62 = .ok (.aload_n 0, 1) := by decide +kernel
theorem dX3_readToken_63 : decode cX3_readToken 63 = .ok (.getfield 15, 3) := by decide +kernel
theorem dX3_readToken_66 : decode cX3_readToken 66 = .ok (.iaload, 1) := by decide +kernel
theorem dX3_readToken_67 : decode cX3_readToken 67 = .ok (.istore 4, 2) := by decide +kernel
theorem dX3_readToken_69 : decode cX3_readToken 69 = .ok (.iload 4, 2) := by decide +kernel
theorem dX3_readToken_71 : decode cX3_readToken 71 = .ok (.invokestatic 62, 3) := by decide +kernel
theorem dX3_readToken_74 : decode cX3_readToken 74 = .ok (.ifCond .eq 10, 3) := by decide +kernel
theorem dX3_readToken_77 : decode cX3_readToken 77 = .ok (.aload_n 0, 1) := by decide +kernel
theorem dX3_readToken_78 : decode cX3_readToken 78 = .ok (.aload_n 1, 1) := by decide +kernel
theorem dX3_readToken_79 : decode cX3_readToken 79 = .ok (.iload_n 3, 1) := by decide +kernel
theorem dX3_readToken_80 : decode cX3_readToken 80 = .ok (.invokevirtual 66, 3) := by decide +kernel
theorem dX3_readToken_83 : decode cX3_readToken 83 = .ok (.return_, 1) := by decide +kernel
theorem dX3_readToken_84 : decode cX3_readToken 84 = .ok (.aload_n 0, 1) := by decide +kernel
theorem dX3_readToken_85 : decode cX3_readToken 85 = .ok (.dup, 1) := by decide +kernel
theorem dX3_readToken_86 : decode cX3_readToken 86 = .ok (.getfield 15, 3) := by decide +kernel
theorem dX3_readToken_89 : decode cX3_readToken 89 = .ok (.iconst 1, 1) := by decide +kernel
theorem dX3_readToken_90 : decode cX3_readToken 90 = .ok (.iadd, 1) := by decide +kernel
theorem dX3_readToken_91 : decode cX3_readToken 91 = .ok (.putfield 15, 3) := by decide +kernel
theorem dX3_readToken_94 : decode cX3_readToken 94 = .ok (.iload 4, 2) := by decide +kernel
theorem dX3_readToken_96 : decode cX3_readToken 96 = .ok (.bipush 104, 2) := by decide +kernel
theorem dX3_readToken_98 : decode cX3_readToken 98 = .ok (.if_icmp .eq 31, 3) := by decide +kernel
theorem dX3_readToken_101 : decode cX3_readToken 101 = .ok (.iload 4, 2) := by decide +kernel
theorem dX3_readToken_103 : decode cX3_readToken 103 = .ok (.bipush 107, 2) := by decide +kernel
theorem dX3_readToken_105 : decode cX3_readToken 105 = .ok (.if_icmp .eq 24, 3) := by decide +kernel
theorem dX3_readToken_108 : decode cX3_readToken 108 = .ok (.iload 4, 2) := by decide +kernel
theorem dX3_readToken_110 : decode cX3_readToken 110 = .ok (.bipush 112, 2) := by decide +kernel
theorem dX3_readToken_112 : decode cX3_readToken 112 = .ok (.if_icmp .eq 17, 3) := by decide +kernel
theorem dX3_readToken_115 : decode cX3_readToken 115 = .ok (.iload 4, 2) := by decide +kernel
theorem dX3_readToken_117 : decode cX3_readToken 117 = .ok (.bipush 115, 2) := by decide +kernel
theorem dX3_readToken_119 : decode cX3_readToken 119 = .ok (.if_icmp .eq 10, 3) := by decide +kernel
theorem dX3_readToken_122 : decode cX3_readToken 122 = .ok (.iload 4, 2) := by decide +kernel
theorem dX3_readToken_124 : decode cX3_readToken 124 = .ok (.bipush 59, 2) := by decide +kernel
theorem dX3_readToken_126 : decode cX3_readToken 126 = .ok (.if_icmp .ne 7, 3) := by decide +kernel
theorem dX3_readToken_129 : decode cX3_readToken 129 = .ok (.iconst 1, 1) := by decide +kernel
theorem dX3_readToken_130 : decode cX3_readToken 130 = .ok (.goto 4, 3) := by decide +kernel
theorem dX3_readToken_133 : decode cX3_readToken 133 = .ok (.iconst 0, 1) := by decide +kernel
theorem dX3_readToken_134 : decode cX3_readToken 134 = .ok (.istore 5, 2) := by decide +kernel
theorem dX3_readToken_136 : decode cX3_readToken 136 = .ok (.aload_n 0, 1) := by decide +kernel
theorem dX3_readToken_137 : decode cX3_readToken 137 = .ok (.iload 5, 2) := by decide +kernel
theorem dX3_readToken_139 : decode cX3_readToken 139 = .ok (.ifCond .eq 8, 3) := by decide +kernel
theorem dX3_readToken_142 : decode cX3_readToken 142 = .ok (.iload 4, 2) := by decide +kernel
theorem dX3_readToken_144 : decode cX3_readToken 144 = .ok (.goto 4, 3) := by decide +kernel
theorem dX3_readToken_147 : decode cX3_readToken 147 = .ok (.iconst 2, 1) := by decide +kernel
theorem dX3_readToken_148 : decode cX3_readToken 148 = .ok (.putfield 18, 3) := by decide +kernel
theorem dX3_readToken_151 : decode cX3_readToken 151 = .ok (.return_, 1) := by decide +kernel
theorem dX3_readNumber_0 : decode cX3_readNumber 0 = .ok (.aload_n 0, 1) := by decide +kernel
theorem dX3_readNumber_1 : decode cX3_readNumber 1 = .ok (.iconst 0, 1) := by decide +kernel
theorem dX3_readNumber_2 : decode cX3_readNumber 2 = .ok (.putfield 21, 3) := by decide +kernel
theorem dX3_readNumber_5 : decode cX3_readNumber 5 = .ok (.iconst 0, 1) := by decide +kernel
theorem dX3_readNumber_6 : decode cX3_readNumber 6 = .ok (.istore_n 3, 1) := by decide +kernel
theorem dX3_readNumber_7 : decode cX3_readNumber 7 = .ok (.aload_n 1, 1) := by decide +kernel
theorem dX3_readNumber_8 : decode cX3_readNumber 8 = .ok (.aload_n 0, 1) := by decide +kernel
theorem dX3_readNumber_9 : decode cX3_readNumber 9 = .ok (.getfield 15, 3) := by decide +kernel
theorem dX3_readNumber_12 : decode cX3_readNumber 12 = .ok (.iaload, 1) := by decide +kernel
theorem dX3_readNumber_13 : decode cX3_readNumber 13 = .ok (.bipush 48, 2) := by decide +kernel
theorem dX3_readNumber_15 : decode cX3_readNumber 15 = .ok (.if_icmp .ne 7, 3) := by decide +kernel
theorem dX3_readNumber_18 : decode cX3_readNumber 18 = .ok (.iconst 1, 1) := by decide +kernel
theorem dX3_readNumber_19 : decode cX3_readNumber 19 = .ok (.goto 4, 3) := by decide +kernel
theorem dX3_readNumber_22 : decode cX3_readNumber 22 = .ok (.iconst 0, 1) := by decide +kernel
theorem dX3_readNumber_23 : decode cX3_readNumber 23 = .ok (.istore 4, 2) := by decide +kernel
theorem dX3_readNumber_25 : decode cX3_readNumber 25 = .ok (.aload_n 0, 1) := by decide +kernel
theorem dX3_readNumber_26 : decode cX3_readNumber 26 = .ok (.getfield 15, 3) := by decide +kernel
theorem dX3_readNumber_29 : decode cX3_readNumber 29 = .ok (.iload_n 2, 1) := by decide +kernel
theorem dX3_readNumber_30 : decode cX3_readNumber 30 = .ok (.if_icmp .ge 57, 3) := by decide +kernel
theorem dX3_readNumber_33 : decode cX3_readNumber 33 = .ok (.aload_n 1, 1) := by decide +kernel
theorem dX3_readNumber_34 : decode cX3_readNumber 34 = .ok (.aload_n 0, 1) := by decide +kernel
theorem dX3_readNumber_35 : decode cX3_readNumber 35 = .ok (.getfield 15, 3) := by decide +kernel
theorem dX3_readNumber_38 : decode cX3_readNumber 38 = .ok (.iaload, 1) := by decide +kernel
theorem dX3_readNumber_39 : decode cX3_readNumber 39 = .ok (.invokestatic 62, 3) := by decide +kernel
theorem dX3_readNumber_42 : decode cX3_readNumber 42 = .ok (.ifCond .eq 45, 3) := by decide +kernel
theorem dX3_readNumber_45 : decode cX3_readNumber 45 = .ok (.iload_n 3, 1) := by decide +kernel
theorem dX3_readNumber_46 : decode cX3_readNumber 46 = .ok (.iconst 2, 1) := by decide +kernel
theorem dX3_readNumber_47 : decode cX3_readNumber 47 = .ok (.if_icmp .ge 24, 3) := by decide +kernel
theorem dX3_readNumber_50 : decode cX3_readNumber 50 = .ok (.aload_n 0, 1) := by decide +kernel
theorem dX3_readNumber_51 : decode cX3_readNumber 51 = .ok (.aload_n 0, 1) := by decide +kernel
theorem dX3_readNumber_52 : decode cX3_readNumber 52 = .ok (.getfield 21, 3) := by decide +kernel
theorem dX3_readNumber_55 : decode cX3_readNumber 55 = .ok (.bipush 10, 2) := by decide +kernel
theorem dX3_readNumber_57 : decode cX3_readNumber 57 = .ok (.imul, 1) := by decide +kernel
theorem dX3_readNumber_58 : decode cX3_readNumber 58 = .ok (.aload_n 1, 1) := by decide +kernel
theorem dX3_readNumber_59 : decode cX3_readNumber 59 = .ok (.aload_n 0, 1) := by decide +kernel
theorem dX3_readNumber_60 : decode cX3_readNumber 60 = .ok (.getfield 15, 3) := by decide +kernel
theorem dX3_readNumber_63 : decode cX3_readNumber 63 = .ok (.iaload, 1) := by decide +kernel
theorem dX3_readNumber_64 : decode cX3_readNumber 64 = .ok (.iadd, 1) := by decide +kernel
theorem dX3_readNumber_65 : decode cX3_readNumber 65 = .ok (.bipush 48, 2) := by decide +kernel
theorem dX3_readNumber_67 : decode cX3_readNumber 67 = .ok (.isub, 1) := by decide +kernel
theorem dX3_readNumber_68 : decode cX3_readNumber 68 = .ok (.putfield 21, 3) := by decide +kernel
theorem dX3_readNumber_71 : decode cX3_readNumber 71 = .ok (.iinc 3 1, 3) := by decide +kernel
theorem dX3_readNumber_74 : decode cX3_readNumber 74 = .ok (.aload_n 0, 1) := by decide +kernel
theorem dX3_readNumber_75 : decode cX3_readNumber 75 = .ok (.dup, 1) := by decide +kernel
theorem dX3_readNumber_76 : decode cX3_readNumber 76 = .ok (.getfield 15, 3) := by decide +kernel
theorem dX3_readNumber_79 : decode cX3_readNumber 79 = .ok (.iconst 1, 1) := by decide +kernel
theorem dX3_readNumber_80 : decode cX3_readNumber 80 = .ok (.iadd, 1) := by decide +kernel
theorem dX3_readNumber_81 : decode cX3_readNumber 81 = .ok (.putfield 15, 3) := by decide +kernel
theorem dX3_readNumber_84 : decode cX3_readNumber 84 = .ok (.goto (-59), 3) := by decide +kernel
theorem dX3_readNumber_87 : decode cX3_readNumber 87 = .ok (.iload_n 3, 1) := by decide +kernel
theorem dX3_readNumber_88 : decode cX3_readNumber 88 = .ok (.iconst 1, 1) := by decide +kernel
theorem dX3_readNumber_89 : decode cX3_readNumber 89 = .ok (.if_icmp .eq 13, 3) := by decide +kernel
theorem dX3_readNumber_92 : decode cX3_readNumber 92 = .ok (.iload_n 3, 1) := by decide +kernel
theorem dX3_readNumber_93 : decode cX3_readNumber 93 = .ok (.iconst 2, 1) := by decide +kernel
theorem dX3_readNumber_94 : decode cX3_readNumber 94 = .ok (.if_icmp .ne 12, 3) := by decide +kernel
theorem dX3_readNumber_97 : decode cX3_readNumber 97 = .ok (.iload 4, 2) := by decide +kernel
theorem dX3_readNumber_99 : decode cX3_readNumber 99 = .ok (.ifCond .ne 7, 3) := by decide +kernel
theorem dX3_readNumber_102 : decode cX3_readNumber 102 = .ok (.iconst 1, 1) := by decide +kernel
theorem dX3_readNumber_103 : decode cX3_readNumber 103 = .ok (.goto 4, 3) := by decide +kernel
theorem dX3_readNumber_106 : decode cX3_readNumber 106 = .ok (.iconst 0, 1) := by decide +kernel
theorem dX3_readNumber_107 : decode cX3_readNumber 107 = .ok (.istore 5, 2) := by decide +kernel
theorem dX3_readNumber_109 : decode cX3_readNumber 109 = .ok (.aload_n 0, 1) := by decide +kernel
theorem dX3_readNumber_110 : decode cX3_readNumber 110 = .ok (.iload 5, 2) := by decide +kernel
theorem dX3_readNumber_112 : decode cX3_readNumber 112 = .ok (.ifCond .eq 7, 3) := by decide +kernel
theorem dX3_readNumber_115 : decode cX3_readNumber 115 = .ok (.iconst 1, 1) := by decide +kernel
theorem dX3_readNumber_116 : decode cX3_readNumber 116 = .ok (.goto 4, 3) := by decide +kernel
theorem dX3_readNumber_119 : decode cX3_readNumber 119 = .ok (.iconst 2, 1) := by decide +kernel
theorem dX3_readNumber_120 : decode cX3_readNumber 120 = .ok (.putfield 18, 3) := by decide +kernel
theorem dX3_readNumber_123 : decode cX3_readNumber 123 = .ok (.return_, 1) := by decide +kernel
theorem dX3_isDigit_0 : decode cX3_isDigit 0 = .ok (.iload_n 0, 1) := by decide +kernel
theorem dX3_isDigit_1 : decode cX3_isDigit 1 = .ok (.bipush 48, 2) := by decide +kernel
theorem dX3_isDigit_3 : decode cX3_isDigit 3 = .ok (.if_icmp .lt 13, 3) := by decide +kernel
theorem dX3_isDigit_6 : decode cX3_isDigit 6 = .ok (.iload_n 0, 1) := by decide +kernel
theorem dX3_isDigit_7 : decode cX3_isDigit 7 = .ok (.bipush 57, 2) := by decide +kernel
theorem dX3_isDigit_9 : decode cX3_isDigit 9 = .ok (.if_icmp .gt 7, 3) := by decide +kernel
theorem dX3_isDigit_12 : decode cX3_isDigit 12 = .ok (.iconst 1, 1) := by decide +kernel
theorem dX3_isDigit_13 : decode cX3_isDigit 13 = .ok (.goto 4, 3) := by decide +kernel
theorem dX3_isDigit_16 : decode cX3_isDigit 16 = .ok (.iconst 0, 1) := by decide +kernel
theorem dX3_isDigit_17 : decode cX3_isDigit 17 = .ok (.ireturn, 1) := by decide +kernel
theorem dX3_takesToken_0 : decode cX3_takesToken 0 = .ok (.aload_n 0, 1) := by decide +kernel
theorem dX3_takesToken_1 : decode cX3_takesToken 1 = .ok (.getfield 24, 3) := by decide +kernel
theorem dX3_takesToken_4 : decode cX3_takesToken 4 = .ok (.ifCond .ne 9, 3) := by decide +kernel
theorem dX3_takesToken_7 : decode cX3_takesToken 7 = .ok (.aload_n 0, 1) := by decide +kernel
theorem dX3_takesToken_8 : decode cX3_takesToken 8 = .ok (.aload_n 1, 1) := by decide +kernel
theorem dX3_takesToken_9 : decode cX3_takesToken 9 = .ok (.invokevirtual 69, 3) := by decide +kernel
theorem dX3_takesToken_12 : decode cX3_takesToken 12 = .ok (.ireturn, 1) := by decide +kernel
theorem dX3_takesToken_13 : decode cX3_takesToken 13 = .ok (.aload_n 0, 1) := by decide +kernel
theorem dX3_takesToken_14 : decode cX3_takesToken 14 = .ok (.getfield 18, 3) := by decide +kernel
theorem dX3_takesToken_17 : decode cX3_takesToken 17 = .ok (.bipush 59, 2) := by decide +kernel
theorem dX3_takesToken_19 : decode cX3_takesToken 19 = .ok (.if_icmp .ne 9, 3) := by decide +kernel
theorem dX3_takesToken_22 : decode cX3_takesToken 22 = .ok (.aload_n 0, 1) := by decide +kernel
theorem dX3_takesToken_23 : decode cX3_takesToken 23 = .ok (.aload_n 1, 1) := by decide +kernel
theorem dX3_takesToken_24 : decode cX3_takesToken 24 = .ok (.invokevirtual 72, 3) := by decide +kernel
theorem dX3_takesToken_27 : decode cX3_takesToken 27 = .ok (.ireturn, 1) := by decide +kernel
theorem dX3_takesToken_28 : decode cX3_takesToken 28 = .ok (.aload_n 0, 1) := by decide +kernel
theorem dX3_takesToken_29 : decode cX3_takesToken 29 = .ok (.getfield 18, 3) := by decide +kernel
theorem dX3_takesToken_32 : decode cX3_takesToken 32 = .ok (.iconst 1, 1) := by decide +kernel
theorem dX3_takesToken_33 : decode cX3_takesToken 33 = .ok (.if_icmp .ne 11, 3) := by decide +kernel
theorem dX3_takesToken_36 : decode cX3_takesToken 36 = .ok (.aload_n 0, 1) := by decide +kernel
theorem dX3_takesToken_37 : decode cX3_takesToken 37 = .ok (.aload_n 1, 1) := by decide +kernel
theorem dX3_takesToken_38 : decode cX3_takesToken 38 = .ok (.invokevirtual 75, 3) := by decide +kernel
theorem dX3_takesToken_41 : decode cX3_takesToken 41 = .ok (.ifCond .ne 5, 3) := by decide +kernel
theorem dX3_takesToken_44 : decode cX3_takesToken 44 = .ok (.iconst 0, 1) := by decide +kernel
theorem dX3_takesToken_45 : decode cX3_takesToken 45 = .ok (.ireturn, 1) := by decide +kernel
theorem dX3_takesToken_46 : decode cX3_takesToken 46 = .ok (.aload_n 0, 1) := by decide +kernel
theorem dX3_takesToken_47 : decode cX3_takesToken 47 = .ok (.aload_n 0, 1) := by decide +kernel
theorem dX3_takesToken_48 : decode cX3_takesToken 48 = .ok (.getfield 21, 3) := by decide +kernel
theorem dX3_takesToken_51 : decode cX3_takesToken 51 = .ok (.putfield 33, 3) := by decide +kernel
theorem dX3_takesToken_54 : decode cX3_takesToken 54 = .ok (.aload_n 0, 1) := by decide +kernel
theorem dX3_takesToken_55 : decode cX3_takesToken 55 = .ok (.getfield 27, 3) := by decide +kernel
theorem dX3_takesToken_58 : decode cX3_takesToken 58 = .ok (.ifCond .ne 11, 3) := by decide +kernel
theorem dX3_takesToken_61 : decode cX3_takesToken 61 = .ok (.aload_n 0, 1) := by decide +kernel
theorem dX3_takesToken_62 : decode cX3_takesToken 62 = .ok (.aload_n 0, 1) := by decide +kernel
theorem dX3_takesToken_63 : decode cX3_takesToken 63 = .ok (.getfield 21, 3) := by decide +kernel
theorem dX3_takesToken_66 : decode cX3_takesToken 66 = .ok (.putfield 30, 3) := by decide +kernel
theorem dX3_takesToken_69 : decode cX3_takesToken 69 = .ok (.aload_n 0, 1) := by decide +kernel
theorem dX3_takesToken_70 : decode cX3_takesToken 70 = .ok (.dup, 1) := by decide +kernel
theorem dX3_takesToken_71 : decode cX3_takesToken 71 = .ok (.getfield 27, 3) := by decide +kernel
theorem dX3_takesToken_74 : decode cX3_takesToken 74 = .ok (.iconst 1, 1) := by decide +kernel
theorem dX3_takesToken_75 : decode cX3_takesToken 75 = .ok (.iadd, 1) := by decide +kernel
theorem dX3_takesToken_76 : decode cX3_takesToken 76 = .ok (.putfield 27, 3) := by decide +kernel
theorem dX3_takesToken_79 : decode cX3_takesToken 79 = .ok (.iconst 1, 1) := by decide +kernel
theorem dX3_takesToken_80 : decode cX3_takesToken 80 = .ok (.ireturn, 1) := by decide +kernel
theorem dX3_beginsItem_0 : decode cX3_beginsItem 0 = .ok (.aload_n 0, 1) := by decide +kernel
theorem dX3_beginsItem_1 : decode cX3_beginsItem 1 = .ok (.aload_n 0, 1) := by decide +kernel
theorem dX3_beginsItem_2 : decode cX3_beginsItem 2 = .ok (.getfield 18, 3) := by decide +kernel
theorem dX3_beginsItem_5 : decode cX3_beginsItem 5 = .ok (.putfield 24, 3) := by decide +kernel
theorem dX3_beginsItem_8 : decode cX3_beginsItem 8 = .ok (.aload_n 0, 1) := by decide +kernel
theorem dX3_beginsItem_9 : decode cX3_beginsItem 9 = .ok (.iconst 0, 1) := by decide +kernel
theorem dX3_beginsItem_10 : decode cX3_beginsItem 10 = .ok (.putfield 27, 3) := by decide +kernel
theorem dX3_beginsItem_13 : decode cX3_beginsItem 13 = .ok (.aload_n 0, 1) := by decide +kernel
theorem dX3_beginsItem_14 : decode cX3_beginsItem 14 = .ok (.getfield 18, 3) := by decide +kernel
theorem dX3_beginsItem_17 : decode cX3_beginsItem 17 = .ok (.lookupswitch 87 #[(104, 43), (107, 56), (112, 71), (115, 85)], 43) := by decide +kernel
theorem dX3_beginsItem_60 : decode cX3_beginsItem 60 = .ok (.aload_n 0, 1) := by decide +kernel
theorem dX3_beginsItem_61 : decode cX3_beginsItem 61 = .ok (.getfield 36, 3) := by decide +kernel
theorem dX3_beginsItem_64 : decode cX3_beginsItem 64 = .ok (.ifCond .ne 7, 3) := by decide +kernel
theorem dX3_beginsItem_67 : decode cX3_beginsItem 67 = .ok (.iconst 1, 1) := by decide +kernel
theorem dX3_beginsItem_68 : decode cX3_beginsItem 68 = .ok (.goto 4, 3) := by decide +kernel
theorem dX3_beginsItem_71 : decode cX3_beginsItem 71 = .ok (.iconst 0, 1) := by decide +kernel
theorem dX3_beginsItem_72 : decode cX3_beginsItem 72 = .ok (.ireturn, 1) := by decide +kernel
theorem dX3_beginsItem_73 : decode cX3_beginsItem 73 = .ok (.aload_n 1, 1) := by decide +kernel
theorem dX3_beginsItem_74 : decode cX3_beginsItem 74 = .ok (.getfield 78, 3) := by decide +kernel
theorem dX3_beginsItem_77 : decode cX3_beginsItem 77 = .ok (.bipush 9, 2) := by decide +kernel
theorem dX3_beginsItem_79 : decode cX3_beginsItem 79 = .ok (.if_icmp .ge 7, 3) := by decide +kernel
theorem dX3_beginsItem_82 : decode cX3_beginsItem 82 = .ok (.iconst 1, 1) := by decide +kernel
theorem dX3_beginsItem_83 : decode cX3_beginsItem 83 = .ok (.goto 4, 3) := by decide +kernel
theorem dX3_beginsItem_86 : decode cX3_beginsItem 86 = .ok (.iconst 0, 1) := by decide +kernel
theorem dX3_beginsItem_87 : decode cX3_beginsItem 87 = .ok (.ireturn, 1) := by decide +kernel
theorem dX3_beginsItem_88 : decode cX3_beginsItem 88 = .ok (.aload_n 1, 1) := by decide +kernel
theorem dX3_beginsItem_89 : decode cX3_beginsItem 89 = .ok (.getfield 81, 3) := by decide +kernel
theorem dX3_beginsItem_92 : decode cX3_beginsItem 92 = .ok (.iconst 4, 1) := by decide +kernel
theorem dX3_beginsItem_93 : decode cX3_beginsItem 93 = .ok (.if_icmp .ge 7, 3) := by decide +kernel
theorem dX3_beginsItem_96 : decode cX3_beginsItem 96 = .ok (.iconst 1, 1) := by decide +kernel
theorem dX3_beginsItem_97 : decode cX3_beginsItem 97 = .ok (.goto 4, 3) := by decide +kernel
theorem dX3_beginsItem_100 : decode cX3_beginsItem 100 = .ok (.iconst 0, 1) := by decide +kernel
theorem dX3_beginsItem_101 : decode cX3_beginsItem 101 = .ok (.ireturn, 1) := by decide +kernel
theorem dX3_beginsItem_102 : decode cX3_beginsItem 102 = .ok (.iconst 1, 1) := by decide +kernel
theorem dX3_beginsItem_103 : decode cX3_beginsItem 103 = .ok (.ireturn, 1) := by decide +kernel
theorem dX3_beginsItem_104 : decode cX3_beginsItem 104 = .ok (.iconst 0, 1) := by decide +kernel
theorem dX3_beginsItem_105 : decode cX3_beginsItem 105 = .ok (.ireturn, 1) := by decide +kernel
theorem dX3_takesNumber_0 : decode cX3_takesNumber 0 = .ok (.aload_n 0, 1) := by decide +kernel
theorem dX3_takesNumber_1 : decode cX3_takesNumber 1 = .ok (.getfield 24, 3) := by decide +kernel
theorem dX3_takesNumber_4 : decode cX3_takesNumber 4 = .ok (.lookupswitch 68 #[(104, 44), (107, 50), (112, 56), (115, 62)], 44) := by decide +kernel
theorem dX3_takesNumber_48 : decode cX3_takesNumber 48 = .ok (.aload_n 0, 1) := by decide +kernel
theorem dX3_takesNumber_49 : decode cX3_takesNumber 49 = .ok (.aload_n 1, 1) := by decide +kernel
theorem dX3_takesNumber_50 : decode cX3_takesNumber 50 = .ok (.invokevirtual 84, 3) := by decide +kernel
theorem dX3_takesNumber_53 : decode cX3_takesNumber 53 = .ok (.ireturn, 1) := by decide +kernel
theorem dX3_takesNumber_54 : decode cX3_takesNumber 54 = .ok (.aload_n 0, 1) := by decide +kernel
theorem dX3_takesNumber_55 : decode cX3_takesNumber 55 = .ok (.aload_n 1, 1) := by decide +kernel
theorem dX3_takesNumber_56 : decode cX3_takesNumber 56 = .ok (.invokevirtual 87, 3) := by decide +kernel
theorem dX3_takesNumber_59 : decode cX3_takesNumber 59 = .ok (.ireturn, 1) := by decide +kernel
theorem dX3_takesNumber_60 : decode cX3_takesNumber 60 = .ok (.aload_n 0, 1) := by decide +kernel
theorem dX3_takesNumber_61 : decode cX3_takesNumber 61 = .ok (.aload_n 1, 1) := by decide +kernel
theorem dX3_takesNumber_62 : decode cX3_takesNumber 62 = .ok (.invokevirtual 90, 3) := by decide +kernel
theorem dX3_takesNumber_65 : decode cX3_takesNumber 65 = .ok (.ireturn, 1) := by decide +kernel
theorem dX3_takesNumber_66 : decode cX3_takesNumber 66 = .ok (.aload_n 0, 1) := by decide +kernel
theorem dX3_takesNumber_67 : decode cX3_takesNumber 67 = .ok (.aload_n 1, 1) := by decide +kernel
theorem dX3_takesNumber_68 : decode cX3_takesNumber 68 = .ok (.invokevirtual 93, 3) := by decide +kernel
theorem dX3_takesNumber_71 : decode cX3_takesNumber 71 = .ok (.ireturn, 1) := by decide +kernel
theorem dX3_takesNumber_72 : decode cX3_takesNumber 72 = .ok (.iconst 0, 1) := by decide +kernel
theorem dX3_takesNumber_73 : decode cX3_takesNumber 73 = .ok (.ireturn, 1) := by decide +kernel
theorem dX3_takesHeat_0 : decode cX3_takesHeat 0 = .ok (.aload_n 0, 1) := by decide +kernel
theorem dX3_takesHeat_1 : decode cX3_takesHeat 1 = .ok (.getfield 27, 3) := by decide +kernel
theorem dX3_takesHeat_4 : decode cX3_takesHeat 4 = .ok (.ifCond .gt 12, 3) := by decide +kernel
theorem dX3_takesHeat_7 : decode cX3_takesHeat 7 = .ok (.aload_n 0, 1) := by decide +kernel
theorem dX3_takesHeat_8 : decode cX3_takesHeat 8 = .ok (.getfield 21, 3) := by decide +kernel
theorem dX3_takesHeat_11 : decode cX3_takesHeat 11 = .ok (.bipush 20, 2) := by decide +kernel
theorem dX3_takesHeat_13 : decode cX3_takesHeat 13 = .ok (.if_icmp .le 5, 3) := by decide +kernel
theorem dX3_takesHeat_16 : decode cX3_takesHeat 16 = .ok (.iconst 0, 1) := by decide +kernel
theorem dX3_takesHeat_17 : decode cX3_takesHeat 17 = .ok (.ireturn, 1) := by decide +kernel
theorem dX3_takesHeat_18 : decode cX3_takesHeat 18 = .ok (.aload_n 1, 1) := by decide +kernel
theorem dX3_takesHeat_19 : decode cX3_takesHeat 19 = .ok (.aload_n 0, 1) := by decide +kernel
theorem dX3_takesHeat_20 : decode cX3_takesHeat 20 = .ok (.getfield 21, 3) := by decide +kernel
theorem dX3_takesHeat_23 : decode cX3_takesHeat 23 = .ok (.putfield 96, 3) := by decide +kernel
theorem dX3_takesHeat_26 : decode cX3_takesHeat 26 = .ok (.aload_n 0, 1) := by decide +kernel
theorem dX3_takesHeat_27 : decode cX3_takesHeat 27 = .ok (.iconst 1, 1) := by decide +kernel
theorem dX3_takesHeat_28 : decode cX3_takesHeat 28 = .ok (.putfield 36, 3) := by decide +kernel
theorem dX3_takesHeat_31 : decode cX3_takesHeat 31 = .ok (.iconst 1, 1) := by decide +kernel
theorem dX3_takesHeat_32 : decode cX3_takesHeat 32 = .ok (.ireturn, 1) := by decide +kernel
theorem dX3_takesPlace_0 : decode cX3_takesPlace 0 = .ok (.aload_n 0, 1) := by decide +kernel
theorem dX3_takesPlace_1 : decode cX3_takesPlace 1 = .ok (.getfield 27, 3) := by decide +kernel
theorem dX3_takesPlace_4 : decode cX3_takesPlace 4 = .ok (.iconst 1, 1) := by decide +kernel
theorem dX3_takesPlace_5 : decode cX3_takesPlace 5 = .ok (.if_icmp .gt 12, 3) := by decide +kernel
theorem dX3_takesPlace_8 : decode cX3_takesPlace 8 = .ok (.aload_n 0, 1) := by decide +kernel
theorem dX3_takesPlace_9 : decode cX3_takesPlace 9 = .ok (.getfield 21, 3) := by decide +kernel
theorem dX3_takesPlace_12 : decode cX3_takesPlace 12 = .ok (.bipush 20, 2) := by decide +kernel
theorem dX3_takesPlace_14 : decode cX3_takesPlace 14 = .ok (.if_icmp .le 5, 3) := by decide +kernel
theorem dX3_takesPlace_17 : decode cX3_takesPlace 17 = .ok (.iconst 0, 1) := by decide +kernel
theorem dX3_takesPlace_18 : decode cX3_takesPlace 18 = .ok (.ireturn, 1) := by decide +kernel
theorem dX3_takesPlace_19 : decode cX3_takesPlace 19 = .ok (.aload_n 0, 1) := by decide +kernel
theorem dX3_takesPlace_20 : decode cX3_takesPlace 20 = .ok (.getfield 27, 3) := by decide +kernel
theorem dX3_takesPlace_23 : decode cX3_takesPlace 23 = .ok (.ifCond .eq 18, 3) := by decide +kernel
theorem dX3_takesPlace_26 : decode cX3_takesPlace 26 = .ok (.aload_n 1, 1) := by decide +kernel
theorem dX3_takesPlace_27 : decode cX3_takesPlace 27 = .ok (.aload_n 0, 1) := by decide +kernel
theorem dX3_takesPlace_28 : decode cX3_takesPlace 28 = .ok (.getfield 30, 3) := by decide +kernel
theorem dX3_takesPlace_31 : decode cX3_takesPlace 31 = .ok (.aload_n 0, 1) := by decide +kernel
theorem dX3_takesPlace_32 : decode cX3_takesPlace 32 = .ok (.getfield 21, 3) := by decide +kernel
theorem dX3_takesPlace_35 : decode cX3_takesPlace 35 = .ok (.invokevirtual 99, 3) := by decide +kernel
theorem dX3_takesPlace_38 : decode cX3_takesPlace 38 = .ok (.ifCond .eq 7, 3) := by decide +kernel
theorem dX3_takesPlace_41 : decode cX3_takesPlace 41 = .ok (.iconst 1, 1) := by decide +kernel
theorem dX3_takesPlace_42 : decode cX3_takesPlace 42 = .ok (.goto 4, 3) := by decide +kernel
theorem dX3_takesPlace_45 : decode cX3_takesPlace 45 = .ok (.iconst 0, 1) := by decide +kernel
theorem dX3_takesPlace_46 : decode cX3_takesPlace 46 = .ok (.ireturn, 1) := by decide +kernel
theorem dX3_takesRingCorner_0 : decode cX3_takesRingCorner 0 = .ok (.aload_n 1, 1) := by decide +kernel
theorem dX3_takesRingCorner_1 : decode cX3_takesRingCorner 1 = .ok (.getfield 81, 3) := by decide +kernel
theorem dX3_takesRingCorner_4 : decode cX3_takesRingCorner 4 = .ok (.istore_n 2, 1) := by decide +kernel
theorem dX3_takesRingCorner_5 : decode cX3_takesRingCorner 5 = .ok (.iload_n 2, 1) := by decide +kernel
theorem dX3_takesRingCorner_6 : decode cX3_takesRingCorner 6 = .ok (.iconst 4, 1) := by decide +kernel
theorem dX3_takesRingCorner_7 : decode cX3_takesRingCorner 7 = .ok (.if_icmp .ge 22, 3) := by decide +kernel
theorem dX3_takesRingCorner_10 : decode cX3_takesRingCorner 10 = .ok (.aload_n 0, 1) := by decide +kernel
theorem dX3_takesRingCorner_11 : decode cX3_takesRingCorner 11 = .ok (.getfield 27, 3) := by decide +kernel
theorem dX3_takesRingCorner_14 : decode cX3_takesRingCorner 14 = .ok (.iconst 5, 1) := by decide +kernel
theorem dX3_takesRingCorner_15 : decode cX3_takesRingCorner 15 = .ok (.if_icmp .ge 14, 3) := by decide +kernel
theorem dX3_takesRingCorner_18 : decode cX3_takesRingCorner 18 = .ok (.aload_n 1, 1) := by decide +kernel
theorem dX3_takesRingCorner_19 : decode cX3_takesRingCorner 19 = .ok (.aload_n 0, 1) := by decide +kernel
theorem dX3_takesRingCorner_20 : decode cX3_takesRingCorner 20 = .ok (.getfield 21, 3) := by decide +kernel
theorem dX3_takesRingCorner_23 : decode cX3_takesRingCorner 23 = .ok (.invokevirtual 103, 3) := by decide +kernel
theorem dX3_takesRingCorner_26 : decode cX3_takesRingCorner 26 = .ok (.ifCond .ne 5, 3) := by decide +kernel
theorem dX3_takesRingCorner_29 : decode cX3_takesRingCorner 29 = .ok (.iconst 0, 1) := by decide +kernel
theorem dX3_takesRingCorner_30 : decode cX3_takesRingCorner 30 = .ok (.ireturn, 1) := by decide +kernel
theorem dX3_takesRingCorner_31 : decode cX3_takesRingCorner 31 = .ok (.iconst 0, 1) := by decide +kernel
theorem dX3_takesRingCorner_32 : decode cX3_takesRingCorner 32 = .ok (.istore_n 3, 1) := by decide +kernel
theorem dX3_takesRingCorner_33 : decode cX3_takesRingCorner 33 = .ok (.iload_n 3, 1) := by decide +kernel
theorem dX3_takesRingCorner_34 : decode cX3_takesRingCorner 34 = .ok (.aload_n 0, 1) := by decide +kernel
theorem dX3_takesRingCorner_35 : decode cX3_takesRingCorner 35 = .ok (.getfield 27, 3) := by decide +kernel
theorem dX3_takesRingCorner_38 : decode cX3_takesRingCorner 38 = .ok (.if_icmp .ge 26, 3) := by decide +kernel
theorem dX3_takesRingCorner_41 : decode cX3_takesRingCorner 41 = .ok (.aload_n 1, 1) := by decide +kernel
theorem dX3_takesRingCorner_42 : decode cX3_takesRingCorner 42 = .ok (.getfield 106, 3) := by decide +kernel
theorem dX3_takesRingCorner_45 : decode cX3_takesRingCorner 45 = .ok (.iload_n 2, 1) := by decide +kernel
theorem dX3_takesRingCorner_46 : decode cX3_takesRingCorner 46 = .ok (.aaload, 1) := by decide +kernel
theorem dX3_takesRingCorner_47 : decode cX3_takesRingCorner 47 = .ok (.iload_n 3, 1) := by decide +kernel
theorem dX3_takesRingCorner_48 : decode cX3_takesRingCorner 48 = .ok (.iaload, 1) := by decide +kernel
theorem dX3_takesRingCorner_49 : decode cX3_takesRingCorner 49 = .ok (.aload_n 0, 1) := by decide +kernel
theorem dX3_takesRingCorner_50 : decode cX3_takesRingCorner 50 = .ok (.getfield 21, 3) := by decide +kernel
theorem dX3_takesRingCorner_53 : decode cX3_takesRingCorner 53 = .ok (.if_icmp .ne 5, 3) := by decide +kernel
theorem dX3_takesRingCorner_56 : decode cX3_takesRingCorner 56 = .ok (.iconst 0, 1) := by decide +kernel
theorem dX3_takesRingCorner_57 : decode cX3_takesRingCorner 57 = .ok (.ireturn, 1) := by decide +kernel
theorem dX3_takesRingCorner_58 : decode cX3_takesRingCorner 58 = .ok (.iinc 3 1, 3) := by decide +kernel
theorem dX3_takesRingCorner_61 : decode cX3_takesRingCorner 61 = .ok (.goto (-28), 3) := by decide +kernel
theorem dX3_takesRingCorner_64 : decode cX3_takesRingCorner 64 = .ok (.aload_n 1, 1) := by decide +kernel
theorem dX3_takesRingCorner_65 : decode cX3_takesRingCorner 65 = .ok (.getfield 106, 3) := by decide +kernel
theorem dX3_takesRingCorner_68 : decode cX3_takesRingCorner 68 = .ok (.iload_n 2, 1) := by decide +kernel
theorem dX3_takesRingCorner_69 : decode cX3_takesRingCorner 69 = .ok (.aaload, 1) := by decide +kernel
theorem dX3_takesRingCorner_70 : decode cX3_takesRingCorner 70 = .ok (.aload_n 0, 1) := by decide +kernel
theorem dX3_takesRingCorner_71 : decode cX3_takesRingCorner 71 = .ok (.getfield 27, 3) := by decide +kernel
theorem dX3_takesRingCorner_74 : decode cX3_takesRingCorner 74 = .ok (.aload_n 0, 1) := by decide +kernel
theorem dX3_takesRingCorner_75 : decode cX3_takesRingCorner 75 = .ok (.getfield 21, 3) := by decide +kernel
theorem dX3_takesRingCorner_78 : decode cX3_takesRingCorner 78 = .ok (.iastore, 1) := by decide +kernel
theorem dX3_takesRingCorner_79 : decode cX3_takesRingCorner 79 = .ok (.aload_n 0, 1) := by decide +kernel
theorem dX3_takesRingCorner_80 : decode cX3_takesRingCorner 80 = .ok (.getfield 27, 3) := by decide +kernel
theorem dX3_takesRingCorner_83 : decode cX3_takesRingCorner 83 = .ok (.ifCond .eq 18, 3) := by decide +kernel
theorem dX3_takesRingCorner_86 : decode cX3_takesRingCorner 86 = .ok (.aload_n 1, 1) := by decide +kernel
theorem dX3_takesRingCorner_87 : decode cX3_takesRingCorner 87 = .ok (.aload_n 0, 1) := by decide +kernel
theorem dX3_takesRingCorner_88 : decode cX3_takesRingCorner 88 = .ok (.getfield 33, 3) := by decide +kernel
theorem dX3_takesRingCorner_91 : decode cX3_takesRingCorner 91 = .ok (.aload_n 0, 1) := by decide +kernel
theorem dX3_takesRingCorner_92 : decode cX3_takesRingCorner 92 = .ok (.getfield 21, 3) := by decide +kernel
theorem dX3_takesRingCorner_95 : decode cX3_takesRingCorner 95 = .ok (.invokevirtual 110, 3) := by decide +kernel
theorem dX3_takesRingCorner_98 : decode cX3_takesRingCorner 98 = .ok (.ifCond .eq 7, 3) := by decide +kernel
theorem dX3_takesRingCorner_101 : decode cX3_takesRingCorner 101 = .ok (.iconst 1, 1) := by decide +kernel
theorem dX3_takesRingCorner_102 : decode cX3_takesRingCorner 102 = .ok (.goto 4, 3) := by decide +kernel
theorem dX3_takesRingCorner_105 : decode cX3_takesRingCorner 105 = .ok (.iconst 0, 1) := by decide +kernel
theorem dX3_takesRingCorner_106 : decode cX3_takesRingCorner 106 = .ok (.ireturn, 1) := by decide +kernel
theorem dX3_takesSeamCorner_0 : decode cX3_takesSeamCorner 0 = .ok (.aload_n 0, 1) := by decide +kernel
theorem dX3_takesSeamCorner_1 : decode cX3_takesSeamCorner 1 = .ok (.getfield 27, 3) := by decide +kernel
theorem dX3_takesSeamCorner_4 : decode cX3_takesSeamCorner 4 = .ok (.iconst 1, 1) := by decide +kernel
theorem dX3_takesSeamCorner_5 : decode cX3_takesSeamCorner 5 = .ok (.if_icmp .gt 14, 3) := by decide +kernel
theorem dX3_takesSeamCorner_8 : decode cX3_takesSeamCorner 8 = .ok (.aload_n 1, 1) := by decide +kernel
theorem dX3_takesSeamCorner_9 : decode cX3_takesSeamCorner 9 = .ok (.aload_n 0, 1) := by decide +kernel
theorem dX3_takesSeamCorner_10 : decode cX3_takesSeamCorner 10 = .ok (.getfield 21, 3) := by decide +kernel
theorem dX3_takesSeamCorner_13 : decode cX3_takesSeamCorner 13 = .ok (.invokevirtual 103, 3) := by decide +kernel
theorem dX3_takesSeamCorner_16 : decode cX3_takesSeamCorner 16 = .ok (.ifCond .ne 5, 3) := by decide +kernel
theorem dX3_takesSeamCorner_19 : decode cX3_takesSeamCorner 19 = .ok (.iconst 0, 1) := by decide +kernel
theorem dX3_takesSeamCorner_20 : decode cX3_takesSeamCorner 20 = .ok (.ireturn, 1) := by decide +kernel
theorem dX3_takesSeamCorner_21 : decode cX3_takesSeamCorner 21 = .ok (.aload_n 0, 1) := by decide +kernel
theorem dX3_takesSeamCorner_22 : decode cX3_takesSeamCorner 22 = .ok (.getfield 27, 3) := by decide +kernel
theorem dX3_takesSeamCorner_25 : decode cX3_takesSeamCorner 25 = .ok (.ifCond .eq 29, 3) := by decide +kernel
theorem dX3_takesSeamCorner_28 : decode cX3_takesSeamCorner 28 = .ok (.aload_n 0, 1) := by decide +kernel
theorem dX3_takesSeamCorner_29 : decode cX3_takesSeamCorner 29 = .ok (.getfield 21, 3) := by decide +kernel
theorem dX3_takesSeamCorner_32 : decode cX3_takesSeamCorner 32 = .ok (.aload_n 0, 1) := by decide +kernel
theorem dX3_takesSeamCorner_33 : decode cX3_takesSeamCorner 33 = .ok (.getfield 30, 3) := by decide +kernel
theorem dX3_takesSeamCorner_36 : decode cX3_takesSeamCorner 36 = .ok (.if_icmp .eq 22, 3) := by decide +kernel
theorem dX3_takesSeamCorner_39 : decode cX3_takesSeamCorner 39 = .ok (.aload_n 1, 1) := by decide +kernel
theorem dX3_takesSeamCorner_40 : decode cX3_takesSeamCorner 40 = .ok (.aload_n 0, 1) := by decide +kernel
theorem dX3_takesSeamCorner_41 : decode cX3_takesSeamCorner 41 = .ok (.getfield 30, 3) := by decide +kernel
theorem dX3_takesSeamCorner_44 : decode cX3_takesSeamCorner 44 = .ok (.aload_n 0, 1) := by decide +kernel
theorem dX3_takesSeamCorner_45 : decode cX3_takesSeamCorner 45 = .ok (.getfield 21, 3) := by decide +kernel
theorem dX3_takesSeamCorner_48 : decode cX3_takesSeamCorner 48 = .ok (.invokevirtual 110, 3) := by decide +kernel
theorem dX3_takesSeamCorner_51 : decode cX3_takesSeamCorner 51 = .ok (.ifCond .eq 7, 3) := by decide +kernel
theorem dX3_takesSeamCorner_54 : decode cX3_takesSeamCorner 54 = .ok (.iconst 1, 1) := by decide +kernel
theorem dX3_takesSeamCorner_55 : decode cX3_takesSeamCorner 55 = .ok (.goto 4, 3) := by decide +kernel
theorem dX3_takesSeamCorner_58 : decode cX3_takesSeamCorner 58 = .ok (.iconst 0, 1) := by decide +kernel
theorem dX3_takesSeamCorner_59 : decode cX3_takesSeamCorner 59 = .ok (.ireturn, 1) := by decide +kernel
theorem dX3_endsItem_0 : decode cX3_endsItem 0 = .ok (.aload_n 0, 1) := by decide +kernel
theorem dX3_endsItem_1 : decode cX3_endsItem 1 = .ok (.getfield 24, 3) := by decide +kernel
theorem dX3_endsItem_4 : decode cX3_endsItem 4 = .ok (.bipush 112, 2) := by decide +kernel
theorem dX3_endsItem_6 : decode cX3_endsItem 6 = .ok (.if_icmp .ne 11, 3) := by decide +kernel
theorem dX3_endsItem_9 : decode cX3_endsItem 9 = .ok (.aload_n 0, 1) := by decide +kernel
theorem dX3_endsItem_10 : decode cX3_endsItem 10 = .ok (.aload_n 1, 1) := by decide +kernel
theorem dX3_endsItem_11 : decode cX3_endsItem 11 = .ok (.invokevirtual 113, 3) := by decide +kernel
theorem dX3_endsItem_14 : decode cX3_endsItem 14 = .ok (.goto 29, 3) := by decide +kernel
theorem dX3_endsItem_17 : decode cX3_endsItem 17 = .ok (.aload_n 0, 1) := by decide +kernel
theorem dX3_endsItem_18 : decode cX3_endsItem 18 = .ok (.getfield 27, 3) := by decide +kernel
theorem dX3_endsItem_21 : decode cX3_endsItem 21 = .ok (.aload_n 0, 1) := by decide +kernel
theorem dX3_endsItem_22 : decode cX3_endsItem 22 = .ok (.getfield 24, 3) := by decide +kernel
theorem dX3_endsItem_25 : decode cX3_endsItem 25 = .ok (.bipush 104, 2) := by decide +kernel
theorem dX3_endsItem_27 : decode cX3_endsItem 27 = .ok (.if_icmp .ne 7, 3) := by decide +kernel
theorem dX3_endsItem_30 : decode cX3_endsItem 30 = .ok (.iconst 1, 1) := by decide +kernel
theorem dX3_endsItem_31 : decode cX3_endsItem 31 = .ok (.goto 4, 3) := by decide +kernel
theorem dX3_endsItem_34 : decode cX3_endsItem 34 = .ok (.iconst 2, 1) := by decide +kernel
theorem dX3_endsItem_35 : decode cX3_endsItem 35 = .ok (.if_icmp .ne 7, 3) := by decide +kernel
theorem dX3_endsItem_38 : decode cX3_endsItem 38 = .ok (.iconst 1, 1) := by decide +kernel
theorem dX3_endsItem_39 : decode cX3_endsItem 39 = .ok (.goto 4, 3) := by decide +kernel
theorem dX3_endsItem_42 : decode cX3_endsItem 42 = .ok (.iconst 0, 1) := by decide +kernel
theorem dX3_endsItem_43 : decode cX3_endsItem 43 = .ok (.istore_n 2, 1) := by decide +kernel
theorem dX3_endsItem_44 : decode cX3_endsItem 44 = .ok (.iload_n 2, 1) := by decide +kernel
theorem dX3_endsItem_45 : decode cX3_endsItem 45 = .ok (.ifCond .eq 18, 3) := by decide +kernel
theorem dX3_endsItem_48 : decode cX3_endsItem 48 = .ok (.aload_n 0, 1) := by decide +kernel
theorem dX3_endsItem_49 : decode cX3_endsItem 49 = .ok (.iconst 0, 1) := by decide +kernel
theorem dX3_endsItem_50 : decode cX3_endsItem 50 = .ok (.putfield 24, 3) := by decide +kernel
theorem dX3_endsItem_53 : decode cX3_endsItem 53 = .ok (.aload_n 1, 1) := by decide +kernel
theorem dX3_endsItem_54 : decode cX3_endsItem 54 = .ok (.dup, 1) := by decide +kernel
theorem dX3_endsItem_55 : decode cX3_endsItem 55 = .ok (.getfield 116, 3) := by decide +kernel
theorem dX3_endsItem_58 : decode cX3_endsItem 58 = .ok (.iconst 1, 1) := by decide +kernel
theorem dX3_endsItem_59 : decode cX3_endsItem 59 = .ok (.iadd, 1) := by decide +kernel
theorem dX3_endsItem_60 : decode cX3_endsItem 60 = .ok (.putfield 116, 3) := by decide +kernel
theorem dX3_endsItem_63 : decode cX3_endsItem 63 = .ok (.iload_n 2, 1) := by decide +kernel
theorem dX3_endsItem_64 : decode cX3_endsItem 64 = .ok (.ireturn, 1) := by decide +kernel
theorem dX3_endsRing_0 : decode cX3_endsRing 0 = .ok (.aload_n 1, 1) := by decide +kernel
theorem dX3_endsRing_1 : decode cX3_endsRing 1 = .ok (.getfield 81, 3) := by decide +kernel
theorem dX3_endsRing_4 : decode cX3_endsRing 4 = .ok (.iconst 4, 1) := by decide +kernel
theorem dX3_endsRing_5 : decode cX3_endsRing 5 = .ok (.if_icmp .ge 26, 3) := by decide +kernel
theorem dX3_endsRing_8 : decode cX3_endsRing 8 = .ok (.aload_n 0, 1) := by decide +kernel
theorem dX3_endsRing_9 : decode cX3_endsRing 9 = .ok (.getfield 27, 3) := by decide +kernel
theorem dX3_endsRing_12 : decode cX3_endsRing 12 = .ok (.iconst 3, 1) := by decide +kernel
theorem dX3_endsRing_13 : decode cX3_endsRing 13 = .ok (.if_icmp .lt 18, 3) := by decide +kernel
theorem dX3_endsRing_16 : decode cX3_endsRing 16 = .ok (.aload_n 1, 1) := by decide +kernel
theorem dX3_endsRing_17 : decode cX3_endsRing 17 = .ok (.aload_n 0, 1) := by decide +kernel
theorem dX3_endsRing_18 : decode cX3_endsRing 18 = .ok (.getfield 33, 3) := by decide +kernel
theorem dX3_endsRing_21 : decode cX3_endsRing 21 = .ok (.aload_n 0, 1) := by decide +kernel
theorem dX3_endsRing_22 : decode cX3_endsRing 22 = .ok (.getfield 30, 3) := by decide +kernel
theorem dX3_endsRing_25 : decode cX3_endsRing 25 = .ok (.invokevirtual 110, 3) := by decide +kernel
theorem dX3_endsRing_28 : decode cX3_endsRing 28 = .ok (.ifCond .ne 5, 3) := by decide +kernel
theorem dX3_endsRing_31 : decode cX3_endsRing 31 = .ok (.iconst 0, 1) := by decide +kernel
theorem dX3_endsRing_32 : decode cX3_endsRing 32 = .ok (.ireturn, 1) := by decide +kernel
theorem dX3_endsRing_33 : decode cX3_endsRing 33 = .ok (.aload_n 1, 1) := by decide +kernel
theorem dX3_endsRing_34 : decode cX3_endsRing 34 = .ok (.getfield 119, 3) := by decide +kernel
theorem dX3_endsRing_37 : decode cX3_endsRing 37 = .ok (.aload_n 1, 1) := by decide +kernel
theorem dX3_endsRing_38 : decode cX3_endsRing 38 = .ok (.getfield 81, 3) := by decide +kernel
theorem dX3_endsRing_41 : decode cX3_endsRing 41 = .ok (.aload_n 0, 1) := by decide +kernel
theorem dX3_endsRing_42 : decode cX3_endsRing 42 = .ok (.getfield 27, 3) := by decide +kernel
theorem dX3_endsRing_45 : decode cX3_endsRing 45 = .ok (.iastore, 1) := by decide +kernel
theorem dX3_endsRing_46 : decode cX3_endsRing 46 = .ok (.aload_n 1, 1) := by decide +kernel
theorem dX3_endsRing_47 : decode cX3_endsRing 47 = .ok (.dup, 1) := by decide +kernel
theorem dX3_endsRing_48 : decode cX3_endsRing 48 = .ok (.getfield 81, 3) := by decide +kernel
theorem dX3_endsRing_51 : decode cX3_endsRing 51 = .ok (.iconst 1, 1) := by decide +kernel
theorem dX3_endsRing_52 : decode cX3_endsRing 52 = .ok (.iadd, 1) := by decide +kernel
theorem dX3_endsRing_53 : decode cX3_endsRing 53 = .ok (.putfield 81, 3) := by decide +kernel
theorem dX3_endsRing_56 : decode cX3_endsRing 56 = .ok (.iconst 1, 1) := by decide +kernel
theorem dX3_endsRing_57 : decode cX3_endsRing 57 = .ok (.ireturn, 1) := by decide +kernel
