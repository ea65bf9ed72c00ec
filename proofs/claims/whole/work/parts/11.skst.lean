theorem dJ6_bitCount_0f7a4_0 : decode cJ6_bitCount_0f7a4 0 = .ok (.iload_n 0, 1) := by decide +kernel
theorem dJ6_bitCount_0f7a4_1 : decode cJ6_bitCount_0f7a4 1 = .ok (.iload_n 0, 1) := by decide +kernel
theorem dJ6_bitCount_0f7a4_2 : decode cJ6_bitCount_0f7a4 2 = .ok (.iconst 1, 1) := by decide +kernel
theorem dJ6_bitCount_0f7a4_3 : decode cJ6_bitCount_0f7a4 3 = .ok (.iushr, 1) := by decide +kernel
theorem dJ6_bitCount_0f7a4_4 : decode cJ6_bitCount_0f7a4 4 = .ok (.ldc_w 265, 3) := by decide +kernel
theorem dJ6_bitCount_0f7a4_7 : decode cJ6_bitCount_0f7a4 7 = .ok (.iand, 1) := by decide +kernel
theorem dJ6_bitCount_0f7a4_8 : decode cJ6_bitCount_0f7a4 8 = .ok (.isub, 1) := by decide +kernel
theorem dJ6_bitCount_0f7a4_9 : decode cJ6_bitCount_0f7a4 9 = .ok (.istore_n 0, 1) := by decide +kernel
theorem dJ6_bitCount_0f7a4_10 : decode cJ6_bitCount_0f7a4 10 = .ok (.iload_n 0, 1) := by decide +kernel
theorem dJ6_bitCount_0f7a4_11 : decode cJ6_bitCount_0f7a4 11 = .ok (.ldc_w 266, 3) := by decide +kernel
theorem dJ6_bitCount_0f7a4_14 : decode cJ6_bitCount_0f7a4 14 = .ok (.iand, 1) := by decide +kernel
theorem dJ6_bitCount_0f7a4_15 : decode cJ6_bitCount_0f7a4 15 = .ok (.iload_n 0, 1) := by decide +kernel
theorem dJ6_bitCount_0f7a4_16 : decode cJ6_bitCount_0f7a4 16 = .ok (.iconst 2, 1) := by decide +kernel
theorem dJ6_bitCount_0f7a4_17 : decode cJ6_bitCount_0f7a4 17 = .ok (.iushr, 1) := by decide +kernel
theorem dJ6_bitCount_0f7a4_18 : decode cJ6_bitCount_0f7a4 18 = .ok (.ldc_w 266, 3) := by decide +kernel
theorem dJ6_bitCount_0f7a4_21 : decode cJ6_bitCount_0f7a4 21 = .ok (.iand, 1) := by decide +kernel
theorem dJ6_bitCount_0f7a4_22 : decode cJ6_bitCount_0f7a4 22 = .ok (.iadd, 1) := by decide +kernel
theorem dJ6_bitCount_0f7a4_23 : decode cJ6_bitCount_0f7a4 23 = .ok (.istore_n 0, 1) := by decide +kernel
theorem dJ6_bitCount_0f7a4_24 : decode cJ6_bitCount_0f7a4 24 = .ok (.iload_n 0, 1) := by decide +kernel
theorem dJ6_bitCount_0f7a4_25 : decode cJ6_bitCount_0f7a4 25 = .ok (.iload_n 0, 1) := by decide +kernel
theorem dJ6_bitCount_0f7a4_26 : decode cJ6_bitCount_0f7a4 26 = .ok (.iconst 4, 1) := by decide +kernel
theorem dJ6_bitCount_0f7a4_27 : decode cJ6_bitCount_0f7a4 27 = .ok (.iushr, 1) := by decide +kernel
theorem dJ6_bitCount_0f7a4_28 : decode cJ6_bitCount_0f7a4 28 = .ok (.iadd, 1) := by decide +kernel
theorem dJ6_bitCount_0f7a4_29 : decode cJ6_bitCount_0f7a4 29 = .ok (.ldc_w 267, 3) := by decide +kernel
theorem dJ6_bitCount_0f7a4_32 : decode cJ6_bitCount_0f7a4 32 = .ok (.iand, 1) := by decide +kernel
theorem dJ6_bitCount_0f7a4_33 : decode cJ6_bitCount_0f7a4 33 = .ok (.istore_n 0, 1) := by decide +kernel
theorem dJ6_bitCount_0f7a4_34 : decode cJ6_bitCount_0f7a4 34 = .ok (.iload_n 0, 1) := by decide +kernel
theorem dJ6_bitCount_0f7a4_35 : decode cJ6_bitCount_0f7a4 35 = .ok (.iload_n 0, 1) := by decide +kernel
theorem dJ6_bitCount_0f7a4_36 : decode cJ6_bitCount_0f7a4 36 = .ok (.bipush 8, 2) := by decide +kernel
theorem dJ6_bitCount_0f7a4_38 : decode cJ6_bitCount_0f7a4 38 = .ok (.iushr, 1) := by decide +kernel
theorem dJ6_bitCount_0f7a4_39 : decode cJ6_bitCount_0f7a4 39 = .ok (.iadd, 1) := by decide +kernel
theorem dJ6_bitCount_0f7a4_40 : decode cJ6_bitCount_0f7a4 40 = .ok (.istore_n 0, 1) := by decide +kernel
theorem dJ6_bitCount_0f7a4_41 : decode cJ6_bitCount_0f7a4 41 = .ok (.iload_n 0, 1) := by decide +kernel
theorem dJ6_bitCount_0f7a4_42 : decode cJ6_bitCount_0f7a4 42 = .ok (.iload_n 0, 1) := by decide +kernel
theorem dJ6_bitCount_0f7a4_43 : decode cJ6_bitCount_0f7a4 43 = .ok (.bipush 16, 2) := by decide +kernel
theorem dJ6_bitCount_0f7a4_45 : decode cJ6_bitCount_0f7a4 45 = .ok (.iushr, 1) := by decide +kernel
theorem dJ6_bitCount_0f7a4_46 : decode cJ6_bitCount_0f7a4 46 = .ok (.iadd, 1) := by decide +kernel
theorem dJ6_bitCount_0f7a4_47 : decode cJ6_bitCount_0f7a4 47 = .ok (.istore_n 0, 1) := by decide +kernel
theorem dJ6_bitCount_0f7a4_48 : decode cJ6_bitCount_0f7a4 48 = .ok (.iload_n 0, 1) := by decide +kernel
theorem dJ6_bitCount_0f7a4_49 : decode cJ6_bitCount_0f7a4 49 = .ok (.bipush 63, 2) := by decide +kernel
theorem dJ6_bitCount_0f7a4_51 : decode cJ6_bitCount_0f7a4 51 = .ok (.iand, 1) := by decide +kernel
theorem dJ6_bitCount_0f7a4_52 : decode cJ6_bitCount_0f7a4 52 = .ok (.ireturn, 1) := by decide +kernel
theorem dJ6_numberOfTrailingZeros_0f7a4_0 : decode cJ6_numberOfTrailingZeros_0f7a4 0 = .ok (.iload_n 0, 1) := by decide +kernel
theorem dJ6_numberOfTrailingZeros_0f7a4_1 : decode cJ6_numberOfTrailingZeros_0f7a4 1 = .ok (.iconst (-1), 1) := by decide +kernel
theorem dJ6_numberOfTrailingZeros_0f7a4_2 : decode cJ6_numberOfTrailingZeros_0f7a4 2 = .ok (.ixor, 1) := by decide +kernel
theorem dJ6_numberOfTrailingZeros_0f7a4_3 : decode cJ6_numberOfTrailingZeros_0f7a4 3 = .ok (.iload_n 0, 1) := by decide +kernel
theorem dJ6_numberOfTrailingZeros_0f7a4_4 : decode cJ6_numberOfTrailingZeros_0f7a4 4 = .ok (.iconst 1, 1) := by decide +kernel
theorem dJ6_numberOfTrailingZeros_0f7a4_5 : decode cJ6_numberOfTrailingZeros_0f7a4 5 = .ok (.isub, 1) := by decide +kernel
theorem dJ6_numberOfTrailingZeros_0f7a4_6 : decode cJ6_numberOfTrailingZeros_0f7a4 6 = .ok (.iand, 1) := by decide +kernel
theorem dJ6_numberOfTrailingZeros_0f7a4_7 : decode cJ6_numberOfTrailingZeros_0f7a4 7 = .ok (.istore_n 0, 1) := by decide +kernel
theorem dJ6_numberOfTrailingZeros_0f7a4_8 : decode cJ6_numberOfTrailingZeros_0f7a4 8 = .ok (.iload_n 0, 1) := by decide +kernel
theorem dJ6_numberOfTrailingZeros_0f7a4_9 : decode cJ6_numberOfTrailingZeros_0f7a4 9 = .ok (.ifCond .gt 8, 3) := by decide +kernel
theorem dJ6_numberOfTrailingZeros_0f7a4_12 : decode cJ6_numberOfTrailingZeros_0f7a4 12 = .ok (.iload_n 0, 1) := by decide +kernel
theorem dJ6_numberOfTrailingZeros_0f7a4_13 : decode cJ6_numberOfTrailingZeros_0f7a4 13 = .ok (.bipush 32, 2) := by decide +kernel
theorem dJ6_numberOfTrailingZeros_0f7a4_15 : decode cJ6_numberOfTrailingZeros_0f7a4 15 = .ok (.iand, 1) := by decide +kernel
theorem dJ6_numberOfTrailingZeros_0f7a4_16 : decode cJ6_numberOfTrailingZeros_0f7a4 16 = .ok (.ireturn, 1) := by decide +kernel
theorem dJ6_numberOfTrailingZeros_0f7a4_17 : decode cJ6_numberOfTrailingZeros_0f7a4 17 = .ok (.iconst 1, 1) := by decide +kernel
theorem dJ6_numberOfTrailingZeros_0f7a4_18 : decode cJ6_numberOfTrailingZeros_0f7a4 18 = .ok (.istore_n 1, 1) := by decide +kernel
theorem dJ6_numberOfTrailingZeros_0f7a4_19 : decode cJ6_numberOfTrailingZeros_0f7a4 19 = .ok (.iload_n 0, 1) := by decide +kernel
theorem dJ6_numberOfTrailingZeros_0f7a4_20 : decode cJ6_numberOfTrailingZeros_0f7a4 20 = .ok (.ldc_w 264, 3) := by decide +kernel
theorem dJ6_numberOfTrailingZeros_0f7a4_23 : decode cJ6_numberOfTrailingZeros_0f7a4 23 = .ok (.if_icmp .le 11, 3) := by decide +kernel
theorem dJ6_numberOfTrailingZeros_0f7a4_26 : decode cJ6_numberOfTrailingZeros_0f7a4 26 = .ok (.iinc 1 16, 3) := by decide +kernel
theorem dJ6_numberOfTrailingZeros_0f7a4_29 : decode cJ6_numberOfTrailingZeros_0f7a4 29 = .ok (.iload_n 0, 1) := by decide +kernel
theorem dJ6_numberOfTrailingZeros_0f7a4_30 : decode cJ6_numberOfTrailingZeros_0f7a4 30 = .ok (.bipush 16, 2) := by decide +kernel
theorem dJ6_numberOfTrailingZeros_0f7a4_32 : decode cJ6_numberOfTrailingZeros_0f7a4 32 = .ok (.iushr, 1) := by decide +kernel
theorem dJ6_numberOfTrailingZeros_0f7a4_33 : decode cJ6_numberOfTrailingZeros_0f7a4 33 = .ok (.istore_n 0, 1) := by decide +kernel
theorem dJ6_numberOfTrailingZeros_0f7a4_34 : decode cJ6_numberOfTrailingZeros_0f7a4 34 = .ok (.iload_n 0, 1) := by decide +kernel
theorem dJ6_numberOfTrailingZeros_0f7a4_35 : decode cJ6_numberOfTrailingZeros_0f7a4 35 = .ok (.sipush 256, 3) := by decide +kernel
theorem dJ6_numberOfTrailingZeros_0f7a4_38 : decode cJ6_numberOfTrailingZeros_0f7a4 38 = .ok (.if_icmp .le 11, 3) := by decide +kernel
theorem dJ6_numberOfTrailingZeros_0f7a4_41 : decode cJ6_numberOfTrailingZeros_0f7a4 41 = .ok (.iinc 1 8, 3) := by decide +kernel
theorem dJ6_numberOfTrailingZeros_0f7a4_44 : decode cJ6_numberOfTrailingZeros_0f7a4 44 = .ok (.iload_n 0, 1) := by decide +kernel
theorem dJ6_numberOfTrailingZeros_0f7a4_45 : decode cJ6_numberOfTrailingZeros_0f7a4 45 = .ok (.bipush 8, 2) := by decide +kernel
theorem dJ6_numberOfTrailingZeros_0f7a4_47 : decode cJ6_numberOfTrailingZeros_0f7a4 47 = .ok (.iushr, 1) := by decide +kernel
theorem dJ6_numberOfTrailingZeros_0f7a4_48 : decode cJ6_numberOfTrailingZeros_0f7a4 48 = .ok (.istore_n 0, 1) := by decide +kernel
theorem dJ6_numberOfTrailingZeros_0f7a4_49 : decode cJ6_numberOfTrailingZeros_0f7a4 49 = .ok (.iload_n 0, 1) := by decide +kernel
theorem dJ6_numberOfTrailingZeros_0f7a4_50 : decode cJ6_numberOfTrailingZeros_0f7a4 50 = .ok (.bipush 16, 2) := by decide +kernel
theorem dJ6_numberOfTrailingZeros_0f7a4_52 : decode cJ6_numberOfTrailingZeros_0f7a4 52 = .ok (.if_icmp .le 10, 3) := by decide +kernel
theorem dJ6_numberOfTrailingZeros_0f7a4_55 : decode cJ6_numberOfTrailingZeros_0f7a4 55 = .ok (.iinc 1 4, 3) := by decide +kernel
theorem dJ6_numberOfTrailingZeros_0f7a4_58 : decode cJ6_numberOfTrailingZeros_0f7a4 58 = .ok (.iload_n 0, 1) := by decide +kernel
theorem dJ6_numberOfTrailingZeros_0f7a4_59 : decode cJ6_numberOfTrailingZeros_0f7a4 59 = .ok (.iconst 4, 1) := by decide +kernel
theorem dJ6_numberOfTrailingZeros_0f7a4_60 : decode cJ6_numberOfTrailingZeros_0f7a4 60 = .ok (.iushr, 1) := by decide +kernel
theorem dJ6_numberOfTrailingZeros_0f7a4_61 : decode cJ6_numberOfTrailingZeros_0f7a4 61 = .ok (.istore_n 0, 1) := by decide +kernel
theorem dJ6_numberOfTrailingZeros_0f7a4_62 : decode cJ6_numberOfTrailingZeros_0f7a4 62 = .ok (.iload_n 0, 1) := by decide +kernel
theorem dJ6_numberOfTrailingZeros_0f7a4_63 : decode cJ6_numberOfTrailingZeros_0f7a4 63 = .ok (.iconst 4, 1) := by decide +kernel
theorem dJ6_numberOfTrailingZeros_0f7a4_64 : decode cJ6_numberOfTrailingZeros_0f7a4 64 = .ok (.if_icmp .le 10, 3) := by decide +kernel
theorem dJ6_numberOfTrailingZeros_0f7a4_67 : decode cJ6_numberOfTrailingZeros_0f7a4 67 = .ok (.iinc 1 2, 3) := by decide +kernel
theorem dJ6_numberOfTrailingZeros_0f7a4_70 : decode cJ6_numberOfTrailingZeros_0f7a4 70 = .ok (.iload_n 0, 1) := by decide +kernel
theorem dJ6_numberOfTrailingZeros_0f7a4_71 : decode cJ6_numberOfTrailingZeros_0f7a4 71 = .ok (.iconst 2, 1) := by decide +kernel
theorem dJ6_numberOfTrailingZeros_0f7a4_72 : decode cJ6_numberOfTrailingZeros_0f7a4 72 = .ok (.iushr, 1) := by decide +kernel
theorem dJ6_numberOfTrailingZeros_0f7a4_73 : decode cJ6_numberOfTrailingZeros_0f7a4 73 = .ok (.istore_n 0, 1) := by decide +kernel
theorem dJ6_numberOfTrailingZeros_0f7a4_74 : decode cJ6_numberOfTrailingZeros_0f7a4 74 = .ok (.iload_n 1, 1) := by decide +kernel
theorem dJ6_numberOfTrailingZeros_0f7a4_75 : decode cJ6_numberOfTrailingZeros_0f7a4 75 = .ok (.iload_n 0, 1) := by decide +kernel
theorem dJ6_numberOfTrailingZeros_0f7a4_76 : decode cJ6_numberOfTrailingZeros_0f7a4 76 = .ok (.iconst 1, 1) := by decide +kernel
theorem dJ6_numberOfTrailingZeros_0f7a4_77 : decode cJ6_numberOfTrailingZeros_0f7a4 77 = .ok (.iushr, 1) := by decide +kernel
theorem dJ6_numberOfTrailingZeros_0f7a4_78 : decode cJ6_numberOfTrailingZeros_0f7a4 78 = .ok (.iadd, 1) := by decide +kernel
theorem dJ6_numberOfTrailingZeros_0f7a4_79 : decode cJ6_numberOfTrailingZeros_0f7a4 79 = .ok (.ireturn, 1) := by decide +kernel
theorem dX10_isKind_0 : decode cX10_isKind 0 = .ok (.iload_n 0, 1) := by decide +kernel
theorem dX10_isKind_1 : decode cX10_isKind 1 = .ok (.ifCond .lt 12, 3) := by decide +kernel
theorem dX10_isKind_4 : decode cX10_isKind 4 = .ok (.iload_n 0, 1) := by decide +kernel
theorem dX10_isKind_5 : decode cX10_isKind 5 = .ok (.iconst 5, 1) := by decide +kernel
theorem dX10_isKind_6 : decode cX10_isKind 6 = .ok (.if_icmp .ge 7, 3) := by decide +kernel
theorem dX10_isKind_9 : decode cX10_isKind 9 = .ok (.iconst 1, 1) := by decide +kernel
theorem dX10_isKind_10 : decode cX10_isKind 10 = .ok (.goto 4, 3) := by decide +kernel
theorem dX10_isKind_13 : decode cX10_isKind 13 = .ok (.iconst 0, 1) := by decide +kernel
theorem dX10_isKind_14 : decode cX10_isKind 14 = .ok (.ireturn, 1) := by decide +kernel
theorem dX10_pick_0 : decode cX10_pick 0 = .ok (.iload_n 0, 1) := by decide +kernel
theorem dX10_pick_1 : decode cX10_pick 1 = .ok (.tableswitch 33 0 2 #[27, 29, 31], 27) := by decide +kernel
theorem dX10_pick_28 : decode cX10_pick 28 = .ok (.iload_n 1, 1) := by decide +kernel
theorem dX10_pick_29 : decode cX10_pick 29 = .ok (.ireturn, 1) := by decide +kernel
theorem dX10_pick_30 : decode cX10_pick 30 = .ok (.iload_n 2, 1) := by decide +kernel
theorem dX10_pick_31 : decode cX10_pick 31 = .ok (.ireturn, 1) := by decide +kernel
theorem dX10_pick_32 : decode cX10_pick 32 = .ok (.iload_n 3, 1) := by decide +kernel
theorem dX10_pick_33 : decode cX10_pick 33 = .ok (.ireturn, 1) := by decide +kernel
theorem dX10_pick_34 : decode cX10_pick 34 = .ok (.iconst (-1), 1) := by decide +kernel
theorem dX10_pick_35 : decode cX10_pick 35 = .ok (.ireturn, 1) := by decide +kernel
theorem dX10_owned_0 : decode cX10_owned 0 = .ok (.iconst 0, 1) := by decide +kernel
theorem dX10_owned_1 : decode cX10_owned 1 = .ok (.istore_n 2, 1) := by decide +kernel
theorem dX10_owned_2 : decode cX10_owned 2 = .ok (.iconst 0, 1) := by decide +kernel
theorem dX10_owned_3 : decode cX10_owned 3 = .ok (.istore_n 3, 1) := by decide +kernel
theorem dX10_owned_4 : decode cX10_owned 4 = .ok (.iload_n 3, 1) := by decide +kernel
theorem dX10_owned_5 : decode cX10_owned 5 = .ok (.iload_n 1, 1) := by decide +kernel
theorem dX10_owned_6 : decode cX10_owned 6 = .ok (.if_icmp .ge 30, 3) := by decide +kernel
theorem dX10_owned_9 : decode cX10_owned 9 = .ok (.iload_n 3, 1) := by decide +kernel
theorem dX10_owned_10 : decode cX10_owned 10 = .ok (.aload_n 0, 1) := by decide +kernel
theorem dX10_owned_11 : decode cX10_owned 11 = .ok (.arraylength, 1) := by decide +kernel
theorem dX10_owned_12 : decode cX10_owned 12 = .ok (.if_icmp .ge 24, 3) := by decide +kernel
theorem dX10_owned_15 : decode cX10_owned 15 = .ok (.iload_n 2, 1) := by decide +kernel
theorem dX10_owned_16 : decode cX10_owned 16 = .ok (.aload_n 0, 1) := by decide +kernel
theorem dX10_owned_17 : decode cX10_owned 17 = .ok (.iload_n 3, 1) := by decide +kernel
theorem dX10_owned_18 : decode cX10_owned 18 = .ok (.iaload, 1) := by decide +kernel
theorem dX10_owned_19 : decode cX10_owned 19 = .ok (.iconst 5, 1) := by decide +kernel
theorem dX10_owned_20 : decode cX10_owned 20 = .ok (.if_icmp .eq 7, 3) := by decide +kernel
theorem dX10_owned_23 : decode cX10_owned 23 = .ok (.iconst 1, 1) := by decide +kernel
theorem dX10_owned_24 : decode cX10_owned 24 = .ok (.goto 4, 3) := by decide +kernel
theorem dX10_owned_27 : decode cX10_owned 27 = .ok (.iconst 0, 1) := by decide +kernel
theorem dX10_owned_28 : decode cX10_owned 28 = .ok (.iadd, 1) := by decide +kernel
theorem dX10_owned_29 : decode cX10_owned 29 = .ok (.istore_n 2, 1) := by decide +kernel
theorem dX10_owned_30 : decode cX10_owned 30 = .ok (.iinc 3 1, 3) := by decide +kernel
theorem dX10_owned_33 : decode cX10_owned 33 = .ok (.goto (-29), 3) := by decide +kernel
theorem dX10_owned_36 : decode cX10_owned 36 = .ok (.iload_n 2, 1) := by decide +kernel
theorem dX10_owned_37 : decode cX10_owned 37 = .ok (.ireturn, 1) := by decide +kernel
theorem dX10_onesBelow_0 : decode cX10_onesBelow 0 = .ok (.iconst 0, 1) := by decide +kernel
theorem dX10_onesBelow_1 : decode cX10_onesBelow 1 = .ok (.istore_n 1, 1) := by decide +kernel
theorem dX10_onesBelow_2 : decode cX10_onesBelow 2 = .ok (.iconst 1, 1) := by decide +kernel
theorem dX10_onesBelow_3 : decode cX10_onesBelow 3 = .ok (.istore_n 2, 1) := by decide +kernel
theorem dX10_onesBelow_4 : decode cX10_onesBelow 4 = .ok (.iload_n 2, 1) := by decide +kernel
theorem dX10_onesBelow_5 : decode cX10_onesBelow 5 = .ok (.iload_n 0, 1) := by decide +kernel
theorem dX10_onesBelow_6 : decode cX10_onesBelow 6 = .ok (.if_icmp .ge 32, 3) := by decide +kernel
theorem dX10_onesBelow_9 : decode cX10_onesBelow 9 = .ok (.iconst 2, 1) := by decide +kernel
theorem dX10_onesBelow_10 : decode cX10_onesBelow 10 = .ok (.iload_n 2, 1) := by decide +kernel
theorem dX10_onesBelow_11 : decode cX10_onesBelow 11 = .ok (.imul, 1) := by decide +kernel
theorem dX10_onesBelow_12 : decode cX10_onesBelow 12 = .ok (.istore_n 3, 1) := by decide +kernel
theorem dX10_onesBelow_13 : decode cX10_onesBelow 13 = .ok (.iload_n 1, 1) := by decide +kernel
theorem dX10_onesBelow_14 : decode cX10_onesBelow 14 = .ok (.iload_n 0, 1) := by decide +kernel
theorem dX10_onesBelow_15 : decode cX10_onesBelow 15 = .ok (.iload_n 3, 1) := by decide +kernel
theorem dX10_onesBelow_16 : decode cX10_onesBelow 16 = .ok (.idiv, 1) := by decide +kernel
theorem dX10_onesBelow_17 : decode cX10_onesBelow 17 = .ok (.iload_n 2, 1) := by decide +kernel
theorem dX10_onesBelow_18 : decode cX10_onesBelow 18 = .ok (.imul, 1) := by decide +kernel
theorem dX10_onesBelow_19 : decode cX10_onesBelow 19 = .ok (.iconst 0, 1) := by decide +kernel
theorem dX10_onesBelow_20 : decode cX10_onesBelow 20 = .ok (.iload_n 0, 1) := by decide +kernel
theorem dX10_onesBelow_21 : decode cX10_onesBelow 21 = .ok (.iload_n 3, 1) := by decide +kernel
theorem dX10_onesBelow_22 : decode cX10_onesBelow 22 = .ok (.irem, 1) := by decide +kernel
theorem dX10_onesBelow_23 : decode cX10_onesBelow 23 = .ok (.iload_n 2, 1) := by decide +kernel
theorem dX10_onesBelow_24 : decode cX10_onesBelow 24 = .ok (.isub, 1) := by decide +kernel
theorem dX10_onesBelow_25 : decode cX10_onesBelow 25 = .ok (.invokestatic 432, 3) := by decide +kernel
theorem dX10_onesBelow_28 : decode cX10_onesBelow 28 = .ok (.iadd, 1) := by decide +kernel
theorem dX10_onesBelow_29 : decode cX10_onesBelow 29 = .ok (.iadd, 1) := by decide +kernel
theorem dX10_onesBelow_30 : decode cX10_onesBelow 30 = .ok (.istore_n 1, 1) := by decide +kernel
theorem dX10_onesBelow_31 : decode cX10_onesBelow 31 = .ok (.iload_n 2, 1) := by decide +kernel
theorem dX10_onesBelow_32 : decode cX10_onesBelow 32 = .ok (.iconst 2, 1) := by decide +kernel
theorem dX10_onesBelow_33 : decode cX10_onesBelow 33 = .ok (.imul, 1) := by decide +kernel
theorem dX10_onesBelow_34 : decode cX10_onesBelow 34 = .ok (.istore_n 2, 1) := by decide +kernel
theorem dX10_onesBelow_35 : decode cX10_onesBelow 35 = .ok (.goto (-31), 3) := by decide +kernel
theorem dX10_onesBelow_38 : decode cX10_onesBelow 38 = .ok (.iload_n 1, 1) := by decide +kernel
theorem dX10_onesBelow_39 : decode cX10_onesBelow 39 = .ok (.ireturn, 1) := by decide +kernel
theorem dX10_together_0 : decode cX10_together 0 = .ok (.iload_n 0, 1) := by decide +kernel
theorem dX10_together_1 : decode cX10_together 1 = .ok (.ifCond .ne 5, 3) := by decide +kernel
theorem dX10_together_4 : decode cX10_together 4 = .ok (.iload_n 1, 1) := by decide +kernel
theorem dX10_together_5 : decode cX10_together 5 = .ok (.ireturn, 1) := by decide +kernel
theorem dX10_together_6 : decode cX10_together 6 = .ok (.iload_n 0, 1) := by decide +kernel
theorem dX10_together_7 : decode cX10_together 7 = .ok (.iconst 1, 1) := by decide +kernel
theorem dX10_together_8 : decode cX10_together 8 = .ok (.iand, 1) := by decide +kernel
theorem dX10_together_9 : decode cX10_together 9 = .ok (.ifCond .eq 5, 3) := by decide +kernel
theorem dX10_together_12 : decode cX10_together 12 = .ok (.iconst 0, 1) := by decide +kernel
theorem dX10_together_13 : decode cX10_together 13 = .ok (.ireturn, 1) := by decide +kernel
theorem dX10_together_14 : decode cX10_together 14 = .ok (.iload_n 0, 1) := by decide +kernel
theorem dX10_together_15 : decode cX10_together 15 = .ok (.invokestatic 437, 3) := by decide +kernel
theorem dX10_together_18 : decode cX10_together 18 = .ok (.iconst 1, 1) := by decide +kernel
theorem dX10_together_19 : decode cX10_together 19 = .ok (.if_icmp .ne 8, 3) := by decide +kernel
theorem dX10_together_22 : decode cX10_together 22 = .ok (.iload_n 0, 1) := by decide +kernel
theorem dX10_together_23 : decode cX10_together 23 = .ok (.invokestatic 442, 3) := by decide +kernel
theorem dX10_together_26 : decode cX10_together 26 = .ok (.ireturn, 1) := by decide +kernel
theorem dX10_together_27 : decode cX10_together 27 = .ok (.iload_n 0, 1) := by decide +kernel
theorem dX10_together_28 : decode cX10_together 28 = .ok (.bipush 20, 2) := by decide +kernel
theorem dX10_together_30 : decode cX10_together 30 = .ok (.if_icmp .ne 7, 3) := by decide +kernel
theorem dX10_together_33 : decode cX10_together 33 = .ok (.iconst 2, 1) := by decide +kernel
theorem dX10_together_34 : decode cX10_together 34 = .ok (.goto 4, 3) := by decide +kernel
theorem dX10_together_37 : decode cX10_together 37 = .ok (.iconst 5, 1) := by decide +kernel
theorem dX10_together_38 : decode cX10_together 38 = .ok (.ireturn, 1) := by decide +kernel
theorem dX10_pageKindInTurn_0 : decode cX10_pageKindInTurn 0 = .ok (.iload_n 0, 1) := by decide +kernel
theorem dX10_pageKindInTurn_1 : decode cX10_pageKindInTurn 1 = .ok (.ifCond .ne 7, 3) := by decide +kernel
theorem dX10_pageKindInTurn_4 : decode cX10_pageKindInTurn 4 = .ok (.iconst 5, 1) := by decide +kernel
theorem dX10_pageKindInTurn_5 : decode cX10_pageKindInTurn 5 = .ok (.goto 6, 3) := by decide +kernel
theorem dX10_pageKindInTurn_8 : decode cX10_pageKindInTurn 8 = .ok (.iload_n 0, 1) := by decide +kernel
theorem dX10_pageKindInTurn_9 : decode cX10_pageKindInTurn 9 = .ok (.iconst 1, 1) := by decide +kernel
theorem dX10_pageKindInTurn_10 : decode cX10_pageKindInTurn 10 = .ok (.isub, 1) := by decide +kernel
theorem dX10_pageKindInTurn_11 : decode cX10_pageKindInTurn 11 = .ok (.ireturn, 1) := by decide +kernel
section G11_skst_lean_txt
variable {p : Program} {l : Launch} {e : Env} {s : State} {m : MethodId} {args : Array Value} {below : List Frame} {meth : Method} {c : Code} {H : Heap} {locs : List Loc} {ls : Array Slot} {E : Ge} {L : Lay} {fu d : Nat}
def fJ6_bitCount_0f7a4 (fu : Nat) (x0 : Int32) : Option Int32 :=
  lt ((x0 - ((((x0 : Int32).toUInt32 >>> ((1 : Int32).toUInt32 &&& Int32.toUInt32 31)).toInt32) &&& 1431655765))) fun x0_9 =>
  lt (((x0_9 &&& 858993459) + ((((x0_9 : Int32).toUInt32 >>> ((2 : Int32).toUInt32 &&& Int32.toUInt32 31)).toInt32) &&& 858993459))) fun x0_23 =>
  lt (((x0_23 + (((x0_23 : Int32).toUInt32 >>> ((4 : Int32).toUInt32 &&& Int32.toUInt32 31)).toInt32)) &&& 252645135)) fun x0_33 =>
  lt ((x0_33 + (((x0_33 : Int32).toUInt32 >>> ((8 : Int32).toUInt32 &&& Int32.toUInt32 31)).toInt32))) fun x0_40 =>
  lt ((x0_40 + (((x0_40 : Int32).toUInt32 >>> ((16 : Int32).toUInt32 &&& Int32.toUInt32 31)).toInt32))) fun x0_47 =>
  some (x0_47 &&& 63)
set_option maxRecDepth 100000 in
set_option maxHeartbeats 4000000 in
theorem mJ6_bitCount_0f7a4 {l : Launch} {E : Ge} {L : Lay} (fu d : Nat) {x0 : Int32} {M : Mm} {r : Int32}   (h : fJ6_bitCount_0f7a4 fu x0 = some r) : Ct l E L yJ6_bitCount_0f7a4 cJ6_bitCount_0f7a4 1 (some .int) (d + 0) [.int x0] M (some (.int r)) M := by
  refine Ct.of (by decide) ?_
  intro p e s m below meth c hr hlk B hR
  have B : Bx p s m _ c cJ6_bitCount_0f7a4 1 RJ6 E L := B
  have hx := B.1
  have hb := B.2.1
  have hl := lv_entry ([.int x0]) (n := 1) (Nat.le_of_ble_eq_true rfl)
  rw [lg_entry_eq]
  generalize (lg_sl ([.int x0]) ++ List.replicate (1 - (lg_sl ([.int x0])).length) Slot.unset).toArray = ls at hl ⊢
  have hl : lv_has ls 1 [(0, .int x0)] := hl
  unfold fJ6_bitCount_0f7a4 at h
  refine lv_iload_n hx hb dJ6_bitCount_0f7a4_0 rfl (lv_at hl 0 rfl) ?_
  refine lv_iload_n hx hb dJ6_bitCount_0f7a4_1 rfl (lv_at hl 0 rfl) ?_
  refine lv_iconst (v := 1) hx hb dJ6_bitCount_0f7a4_2 (by decide) ?_
  refine lv_iushr hx hb dJ6_bitCount_0f7a4_3 rfl ?_
  refine lc_J6_265 B dJ6_bitCount_0f7a4_4 ?_
  refine lv_iand hx hb dJ6_bitCount_0f7a4_7 ?_
  refine lv_isub hx hb dJ6_bitCount_0f7a4_8 ?_
  obtain ⟨x0_9, ex0_9, h⟩ := lt_el h
  refine r_nmI ex0_9 ?_
  refine lv_istore_n (lv' := [(0, .int x0_9)]) hx hb dJ6_bitCount_0f7a4_9 rfl hl (by decide) rfl (fun ls hl => ?_)
  refine lv_iload_n hx hb dJ6_bitCount_0f7a4_10 rfl (lv_at hl 0 rfl) ?_
  refine lc_J6_266 B dJ6_bitCount_0f7a4_11 ?_
  refine lv_iand hx hb dJ6_bitCount_0f7a4_14 ?_
  refine lv_iload_n hx hb dJ6_bitCount_0f7a4_15 rfl (lv_at hl 0 rfl) ?_
  refine lv_iconst (v := 2) hx hb dJ6_bitCount_0f7a4_16 (by decide) ?_
  refine lv_iushr hx hb dJ6_bitCount_0f7a4_17 rfl ?_
  refine lc_J6_266 B dJ6_bitCount_0f7a4_18 ?_
  refine lv_iand hx hb dJ6_bitCount_0f7a4_21 ?_
  refine lv_iadd hx hb dJ6_bitCount_0f7a4_22 ?_
  obtain ⟨x0_23, ex0_23, h⟩ := lt_el h
  refine r_nmI ex0_23 ?_
  refine lv_istore_n (lv' := [(0, .int x0_23)]) hx hb dJ6_bitCount_0f7a4_23 rfl hl (by decide) rfl (fun ls hl => ?_)
  refine lv_iload_n hx hb dJ6_bitCount_0f7a4_24 rfl (lv_at hl 0 rfl) ?_
  refine lv_iload_n hx hb dJ6_bitCount_0f7a4_25 rfl (lv_at hl 0 rfl) ?_
  refine lv_iconst (v := 4) hx hb dJ6_bitCount_0f7a4_26 (by decide) ?_
  refine lv_iushr hx hb dJ6_bitCount_0f7a4_27 rfl ?_
  refine lv_iadd hx hb dJ6_bitCount_0f7a4_28 ?_
  refine lc_J6_267 B dJ6_bitCount_0f7a4_29 ?_
  refine lv_iand hx hb dJ6_bitCount_0f7a4_32 ?_
  obtain ⟨x0_33, ex0_33, h⟩ := lt_el h
  refine r_nmI ex0_33 ?_
  refine lv_istore_n (lv' := [(0, .int x0_33)]) hx hb dJ6_bitCount_0f7a4_33 rfl hl (by decide) rfl (fun ls hl => ?_)
  refine lv_iload_n hx hb dJ6_bitCount_0f7a4_34 rfl (lv_at hl 0 rfl) ?_
  refine lv_iload_n hx hb dJ6_bitCount_0f7a4_35 rfl (lv_at hl 0 rfl) ?_
  refine lv_bipush (v := 8) hx hb dJ6_bitCount_0f7a4_36 (by decide) ?_
  refine lv_iushr hx hb dJ6_bitCount_0f7a4_38 rfl ?_
  refine lv_iadd hx hb dJ6_bitCount_0f7a4_39 ?_
  obtain ⟨x0_40, ex0_40, h⟩ := lt_el h
  refine r_nmI ex0_40 ?_
  refine lv_istore_n (lv' := [(0, .int x0_40)]) hx hb dJ6_bitCount_0f7a4_40 rfl hl (by decide) rfl (fun ls hl => ?_)
  refine lv_iload_n hx hb dJ6_bitCount_0f7a4_41 rfl (lv_at hl 0 rfl) ?_
  refine lv_iload_n hx hb dJ6_bitCount_0f7a4_42 rfl (lv_at hl 0 rfl) ?_
  refine lv_bipush (v := 16) hx hb dJ6_bitCount_0f7a4_43 (by decide) ?_
  refine lv_iushr hx hb dJ6_bitCount_0f7a4_45 rfl ?_
  refine lv_iadd hx hb dJ6_bitCount_0f7a4_46 ?_
  obtain ⟨x0_47, ex0_47, h⟩ := lt_el h
  refine r_nmI ex0_47 ?_
  refine lv_istore_n (lv' := [(0, .int x0_47)]) hx hb dJ6_bitCount_0f7a4_47 rfl hl (by decide) rfl (fun ls hl => ?_)
  refine lv_iload_n hx hb dJ6_bitCount_0f7a4_48 rfl (lv_at hl 0 rfl) ?_
  refine lv_bipush (v := 63) hx hb dJ6_bitCount_0f7a4_49 (by decide) ?_
  refine lv_iand hx hb dJ6_bitCount_0f7a4_51 ?_
  exact r_iretP B hR hr hlk h dJ6_bitCount_0f7a4_52
def fJ6_numberOfTrailingZeros_0f7a4_j74 (fu : Nat) (x0 : Int32) (x1 : Int32) : Option Int32 :=
  some (x1 + (((x0 : Int32).toUInt32 >>> ((1 : Int32).toUInt32 &&& Int32.toUInt32 31)).toInt32))
set_option maxRecDepth 100000 in
set_option maxHeartbeats 4000000 in
theorem wJ6_numberOfTrailingZeros_0f7a4_j74 {r : Int32}   {x0 : Int32} {x1 : Int32} {M : Mm} (B : Bx p s m args c cJ6_numberOfTrailingZeros_0f7a4 2 RJ6 E L) (hr : meth.sig.returnType = (some .int)) (hlk : meth.locks = false)   (h : fJ6_numberOfTrailingZeros_0f7a4_j74 fu x0 x1 = some r) (hR : Rx s E L M H locs) (hl : lv_has ls 2 [(0, .int x0), (1, .int x1)]) : W p l e (rmD (d + 0)) s m args below meth c H locs 0 0 (MQ below (QcM E L (some (.int r)) M) args s 0 0 E.2.2.2) (F0 m 74 ls []) := by
  have hx := B.1
  have hb := B.2.1
  unfold fJ6_numberOfTrailingZeros_0f7a4_j74 at h
  refine lv_iload_n hx hb dJ6_numberOfTrailingZeros_0f7a4_74 rfl (lv_at hl 1 rfl) ?_
  refine lv_iload_n hx hb dJ6_numberOfTrailingZeros_0f7a4_75 rfl (lv_at hl 0 rfl) ?_
  refine lv_iconst (v := 1) hx hb dJ6_numberOfTrailingZeros_0f7a4_76 (by decide) ?_
  refine lv_iushr hx hb dJ6_numberOfTrailingZeros_0f7a4_77 rfl ?_
  refine lv_iadd hx hb dJ6_numberOfTrailingZeros_0f7a4_78 ?_
  exact r_iretP B hR hr hlk h dJ6_numberOfTrailingZeros_0f7a4_79
def fJ6_numberOfTrailingZeros_0f7a4_j62 (fu : Nat) (x0 : Int32) (x1 : Int32) : Option Int32 :=
  if x0 ≤ 4 then
    fJ6_numberOfTrailingZeros_0f7a4_j74 fu x0 x1
  else
    lt (x1 + 2) fun x1_67 =>
    lt ((((x0 : Int32).toUInt32 >>> ((2 : Int32).toUInt32 &&& Int32.toUInt32 31)).toInt32)) fun x0_73 =>
    fJ6_numberOfTrailingZeros_0f7a4_j74 fu x0_73 x1_67
set_option maxRecDepth 100000 in
set_option maxHeartbeats 4000000 in
theorem wJ6_numberOfTrailingZeros_0f7a4_j62 {r : Int32}   {x0 : Int32} {x1 : Int32} {M : Mm} (B : Bx p s m args c cJ6_numberOfTrailingZeros_0f7a4 2 RJ6 E L) (hr : meth.sig.returnType = (some .int)) (hlk : meth.locks = false)   (h : fJ6_numberOfTrailingZeros_0f7a4_j62 fu x0 x1 = some r) (hR : Rx s E L M H locs) (hl : lv_has ls 2 [(0, .int x0), (1, .int x1)]) : W p l e (rmD (d + 0)) s m args below meth c H locs 0 0 (MQ below (QcM E L (some (.int r)) M) args s 0 0 E.2.2.2) (F0 m 62 ls []) := by
  have hx := B.1
  have hb := B.2.1
  unfold fJ6_numberOfTrailingZeros_0f7a4_j62 at h
  refine lv_iload_n hx hb dJ6_numberOfTrailingZeros_0f7a4_62 rfl (lv_at hl 0 rfl) ?_
  refine lv_iconst (v := 4) hx hb dJ6_numberOfTrailingZeros_0f7a4_63 (by decide) ?_
  refine lv_icmp_le (tgt := 74) hx hb dJ6_numberOfTrailingZeros_0f7a4_64 (by decide) (fun c_64 => ?_) (fun c_64 => ?_)
  · rw [if_pos c_64] at h
    exact wJ6_numberOfTrailingZeros_0f7a4_j74 B hr hlk  h hR hl
  · rw [if_neg c_64] at h
    obtain ⟨x1_67, ex1_67, h⟩ := lt_el h
    refine lv_iinc (v := x1_67) (lv' := [(1, .int x1_67), (0, .int x0)]) hx hb dJ6_numberOfTrailingZeros_0f7a4_67 hl (k := 1) rfl (by rw [ex1_67]; rfl) (by decide) rfl (fun ls hl => ?_)
    refine lv_iload_n hx hb dJ6_numberOfTrailingZeros_0f7a4_70 rfl (lv_at hl 1 rfl) ?_
    refine lv_iconst (v := 2) hx hb dJ6_numberOfTrailingZeros_0f7a4_71 (by decide) ?_
    refine lv_iushr hx hb dJ6_numberOfTrailingZeros_0f7a4_72 rfl ?_
    obtain ⟨x0_73, ex0_73, h⟩ := lt_el h
    refine r_nmI ex0_73 ?_
    refine lv_istore_n (lv' := [(0, .int x0_73), (1, .int x1_67)]) hx hb dJ6_numberOfTrailingZeros_0f7a4_73 rfl hl (by decide) rfl (fun ls hl => ?_)
    exact wJ6_numberOfTrailingZeros_0f7a4_j74 B hr hlk  h hR hl
def fJ6_numberOfTrailingZeros_0f7a4_j49 (fu : Nat) (x0 : Int32) (x1 : Int32) : Option Int32 :=
  if x0 ≤ 16 then
    fJ6_numberOfTrailingZeros_0f7a4_j62 fu x0 x1
  else
    lt (x1 + 4) fun x1_55 =>
    lt ((((x0 : Int32).toUInt32 >>> ((4 : Int32).toUInt32 &&& Int32.toUInt32 31)).toInt32)) fun x0_61 =>
    fJ6_numberOfTrailingZeros_0f7a4_j62 fu x0_61 x1_55
set_option maxRecDepth 100000 in
set_option maxHeartbeats 4000000 in
theorem wJ6_numberOfTrailingZeros_0f7a4_j49 {r : Int32}   {x0 : Int32} {x1 : Int32} {M : Mm} (B : Bx p s m args c cJ6_numberOfTrailingZeros_0f7a4 2 RJ6 E L) (hr : meth.sig.returnType = (some .int)) (hlk : meth.locks = false)   (h : fJ6_numberOfTrailingZeros_0f7a4_j49 fu x0 x1 = some r) (hR : Rx s E L M H locs) (hl : lv_has ls 2 [(0, .int x0), (1, .int x1)]) : W p l e (rmD (d + 0)) s m args below meth c H locs 0 0 (MQ below (QcM E L (some (.int r)) M) args s 0 0 E.2.2.2) (F0 m 49 ls []) := by
  have hx := B.1
  have hb := B.2.1
  unfold fJ6_numberOfTrailingZeros_0f7a4_j49 at h
  refine lv_iload_n hx hb dJ6_numberOfTrailingZeros_0f7a4_49 rfl (lv_at hl 0 rfl) ?_
  refine lv_bipush (v := 16) hx hb dJ6_numberOfTrailingZeros_0f7a4_50 (by decide) ?_
  refine lv_icmp_le (tgt := 62) hx hb dJ6_numberOfTrailingZeros_0f7a4_52 (by decide) (fun c_52 => ?_) (fun c_52 => ?_)
  · rw [if_pos c_52] at h
    exact wJ6_numberOfTrailingZeros_0f7a4_j62 B hr hlk  h hR hl
  · rw [if_neg c_52] at h
    obtain ⟨x1_55, ex1_55, h⟩ := lt_el h
    refine lv_iinc (v := x1_55) (lv' := [(1, .int x1_55), (0, .int x0)]) hx hb dJ6_numberOfTrailingZeros_0f7a4_55 hl (k := 1) rfl (by rw [ex1_55]; rfl) (by decide) rfl (fun ls hl => ?_)
    refine lv_iload_n hx hb dJ6_numberOfTrailingZeros_0f7a4_58 rfl (lv_at hl 1 rfl) ?_
    refine lv_iconst (v := 4) hx hb dJ6_numberOfTrailingZeros_0f7a4_59 (by decide) ?_
    refine lv_iushr hx hb dJ6_numberOfTrailingZeros_0f7a4_60 rfl ?_
    obtain ⟨x0_61, ex0_61, h⟩ := lt_el h
    refine r_nmI ex0_61 ?_
    refine lv_istore_n (lv' := [(0, .int x0_61), (1, .int x1_55)]) hx hb dJ6_numberOfTrailingZeros_0f7a4_61 rfl hl (by decide) rfl (fun ls hl => ?_)
    exact wJ6_numberOfTrailingZeros_0f7a4_j62 B hr hlk  h hR hl
def fJ6_numberOfTrailingZeros_0f7a4_j34 (fu : Nat) (x0 : Int32) (x1 : Int32) : Option Int32 :=
  if x0 ≤ 256 then
    fJ6_numberOfTrailingZeros_0f7a4_j49 fu x0 x1
  else
    lt (x1 + 8) fun x1_41 =>
    lt ((((x0 : Int32).toUInt32 >>> ((8 : Int32).toUInt32 &&& Int32.toUInt32 31)).toInt32)) fun x0_48 =>
    fJ6_numberOfTrailingZeros_0f7a4_j49 fu x0_48 x1_41
set_option maxRecDepth 100000 in
set_option maxHeartbeats 4000000 in
theorem wJ6_numberOfTrailingZeros_0f7a4_j34 {r : Int32}   {x0 : Int32} {x1 : Int32} {M : Mm} (B : Bx p s m args c cJ6_numberOfTrailingZeros_0f7a4 2 RJ6 E L) (hr : meth.sig.returnType = (some .int)) (hlk : meth.locks = false)   (h : fJ6_numberOfTrailingZeros_0f7a4_j34 fu x0 x1 = some r) (hR : Rx s E L M H locs) (hl : lv_has ls 2 [(0, .int x0), (1, .int x1)]) : W p l e (rmD (d + 0)) s m args below meth c H locs 0 0 (MQ below (QcM E L (some (.int r)) M) args s 0 0 E.2.2.2) (F0 m 34 ls []) := by
  have hx := B.1
  have hb := B.2.1
  unfold fJ6_numberOfTrailingZeros_0f7a4_j34 at h
  refine lv_iload_n hx hb dJ6_numberOfTrailingZeros_0f7a4_34 rfl (lv_at hl 0 rfl) ?_
  refine lv_sipush (v := 256) hx hb dJ6_numberOfTrailingZeros_0f7a4_35 (by decide) ?_
  refine lv_icmp_le (tgt := 49) hx hb dJ6_numberOfTrailingZeros_0f7a4_38 (by decide) (fun c_38 => ?_) (fun c_38 => ?_)
  · rw [if_pos c_38] at h
    exact wJ6_numberOfTrailingZeros_0f7a4_j49 B hr hlk  h hR hl
  · rw [if_neg c_38] at h
    obtain ⟨x1_41, ex1_41, h⟩ := lt_el h
    refine lv_iinc (v := x1_41) (lv' := [(1, .int x1_41), (0, .int x0)]) hx hb dJ6_numberOfTrailingZeros_0f7a4_41 hl (k := 1) rfl (by rw [ex1_41]; rfl) (by decide) rfl (fun ls hl => ?_)
    refine lv_iload_n hx hb dJ6_numberOfTrailingZeros_0f7a4_44 rfl (lv_at hl 1 rfl) ?_
    refine lv_bipush (v := 8) hx hb dJ6_numberOfTrailingZeros_0f7a4_45 (by decide) ?_
    refine lv_iushr hx hb dJ6_numberOfTrailingZeros_0f7a4_47 rfl ?_
    obtain ⟨x0_48, ex0_48, h⟩ := lt_el h
    refine r_nmI ex0_48 ?_
    refine lv_istore_n (lv' := [(0, .int x0_48), (1, .int x1_41)]) hx hb dJ6_numberOfTrailingZeros_0f7a4_48 rfl hl (by decide) rfl (fun ls hl => ?_)
    exact wJ6_numberOfTrailingZeros_0f7a4_j49 B hr hlk  h hR hl
def fJ6_numberOfTrailingZeros_0f7a4 (fu : Nat) (x0 : Int32) : Option Int32 :=
  lt (((x0 ^^^ (-1)) &&& (x0 - 1))) fun x0_7 =>
  if 0 < x0_7 then
    if x0_7 ≤ 65536 then
      fJ6_numberOfTrailingZeros_0f7a4_j34 fu x0_7 1
    else
      lt (1 + 16) fun x1_26 =>
      lt ((((x0_7 : Int32).toUInt32 >>> ((16 : Int32).toUInt32 &&& Int32.toUInt32 31)).toInt32)) fun x0_33 =>
      fJ6_numberOfTrailingZeros_0f7a4_j34 fu x0_33 x1_26
  else
    some (x0_7 &&& 32)
set_option maxRecDepth 100000 in
set_option maxHeartbeats 4000000 in
theorem mJ6_numberOfTrailingZeros_0f7a4 {l : Launch} {E : Ge} {L : Lay} (fu d : Nat) {x0 : Int32} {M : Mm} {r : Int32}   (h : fJ6_numberOfTrailingZeros_0f7a4 fu x0 = some r) : Ct l E L yJ6_numberOfTrailingZeros_0f7a4 cJ6_numberOfTrailingZeros_0f7a4 2 (some .int) (d + 0) [.int x0] M (some (.int r)) M := by
  refine Ct.of (by decide) ?_
  intro p e s m below meth c hr hlk B hR
  have B : Bx p s m _ c cJ6_numberOfTrailingZeros_0f7a4 2 RJ6 E L := B
  have hx := B.1
  have hb := B.2.1
  have hl := lv_entry ([.int x0]) (n := 2) (Nat.le_of_ble_eq_true rfl)
  rw [lg_entry_eq]
  generalize (lg_sl ([.int x0]) ++ List.replicate (2 - (lg_sl ([.int x0])).length) Slot.unset).toArray = ls at hl ⊢
  have hl : lv_has ls 2 [(0, .int x0)] := hl
  unfold fJ6_numberOfTrailingZeros_0f7a4 at h
  refine lv_iload_n hx hb dJ6_numberOfTrailingZeros_0f7a4_0 rfl (lv_at hl 0 rfl) ?_
  refine lv_iconst (v := (-1)) hx hb dJ6_numberOfTrailingZeros_0f7a4_1 (by decide) ?_
  refine lv_ixor hx hb dJ6_numberOfTrailingZeros_0f7a4_2 ?_
  refine lv_iload_n hx hb dJ6_numberOfTrailingZeros_0f7a4_3 rfl (lv_at hl 0 rfl) ?_
  refine lv_iconst (v := 1) hx hb dJ6_numberOfTrailingZeros_0f7a4_4 (by decide) ?_
  refine lv_isub hx hb dJ6_numberOfTrailingZeros_0f7a4_5 ?_
  refine lv_iand hx hb dJ6_numberOfTrailingZeros_0f7a4_6 ?_
  obtain ⟨x0_7, ex0_7, h⟩ := lt_el h
  refine r_nmI ex0_7 ?_
  refine lv_istore_n (lv' := [(0, .int x0_7)]) hx hb dJ6_numberOfTrailingZeros_0f7a4_7 rfl hl (by decide) rfl (fun ls hl => ?_)
  refine lv_iload_n hx hb dJ6_numberOfTrailingZeros_0f7a4_8 rfl (lv_at hl 0 rfl) ?_
  refine lv_if_gt (tgt := 17) hx hb dJ6_numberOfTrailingZeros_0f7a4_9 (by decide) (fun c_9 => ?_) (fun c_9 => ?_)
  · rw [if_pos c_9] at h
    refine lv_iconst (v := 1) hx hb dJ6_numberOfTrailingZeros_0f7a4_17 (by decide) ?_
    refine lv_istore_n (lv' := [(1, .int 1), (0, .int x0_7)]) hx hb dJ6_numberOfTrailingZeros_0f7a4_18 rfl hl (by decide) rfl (fun ls hl => ?_)
    refine lv_iload_n hx hb dJ6_numberOfTrailingZeros_0f7a4_19 rfl (lv_at hl 1 rfl) ?_
    refine lc_J6_264 B dJ6_numberOfTrailingZeros_0f7a4_20 ?_
    refine lv_icmp_le (tgt := 34) hx hb dJ6_numberOfTrailingZeros_0f7a4_23 (by decide) (fun c_23 => ?_) (fun c_23 => ?_)
    · rw [if_pos c_23] at h
      exact wJ6_numberOfTrailingZeros_0f7a4_j34 B hr hlk  h hR (lv_sub hl [1, 0] rfl)
    · rw [if_neg c_23] at h
      obtain ⟨x1_26, ex1_26, h⟩ := lt_el h
      refine lv_iinc (v := x1_26) (lv' := [(1, .int x1_26), (0, .int x0_7)]) hx hb dJ6_numberOfTrailingZeros_0f7a4_26 hl (k := 0) rfl (by rw [ex1_26]; rfl) (by decide) rfl (fun ls hl => ?_)
      refine lv_iload_n hx hb dJ6_numberOfTrailingZeros_0f7a4_29 rfl (lv_at hl 1 rfl) ?_
      refine lv_bipush (v := 16) hx hb dJ6_numberOfTrailingZeros_0f7a4_30 (by decide) ?_
      refine lv_iushr hx hb dJ6_numberOfTrailingZeros_0f7a4_32 rfl ?_
      obtain ⟨x0_33, ex0_33, h⟩ := lt_el h
      refine r_nmI ex0_33 ?_
      refine lv_istore_n (lv' := [(0, .int x0_33), (1, .int x1_26)]) hx hb dJ6_numberOfTrailingZeros_0f7a4_33 rfl hl (by decide) rfl (fun ls hl => ?_)
      exact wJ6_numberOfTrailingZeros_0f7a4_j34 B hr hlk  h hR hl
  · rw [if_neg c_9] at h
    refine lv_iload_n hx hb dJ6_numberOfTrailingZeros_0f7a4_12 rfl (lv_at hl 0 rfl) ?_
    refine lv_bipush (v := 32) hx hb dJ6_numberOfTrailingZeros_0f7a4_13 (by decide) ?_
    refine lv_iand hx hb dJ6_numberOfTrailingZeros_0f7a4_15 ?_
    exact r_iretP B hR hr hlk h dJ6_numberOfTrailingZeros_0f7a4_16
def fX10_isKind_j14 (fu : Nat) (t0 : Int32) : Option Int32 :=
  gd (t0 = 0 ∨ t0 = 1) <|
  some t0
set_option maxRecDepth 100000 in
set_option maxHeartbeats 4000000 in
theorem wX10_isKind_j14 {r : Int32}   {t0 : Int32} {M : Mm} (B : Bx p s m args c cX10_isKind 1 RX10 E L) (hr : meth.sig.returnType = (some .boolean)) (hlk : meth.locks = false)   (h : fX10_isKind_j14 fu t0 = some r) (hR : Rx s E L M H locs) (hl : lv_has ls 1 []) : W p l e (rmD (d + 0)) s m args below meth c H locs 0 0 (MQ below (QcM E L (some (.int r)) M) args s 0 0 E.2.2.2) (F0 m 14 ls [.int t0]) := by
  have hx := B.1
  have hb := B.2.1
  unfold fX10_isKind_j14 at h
  obtain ⟨hz_14, h⟩ := gd_el h
  exact r_zretP B hR hr hlk hz_14 h dX10_isKind_14
def fX10_isKind_j13 (fu : Nat)  : Option Int32 :=
  fX10_isKind_j14 fu 0
set_option maxRecDepth 100000 in
set_option maxHeartbeats 4000000 in
theorem wX10_isKind_j13 {r : Int32}    {M : Mm} (B : Bx p s m args c cX10_isKind 1 RX10 E L) (hr : meth.sig.returnType = (some .boolean)) (hlk : meth.locks = false)   (h : fX10_isKind_j13 fu  = some r) (hR : Rx s E L M H locs) (hl : lv_has ls 1 []) : W p l e (rmD (d + 0)) s m args below meth c H locs 0 0 (MQ below (QcM E L (some (.int r)) M) args s 0 0 E.2.2.2) (F0 m 13 ls []) := by
  have hx := B.1
  have hb := B.2.1
  unfold fX10_isKind_j13 at h
  refine lv_iconst (v := 0) hx hb dX10_isKind_13 (by decide) ?_
  exact wX10_isKind_j14 B hr hlk  h hR hl
def fX10_isKind (fu : Nat) (x0 : Int32) : Option Int32 :=
  if x0 < 0 then
    fX10_isKind_j13 fu 
  else
    if 5 ≤ x0 then
      fX10_isKind_j13 fu 
    else
      fX10_isKind_j14 fu 1
set_option maxRecDepth 100000 in
set_option maxHeartbeats 4000000 in
theorem mX10_isKind {l : Launch} {E : Ge} {L : Lay} (fu d : Nat) {x0 : Int32} {M : Mm} {r : Int32}   (h : fX10_isKind fu x0 = some r) : Ct l E L yX10_isKind cX10_isKind 1 (some .boolean) (d + 0) [.int x0] M (some (.int r)) M := by
  refine Ct.of (by decide) ?_
  intro p e s m below meth c hr hlk B hR
  have B : Bx p s m _ c cX10_isKind 1 RX10 E L := B
  have hx := B.1
  have hb := B.2.1
  have hl := lv_entry ([.int x0]) (n := 1) (Nat.le_of_ble_eq_true rfl)
  rw [lg_entry_eq]
  generalize (lg_sl ([.int x0]) ++ List.replicate (1 - (lg_sl ([.int x0])).length) Slot.unset).toArray = ls at hl ⊢
  have hl : lv_has ls 1 [(0, .int x0)] := hl
  unfold fX10_isKind at h
  refine lv_iload_n hx hb dX10_isKind_0 rfl (lv_at hl 0 rfl) ?_
  refine lv_if_lt (tgt := 13) hx hb dX10_isKind_1 (by decide) (fun c_1 => ?_) (fun c_1 => ?_)
  · rw [if_pos c_1] at h
    exact wX10_isKind_j13 B hr hlk  h hR (lv_sub hl [] rfl)
  · rw [if_neg c_1] at h
    refine lv_iload_n hx hb dX10_isKind_4 rfl (lv_at hl 0 rfl) ?_
    refine lv_iconst (v := 5) hx hb dX10_isKind_5 (by decide) ?_
    refine lv_icmp_ge (tgt := 13) hx hb dX10_isKind_6 (by decide) (fun c_6 => ?_) (fun c_6 => ?_)
    · rw [if_pos c_6] at h
      exact wX10_isKind_j13 B hr hlk  h hR (lv_sub hl [] rfl)
    · rw [if_neg c_6] at h
      refine lv_iconst (v := 1) hx hb dX10_isKind_9 (by decide) ?_
      refine lv_goto (tgt := 14) hx hb dX10_isKind_10 (by decide) ?_
      exact wX10_isKind_j14 B hr hlk  h hR (lv_sub hl [] rfl)
def fX10_pick (fu : Nat) (x0 : Int32) (x1 : Int32) (x2 : Int32) (x3 : Int32) : Option Int32 :=
  if x0 = 0 then
    some x1
  else
    if x0 = 1 then
      some x2
    else
      if x0 = 2 then
        some x3
      else
        some (-1)
set_option maxRecDepth 100000 in
set_option maxHeartbeats 4000000 in
theorem mX10_pick {l : Launch} {E : Ge} {L : Lay} (fu d : Nat) {x0 : Int32} {x1 : Int32} {x2 : Int32} {x3 : Int32} {M : Mm} {r : Int32}   (h : fX10_pick fu x0 x1 x2 x3 = some r) : Ct l E L yX10_pick cX10_pick 4 (some .int) (d + 0) [.int x0, .int x1, .int x2, .int x3] M (some (.int r)) M := by
  refine Ct.of (by decide) ?_
  intro p e s m below meth c hr hlk B hR
  have B : Bx p s m _ c cX10_pick 4 RX10 E L := B
  have hx := B.1
  have hb := B.2.1
  have hl := lv_entry ([.int x0, .int x1, .int x2, .int x3]) (n := 4) (Nat.le_of_ble_eq_true rfl)
  rw [lg_entry_eq]
  generalize (lg_sl ([.int x0, .int x1, .int x2, .int x3]) ++ List.replicate (4 - (lg_sl ([.int x0, .int x1, .int x2, .int x3])).length) Slot.unset).toArray = ls at hl ⊢
  have hl : lv_has ls 4 [(0, .int x0), (1, .int x1), (2, .int x2), (3, .int x3)] := hl
  unfold fX10_pick at h
  refine lv_iload_n hx hb dX10_pick_0 rfl (lv_at hl 0 rfl) ?_
  by_cases s_1_0 : x0 = 0
  · rw [if_pos s_1_0] at h
    refine lv_tableIn (tgt := 28) hx hb dX10_pick_1 (by rw [s_1_0]; decide) (by rw [s_1_0]; decide) (by rw [s_1_0]; rfl) (by decide) ?_
    refine lv_iload_n hx hb dX10_pick_28 rfl (lv_at hl 1 rfl) ?_
    exact r_iretP B hR hr hlk h dX10_pick_29
  · rw [if_neg s_1_0] at h
    by_cases s_1_1 : x0 = 1
    · rw [if_pos s_1_1] at h
      refine lv_tableIn (tgt := 30) hx hb dX10_pick_1 (by rw [s_1_1]; decide) (by rw [s_1_1]; decide) (by rw [s_1_1]; rfl) (by decide) ?_
      refine lv_iload_n hx hb dX10_pick_30 rfl (lv_at hl 2 rfl) ?_
      exact r_iretP B hR hr hlk h dX10_pick_31
    · rw [if_neg s_1_1] at h
      by_cases s_1_2 : x0 = 2
      · rw [if_pos s_1_2] at h
        refine lv_tableIn (tgt := 32) hx hb dX10_pick_1 (by rw [s_1_2]; decide) (by rw [s_1_2]; decide) (by rw [s_1_2]; rfl) (by decide) ?_
        refine lv_iload_n hx hb dX10_pick_32 rfl (lv_at hl 3 rfl) ?_
        exact r_iretP B hR hr hlk h dX10_pick_33
      · rw [if_neg s_1_2] at h
        refine lv_tableOut (tgt := 34) hx hb dX10_pick_1 (by have := ne_toInt s_1_0 (a := 0) (by decide); have := ne_toInt s_1_1 (a := 1) (by decide); have := ne_toInt s_1_2 (a := 2) (by decide); omega) (by decide) ?_
        refine lv_iconst (v := (-1)) hx hb dX10_pick_34 (by decide) ?_
        exact r_iretP B hR hr hlk h dX10_pick_35
def fX10_owned_j36 (fu : Nat) (x2 : Int32) (M : Mm) : Option Int32 :=
  some x2
set_option maxRecDepth 100000 in
set_option maxHeartbeats 4000000 in
theorem wX10_owned_j36 {r : Int32}   {x2 : Int32} {M : Mm} (B : Bx p s m args c cX10_owned 4 RX10 E L) (hr : meth.sig.returnType = (some .int)) (hlk : meth.locks = false)   (h : fX10_owned_j36 fu x2 M = some r) (hR : Rx s E L M H locs) (hl : lv_has ls 4 [(2, .int x2)]) : W p l e (rmD (d + 0)) s m args below meth c H locs 0 0 (MQ below (QcM E L (some (.int r)) M) args s 0 0 E.2.2.2) (F0 m 36 ls []) := by
  have hx := B.1
  have hb := B.2.1
  unfold fX10_owned_j36 at h
  refine lv_iload_n hx hb dX10_owned_36 rfl (lv_at hl 0 rfl) ?_
  exact r_iretP B hR hr hlk h dX10_owned_37
def fX10_owned_j28 (fu : Nat) (k4 : Int32 → Int32 → Option Int32) (n0 : Nat) (a0 : Nat) (x1 : Int32) (x3 : Int32) (t0 : Int32) (t1 : Int32) (M : Mm) : Option Int32 :=
  lt ((t0 + t1)) fun x2_29 =>
  lt (x3 + 1) fun x3_30 =>
  k4 x2_29 x3_30
set_option maxRecDepth 100000 in
set_option maxHeartbeats 4000000 in
theorem wX10_owned_j28 {r : Int32}  {k4 : Int32 → Int32 → Option Int32} {n0 : Nat} {a0 : Nat} {x1 : Int32} {x3 : Int32} {t0 : Int32} {t1 : Int32} {M : Mm} (B : Bx p s m args c cX10_owned 4 RX10 E L) (hr : meth.sig.returnType = (some .int)) (hlk : meth.locks = false) (ih4 : ∀ (x2 : Int32) (x3 : Int32), k4 x2 x3 = some r → ∀ (H : Heap) (locs : List Loc) (ls : Array Slot), Rx s E L M H locs → lv_has ls 4 [(0, .ref a0), (1, .int x1), (2, .int x2), (3, .int x3)] → W p l e (rmD (d + 0)) s m args below meth c H locs 0 0 (MQ below (QcM E L (some (.int r)) M) args s 0 0 E.2.2.2) (F0 m 4 ls [])) (h0 : (a0, (0, n0)) ∈ L) (h : fX10_owned_j28 fu k4 n0 a0 x1 x3 t0 t1 M = some r) (hR : Rx s E L M H locs) (hl : lv_has ls 4 [(0, .ref a0), (1, .int x1), (3, .int x3)]) : W p l e (rmD (d + 0)) s m args below meth c H locs 0 0 (MQ below (QcM E L (some (.int r)) M) args s 0 0 E.2.2.2) (F0 m 28 ls [.int t1, .int t0]) := by
  have hx := B.1
  have hb := B.2.1
  unfold fX10_owned_j28 at h
  refine lv_iadd hx hb dX10_owned_28 ?_
  obtain ⟨x2_29, ex2_29, h⟩ := lt_el h
  refine r_nmI ex2_29 ?_
  refine lv_istore_n (lv' := [(2, .int x2_29), (0, .ref a0), (1, .int x1), (3, .int x3)]) hx hb dX10_owned_29 rfl hl (by decide) rfl (fun ls hl => ?_)
  obtain ⟨x3_30, ex3_30, h⟩ := lt_el h
  refine lv_iinc (v := x3_30) (lv' := [(3, .int x3_30), (2, .int x2_29), (0, .ref a0), (1, .int x1)]) hx hb dX10_owned_30 hl (k := 3) rfl (by rw [ex3_30]; rfl) (by decide) rfl (fun ls hl => ?_)
  refine lv_goto (tgt := 4) hx hb dX10_owned_33 (by decide) ?_
  exact ih4 x2_29 x3_30 h _ _ _ hR (lv_sub hl [2, 3, 1, 0] rfl)
def fX10_owned_b4 (fu : Nat) (k4 : Int32 → Int32 → Option Int32) (n0 : Nat) (a0 : Nat) (x1 : Int32) (x2 : Int32) (x3 : Int32) (M : Mm) : Option Int32 :=
  if x1 ≤ x3 then
    fX10_owned_j36 fu x2 M
  else
    if (Int32.ofNat n0) ≤ x3 then
      fX10_owned_j36 fu x2 M
    else
      if x3 < 0 ∨ n0 ≤ ix x3 then none else
      if (M.1 a0 (ix x3)) = 5 then
        fX10_owned_j28 fu k4 n0 a0 x1 x3 x2 0 M
      else
        fX10_owned_j28 fu k4 n0 a0 x1 x3 x2 1 M
set_option maxRecDepth 100000 in
set_option maxHeartbeats 4000000 in
theorem wX10_owned_b4 {r : Int32}   {k4 : Int32 → Int32 → Option Int32} {n0 : Nat} {a0 : Nat} {x1 : Int32} {x2 : Int32} {x3 : Int32} {M : Mm} (B : Bx p s m args c cX10_owned 4 RX10 E L) (hr : meth.sig.returnType = (some .int)) (hlk : meth.locks = false)  (ih4 : ∀ (x2 : Int32) (x3 : Int32), k4 x2 x3 = some r → ∀ (H : Heap) (locs : List Loc) (ls : Array Slot), Rx s E L M H locs → lv_has ls 4 [(0, .ref a0), (1, .int x1), (2, .int x2), (3, .int x3)] → W p l e (rmD (d + 0)) s m args below meth c H locs 0 0 (MQ below (QcM E L (some (.int r)) M) args s 0 0 E.2.2.2) (F0 m 4 ls [])) (h0 : (a0, (0, n0)) ∈ L) (h : fX10_owned_b4 fu k4 n0 a0 x1 x2 x3 M = some r) (hR : Rx s E L M H locs) (hl : lv_has ls 4 [(0, .ref a0), (1, .int x1), (2, .int x2), (3, .int x3)]) : W p l e (rmD (d + 0)) s m args below meth c H locs 0 0 (MQ below (QcM E L (some (.int r)) M) args s 0 0 E.2.2.2) (F0 m 4 ls []) := by
  have hx := B.1
  have hb := B.2.1
  unfold fX10_owned_b4 at h
  refine lv_iload_n hx hb dX10_owned_4 rfl (lv_at hl 3 rfl) ?_
  refine lv_iload_n hx hb dX10_owned_5 rfl (lv_at hl 1 rfl) ?_
  refine lv_icmp_ge (tgt := 36) hx hb dX10_owned_6 (by decide) (fun c_6 => ?_) (fun c_6 => ?_)
  · rw [if_pos c_6] at h
    exact wX10_owned_j36 B hr hlk  h hR (lv_sub hl [2] rfl)
  · rw [if_neg c_6] at h
    refine lv_iload_n hx hb dX10_owned_9 rfl (lv_at hl 3 rfl) ?_
    refine lv_aload_n hx hb dX10_owned_10 rfl (lv_at hl 0 rfl) ?_
    refine r_alenI B hR (v := (Int32.ofNat n0)) h0 rfl dX10_owned_11 ?_
    refine lv_icmp_ge (tgt := 36) hx hb dX10_owned_12 (by decide) (fun c_12 => ?_) (fun c_12 => ?_)
    · rw [if_pos c_12] at h
      exact wX10_owned_j36 B hr hlk  h hR (lv_sub hl [2] rfl)
    · rw [if_neg c_12] at h
      refine lv_iload_n hx hb dX10_owned_15 rfl (lv_at hl 2 rfl) ?_
      refine lv_aload_n hx hb dX10_owned_16 rfl (lv_at hl 0 rfl) ?_
      refine lv_iload_n hx hb dX10_owned_17 rfl (lv_at hl 3 rfl) ?_
      obtain ⟨hi_18, h⟩ := ifn_el h
      refine r_iald B hR h0 hi_18 dX10_owned_18 ?_
      refine lv_iconst (v := 5) hx hb dX10_owned_19 (by decide) ?_
      refine lv_icmp_eq (tgt := 27) hx hb dX10_owned_20 (by decide) (fun c_20 => ?_) (fun c_20 => ?_)
      · rw [if_pos c_20] at h
        refine lv_iconst (v := 0) hx hb dX10_owned_27 (by decide) ?_
        exact wX10_owned_j28 B hr hlk ih4 h0 h hR (lv_sub hl [0, 1, 3] rfl)
      · rw [if_neg c_20] at h
        refine lv_iconst (v := 1) hx hb dX10_owned_23 (by decide) ?_
        refine lv_goto (tgt := 28) hx hb dX10_owned_24 (by decide) ?_
        exact wX10_owned_j28 B hr hlk ih4 h0 h hR (lv_sub hl [0, 1, 3] rfl)
def fX10_owned_l4 (fu : Nat) (n0 : Nat) (a0 : Nat) (x1 : Int32) (M : Mm) (x2 : Int32) (x3 : Int32) : Option Int32 := lp (fun (rec : (Int32 × Int32) → Option Int32) (s : Int32 × Int32) => fX10_owned_b4 fu  (fun x2 x3 => rec (x2, x3)) n0 a0 x1 s.1 s.2 M) fu (x2, x3)
set_option maxRecDepth 100000 in
set_option maxHeartbeats 4000000 in
theorem wX10_owned_l4 {r : Int32}   {n0 : Nat} {a0 : Nat} {x1 : Int32} {x2 : Int32} {x3 : Int32} {M : Mm} (B : Bx p s m args c cX10_owned 4 RX10 E L) (hr : meth.sig.returnType = (some .int)) (hlk : meth.locks = false)  (h0 : (a0, (0, n0)) ∈ L) (h : fX10_owned_l4 fu n0 a0 x1 M x2 x3 = some r) (hR : Rx s E L M H locs) (hl : lv_has ls 4 [(0, .ref a0), (1, .int x1), (2, .int x2), (3, .int x3)]) : W p l e (rmD (d + 0)) s m args below meth c H locs 0 0 (MQ below (QcM E L (some (.int r)) M) args s 0 0 E.2.2.2) (F0 m 4 ls []) := by
  refine lp_G (G := fun z : Int32 × Int32 => ∀ (H : Heap) (locs : List Loc) (ls : Array Slot), Rx s E L M H locs → lv_has ls 4 [(0, .ref a0), (1, .int x1), (2, .int z.1), (3, .int z.2)] → W p l e (rmD (d + 0)) s m args below meth c H locs 0 0 (MQ below (QcM E L (some (.int r)) M) args s 0 0 E.2.2.2) (F0 m 4 ls [])) (fun rec ih z h H locs ls hR hl => ?_) fu _ h H locs ls hR hl
  exact wX10_owned_b4 B hr hlk  (fun x2 x3 h => ih (x2, x3) h) h0 h hR hl
def fX10_owned (fu : Nat) (n0 : Nat) (a0 : Nat) (x1 : Int32) (M : Mm) : Option Int32 :=
  fX10_owned_l4 fu n0 a0 x1 M 0 0
set_option maxRecDepth 100000 in
set_option maxHeartbeats 4000000 in
theorem mX10_owned {l : Launch} {E : Ge} {L : Lay} (fu d : Nat) {n0 : Nat} {a0 : Nat} {x1 : Int32} {M : Mm} {r : Int32}  (h0 : (a0, (0, n0)) ∈ L) (h : fX10_owned fu n0 a0 x1 M = some r) : Ct l E L yX10_owned cX10_owned 4 (some .int) (d + 0) [.ref a0, .int x1] M (some (.int r)) M := by
  refine Ct.of (by decide) ?_
  intro p e s m below meth c hr hlk B hR
  have B : Bx p s m _ c cX10_owned 4 RX10 E L := B
  have hx := B.1
  have hb := B.2.1
  have hl := lv_entry ([.ref a0, .int x1]) (n := 4) (Nat.le_of_ble_eq_true rfl)
  rw [lg_entry_eq]
  generalize (lg_sl ([.ref a0, .int x1]) ++ List.replicate (4 - (lg_sl ([.ref a0, .int x1])).length) Slot.unset).toArray = ls at hl ⊢
  have hl : lv_has ls 4 [(0, .ref a0), (1, .int x1)] := hl
  unfold fX10_owned at h
  refine lv_iconst (v := 0) hx hb dX10_owned_0 (by decide) ?_
  refine lv_istore_n (lv' := [(2, .int 0), (0, .ref a0), (1, .int x1)]) hx hb dX10_owned_1 rfl hl (by decide) rfl (fun ls hl => ?_)
  refine lv_iconst (v := 0) hx hb dX10_owned_2 (by decide) ?_
  refine lv_istore_n (lv' := [(3, .int 0), (2, .int 0), (0, .ref a0), (1, .int x1)]) hx hb dX10_owned_3 rfl hl (by decide) rfl (fun ls hl => ?_)
  exact wX10_owned_l4 B hr hlk h0 h hR (lv_sub hl [2, 3, 1, 0] rfl)
def fX10_onesBelow_j38 (fu : Nat) (x1 : Int32) : Option Int32 :=
  some x1
set_option maxRecDepth 100000 in
set_option maxHeartbeats 4000000 in
theorem wX10_onesBelow_j38 {r : Int32}   {x1 : Int32} {M : Mm} (B : Bx p s m args c cX10_onesBelow 4 RX10 E L) (hr : meth.sig.returnType = (some .int)) (hlk : meth.locks = false)   (h : fX10_onesBelow_j38 fu x1 = some r) (hR : Rx s E L M H locs) (hl : lv_has ls 4 [(1, .int x1)]) : W p l e (rmD (d + 1)) s m args below meth c H locs 0 0 (MQ below (QcM E L (some (.int r)) M) args s 0 0 E.2.2.2) (F0 m 38 ls []) := by
  have hx := B.1
  have hb := B.2.1
  unfold fX10_onesBelow_j38 at h
  refine lv_iload_n hx hb dX10_onesBelow_38 rfl (lv_at hl 0 rfl) ?_
  exact r_iretP B hR hr hlk h dX10_onesBelow_39
def fX10_onesBelow_b4 (fu : Nat) (k4 : Int32 → Int32 → Option Int32) (x0 : Int32) (x1 : Int32) (x2 : Int32) : Option Int32 :=
  if x0 ≤ x2 then
    fX10_onesBelow_j38 fu x1
  else
    lt ((2 * x2)) fun x3_12 =>
    if x3_12 = 0 then none else
    lt ((x1 + (((x0 / x3_12) * x2) + (if 0 < ((x0 - x0 / x3_12 * x3_12) - x2) then ((x0 - x0 / x3_12 * x3_12) - x2) else 0)))) fun x1_30 =>
    lt ((x2 * 2)) fun x2_34 =>
    k4 x1_30 x2_34
set_option maxRecDepth 100000 in
set_option maxHeartbeats 4000000 in
theorem wX10_onesBelow_b4 {r : Int32}   {k4 : Int32 → Int32 → Option Int32} {x0 : Int32} {x1 : Int32} {x2 : Int32} {M : Mm} (B : Bx p s m args c cX10_onesBelow 4 RX10 E L) (hr : meth.sig.returnType = (some .int)) (hlk : meth.locks = false)  (ih4 : ∀ (x1 : Int32) (x2 : Int32), k4 x1 x2 = some r → ∀ (H : Heap) (locs : List Loc) (ls : Array Slot), Rx s E L M H locs → lv_has ls 4 [(0, .int x0), (1, .int x1), (2, .int x2)] → W p l e (rmD (d + 1)) s m args below meth c H locs 0 0 (MQ below (QcM E L (some (.int r)) M) args s 0 0 E.2.2.2) (F0 m 4 ls []))  (h : fX10_onesBelow_b4 fu k4 x0 x1 x2 = some r) (hR : Rx s E L M H locs) (hl : lv_has ls 4 [(0, .int x0), (1, .int x1), (2, .int x2)]) : W p l e (rmD (d + 1)) s m args below meth c H locs 0 0 (MQ below (QcM E L (some (.int r)) M) args s 0 0 E.2.2.2) (F0 m 4 ls []) := by
  have hx := B.1
  have hb := B.2.1
  unfold fX10_onesBelow_b4 at h
  refine lv_iload_n hx hb dX10_onesBelow_4 rfl (lv_at hl 2 rfl) ?_
  refine lv_iload_n hx hb dX10_onesBelow_5 rfl (lv_at hl 0 rfl) ?_
  refine lv_icmp_ge (tgt := 38) hx hb dX10_onesBelow_6 (by decide) (fun c_6 => ?_) (fun c_6 => ?_)
  · rw [if_pos c_6] at h
    exact wX10_onesBelow_j38 B hr hlk  h hR (lv_sub hl [1] rfl)
  · rw [if_neg c_6] at h
    refine lv_iconst (v := 2) hx hb dX10_onesBelow_9 (by decide) ?_
    refine lv_iload_n hx hb dX10_onesBelow_10 rfl (lv_at hl 2 rfl) ?_
    refine lv_imul hx hb dX10_onesBelow_11 ?_
    obtain ⟨x3_12, ex3_12, h⟩ := lt_el h
    refine r_nmI ex3_12 ?_
    refine lv_istore_n (lv' := [(3, .int x3_12), (0, .int x0), (1, .int x1), (2, .int x2)]) hx hb dX10_onesBelow_12 rfl hl (by decide) rfl (fun ls hl => ?_)
    refine lv_iload_n hx hb dX10_onesBelow_13 rfl (lv_at hl 2 rfl) ?_
    refine lv_iload_n hx hb dX10_onesBelow_14 rfl (lv_at hl 1 rfl) ?_
    refine lv_iload_n hx hb dX10_onesBelow_15 rfl (lv_at hl 0 rfl) ?_
    obtain ⟨hz_16, h⟩ := ifn_el h
    refine lv_idiv hx hb dX10_onesBelow_16 hz_16 ?_
    refine lv_iload_n hx hb dX10_onesBelow_17 rfl (lv_at hl 3 rfl) ?_
    refine lv_imul hx hb dX10_onesBelow_18 ?_
    refine lv_iconst (v := 0) hx hb dX10_onesBelow_19 (by decide) ?_
    refine lv_iload_n hx hb dX10_onesBelow_20 rfl (lv_at hl 1 rfl) ?_
    refine lv_iload_n hx hb dX10_onesBelow_21 rfl (lv_at hl 0 rfl) ?_
    refine lv_irem hx hb dX10_onesBelow_22 hz_16 ?_
    refine lv_iload_n hx hb dX10_onesBelow_23 rfl (lv_at hl 3 rfl) ?_
    refine lv_isub hx hb dX10_onesBelow_24 ?_
    refine mm_X10_432 B hl.1 (Nat.le_of_ble_eq_true rfl) dX10_onesBelow_25 ?_
    refine lv_iadd hx hb dX10_onesBelow_28 ?_
    refine lv_iadd hx hb dX10_onesBelow_29 ?_
    obtain ⟨x1_30, ex1_30, h⟩ := lt_el h
    refine r_nmI ex1_30 ?_
    refine lv_istore_n (lv' := [(1, .int x1_30), (3, .int x3_12), (0, .int x0), (2, .int x2)]) hx hb dX10_onesBelow_30 rfl hl (by decide) rfl (fun ls hl => ?_)
    refine lv_iload_n hx hb dX10_onesBelow_31 rfl (lv_at hl 3 rfl) ?_
    refine lv_iconst (v := 2) hx hb dX10_onesBelow_32 (by decide) ?_
    refine lv_imul hx hb dX10_onesBelow_33 ?_
    obtain ⟨x2_34, ex2_34, h⟩ := lt_el h
    refine r_nmI ex2_34 ?_
    refine lv_istore_n (lv' := [(2, .int x2_34), (1, .int x1_30), (3, .int x3_12), (0, .int x0)]) hx hb dX10_onesBelow_34 rfl hl (by decide) rfl (fun ls hl => ?_)
    refine lv_goto (tgt := 4) hx hb dX10_onesBelow_35 (by decide) ?_
    exact ih4 x1_30 x2_34 h _ _ _ hR (lv_sub hl [3, 1, 0] rfl)
def fX10_onesBelow_l4 (fu : Nat) (x0 : Int32) (x1 : Int32) (x2 : Int32) : Option Int32 := lp (fun (rec : (Int32 × Int32) → Option Int32) (s : Int32 × Int32) => fX10_onesBelow_b4 fu  (fun x1 x2 => rec (x1, x2)) x0 s.1 s.2) fu (x1, x2)
set_option maxRecDepth 100000 in
set_option maxHeartbeats 4000000 in
theorem wX10_onesBelow_l4 {r : Int32}   {x0 : Int32} {x1 : Int32} {x2 : Int32} {M : Mm} (B : Bx p s m args c cX10_onesBelow 4 RX10 E L) (hr : meth.sig.returnType = (some .int)) (hlk : meth.locks = false)   (h : fX10_onesBelow_l4 fu x0 x1 x2 = some r) (hR : Rx s E L M H locs) (hl : lv_has ls 4 [(0, .int x0), (1, .int x1), (2, .int x2)]) : W p l e (rmD (d + 1)) s m args below meth c H locs 0 0 (MQ below (QcM E L (some (.int r)) M) args s 0 0 E.2.2.2) (F0 m 4 ls []) := by
  refine lp_G (G := fun z : Int32 × Int32 => ∀ (H : Heap) (locs : List Loc) (ls : Array Slot), Rx s E L M H locs → lv_has ls 4 [(0, .int x0), (1, .int z.1), (2, .int z.2)] → W p l e (rmD (d + 1)) s m args below meth c H locs 0 0 (MQ below (QcM E L (some (.int r)) M) args s 0 0 E.2.2.2) (F0 m 4 ls [])) (fun rec ih z h H locs ls hR hl => ?_) fu _ h H locs ls hR hl
  exact wX10_onesBelow_b4 B hr hlk  (fun x1 x2 h => ih (x1, x2) h)  h hR hl
def fX10_onesBelow (fu : Nat) (x0 : Int32) : Option Int32 :=
  fX10_onesBelow_l4 fu x0 0 1
set_option maxRecDepth 100000 in
set_option maxHeartbeats 4000000 in
theorem mX10_onesBelow {l : Launch} {E : Ge} {L : Lay} (fu d : Nat) {x0 : Int32} {M : Mm} {r : Int32}   (h : fX10_onesBelow fu x0 = some r) : Ct l E L yX10_onesBelow cX10_onesBelow 4 (some .int) (d + 1) [.int x0] M (some (.int r)) M := by
  refine Ct.of (by decide) ?_
  intro p e s m below meth c hr hlk B hR
  have B : Bx p s m _ c cX10_onesBelow 4 RX10 E L := B
  have hx := B.1
  have hb := B.2.1
  have hl := lv_entry ([.int x0]) (n := 4) (Nat.le_of_ble_eq_true rfl)
  rw [lg_entry_eq]
  generalize (lg_sl ([.int x0]) ++ List.replicate (4 - (lg_sl ([.int x0])).length) Slot.unset).toArray = ls at hl ⊢
  have hl : lv_has ls 4 [(0, .int x0)] := hl
  unfold fX10_onesBelow at h
  refine lv_iconst (v := 0) hx hb dX10_onesBelow_0 (by decide) ?_
  refine lv_istore_n (lv' := [(1, .int 0), (0, .int x0)]) hx hb dX10_onesBelow_1 rfl hl (by decide) rfl (fun ls hl => ?_)
  refine lv_iconst (v := 1) hx hb dX10_onesBelow_2 (by decide) ?_
  refine lv_istore_n (lv' := [(2, .int 1), (1, .int 0), (0, .int x0)]) hx hb dX10_onesBelow_3 rfl hl (by decide) rfl (fun ls hl => ?_)
  exact wX10_onesBelow_l4 B hr hlk  h hR (lv_sub hl [2, 1, 0] rfl)
def fX10_together_j38 (fu : Nat) (t0 : Int32) : Option Int32 :=
  some t0
set_option maxRecDepth 100000 in
set_option maxHeartbeats 4000000 in
theorem wX10_together_j38 {r : Int32}   {t0 : Int32} {M : Mm} (B : Bx p s m args c cX10_together 2 RX10 E L) (hr : meth.sig.returnType = (some .int)) (hlk : meth.locks = false)   (h : fX10_together_j38 fu t0 = some r) (hR : Rx s E L M H locs) (hl : lv_has ls 2 []) : W p l e (rmD (d + 1)) s m args below meth c H locs 0 0 (MQ below (QcM E L (some (.int r)) M) args s 0 0 E.2.2.2) (F0 m 38 ls [.int t0]) := by
  have hx := B.1
  have hb := B.2.1
  unfold fX10_together_j38 at h
  exact r_iretP B hR hr hlk h dX10_together_38
def fX10_together (fu : Nat) (x0 : Int32) (x1 : Int32) : Option Int32 :=
  if x0 = 0 then
    some x1
  else
    if (x0 &&& 1) = 0 then
      bi (fJ6_bitCount_0f7a4 fu x0) fun r_15 =>
      if r_15 = 1 then
        bi (fJ6_numberOfTrailingZeros_0f7a4 fu x0) fun r_23 =>
        some r_23
      else
        if x0 = 20 then
          fX10_together_j38 fu 2
        else
          fX10_together_j38 fu 5
    else
      some 0
set_option maxRecDepth 100000 in
set_option maxHeartbeats 4000000 in
theorem mX10_together {l : Launch} {E : Ge} {L : Lay} (fu d : Nat) {x0 : Int32} {x1 : Int32} {M : Mm} {r : Int32}   (h : fX10_together fu x0 x1 = some r) : Ct l E L yX10_together cX10_together 2 (some .int) (d + 1) [.int x0, .int x1] M (some (.int r)) M := by
  refine Ct.of (by decide) ?_
  intro p e s m below meth c hr hlk B hR
  have B : Bx p s m _ c cX10_together 2 RX10 E L := B
  have hx := B.1
  have hb := B.2.1
  have hl := lv_entry ([.int x0, .int x1]) (n := 2) (Nat.le_of_ble_eq_true rfl)
  rw [lg_entry_eq]
  generalize (lg_sl ([.int x0, .int x1]) ++ List.replicate (2 - (lg_sl ([.int x0, .int x1])).length) Slot.unset).toArray = ls at hl ⊢
  have hl : lv_has ls 2 [(0, .int x0), (1, .int x1)] := hl
  unfold fX10_together at h
  refine lv_iload_n hx hb dX10_together_0 rfl (lv_at hl 0 rfl) ?_
  refine lv_if_ne (tgt := 6) hx hb dX10_together_1 (by decide) (fun c_1 => ?_) (fun c_1 => ?_)
  · rw [if_neg c_1] at h
    refine lv_iload_n hx hb dX10_together_6 rfl (lv_at hl 0 rfl) ?_
    refine lv_iconst (v := 1) hx hb dX10_together_7 (by decide) ?_
    refine lv_iand hx hb dX10_together_8 ?_
    refine lv_if_eq (tgt := 14) hx hb dX10_together_9 (by decide) (fun c_9 => ?_) (fun c_9 => ?_)
    · rw [if_pos c_9] at h
      refine lv_iload_n hx hb dX10_together_14 rfl (lv_at hl 0 rfl) ?_
      obtain ⟨r_15, hc_15, h⟩ := bi_el h
      refine is_X10_437 B hR hl.1 (mJ6_bitCount_0f7a4 fu _  hc_15) (Nat.le_of_ble_eq_true rfl) dX10_together_15 (fun H locs hR => ?_)
      refine lv_iconst (v := 1) hx hb dX10_together_18 (by decide) ?_
      refine lv_icmp_ne (tgt := 27) hx hb dX10_together_19 (by decide) (fun c_19 => ?_) (fun c_19 => ?_)
      · rw [if_neg c_19] at h
        refine lv_iload_n hx hb dX10_together_27 rfl (lv_at hl 0 rfl) ?_
        refine lv_bipush (v := 20) hx hb dX10_together_28 (by decide) ?_
        refine lv_icmp_ne (tgt := 37) hx hb dX10_together_30 (by decide) (fun c_30 => ?_) (fun c_30 => ?_)
        · rw [if_neg c_30] at h
          refine lv_iconst (v := 5) hx hb dX10_together_37 (by decide) ?_
          exact wX10_together_j38 B hr hlk  h hR (lv_sub hl [] rfl)
        · rw [if_pos c_30] at h
          refine lv_iconst (v := 2) hx hb dX10_together_33 (by decide) ?_
          refine lv_goto (tgt := 38) hx hb dX10_together_34 (by decide) ?_
          exact wX10_together_j38 B hr hlk  h hR (lv_sub hl [] rfl)
      · rw [if_pos c_19] at h
        refine lv_iload_n hx hb dX10_together_22 rfl (lv_at hl 0 rfl) ?_
        obtain ⟨r_23, hc_23, h⟩ := bi_el h
        refine is_X10_442 B hR hl.1 (mJ6_numberOfTrailingZeros_0f7a4 fu _  hc_23) (Nat.le_of_ble_eq_true rfl) dX10_together_23 (fun H locs hR => ?_)
        exact r_iretP B hR hr hlk h dX10_together_26
    · rw [if_neg c_9] at h
      refine lv_iconst (v := 0) hx hb dX10_together_12 (by decide) ?_
      exact r_iretP B hR hr hlk h dX10_together_13
  · rw [if_pos c_1] at h
    refine lv_iload_n hx hb dX10_together_4 rfl (lv_at hl 1 rfl) ?_
    exact r_iretP B hR hr hlk h dX10_together_5
def fX10_pageKindInTurn_j11 (fu : Nat) (t0 : Int32) : Option Int32 :=
  some t0
set_option maxRecDepth 100000 in
set_option maxHeartbeats 4000000 in
theorem wX10_pageKindInTurn_j11 {r : Int32}   {t0 : Int32} {M : Mm} (B : Bx p s m args c cX10_pageKindInTurn 1 RX10 E L) (hr : meth.sig.returnType = (some .int)) (hlk : meth.locks = false)   (h : fX10_pageKindInTurn_j11 fu t0 = some r) (hR : Rx s E L M H locs) (hl : lv_has ls 1 []) : W p l e (rmD (d + 0)) s m args below meth c H locs 0 0 (MQ below (QcM E L (some (.int r)) M) args s 0 0 E.2.2.2) (F0 m 11 ls [.int t0]) := by
  have hx := B.1
  have hb := B.2.1
  unfold fX10_pageKindInTurn_j11 at h
  exact r_iretP B hR hr hlk h dX10_pageKindInTurn_11
def fX10_pageKindInTurn (fu : Nat) (x0 : Int32) : Option Int32 :=
  if x0 = 0 then
    fX10_pageKindInTurn_j11 fu 5
  else
    fX10_pageKindInTurn_j11 fu (x0 - 1)
set_option maxRecDepth 100000 in
set_option maxHeartbeats 4000000 in
theorem mX10_pageKindInTurn {l : Launch} {E : Ge} {L : Lay} (fu d : Nat) {x0 : Int32} {M : Mm} {r : Int32}   (h : fX10_pageKindInTurn fu x0 = some r) : Ct l E L yX10_pageKindInTurn cX10_pageKindInTurn 1 (some .int) (d + 0) [.int x0] M (some (.int r)) M := by
  refine Ct.of (by decide) ?_
  intro p e s m below meth c hr hlk B hR
  have B : Bx p s m _ c cX10_pageKindInTurn 1 RX10 E L := B
  have hx := B.1
  have hb := B.2.1
  have hl := lv_entry ([.int x0]) (n := 1) (Nat.le_of_ble_eq_true rfl)
  rw [lg_entry_eq]
  generalize (lg_sl ([.int x0]) ++ List.replicate (1 - (lg_sl ([.int x0])).length) Slot.unset).toArray = ls at hl ⊢
  have hl : lv_has ls 1 [(0, .int x0)] := hl
  unfold fX10_pageKindInTurn at h
  refine lv_iload_n hx hb dX10_pageKindInTurn_0 rfl (lv_at hl 0 rfl) ?_
  refine lv_if_ne (tgt := 8) hx hb dX10_pageKindInTurn_1 (by decide) (fun c_1 => ?_) (fun c_1 => ?_)
  · rw [if_neg c_1] at h
    refine lv_iload_n hx hb dX10_pageKindInTurn_8 rfl (lv_at hl 0 rfl) ?_
    refine lv_iconst (v := 1) hx hb dX10_pageKindInTurn_9 (by decide) ?_
    refine lv_isub hx hb dX10_pageKindInTurn_10 ?_
    exact wX10_pageKindInTurn_j11 B hr hlk  h hR (lv_sub hl [] rfl)
  · rw [if_pos c_1] at h
    refine lv_iconst (v := 5) hx hb dX10_pageKindInTurn_4 (by decide) ?_
    refine lv_goto (tgt := 11) hx hb dX10_pageKindInTurn_5 (by decide) ?_
    exact wX10_pageKindInTurn_j11 B hr hlk  h hR (lv_sub hl [] rfl)
end G11_skst_lean_txt
