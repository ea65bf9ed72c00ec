theorem dX11_isIn_0 : decode cX11_isIn 0 = .ok (.iload_n 0, 1) := by decide +kernel
theorem dX11_isIn_1 : decode cX11_isIn 1 = .ok (.iload_n 1, 1) := by decide +kernel
theorem dX11_isIn_2 : decode cX11_isIn 2 = .ok (.if_icmp .lt 12, 3) := by decide +kernel
theorem dX11_isIn_5 : decode cX11_isIn 5 = .ok (.iload_n 0, 1) := by decide +kernel
theorem dX11_isIn_6 : decode cX11_isIn 6 = .ok (.iload_n 2, 1) := by decide +kernel
theorem dX11_isIn_7 : decode cX11_isIn 7 = .ok (.if_icmp .gt 7, 3) := by decide +kernel
theorem dX11_isIn_10 : decode cX11_isIn 10 = .ok (.iconst 1, 1) := by decide +kernel
theorem dX11_isIn_11 : decode cX11_isIn 11 = .ok (.goto 4, 3) := by decide +kernel
theorem dX11_isIn_14 : decode cX11_isIn 14 = .ok (.iconst 0, 1) := by decide +kernel
theorem dX11_isIn_15 : decode cX11_isIn 15 = .ok (.ireturn, 1) := by decide +kernel
theorem dX11_less_0 : decode cX11_less 0 = .ok (.iload_n 0, 1) := by decide +kernel
theorem dX11_less_1 : decode cX11_less 1 = .ok (.iload_n 1, 1) := by decide +kernel
theorem dX11_less_2 : decode cX11_less 2 = .ok (.if_icmp .ge 7, 3) := by decide +kernel
theorem dX11_less_5 : decode cX11_less 5 = .ok (.iload_n 0, 1) := by decide +kernel
theorem dX11_less_6 : decode cX11_less 6 = .ok (.goto 4, 3) := by decide +kernel
theorem dX11_less_9 : decode cX11_less 9 = .ok (.iload_n 1, 1) := by decide +kernel
theorem dX11_less_10 : decode cX11_less 10 = .ok (.ireturn, 1) := by decide +kernel
theorem dX11_more_0 : decode cX11_more 0 = .ok (.iload_n 0, 1) := by decide +kernel
theorem dX11_more_1 : decode cX11_more 1 = .ok (.iload_n 1, 1) := by decide +kernel
theorem dX11_more_2 : decode cX11_more 2 = .ok (.if_icmp .le 7, 3) := by decide +kernel
theorem dX11_more_5 : decode cX11_more 5 = .ok (.iload_n 0, 1) := by decide +kernel
theorem dX11_more_6 : decode cX11_more 6 = .ok (.goto 4, 3) := by decide +kernel
theorem dX11_more_9 : decode cX11_more 9 = .ok (.iload_n 1, 1) := by decide +kernel
theorem dX11_more_10 : decode cX11_more 10 = .ok (.ireturn, 1) := by decide +kernel
theorem dX11_clearBank_0 : decode cX11_clearBank 0 = .ok (.aload_n 0, 1) := by decide +kernel
theorem dX11_clearBank_1 : decode cX11_clearBank 1 = .ok (.getfield 13, 3) := by decide +kernel
theorem dX11_clearBank_4 : decode cX11_clearBank 4 = .ok (.iload_n 1, 1) := by decide +kernel
theorem dX11_clearBank_5 : decode cX11_clearBank 5 = .ok (.bipush 8, 2) := by decide +kernel
theorem dX11_clearBank_7 : decode cX11_clearBank 7 = .ok (.iastore, 1) := by decide +kernel
theorem dX11_clearBank_8 : decode cX11_clearBank 8 = .ok (.aload_n 0, 1) := by decide +kernel
theorem dX11_clearBank_9 : decode cX11_clearBank 9 = .ok (.getfield 16, 3) := by decide +kernel
theorem dX11_clearBank_12 : decode cX11_clearBank 12 = .ok (.iload_n 1, 1) := by decide +kernel
theorem dX11_clearBank_13 : decode cX11_clearBank 13 = .ok (.bipush 8, 2) := by decide +kernel
theorem dX11_clearBank_15 : decode cX11_clearBank 15 = .ok (.iastore, 1) := by decide +kernel
theorem dX11_clearBank_16 : decode cX11_clearBank 16 = .ok (.aload_n 0, 1) := by decide +kernel
theorem dX11_clearBank_17 : decode cX11_clearBank 17 = .ok (.getfield 19, 3) := by decide +kernel
theorem dX11_clearBank_20 : decode cX11_clearBank 20 = .ok (.iload_n 1, 1) := by decide +kernel
theorem dX11_clearBank_21 : decode cX11_clearBank 21 = .ok (.iconst 0, 1) := by decide +kernel
theorem dX11_clearBank_22 : decode cX11_clearBank 22 = .ok (.iastore, 1) := by decide +kernel
theorem dX11_clearBank_23 : decode cX11_clearBank 23 = .ok (.iconst 0, 1) := by decide +kernel
theorem dX11_clearBank_24 : decode cX11_clearBank 24 = .ok (.istore_n 2, 1) := by decide +kernel
theorem dX11_clearBank_25 : decode cX11_clearBank 25 = .ok (.iload_n 2, 1) := by decide +kernel
theorem dX11_clearBank_26 : decode cX11_clearBank 26 = .ok (.sipush 140, 3) := by decide +kernel
theorem dX11_clearBank_29 : decode cX11_clearBank 29 = .ok (.if_icmp .ge 32, 3) := by decide +kernel
theorem dX11_clearBank_32 : decode cX11_clearBank 32 = .ok (.aload_n 0, 1) := by decide +kernel
theorem dX11_clearBank_33 : decode cX11_clearBank 33 = .ok (.getfield 22, 3) := by decide +kernel
theorem dX11_clearBank_36 : decode cX11_clearBank 36 = .ok (.sipush 140, 3) := by decide +kernel
theorem dX11_clearBank_39 : decode cX11_clearBank 39 = .ok (.iload_n 1, 1) := by decide +kernel
theorem dX11_clearBank_40 : decode cX11_clearBank 40 = .ok (.imul, 1) := by decide +kernel
theorem dX11_clearBank_41 : decode cX11_clearBank 41 = .ok (.iload_n 2, 1) := by decide +kernel
theorem dX11_clearBank_42 : decode cX11_clearBank 42 = .ok (.iadd, 1) := by decide +kernel
theorem dX11_clearBank_43 : decode cX11_clearBank 43 = .ok (.iload_n 2, 1) := by decide +kernel
theorem dX11_clearBank_44 : decode cX11_clearBank 44 = .ok (.bipush 76, 2) := by decide +kernel
theorem dX11_clearBank_46 : decode cX11_clearBank 46 = .ok (.if_icmp .lt 7, 3) := by decide +kernel
theorem dX11_clearBank_49 : decode cX11_clearBank 49 = .ok (.iconst 5, 1) := by decide +kernel
theorem dX11_clearBank_50 : decode cX11_clearBank 50 = .ok (.goto 4, 3) := by decide +kernel
theorem dX11_clearBank_53 : decode cX11_clearBank 53 = .ok (.iconst 0, 1) := by decide +kernel
theorem dX11_clearBank_54 : decode cX11_clearBank 54 = .ok (.iastore, 1) := by decide +kernel
theorem dX11_clearBank_55 : decode cX11_clearBank 55 = .ok (.iinc 2 1, 3) := by decide +kernel
theorem dX11_clearBank_58 : decode cX11_clearBank 58 = .ok (.goto (-33), 3) := by decide +kernel
theorem dX11_clearBank_61 : decode cX11_clearBank 61 = .ok (.return_, 1) := by decide +kernel
theorem dX11_feed_0 : decode cX11_feed 0 = .ok (.aload_n 0, 1) := by decide +kernel
theorem dX11_feed_1 : decode cX11_feed 1 = .ok (.getfield 111, 3) := by decide +kernel
theorem dX11_feed_4 : decode cX11_feed 4 = .ok (.bipush 20, 2) := by decide +kernel
theorem dX11_feed_6 : decode cX11_feed 6 = .ok (.iadd, 1) := by decide +kernel
theorem dX11_feed_7 : decode cX11_feed 7 = .ok (.sipush 800, 3) := by decide +kernel
theorem dX11_feed_10 : decode cX11_feed 10 = .ok (.if_icmp .le 5, 3) := by decide +kernel
theorem dX11_feed_13 : decode cX11_feed 13 = .ok (.iconst (-1), 1) := by decide +kernel
theorem dX11_feed_14 : decode cX11_feed 14 = .ok (.ireturn, 1) := by decide +kernel
theorem dX11_feed_15 : decode cX11_feed 15 = .ok (.iconst 0, 1) := by decide +kernel
theorem dX11_feed_16 : decode cX11_feed 16 = .ok (.istore 6, 2) := by decide +kernel
theorem dX11_feed_18 : decode cX11_feed 18 = .ok (.iload 6, 2) := by decide +kernel
theorem dX11_feed_20 : decode cX11_feed 20 = .ok (.bipush 20, 2) := by decide +kernel
theorem dX11_feed_22 : decode cX11_feed 22 = .ok (.if_icmp .ge 83, 3) := by decide +kernel
theorem dX11_feed_25 : decode cX11_feed 25 = .ok (.iload 6, 2) := by decide +kernel
theorem dX11_feed_27 : decode cX11_feed 27 = .ok (.iconst 4, 1) := by decide +kernel
theorem dX11_feed_28 : decode cX11_feed 28 = .ok (.if_icmp .ge 7, 3) := by decide +kernel
theorem dX11_feed_31 : decode cX11_feed 31 = .ok (.iload_n 1, 1) := by decide +kernel
theorem dX11_feed_32 : decode cX11_feed 32 = .ok (.goto 39, 3) := by decide +kernel
theorem dX11_feed_35 : decode cX11_feed 35 = .ok (.iload 6, 2) := by decide +kernel
theorem dX11_feed_37 : decode cX11_feed 37 = .ok (.bipush 8, 2) := by decide +kernel
theorem dX11_feed_39 : decode cX11_feed 39 = .ok (.if_icmp .ge 7, 3) := by decide +kernel
theorem dX11_feed_42 : decode cX11_feed 42 = .ok (.iload_n 2, 1) := by decide +kernel
theorem dX11_feed_43 : decode cX11_feed 43 = .ok (.goto 28, 3) := by decide +kernel
theorem dX11_feed_46 : decode cX11_feed 46 = .ok (.iload 6, 2) := by decide +kernel
theorem dX11_feed_48 : decode cX11_feed 48 = .ok (.bipush 12, 2) := by decide +kernel
theorem dX11_feed_50 : decode cX11_feed 50 = .ok (.if_icmp .ge 7, 3) := by decide +kernel
theorem dX11_feed_53 : decode cX11_feed 53 = .ok (.iload_n 3, 1) := by decide +kernel
theorem dX11_feed_54 : decode cX11_feed 54 = .ok (.goto 17, 3) := by decide +kernel
theorem dX11_feed_57 : decode cX11_feed 57 = .ok (.iload 6, 2) := by decide +kernel
theorem dX11_feed_59 : decode cX11_feed 59 = .ok (.bipush 16, 2) := by decide +kernel
theorem dX11_feed_61 : decode cX11_feed 61 = .ok (.if_icmp .ge 8, 3) := by decide +kernel
theorem dX11_feed_64 : decode cX11_feed 64 = .ok (.iload 4, 2) := by decide +kernel
theorem dX11_feed_66 : decode cX11_feed 66 = .ok (.goto 5, 3) := by decide +kernel
theorem dX11_feed_69 : decode cX11_feed 69 = .ok (.iload 5, 2) := by decide +kernel
theorem dX11_feed_71 : decode cX11_feed 71 = .ok (.istore 7, 2) := by decide +kernel
theorem dX11_feed_73 : decode cX11_feed 73 = .ok (.aload_n 0, 1) := by decide +kernel
theorem dX11_feed_74 : decode cX11_feed 74 = .ok (.getfield 25, 3) := by decide +kernel
theorem dX11_feed_77 : decode cX11_feed 77 = .ok (.aload_n 0, 1) := by decide +kernel
theorem dX11_feed_78 : decode cX11_feed 78 = .ok (.getfield 111, 3) := by decide +kernel
theorem dX11_feed_81 : decode cX11_feed 81 = .ok (.iload 6, 2) := by decide +kernel
theorem dX11_feed_83 : decode cX11_feed 83 = .ok (.iadd, 1) := by decide +kernel
theorem dX11_feed_84 : decode cX11_feed 84 = .ok (.iload 7, 2) := by decide +kernel
theorem dX11_feed_86 : decode cX11_feed 86 = .ok (.bipush 24, 2) := by decide +kernel
theorem dX11_feed_88 : decode cX11_feed 88 = .ok (.bipush 8, 2) := by decide +kernel
theorem dX11_feed_90 : decode cX11_feed 90 = .ok (.iload 6, 2) := by decide +kernel
theorem dX11_feed_92 : decode cX11_feed 92 = .ok (.iconst 3, 1) := by decide +kernel
theorem dX11_feed_93 : decode cX11_feed 93 = .ok (.iand, 1) := by decide +kernel
theorem dX11_feed_94 : decode cX11_feed 94 = .ok (.imul, 1) := by decide +kernel
theorem dX11_feed_95 : decode cX11_feed 95 = .ok (.isub, 1) := by decide +kernel
theorem dX11_feed_96 : decode cX11_feed 96 = .ok (.ishr, 1) := by decide +kernel
theorem dX11_feed_97 : decode cX11_feed 97 = .ok (.i2b, 1) := by decide +kernel
theorem dX11_feed_98 : decode cX11_feed 98 = .ok (.bastore, 1) := by decide +kernel
theorem dX11_feed_99 : decode cX11_feed 99 = .ok (.iinc 6 1, 3) := by decide +kernel
theorem dX11_feed_102 : decode cX11_feed 102 = .ok (.goto (-84), 3) := by decide +kernel
theorem dX11_feed_105 : decode cX11_feed 105 = .ok (.aload_n 0, 1) := by decide +kernel
theorem dX11_feed_106 : decode cX11_feed 106 = .ok (.dup, 1) := by decide +kernel
theorem dX11_feed_107 : decode cX11_feed 107 = .ok (.getfield 111, 3) := by decide +kernel
theorem dX11_feed_110 : decode cX11_feed 110 = .ok (.bipush 20, 2) := by decide +kernel
theorem dX11_feed_112 : decode cX11_feed 112 = .ok (.iadd, 1) := by decide +kernel
theorem dX11_feed_113 : decode cX11_feed 113 = .ok (.putfield 111, 3) := by decide +kernel
theorem dX11_feed_116 : decode cX11_feed 116 = .ok (.aload_n 0, 1) := by decide +kernel
theorem dX11_feed_117 : decode cX11_feed 117 = .ok (.getfield 111, 3) := by decide +kernel
theorem dX11_feed_120 : decode cX11_feed 120 = .ok (.ireturn, 1) := by decide +kernel
theorem dX11_end_0 : decode cX11_end 0 = .ok (.iload_n 1, 1) := by decide +kernel
theorem dX11_end_1 : decode cX11_end 1 = .ok (.ifCond .lt 11, 3) := by decide +kernel
theorem dX11_end_4 : decode cX11_end 4 = .ok (.iload_n 1, 1) := by decide +kernel
theorem dX11_end_5 : decode cX11_end 5 = .ok (.aload_n 0, 1) := by decide +kernel
theorem dX11_end_6 : decode cX11_end 6 = .ok (.getfield 111, 3) := by decide +kernel
theorem dX11_end_9 : decode cX11_end 9 = .ok (.if_icmp .le 5, 3) := by decide +kernel
theorem dX11_end_12 : decode cX11_end 12 = .ok (.iconst (-1), 1) := by decide +kernel
theorem dX11_end_13 : decode cX11_end 13 = .ok (.ireturn, 1) := by decide +kernel
theorem dX11_end_14 : decode cX11_end 14 = .ok (.aload_n 0, 1) := by decide +kernel
theorem dX11_end_15 : decode cX11_end 15 = .ok (.iload_n 1, 1) := by decide +kernel
theorem dX11_end_16 : decode cX11_end 16 = .ok (.putfield 111, 3) := by decide +kernel
theorem dX11_end_19 : decode cX11_end 19 = .ok (.iload_n 1, 1) := by decide +kernel
theorem dX11_end_20 : decode cX11_end 20 = .ok (.ireturn, 1) := by decide +kernel
theorem dX11_signAt_0 : decode cX11_signAt 0 = .ok (.iload_n 1, 1) := by decide +kernel
theorem dX11_signAt_1 : decode cX11_signAt 1 = .ok (.aload_n 0, 1) := by decide +kernel
theorem dX11_signAt_2 : decode cX11_signAt 2 = .ok (.getfield 114, 3) := by decide +kernel
theorem dX11_signAt_5 : decode cX11_signAt 5 = .ok (.if_icmp .ge 12, 3) := by decide +kernel
theorem dX11_signAt_8 : decode cX11_signAt 8 = .ok (.aload_n 0, 1) := by decide +kernel
theorem dX11_signAt_9 : decode cX11_signAt 9 = .ok (.getfield 25, 3) := by decide +kernel
theorem dX11_signAt_12 : decode cX11_signAt 12 = .ok (.iload_n 1, 1) := by decide +kernel
theorem dX11_signAt_13 : decode cX11_signAt 13 = .ok (.baload, 1) := by decide +kernel
theorem dX11_signAt_14 : decode cX11_signAt 14 = .ok (.goto 4, 3) := by decide +kernel
theorem dX11_signAt_17 : decode cX11_signAt 17 = .ok (.iconst 0, 1) := by decide +kernel
theorem dX11_signAt_18 : decode cX11_signAt 18 = .ok (.ireturn, 1) := by decide +kernel
theorem dX11_isLetter_0 : decode cX11_isLetter 0 = .ok (.iload_n 0, 1) := by decide +kernel
theorem dX11_isLetter_1 : decode cX11_isLetter 1 = .ok (.bipush 97, 2) := by decide +kernel
theorem dX11_isLetter_3 : decode cX11_isLetter 3 = .ok (.if_icmp .lt 13, 3) := by decide +kernel
theorem dX11_isLetter_6 : decode cX11_isLetter 6 = .ok (.iload_n 0, 1) := by decide +kernel
theorem dX11_isLetter_7 : decode cX11_isLetter 7 = .ok (.bipush 122, 2) := by decide +kernel
theorem dX11_isLetter_9 : decode cX11_isLetter 9 = .ok (.if_icmp .gt 7, 3) := by decide +kernel
theorem dX11_isLetter_12 : decode cX11_isLetter 12 = .ok (.iconst 1, 1) := by decide +kernel
theorem dX11_isLetter_13 : decode cX11_isLetter 13 = .ok (.goto 4, 3) := by decide +kernel
theorem dX11_isLetter_16 : decode cX11_isLetter 16 = .ok (.iconst 0, 1) := by decide +kernel
theorem dX11_isLetter_17 : decode cX11_isLetter 17 = .ok (.ireturn, 1) := by decide +kernel
theorem dX11_isDigit_0 : decode cX11_isDigit 0 = .ok (.iload_n 0, 1) := by decide +kernel
theorem dX11_isDigit_1 : decode cX11_isDigit 1 = .ok (.bipush 48, 2) := by decide +kernel
theorem dX11_isDigit_3 : decode cX11_isDigit 3 = .ok (.if_icmp .lt 13, 3) := by decide +kernel
theorem dX11_isDigit_6 : decode cX11_isDigit 6 = .ok (.iload_n 0, 1) := by decide +kernel
theorem dX11_isDigit_7 : decode cX11_isDigit 7 = .ok (.bipush 57, 2) := by decide +kernel
theorem dX11_isDigit_9 : decode cX11_isDigit 9 = .ok (.if_icmp .gt 7, 3) := by decide +kernel
theorem dX11_isDigit_12 : decode cX11_isDigit 12 = .ok (.iconst 1, 1) := by decide +kernel
theorem dX11_isDigit_13 : decode cX11_isDigit 13 = .ok (.goto 4, 3) := by decide +kernel
theorem dX11_isDigit_16 : decode cX11_isDigit 16 = .ok (.iconst 0, 1) := by decide +kernel
theorem dX11_isDigit_17 : decode cX11_isDigit 17 = .ok (.ireturn, 1) := by decide +kernel
theorem dX11_isBlank_0 : decode cX11_isBlank 0 = .ok (.iload_n 1, 1) := by decide +kernel
theorem dX11_isBlank_1 : decode cX11_isBlank 1 = .ok (.aload_n 0, 1) := by decide +kernel
theorem dX11_isBlank_2 : decode cX11_isBlank 2 = .ok (.getfield 114, 3) := by decide +kernel
theorem dX11_isBlank_5 : decode cX11_isBlank 5 = .ok (.if_icmp .ge 29, 3) := by decide +kernel
theorem dX11_isBlank_8 : decode cX11_isBlank 8 = .ok (.aload_n 0, 1) := by decide +kernel
theorem dX11_isBlank_9 : decode cX11_isBlank 9 = .ok (.getfield 25, 3) := by decide +kernel
theorem dX11_isBlank_12 : decode cX11_isBlank 12 = .ok (.iload_n 1, 1) := by decide +kernel
theorem dX11_isBlank_13 : decode cX11_isBlank 13 = .ok (.baload, 1) := by decide +kernel
theorem dX11_isBlank_14 : decode cX11_isBlank 14 = .ok (.bipush 32, 2) := by decide +kernel
theorem dX11_isBlank_16 : decode cX11_isBlank 16 = .ok (.if_icmp .eq 14, 3) := by decide +kernel
theorem dX11_isBlank_19 : decode cX11_isBlank 19 = .ok (.aload_n 0, 1) := by decide +kernel
theorem dX11_isBlank_20 : decode cX11_isBlank 20 = .ok (.getfield 25, 3) := by decide +kernel
theorem dX11_isBlank_23 : decode cX11_isBlank 23 = .ok (.iload_n 1, 1) := by decide +kernel
theorem dX11_isBlank_24 : decode cX11_isBlank 24 = .ok (.baload, 1) := by decide +kernel
theorem dX11_isBlank_25 : decode cX11_isBlank 25 = .ok (.bipush 10, 2) := by decide +kernel
theorem dX11_isBlank_27 : decode cX11_isBlank 27 = .ok (.if_icmp .ne 7, 3) := by decide +kernel
theorem dX11_isBlank_30 : decode cX11_isBlank 30 = .ok (.iconst 1, 1) := by decide +kernel
theorem dX11_isBlank_31 : decode cX11_isBlank 31 = .ok (.goto 4, 3) := by decide +kernel
theorem dX11_isBlank_34 : decode cX11_isBlank 34 = .ok (.iconst 0, 1) := by decide +kernel
theorem dX11_isBlank_35 : decode cX11_isBlank 35 = .ok (.ireturn, 1) := by decide +kernel
theorem dX11_isSame_0 : decode cX11_isSame 0 = .ok (.iload_n 2, 1) := by decide +kernel
theorem dX11_isSame_1 : decode cX11_isSame 1 = .ok (.iload_n 1, 1) := by decide +kernel
theorem dX11_isSame_2 : decode cX11_isSame 2 = .ok (.isub, 1) := by decide +kernel
theorem dX11_isSame_3 : decode cX11_isSame 3 = .ok (.aload_n 0, 1) := by decide +kernel
theorem dX11_isSame_4 : decode cX11_isSame 4 = .ok (.getfield 117, 3) := by decide +kernel
theorem dX11_isSame_7 : decode cX11_isSame 7 = .ok (.aload_n 0, 1) := by decide +kernel
theorem dX11_isSame_8 : decode cX11_isSame 8 = .ok (.getfield 120, 3) := by decide +kernel
theorem dX11_isSame_11 : decode cX11_isSame 11 = .ok (.isub, 1) := by decide +kernel
theorem dX11_isSame_12 : decode cX11_isSame 12 = .ok (.if_icmp .eq 5, 3) := by decide +kernel
theorem dX11_isSame_15 : decode cX11_isSame 15 = .ok (.iconst 0, 1) := by decide +kernel
theorem dX11_isSame_16 : decode cX11_isSame 16 = .ok (.ireturn, 1) := by decide +kernel
theorem dX11_isSame_17 : decode cX11_isSame 17 = .ok (.iconst 0, 1) := by decide +kernel
theorem dX11_isSame_18 : decode cX11_isSame 18 = .ok (.istore_n 3, 1) := by decide +kernel
theorem dX11_isSame_19 : decode cX11_isSame 19 = .ok (.iload_n 3, 1) := by decide +kernel
theorem dX11_isSame_20 : decode cX11_isSame 20 = .ok (.iload_n 2, 1) := by decide +kernel
theorem dX11_isSame_21 : decode cX11_isSame 21 = .ok (.iload_n 1, 1) := by decide +kernel
theorem dX11_isSame_22 : decode cX11_isSame 22 = .ok (.isub, 1) := by decide +kernel
theorem dX11_isSame_23 : decode cX11_isSame 23 = .ok (.if_icmp .ge 33, 3) := by decide +kernel
theorem dX11_isSame_26 : decode cX11_isSame 26 = .ok (.aload_n 0, 1) := by decide +kernel
theorem dX11_isSame_27 : decode cX11_isSame 27 = .ok (.getfield 33, 3) := by decide +kernel
theorem dX11_isSame_30 : decode cX11_isSame 30 = .ok (.iload_n 1, 1) := by decide +kernel
theorem dX11_isSame_31 : decode cX11_isSame 31 = .ok (.iload_n 3, 1) := by decide +kernel
theorem dX11_isSame_32 : decode cX11_isSame 32 = .ok (.iadd, 1) := by decide +kernel
theorem dX11_isSame_33 : decode cX11_isSame 33 = .ok (.baload, 1) := by decide +kernel
theorem dX11_isSame_34 : decode cX11_isSame 34 = .ok (.aload_n 0, 1) := by decide +kernel
theorem dX11_isSame_35 : decode cX11_isSame 35 = .ok (.getfield 25, 3) := by decide +kernel
theorem dX11_isSame_38 : decode cX11_isSame 38 = .ok (.aload_n 0, 1) := by decide +kernel
theorem dX11_isSame_39 : decode cX11_isSame 39 = .ok (.getfield 120, 3) := by decide +kernel
theorem dX11_isSame_42 : decode cX11_isSame 42 = .ok (.iload_n 3, 1) := by decide +kernel
theorem dX11_isSame_43 : decode cX11_isSame 43 = .ok (.iadd, 1) := by decide +kernel
theorem dX11_isSame_44 : decode cX11_isSame 44 = .ok (.baload, 1) := by decide +kernel
theorem dX11_isSame_45 : decode cX11_isSame 45 = .ok (.if_icmp .eq 5, 3) := by decide +kernel
theorem dX11_isSame_48 : decode cX11_isSame 48 = .ok (.iconst 0, 1) := by decide +kernel
theorem dX11_isSame_49 : decode cX11_isSame 49 = .ok (.ireturn, 1) := by decide +kernel
theorem dX11_isSame_50 : decode cX11_isSame 50 = .ok (.iinc 3 1, 3) := by decide +kernel
theorem dX11_isSame_53 : decode cX11_isSame 53 = .ok (.goto (-34), 3) := by decide +kernel
theorem dX11_isSame_56 : decode cX11_isSame 56 = .ok (.iconst 1, 1) := by decide +kernel
theorem dX11_isSame_57 : decode cX11_isSame 57 = .ok (.ireturn, 1) := by decide +kernel
theorem dX11_scanWord_0 : decode cX11_scanWord 0 = .ok (.aload_n 0, 1) := by decide +kernel
theorem dX11_scanWord_1 : decode cX11_scanWord 1 = .ok (.iconst 2, 1) := by decide +kernel
theorem dX11_scanWord_2 : decode cX11_scanWord 2 = .ok (.putfield 131, 3) := by decide +kernel
theorem dX11_scanWord_5 : decode cX11_scanWord 5 = .ok (.aload_n 0, 1) := by decide +kernel
theorem dX11_scanWord_6 : decode cX11_scanWord 6 = .ok (.aload_n 0, 1) := by decide +kernel
theorem dX11_scanWord_7 : decode cX11_scanWord 7 = .ok (.getfield 120, 3) := by decide +kernel
theorem dX11_scanWord_10 : decode cX11_scanWord 10 = .ok (.putfield 117, 3) := by decide +kernel
theorem dX11_scanWord_13 : decode cX11_scanWord 13 = .ok (.aload_n 0, 1) := by decide +kernel
theorem dX11_scanWord_14 : decode cX11_scanWord 14 = .ok (.aload_n 0, 1) := by decide +kernel
theorem dX11_scanWord_15 : decode cX11_scanWord 15 = .ok (.getfield 117, 3) := by decide +kernel
theorem dX11_scanWord_18 : decode cX11_scanWord 18 = .ok (.invokevirtual 127, 3) := by decide +kernel
theorem dX11_scanWord_21 : decode cX11_scanWord 21 = .ok (.invokestatic 134, 3) := by decide +kernel
theorem dX11_scanWord_24 : decode cX11_scanWord 24 = .ok (.ifCond .eq 16, 3) := by decide +kernel
theorem dX11_scanWord_27 : decode cX11_scanWord 27 = .ok (.aload_n 0, 1) := by decide +kernel
theorem dX11_scanWord_28 : decode cX11_scanWord 28 = .ok (.dup, 1) := by decide +kernel
theorem dX11_scanWord_29 : decode cX11_scanWord 29 = .ok (.getfield 117, 3) := by decide +kernel
theorem dX11_scanWord_32 : decode cX11_scanWord 32 = .ok (.iconst 1, 1) := by decide +kernel
theorem dX11_scanWord_33 : decode cX11_scanWord 33 = .ok (.iadd, 1) := by decide +kernel
theorem dX11_scanWord_34 : decode cX11_scanWord 34 = .ok (.putfield 117, 3) := by decide +kernel
theorem dX11_scanWord_37 : decode cX11_scanWord 37 = .ok (.goto (-24), 3) := by decide +kernel
theorem dX11_scanWord_40 : decode cX11_scanWord 40 = .ok (.aload_n 0, 1) := by decide +kernel
theorem dX11_scanWord_41 : decode cX11_scanWord 41 = .ok (.iconst (-1), 1) := by decide +kernel
theorem dX11_scanWord_42 : decode cX11_scanWord 42 = .ok (.putfield 146, 3) := by decide +kernel
theorem dX11_scanWord_45 : decode cX11_scanWord 45 = .ok (.iconst 0, 1) := by decide +kernel
theorem dX11_scanWord_46 : decode cX11_scanWord 46 = .ok (.istore_n 1, 1) := by decide +kernel
theorem dX11_scanWord_47 : decode cX11_scanWord 47 = .ok (.iconst 0, 1) := by decide +kernel
theorem dX11_scanWord_48 : decode cX11_scanWord 48 = .ok (.istore_n 2, 1) := by decide +kernel
theorem dX11_scanWord_49 : decode cX11_scanWord 49 = .ok (.iload_n 2, 1) := by decide +kernel
theorem dX11_scanWord_50 : decode cX11_scanWord 50 = .ok (.bipush 12, 2) := by decide +kernel
theorem dX11_scanWord_52 : decode cX11_scanWord 52 = .ok (.if_icmp .ge 46, 3) := by decide +kernel
theorem dX11_scanWord_55 : decode cX11_scanWord 55 = .ok (.iload_n 1, 1) := by decide +kernel
theorem dX11_scanWord_56 : decode cX11_scanWord 56 = .ok (.istore_n 3, 1) := by decide +kernel
theorem dX11_scanWord_57 : decode cX11_scanWord 57 = .ok (.aload_n 0, 1) := by decide +kernel
theorem dX11_scanWord_58 : decode cX11_scanWord 58 = .ok (.getfield 33, 3) := by decide +kernel
theorem dX11_scanWord_61 : decode cX11_scanWord 61 = .ok (.iload_n 3, 1) := by decide +kernel
theorem dX11_scanWord_62 : decode cX11_scanWord 62 = .ok (.baload, 1) := by decide +kernel
theorem dX11_scanWord_63 : decode cX11_scanWord 63 = .ok (.bipush 32, 2) := by decide +kernel
theorem dX11_scanWord_65 : decode cX11_scanWord 65 = .ok (.if_icmp .eq 9, 3) := by decide +kernel
theorem dX11_scanWord_68 : decode cX11_scanWord 68 = .ok (.iinc 3 1, 3) := by decide +kernel
theorem dX11_scanWord_71 : decode cX11_scanWord 71 = .ok (.goto (-14), 3) := by decide +kernel
theorem dX11_scanWord_74 : decode cX11_scanWord 74 = .ok (.aload_n 0, 1) := by decide +kernel
theorem dX11_scanWord_75 : decode cX11_scanWord 75 = .ok (.iload_n 1, 1) := by decide +kernel
theorem dX11_scanWord_76 : decode cX11_scanWord 76 = .ok (.iload_n 3, 1) := by decide +kernel
theorem dX11_scanWord_77 : decode cX11_scanWord 77 = .ok (.invokevirtual 149, 3) := by decide +kernel
theorem dX11_scanWord_80 : decode cX11_scanWord 80 = .ok (.ifCond .eq 8, 3) := by decide +kernel
theorem dX11_scanWord_83 : decode cX11_scanWord 83 = .ok (.aload_n 0, 1) := by decide +kernel
theorem dX11_scanWord_84 : decode cX11_scanWord 84 = .ok (.iload_n 2, 1) := by decide +kernel
theorem dX11_scanWord_85 : decode cX11_scanWord 85 = .ok (.putfield 146, 3) := by decide +kernel
theorem dX11_scanWord_88 : decode cX11_scanWord 88 = .ok (.iload_n 3, 1) := by decide +kernel
theorem dX11_scanWord_89 : decode cX11_scanWord 89 = .ok (.iconst 1, 1) := by decide +kernel
theorem dX11_scanWord_90 : decode cX11_scanWord 90 = .ok (.iadd, 1) := by decide +kernel
theorem dX11_scanWord_91 : decode cX11_scanWord 91 = .ok (.istore_n 1, 1) := by decide +kernel
theorem dX11_scanWord_92 : decode cX11_scanWord 92 = .ok (.iinc 2 1, 3) := by decide +kernel
theorem dX11_scanWord_95 : decode cX11_scanWord 95 = .ok (.goto (-46), 3) := by decide +kernel
theorem dX11_scanWord_98 : decode cX11_scanWord 98 = .ok (.return_, 1) := by decide +kernel
theorem dX11_scanNumber_0 : decode cX11_scanNumber 0 = .ok (.aload_n 0, 1) := by decide +kernel
theorem dX11_scanNumber_1 : decode cX11_scanNumber 1 = .ok (.iconst 3, 1) := by decide +kernel
theorem dX11_scanNumber_2 : decode cX11_scanNumber 2 = .ok (.putfield 131, 3) := by decide +kernel
theorem dX11_scanNumber_5 : decode cX11_scanNumber 5 = .ok (.aload_n 0, 1) := by decide +kernel
theorem dX11_scanNumber_6 : decode cX11_scanNumber 6 = .ok (.iconst 0, 1) := by decide +kernel
theorem dX11_scanNumber_7 : decode cX11_scanNumber 7 = .ok (.putfield 153, 3) := by decide +kernel
theorem dX11_scanNumber_10 : decode cX11_scanNumber 10 = .ok (.aload_n 0, 1) := by decide +kernel
theorem dX11_scanNumber_11 : decode cX11_scanNumber 11 = .ok (.aload_n 0, 1) := by decide +kernel
theorem dX11_scanNumber_12 : decode cX11_scanNumber 12 = .ok (.getfield 120, 3) := by decide +kernel
theorem dX11_scanNumber_15 : decode cX11_scanNumber 15 = .ok (.putfield 117, 3) := by decide +kernel
theorem dX11_scanNumber_18 : decode cX11_scanNumber 18 = .ok (.aload_n 0, 1) := by decide +kernel
theorem dX11_scanNumber_19 : decode cX11_scanNumber 19 = .ok (.aload_n 0, 1) := by decide +kernel
theorem dX11_scanNumber_20 : decode cX11_scanNumber 20 = .ok (.getfield 117, 3) := by decide +kernel
theorem dX11_scanNumber_23 : decode cX11_scanNumber 23 = .ok (.invokevirtual 127, 3) := by decide +kernel
theorem dX11_scanNumber_26 : decode cX11_scanNumber 26 = .ok (.invokestatic 140, 3) := by decide +kernel
theorem dX11_scanNumber_29 : decode cX11_scanNumber 29 = .ok (.ifCond .eq 55, 3) := by decide +kernel
theorem dX11_scanNumber_32 : decode cX11_scanNumber 32 = .ok (.aload_n 0, 1) := by decide +kernel
theorem dX11_scanNumber_33 : decode cX11_scanNumber 33 = .ok (.aload_n 0, 1) := by decide +kernel
theorem dX11_scanNumber_34 : decode cX11_scanNumber 34 = .ok (.getfield 153, 3) := by decide +kernel
theorem dX11_scanNumber_37 : decode cX11_scanNumber 37 = .ok (.ldc 156, 2) := by decide +kernel
theorem dX11_scanNumber_39 : decode cX11_scanNumber 39 = .ok (.if_icmp .le 10, 3) := by decide +kernel
theorem dX11_scanNumber_42 : decode cX11_scanNumber 42 = .ok (.aload_n 0, 1) := by decide +kernel
theorem dX11_scanNumber_43 : decode cX11_scanNumber 43 = .ok (.getfield 153, 3) := by decide +kernel
theorem dX11_scanNumber_46 : decode cX11_scanNumber 46 = .ok (.goto 22, 3) := by decide +kernel
theorem dX11_scanNumber_49 : decode cX11_scanNumber 49 = .ok (.bipush 10, 2) := by decide +kernel
theorem dX11_scanNumber_51 : decode cX11_scanNumber 51 = .ok (.aload_n 0, 1) := by decide +kernel
theorem dX11_scanNumber_52 : decode cX11_scanNumber 52 = .ok (.getfield 153, 3) := by decide +kernel
theorem dX11_scanNumber_55 : decode cX11_scanNumber 55 = .ok (.imul, 1) := by decide +kernel
theorem dX11_scanNumber_56 : decode cX11_scanNumber 56 = .ok (.aload_n 0, 1) := by decide +kernel
theorem dX11_scanNumber_57 : decode cX11_scanNumber 57 = .ok (.aload_n 0, 1) := by decide +kernel
theorem dX11_scanNumber_58 : decode cX11_scanNumber 58 = .ok (.getfield 117, 3) := by decide +kernel
theorem dX11_scanNumber_61 : decode cX11_scanNumber 61 = .ok (.invokevirtual 127, 3) := by decide +kernel
theorem dX11_scanNumber_64 : decode cX11_scanNumber 64 = .ok (.iadd, 1) := by decide +kernel
theorem dX11_scanNumber_65 : decode cX11_scanNumber 65 = .ok (.bipush 48, 2) := by decide +kernel
theorem dX11_scanNumber_67 : decode cX11_scanNumber 67 = .ok (.isub, 1) := by decide +kernel
theorem dX11_scanNumber_68 : decode cX11_scanNumber 68 = .ok (.putfield 153, 3) := by decide +kernel
theorem dX11_scanNumber_71 : decode cX11_scanNumber 71 = .ok (.aload_n 0, 1) := by decide +kernel
theorem dX11_scanNumber_72 : decode cX11_scanNumber 72 = .ok (.dup, 1) := by decide +kernel
theorem dX11_scanNumber_73 : decode cX11_scanNumber 73 = .ok (.getfield 117, 3) := by decide +kernel
theorem dX11_scanNumber_76 : decode cX11_scanNumber 76 = .ok (.iconst 1, 1) := by decide +kernel
theorem dX11_scanNumber_77 : decode cX11_scanNumber 77 = .ok (.iadd, 1) := by decide +kernel
theorem dX11_scanNumber_78 : decode cX11_scanNumber 78 = .ok (.putfield 117, 3) := by decide +kernel
theorem dX11_scanNumber_81 : decode cX11_scanNumber 81 = .ok (.goto (-63), 3) := by decide +kernel
theorem dX11_scanNumber_84 : decode cX11_scanNumber 84 = .ok (.return_, 1) := by decide +kernel
theorem dX11_scan_0 : decode cX11_scan 0 = .ok (.aload_n 0, 1) := by decide +kernel
theorem dX11_scan_1 : decode cX11_scan 1 = .ok (.aload_n 0, 1) := by decide +kernel
theorem dX11_scan_2 : decode cX11_scan 2 = .ok (.getfield 117, 3) := by decide +kernel
theorem dX11_scan_5 : decode cX11_scan 5 = .ok (.putfield 120, 3) := by decide +kernel
theorem dX11_scan_8 : decode cX11_scan 8 = .ok (.aload_n 0, 1) := by decide +kernel
theorem dX11_scan_9 : decode cX11_scan 9 = .ok (.aload_n 0, 1) := by decide +kernel
theorem dX11_scan_10 : decode cX11_scan 10 = .ok (.getfield 120, 3) := by decide +kernel
theorem dX11_scan_13 : decode cX11_scan 13 = .ok (.invokevirtual 123, 3) := by decide +kernel
theorem dX11_scan_16 : decode cX11_scan 16 = .ok (.ifCond .eq 16, 3) := by decide +kernel
theorem dX11_scan_19 : decode cX11_scan 19 = .ok (.aload_n 0, 1) := by decide +kernel
theorem dX11_scan_20 : decode cX11_scan 20 = .ok (.dup, 1) := by decide +kernel
theorem dX11_scan_21 : decode cX11_scan 21 = .ok (.getfield 120, 3) := by decide +kernel
theorem dX11_scan_24 : decode cX11_scan 24 = .ok (.iconst 1, 1) := by decide +kernel
theorem dX11_scan_25 : decode cX11_scan 25 = .ok (.iadd, 1) := by decide +kernel
theorem dX11_scan_26 : decode cX11_scan 26 = .ok (.putfield 120, 3) := by decide +kernel
theorem dX11_scan_29 : decode cX11_scan 29 = .ok (.goto (-21), 3) := by decide +kernel
theorem dX11_scan_32 : decode cX11_scan 32 = .ok (.aload_n 0, 1) := by decide +kernel
theorem dX11_scan_33 : decode cX11_scan 33 = .ok (.aload_n 0, 1) := by decide +kernel
theorem dX11_scan_34 : decode cX11_scan 34 = .ok (.getfield 120, 3) := by decide +kernel
theorem dX11_scan_37 : decode cX11_scan 37 = .ok (.iconst 1, 1) := by decide +kernel
theorem dX11_scan_38 : decode cX11_scan 38 = .ok (.iadd, 1) := by decide +kernel
theorem dX11_scan_39 : decode cX11_scan 39 = .ok (.putfield 117, 3) := by decide +kernel
theorem dX11_scan_42 : decode cX11_scan 42 = .ok (.aload_n 0, 1) := by decide +kernel
theorem dX11_scan_43 : decode cX11_scan 43 = .ok (.aload_n 0, 1) := by decide +kernel
theorem dX11_scan_44 : decode cX11_scan 44 = .ok (.getfield 120, 3) := by decide +kernel
theorem dX11_scan_47 : decode cX11_scan 47 = .ok (.invokevirtual 127, 3) := by decide +kernel
theorem dX11_scan_50 : decode cX11_scan 50 = .ok (.istore_n 1, 1) := by decide +kernel
theorem dX11_scan_51 : decode cX11_scan 51 = .ok (.aload_n 0, 1) := by decide +kernel
theorem dX11_scan_52 : decode cX11_scan 52 = .ok (.getfield 120, 3) := by decide +kernel
theorem dX11_scan_55 : decode cX11_scan 55 = .ok (.aload_n 0, 1) := by decide +kernel
theorem dX11_scan_56 : decode cX11_scan 56 = .ok (.getfield 114, 3) := by decide +kernel
theorem dX11_scan_59 : decode cX11_scan 59 = .ok (.if_icmp .lt 19, 3) := by decide +kernel
theorem dX11_scan_62 : decode cX11_scan 62 = .ok (.aload_n 0, 1) := by decide +kernel
theorem dX11_scan_63 : decode cX11_scan 63 = .ok (.aload_n 0, 1) := by decide +kernel
theorem dX11_scan_64 : decode cX11_scan 64 = .ok (.getfield 120, 3) := by decide +kernel
theorem dX11_scan_67 : decode cX11_scan 67 = .ok (.putfield 117, 3) := by decide +kernel
theorem dX11_scan_70 : decode cX11_scan 70 = .ok (.aload_n 0, 1) := by decide +kernel
theorem dX11_scan_71 : decode cX11_scan 71 = .ok (.iconst 0, 1) := by decide +kernel
theorem dX11_scan_72 : decode cX11_scan 72 = .ok (.putfield 131, 3) := by decide +kernel
theorem dX11_scan_75 : decode cX11_scan 75 = .ok (.goto 46, 3) := by decide +kernel
theorem dX11_scan_78 : decode cX11_scan 78 = .ok (.iload_n 1, 1) := by decide +kernel
theorem dX11_scan_79 : decode cX11_scan 79 = .ok (.invokestatic 134, 3) := by decide +kernel
theorem dX11_scan_82 : decode cX11_scan 82 = .ok (.ifCond .eq 10, 3) := by decide +kernel
theorem dX11_scan_85 : decode cX11_scan 85 = .ok (.aload_n 0, 1) := by decide +kernel
theorem dX11_scan_86 : decode cX11_scan 86 = .ok (.invokevirtual 137, 3) := by decide +kernel
theorem dX11_scan_89 : decode cX11_scan 89 = .ok (.goto 32, 3) := by decide +kernel
theorem dX11_scan_92 : decode cX11_scan 92 = .ok (.iload_n 1, 1) := by decide +kernel
theorem dX11_scan_93 : decode cX11_scan 93 = .ok (.invokestatic 140, 3) := by decide +kernel
theorem dX11_scan_96 : decode cX11_scan 96 = .ok (.ifCond .eq 10, 3) := by decide +kernel
theorem dX11_scan_99 : decode cX11_scan 99 = .ok (.aload_n 0, 1) := by decide +kernel
theorem dX11_scan_100 : decode cX11_scan 100 = .ok (.invokevirtual 143, 3) := by decide +kernel
theorem dX11_scan_103 : decode cX11_scan 103 = .ok (.goto 18, 3) := by decide +kernel
theorem dX11_scan_106 : decode cX11_scan 106 = .ok (.aload_n 0, 1) := by decide +kernel
theorem dX11_scan_107 : decode cX11_scan 107 = .ok (.iload_n 1, 1) := by decide +kernel
theorem dX11_scan_108 : decode cX11_scan 108 = .ok (.bipush 59, 2) := by decide +kernel
theorem dX11_scan_110 : decode cX11_scan 110 = .ok (.if_icmp .ne 7, 3) := by decide +kernel
theorem dX11_scan_113 : decode cX11_scan 113 = .ok (.iconst 4, 1) := by decide +kernel
theorem dX11_scan_114 : decode cX11_scan 114 = .ok (.goto 4, 3) := by decide +kernel
theorem dX11_scan_117 : decode cX11_scan 117 = .ok (.iconst 1, 1) := by decide +kernel
theorem dX11_scan_118 : decode cX11_scan 118 = .ok (.putfield 131, 3) := by decide +kernel
theorem dX11_scan_121 : decode cX11_scan 121 = .ok (.return_, 1) := by decide +kernel
theorem dX11_fail_0 : decode cX11_fail 0 = .ok (.aload_n 0, 1) := by decide +kernel
theorem dX11_fail_1 : decode cX11_fail 1 = .ok (.getfield 157, 3) := by decide +kernel
theorem dX11_fail_4 : decode cX11_fail 4 = .ok (.ifCond .le 4, 3) := by decide +kernel
theorem dX11_fail_7 : decode cX11_fail 7 = .ok (.return_, 1) := by decide +kernel
theorem dX11_fail_8 : decode cX11_fail 8 = .ok (.aload_n 0, 1) := by decide +kernel
theorem dX11_fail_9 : decode cX11_fail 9 = .ok (.iload_n 1, 1) := by decide +kernel
theorem dX11_fail_10 : decode cX11_fail 10 = .ok (.putfield 157, 3) := by decide +kernel
theorem dX11_fail_13 : decode cX11_fail 13 = .ok (.aload_n 0, 1) := by decide +kernel
theorem dX11_fail_14 : decode cX11_fail 14 = .ok (.aload_n 0, 1) := by decide +kernel
theorem dX11_fail_15 : decode cX11_fail 15 = .ok (.getfield 120, 3) := by decide +kernel
theorem dX11_fail_18 : decode cX11_fail 18 = .ok (.putfield 160, 3) := by decide +kernel
theorem dX11_fail_21 : decode cX11_fail 21 = .ok (.return_, 1) := by decide +kernel
theorem dX11_isWord_0 : decode cX11_isWord 0 = .ok (.aload_n 0, 1) := by decide +kernel
theorem dX11_isWord_1 : decode cX11_isWord 1 = .ok (.getfield 157, 3) := by decide +kernel
theorem dX11_isWord_4 : decode cX11_isWord 4 = .ok (.ifCond .ne 23, 3) := by decide +kernel
theorem dX11_isWord_7 : decode cX11_isWord 7 = .ok (.aload_n 0, 1) := by decide +kernel
theorem dX11_isWord_8 : decode cX11_isWord 8 = .ok (.getfield 131, 3) := by decide +kernel
theorem dX11_isWord_11 : decode cX11_isWord 11 = .ok (.iconst 2, 1) := by decide +kernel
theorem dX11_isWord_12 : decode cX11_isWord 12 = .ok (.if_icmp .ne 15, 3) := by decide +kernel
theorem dX11_isWord_15 : decode cX11_isWord 15 = .ok (.aload_n 0, 1) := by decide +kernel
theorem dX11_isWord_16 : decode cX11_isWord 16 = .ok (.getfield 146, 3) := by decide +kernel
theorem dX11_isWord_19 : decode cX11_isWord 19 = .ok (.iload_n 1, 1) := by decide +kernel
theorem dX11_isWord_20 : decode cX11_isWord 20 = .ok (.if_icmp .ne 7, 3) := by decide +kernel
theorem dX11_isWord_23 : decode cX11_isWord 23 = .ok (.iconst 1, 1) := by decide +kernel
theorem dX11_isWord_24 : decode cX11_isWord 24 = .ok (.goto 4, 3) := by decide +kernel
theorem dX11_isWord_27 : decode cX11_isWord 27 = .ok (.iconst 0, 1) := by decide +kernel
theorem dX11_isWord_28 : decode cX11_isWord 28 = .ok (.ireturn, 1) := by decide +kernel
theorem dX11_isKindWord_0 : decode cX11_isKindWord 0 = .ok (.aload_n 0, 1) := by decide +kernel
theorem dX11_isKindWord_1 : decode cX11_isKindWord 1 = .ok (.getfield 157, 3) := by decide +kernel
theorem dX11_isKindWord_4 : decode cX11_isKindWord 4 = .ok (.ifCond .ne 27, 3) := by decide +kernel
theorem dX11_isKindWord_7 : decode cX11_isKindWord 7 = .ok (.aload_n 0, 1) := by decide +kernel
theorem dX11_isKindWord_8 : decode cX11_isKindWord 8 = .ok (.getfield 131, 3) := by decide +kernel
theorem dX11_isKindWord_11 : decode cX11_isKindWord 11 = .ok (.iconst 2, 1) := by decide +kernel
theorem dX11_isKindWord_12 : decode cX11_isKindWord 12 = .ok (.if_icmp .ne 19, 3) := by decide +kernel
theorem dX11_isKindWord_15 : decode cX11_isKindWord 15 = .ok (.aload_n 0, 1) := by decide +kernel
theorem dX11_isKindWord_16 : decode cX11_isKindWord 16 = .ok (.getfield 146, 3) := by decide +kernel
theorem dX11_isKindWord_19 : decode cX11_isKindWord 19 = .ok (.iconst 0, 1) := by decide +kernel
theorem dX11_isKindWord_20 : decode cX11_isKindWord 20 = .ok (.iconst 4, 1) := by decide +kernel
theorem dX11_isKindWord_21 : decode cX11_isKindWord 21 = .ok (.invokestatic 163, 3) := by decide +kernel
theorem dX11_isKindWord_24 : decode cX11_isKindWord 24 = .ok (.ifCond .eq 7, 3) := by decide +kernel
theorem dX11_isKindWord_27 : decode cX11_isKindWord 27 = .ok (.iconst 1, 1) := by decide +kernel
theorem dX11_isKindWord_28 : decode cX11_isKindWord 28 = .ok (.goto 4, 3) := by decide +kernel
theorem dX11_isKindWord_31 : decode cX11_isKindWord 31 = .ok (.iconst 0, 1) := by decide +kernel
theorem dX11_isKindWord_32 : decode cX11_isKindWord 32 = .ok (.ireturn, 1) := by decide +kernel
theorem dX11_isStop_0 : decode cX11_isStop 0 = .ok (.aload_n 0, 1) := by decide +kernel
theorem dX11_isStop_1 : decode cX11_isStop 1 = .ok (.getfield 157, 3) := by decide +kernel
theorem dX11_isStop_4 : decode cX11_isStop 4 = .ok (.ifCond .ne 15, 3) := by decide +kernel
theorem dX11_isStop_7 : decode cX11_isStop 7 = .ok (.aload_n 0, 1) := by decide +kernel
theorem dX11_isStop_8 : decode cX11_isStop 8 = .ok (.getfield 131, 3) := by decide +kernel
theorem dX11_isStop_11 : decode cX11_isStop 11 = .ok (.iconst 4, 1) := by decide +kernel
theorem dX11_isStop_12 : decode cX11_isStop 12 = .ok (.if_icmp .ne 7, 3) := by decide +kernel
theorem dX11_isStop_15 : decode cX11_isStop 15 = .ok (.iconst 1, 1) := by decide +kernel
theorem dX11_isStop_16 : decode cX11_isStop 16 = .ok (.goto 4, 3) := by decide +kernel
theorem dX11_isStop_19 : decode cX11_isStop 19 = .ok (.iconst 0, 1) := by decide +kernel
theorem dX11_isStop_20 : decode cX11_isStop 20 = .ok (.ireturn, 1) := by decide +kernel
theorem dX11_numeral_0 : decode cX11_numeral 0 = .ok (.aload_n 0, 1) := by decide +kernel
theorem dX11_numeral_1 : decode cX11_numeral 1 = .ok (.getfield 131, 3) := by decide +kernel
theorem dX11_numeral_4 : decode cX11_numeral 4 = .ok (.iconst 3, 1) := by decide +kernel
theorem dX11_numeral_5 : decode cX11_numeral 5 = .ok (.if_icmp .eq 11, 3) := by decide +kernel
theorem dX11_numeral_8 : decode cX11_numeral 8 = .ok (.aload_n 0, 1) := by decide +kernel
theorem dX11_numeral_9 : decode cX11_numeral 9 = .ok (.iconst 1, 1) := by decide +kernel
theorem dX11_numeral_10 : decode cX11_numeral 10 = .ok (.invokevirtual 167, 3) := by decide +kernel
theorem dX11_numeral_13 : decode cX11_numeral 13 = .ok (.goto 20, 3) := by decide +kernel
theorem dX11_numeral_16 : decode cX11_numeral 16 = .ok (.aload_n 0, 1) := by decide +kernel
theorem dX11_numeral_17 : decode cX11_numeral 17 = .ok (.getfield 153, 3) := by decide +kernel
theorem dX11_numeral_20 : decode cX11_numeral 20 = .ok (.iload_n 1, 1) := by decide +kernel
theorem dX11_numeral_21 : decode cX11_numeral 21 = .ok (.iload_n 2, 1) := by decide +kernel
theorem dX11_numeral_22 : decode cX11_numeral 22 = .ok (.invokestatic 163, 3) := by decide +kernel
theorem dX11_numeral_25 : decode cX11_numeral 25 = .ok (.ifCond .ne 8, 3) := by decide +kernel
theorem dX11_numeral_28 : decode cX11_numeral 28 = .ok (.aload_n 0, 1) := by decide +kernel
theorem dX11_numeral_29 : decode cX11_numeral 29 = .ok (.iconst 2, 1) := by decide +kernel
theorem dX11_numeral_30 : decode cX11_numeral 30 = .ok (.invokevirtual 167, 3) := by decide +kernel
theorem dX11_numeral_33 : decode cX11_numeral 33 = .ok (.aload_n 0, 1) := by decide +kernel
theorem dX11_numeral_34 : decode cX11_numeral 34 = .ok (.getfield 153, 3) := by decide +kernel
theorem dX11_numeral_37 : decode cX11_numeral 37 = .ok (.istore_n 3, 1) := by decide +kernel
theorem dX11_numeral_38 : decode cX11_numeral 38 = .ok (.aload_n 0, 1) := by decide +kernel
theorem dX11_numeral_39 : decode cX11_numeral 39 = .ok (.getfield 157, 3) := by decide +kernel
theorem dX11_numeral_42 : decode cX11_numeral 42 = .ok (.ifCond .ne 7, 3) := by decide +kernel
theorem dX11_numeral_45 : decode cX11_numeral 45 = .ok (.aload_n 0, 1) := by decide +kernel
theorem dX11_numeral_46 : decode cX11_numeral 46 = .ok (.invokevirtual 170, 3) := by decide +kernel
theorem dX11_numeral_49 : decode cX11_numeral 49 = .ok (.iload_n 3, 1) := by decide +kernel
theorem dX11_numeral_50 : decode cX11_numeral 50 = .ok (.ireturn, 1) := by decide +kernel
theorem dX11_kindTold_0 : decode cX11_kindTold 0 = .ok (.aload_n 0, 1) := by decide +kernel
theorem dX11_kindTold_1 : decode cX11_kindTold 1 = .ok (.invokevirtual 173, 3) := by decide +kernel
theorem dX11_kindTold_4 : decode cX11_kindTold 4 = .ok (.ifCond .ne 8, 3) := by decide +kernel
theorem dX11_kindTold_7 : decode cX11_kindTold 7 = .ok (.aload_n 0, 1) := by decide +kernel
theorem dX11_kindTold_8 : decode cX11_kindTold 8 = .ok (.iconst 1, 1) := by decide +kernel
theorem dX11_kindTold_9 : decode cX11_kindTold 9 = .ok (.invokevirtual 167, 3) := by decide +kernel
theorem dX11_kindTold_12 : decode cX11_kindTold 12 = .ok (.aload_n 0, 1) := by decide +kernel
theorem dX11_kindTold_13 : decode cX11_kindTold 13 = .ok (.getfield 146, 3) := by decide +kernel
theorem dX11_kindTold_16 : decode cX11_kindTold 16 = .ok (.istore_n 1, 1) := by decide +kernel
theorem dX11_kindTold_17 : decode cX11_kindTold 17 = .ok (.aload_n 0, 1) := by decide +kernel
theorem dX11_kindTold_18 : decode cX11_kindTold 18 = .ok (.getfield 157, 3) := by decide +kernel
theorem dX11_kindTold_21 : decode cX11_kindTold 21 = .ok (.ifCond .ne 7, 3) := by decide +kernel
theorem dX11_kindTold_24 : decode cX11_kindTold 24 = .ok (.aload_n 0, 1) := by decide +kernel
theorem dX11_kindTold_25 : decode cX11_kindTold 25 = .ok (.invokevirtual 170, 3) := by decide +kernel
theorem dX11_kindTold_28 : decode cX11_kindTold 28 = .ok (.iload_n 1, 1) := by decide +kernel
theorem dX11_kindTold_29 : decode cX11_kindTold 29 = .ok (.ireturn, 1) := by decide +kernel
theorem dX11_isOnce_0 : decode cX11_isOnce 0 = .ok (.aload_n 0, 1) := by decide +kernel
theorem dX11_isOnce_1 : decode cX11_isOnce 1 = .ok (.getfield 183, 3) := by decide +kernel
theorem dX11_isOnce_4 : decode cX11_isOnce 4 = .ok (.iload_n 1, 1) := by decide +kernel
theorem dX11_isOnce_5 : decode cX11_isOnce 5 = .ok (.ishr, 1) := by decide +kernel
theorem dX11_isOnce_6 : decode cX11_isOnce 6 = .ok (.iconst 1, 1) := by decide +kernel
theorem dX11_isOnce_7 : decode cX11_isOnce 7 = .ok (.iand, 1) := by decide +kernel
theorem dX11_isOnce_8 : decode cX11_isOnce 8 = .ok (.iconst 1, 1) := by decide +kernel
theorem dX11_isOnce_9 : decode cX11_isOnce 9 = .ok (.if_icmp .eq 16, 3) := by decide +kernel
theorem dX11_isOnce_12 : decode cX11_isOnce 12 = .ok (.iload_n 1, 1) := by decide +kernel
theorem dX11_isOnce_13 : decode cX11_isOnce 13 = .ok (.bipush 8, 2) := by decide +kernel
theorem dX11_isOnce_15 : decode cX11_isOnce 15 = .ok (.if_icmp .ge 15, 3) := by decide +kernel
theorem dX11_isOnce_18 : decode cX11_isOnce 18 = .ok (.aload_n 0, 1) := by decide +kernel
theorem dX11_isOnce_19 : decode cX11_isOnce 19 = .ok (.getfield 186, 3) := by decide +kernel
theorem dX11_isOnce_22 : decode cX11_isOnce 22 = .ok (.ifCond .eq 8, 3) := by decide +kernel
theorem dX11_isOnce_25 : decode cX11_isOnce 25 = .ok (.aload_n 0, 1) := by decide +kernel
theorem dX11_isOnce_26 : decode cX11_isOnce 26 = .ok (.iconst 3, 1) := by decide +kernel
theorem dX11_isOnce_27 : decode cX11_isOnce 27 = .ok (.invokevirtual 167, 3) := by decide +kernel
theorem dX11_isOnce_30 : decode cX11_isOnce 30 = .ok (.aload_n 0, 1) := by decide +kernel
theorem dX11_isOnce_31 : decode cX11_isOnce 31 = .ok (.dup, 1) := by decide +kernel
theorem dX11_isOnce_32 : decode cX11_isOnce 32 = .ok (.getfield 183, 3) := by decide +kernel
theorem dX11_isOnce_35 : decode cX11_isOnce 35 = .ok (.iconst 1, 1) := by decide +kernel
theorem dX11_isOnce_36 : decode cX11_isOnce 36 = .ok (.iload_n 1, 1) := by decide +kernel
theorem dX11_isOnce_37 : decode cX11_isOnce 37 = .ok (.ishl, 1) := by decide +kernel
theorem dX11_isOnce_38 : decode cX11_isOnce 38 = .ok (.ior, 1) := by decide +kernel
theorem dX11_isOnce_39 : decode cX11_isOnce 39 = .ok (.putfield 183, 3) := by decide +kernel
theorem dX11_isOnce_42 : decode cX11_isOnce 42 = .ok (.aload_n 0, 1) := by decide +kernel
theorem dX11_isOnce_43 : decode cX11_isOnce 43 = .ok (.aload_n 0, 1) := by decide +kernel
theorem dX11_isOnce_44 : decode cX11_isOnce 44 = .ok (.getfield 186, 3) := by decide +kernel
theorem dX11_isOnce_47 : decode cX11_isOnce 47 = .ok (.ifCond .ne 9, 3) := by decide +kernel
theorem dX11_isOnce_50 : decode cX11_isOnce 50 = .ok (.iload_n 1, 1) := by decide +kernel
theorem dX11_isOnce_51 : decode cX11_isOnce 51 = .ok (.bipush 8, 2) := by decide +kernel
theorem dX11_isOnce_53 : decode cX11_isOnce 53 = .ok (.if_icmp .lt 7, 3) := by decide +kernel
theorem dX11_isOnce_56 : decode cX11_isOnce 56 = .ok (.iconst 1, 1) := by decide +kernel
theorem dX11_isOnce_57 : decode cX11_isOnce 57 = .ok (.goto 4, 3) := by decide +kernel
theorem dX11_isOnce_60 : decode cX11_isOnce 60 = .ok (.iconst 0, 1) := by decide +kernel
theorem dX11_isOnce_61 : decode cX11_isOnce 61 = .ok (.putfield 186, 3) := by decide +kernel
theorem dX11_isOnce_64 : decode cX11_isOnce 64 = .ok (.aload_n 0, 1) := by decide +kernel
theorem dX11_isOnce_65 : decode cX11_isOnce 65 = .ok (.getfield 157, 3) := by decide +kernel
theorem dX11_isOnce_68 : decode cX11_isOnce 68 = .ok (.ifCond .ne 7, 3) := by decide +kernel
theorem dX11_isOnce_71 : decode cX11_isOnce 71 = .ok (.aload_n 0, 1) := by decide +kernel
theorem dX11_isOnce_72 : decode cX11_isOnce 72 = .ok (.invokevirtual 170, 3) := by decide +kernel
theorem dX11_isOnce_75 : decode cX11_isOnce 75 = .ok (.aload_n 0, 1) := by decide +kernel
theorem dX11_isOnce_76 : decode cX11_isOnce 76 = .ok (.getfield 157, 3) := by decide +kernel
theorem dX11_isOnce_79 : decode cX11_isOnce 79 = .ok (.ifCond .ne 7, 3) := by decide +kernel
theorem dX11_isOnce_82 : decode cX11_isOnce 82 = .ok (.iconst 1, 1) := by decide +kernel
theorem dX11_isOnce_83 : decode cX11_isOnce 83 = .ok (.goto 4, 3) := by decide +kernel
theorem dX11_isOnce_86 : decode cX11_isOnce 86 = .ok (.iconst 0, 1) := by decide +kernel
theorem dX11_isOnce_87 : decode cX11_isOnce 87 = .ok (.ireturn, 1) := by decide +kernel
theorem dX11_readFixed_0 : decode cX11_readFixed 0 = .ok (.aload_n 0, 1) := by decide +kernel
theorem dX11_readFixed_1 : decode cX11_readFixed 1 = .ok (.iconst 3, 1) := by decide +kernel
theorem dX11_readFixed_2 : decode cX11_readFixed 2 = .ok (.aload_n 0, 1) := by decide +kernel
theorem dX11_readFixed_3 : decode cX11_readFixed 3 = .ok (.getfield 13, 3) := by decide +kernel
theorem dX11_readFixed_6 : decode cX11_readFixed 6 = .ok (.iload_n 1, 1) := by decide +kernel
theorem dX11_readFixed_7 : decode cX11_readFixed 7 = .ok (.iaload, 1) := by decide +kernel
theorem dX11_readFixed_8 : decode cX11_readFixed 8 = .ok (.invokevirtual 196, 3) := by decide +kernel
theorem dX11_readFixed_11 : decode cX11_readFixed 11 = .ok (.istore_n 2, 1) := by decide +kernel
theorem dX11_readFixed_12 : decode cX11_readFixed 12 = .ok (.iconst 0, 1) := by decide +kernel
theorem dX11_readFixed_13 : decode cX11_readFixed 13 = .ok (.istore_n 3, 1) := by decide +kernel
theorem dX11_readFixed_14 : decode cX11_readFixed 14 = .ok (.aload_n 0, 1) := by decide +kernel
theorem dX11_readFixed_15 : decode cX11_readFixed 15 = .ok (.invokevirtual 173, 3) := by decide +kernel
theorem dX11_readFixed_18 : decode cX11_readFixed 18 = .ok (.ifCond .eq 47, 3) := by decide +kernel
theorem dX11_readFixed_21 : decode cX11_readFixed 21 = .ok (.iload_n 3, 1) := by decide +kernel
theorem dX11_readFixed_22 : decode cX11_readFixed 22 = .ok (.bipush 8, 2) := by decide +kernel
theorem dX11_readFixed_24 : decode cX11_readFixed 24 = .ok (.if_icmp .ne 8, 3) := by decide +kernel
theorem dX11_readFixed_27 : decode cX11_readFixed 27 = .ok (.aload_n 0, 1) := by decide +kernel
theorem dX11_readFixed_28 : decode cX11_readFixed 28 = .ok (.iconst 4, 1) := by decide +kernel
theorem dX11_readFixed_29 : decode cX11_readFixed 29 = .ok (.invokevirtual 167, 3) := by decide +kernel
theorem dX11_readFixed_32 : decode cX11_readFixed 32 = .ok (.aload_n 0, 1) := by decide +kernel
theorem dX11_readFixed_33 : decode cX11_readFixed 33 = .ok (.getfield 157, 3) := by decide +kernel
theorem dX11_readFixed_36 : decode cX11_readFixed 36 = .ok (.ifCond .le 4, 3) := by decide +kernel
theorem dX11_readFixed_39 : decode cX11_readFixed 39 = .ok (.return_, 1) := by decide +kernel
theorem dX11_readFixed_40 : decode cX11_readFixed 40 = .ok (.aload_n 0, 1) := by decide +kernel
theorem dX11_readFixed_41 : decode cX11_readFixed 41 = .ok (.getfield 22, 3) := by decide +kernel
theorem dX11_readFixed_44 : decode cX11_readFixed 44 = .ok (.sipush 140, 3) := by decide +kernel
theorem dX11_readFixed_47 : decode cX11_readFixed 47 = .ok (.iload_n 1, 1) := by decide +kernel
theorem dX11_readFixed_48 : decode cX11_readFixed 48 = .ok (.imul, 1) := by decide +kernel
theorem dX11_readFixed_49 : decode cX11_readFixed 49 = .ok (.bipush 68, 2) := by decide +kernel
theorem dX11_readFixed_51 : decode cX11_readFixed 51 = .ok (.iadd, 1) := by decide +kernel
theorem dX11_readFixed_52 : decode cX11_readFixed 52 = .ok (.iload_n 3, 1) := by decide +kernel
theorem dX11_readFixed_53 : decode cX11_readFixed 53 = .ok (.iadd, 1) := by decide +kernel
theorem dX11_readFixed_54 : decode cX11_readFixed 54 = .ok (.aload_n 0, 1) := by decide +kernel
theorem dX11_readFixed_55 : decode cX11_readFixed 55 = .ok (.invokevirtual 200, 3) := by decide +kernel
theorem dX11_readFixed_58 : decode cX11_readFixed 58 = .ok (.iastore, 1) := by decide +kernel
theorem dX11_readFixed_59 : decode cX11_readFixed 59 = .ok (.iinc 3 1, 3) := by decide +kernel
theorem dX11_readFixed_62 : decode cX11_readFixed 62 = .ok (.goto (-48), 3) := by decide +kernel
theorem dX11_readFixed_65 : decode cX11_readFixed 65 = .ok (.aload_n 0, 1) := by decide +kernel
theorem dX11_readFixed_66 : decode cX11_readFixed 66 = .ok (.invokevirtual 180, 3) := by decide +kernel
theorem dX11_readFixed_69 : decode cX11_readFixed 69 = .ok (.ifCond .eq 18, 3) := by decide +kernel
theorem dX11_readFixed_72 : decode cX11_readFixed 72 = .ok (.iload_n 3, 1) := by decide +kernel
theorem dX11_readFixed_73 : decode cX11_readFixed 73 = .ok (.ifCond .le 14, 3) := by decide +kernel
theorem dX11_readFixed_76 : decode cX11_readFixed 76 = .ok (.iload_n 3, 1) := by decide +kernel
theorem dX11_readFixed_77 : decode cX11_readFixed 77 = .ok (.bipush 8, 2) := by decide +kernel
theorem dX11_readFixed_79 : decode cX11_readFixed 79 = .ok (.if_icmp .ge 8, 3) := by decide +kernel
theorem dX11_readFixed_82 : decode cX11_readFixed 82 = .ok (.aload_n 0, 1) := by decide +kernel
theorem dX11_readFixed_83 : decode cX11_readFixed 83 = .ok (.iconst 4, 1) := by decide +kernel
theorem dX11_readFixed_84 : decode cX11_readFixed 84 = .ok (.invokevirtual 167, 3) := by decide +kernel
theorem dX11_readFixed_87 : decode cX11_readFixed 87 = .ok (.iload_n 3, 1) := by decide +kernel
theorem dX11_readFixed_88 : decode cX11_readFixed 88 = .ok (.ifCond .ne 8, 3) := by decide +kernel
theorem dX11_readFixed_91 : decode cX11_readFixed 91 = .ok (.aload_n 0, 1) := by decide +kernel
theorem dX11_readFixed_92 : decode cX11_readFixed 92 = .ok (.iconst 1, 1) := by decide +kernel
theorem dX11_readFixed_93 : decode cX11_readFixed 93 = .ok (.invokevirtual 167, 3) := by decide +kernel
theorem dX11_readFixed_96 : decode cX11_readFixed 96 = .ok (.aload_n 0, 1) := by decide +kernel
theorem dX11_readFixed_97 : decode cX11_readFixed 97 = .ok (.getfield 157, 3) := by decide +kernel
theorem dX11_readFixed_100 : decode cX11_readFixed 100 = .ok (.ifCond .ne 12, 3) := by decide +kernel
theorem dX11_readFixed_103 : decode cX11_readFixed 103 = .ok (.aload_n 0, 1) := by decide +kernel
theorem dX11_readFixed_104 : decode cX11_readFixed 104 = .ok (.getfield 19, 3) := by decide +kernel
theorem dX11_readFixed_107 : decode cX11_readFixed 107 = .ok (.iload_n 1, 1) := by decide +kernel
theorem dX11_readFixed_108 : decode cX11_readFixed 108 = .ok (.iconst 1, 1) := by decide +kernel
theorem dX11_readFixed_109 : decode cX11_readFixed 109 = .ok (.iload_n 2, 1) := by decide +kernel
theorem dX11_readFixed_110 : decode cX11_readFixed 110 = .ok (.ishl, 1) := by decide +kernel
theorem dX11_readFixed_111 : decode cX11_readFixed 111 = .ok (.iastore, 1) := by decide +kernel
theorem dX11_readFixed_112 : decode cX11_readFixed 112 = .ok (.return_, 1) := by decide +kernel
theorem dX11_spaceOf_0 : decode cX11_spaceOf 0 = .ok (.iconst 1, 1) := by decide +kernel
theorem dX11_spaceOf_1 : decode cX11_spaceOf 1 = .ok (.aload_n 0, 1) := by decide +kernel
theorem dX11_spaceOf_2 : decode cX11_spaceOf 2 = .ok (.getfield 13, 3) := by decide +kernel
theorem dX11_spaceOf_5 : decode cX11_spaceOf 5 = .ok (.iload_n 1, 1) := by decide +kernel
theorem dX11_spaceOf_6 : decode cX11_spaceOf 6 = .ok (.iaload, 1) := by decide +kernel
theorem dX11_spaceOf_7 : decode cX11_spaceOf 7 = .ok (.ishl, 1) := by decide +kernel
theorem dX11_spaceOf_8 : decode cX11_spaceOf 8 = .ok (.ireturn, 1) := by decide +kernel
theorem dX11_readSpan_0 : decode cX11_readSpan 0 = .ok (.sipush 140, 3) := by decide +kernel
theorem dX11_readSpan_3 : decode cX11_readSpan 3 = .ok (.iload_n 1, 1) := by decide +kernel
theorem dX11_readSpan_4 : decode cX11_readSpan 4 = .ok (.imul, 1) := by decide +kernel
theorem dX11_readSpan_5 : decode cX11_readSpan 5 = .ok (.iconst 2, 1) := by decide +kernel
theorem dX11_readSpan_6 : decode cX11_readSpan 6 = .ok (.iadd, 1) := by decide +kernel
theorem dX11_readSpan_7 : decode cX11_readSpan 7 = .ok (.iconst 3, 1) := by decide +kernel
theorem dX11_readSpan_8 : decode cX11_readSpan 8 = .ok (.aload_n 0, 1) := by decide +kernel
theorem dX11_readSpan_9 : decode cX11_readSpan 9 = .ok (.getfield 22, 3) := by decide +kernel
theorem dX11_readSpan_12 : decode cX11_readSpan 12 = .ok (.sipush 140, 3) := by decide +kernel
theorem dX11_readSpan_15 : decode cX11_readSpan 15 = .ok (.iload_n 1, 1) := by decide +kernel
theorem dX11_readSpan_16 : decode cX11_readSpan 16 = .ok (.imul, 1) := by decide +kernel
theorem dX11_readSpan_17 : decode cX11_readSpan 17 = .ok (.iconst 1, 1) := by decide +kernel
theorem dX11_readSpan_18 : decode cX11_readSpan 18 = .ok (.iadd, 1) := by decide +kernel
theorem dX11_readSpan_19 : decode cX11_readSpan 19 = .ok (.iaload, 1) := by decide +kernel
theorem dX11_readSpan_20 : decode cX11_readSpan 20 = .ok (.imul, 1) := by decide +kernel
theorem dX11_readSpan_21 : decode cX11_readSpan 21 = .ok (.iadd, 1) := by decide +kernel
theorem dX11_readSpan_22 : decode cX11_readSpan 22 = .ok (.istore_n 2, 1) := by decide +kernel
theorem dX11_readSpan_23 : decode cX11_readSpan 23 = .ok (.aload_n 0, 1) := by decide +kernel
theorem dX11_readSpan_24 : decode cX11_readSpan 24 = .ok (.getfield 22, 3) := by decide +kernel
theorem dX11_readSpan_27 : decode cX11_readSpan 27 = .ok (.sipush 140, 3) := by decide +kernel
theorem dX11_readSpan_30 : decode cX11_readSpan 30 = .ok (.iload_n 1, 1) := by decide +kernel
theorem dX11_readSpan_31 : decode cX11_readSpan 31 = .ok (.imul, 1) := by decide +kernel
theorem dX11_readSpan_32 : decode cX11_readSpan 32 = .ok (.iconst 1, 1) := by decide +kernel
theorem dX11_readSpan_33 : decode cX11_readSpan 33 = .ok (.iadd, 1) := by decide +kernel
theorem dX11_readSpan_34 : decode cX11_readSpan 34 = .ok (.iaload, 1) := by decide +kernel
theorem dX11_readSpan_35 : decode cX11_readSpan 35 = .ok (.bipush 12, 2) := by decide +kernel
theorem dX11_readSpan_37 : decode cX11_readSpan 37 = .ok (.if_icmp .ne 8, 3) := by decide +kernel
theorem dX11_readSpan_40 : decode cX11_readSpan 40 = .ok (.aload_n 0, 1) := by decide +kernel
theorem dX11_readSpan_41 : decode cX11_readSpan 41 = .ok (.iconst 4, 1) := by decide +kernel
theorem dX11_readSpan_42 : decode cX11_readSpan 42 = .ok (.invokevirtual 167, 3) := by decide +kernel
theorem dX11_readSpan_45 : decode cX11_readSpan 45 = .ok (.aload_n 0, 1) := by decide +kernel
theorem dX11_readSpan_46 : decode cX11_readSpan 46 = .ok (.getfield 157, 3) := by decide +kernel
theorem dX11_readSpan_49 : decode cX11_readSpan 49 = .ok (.ifCond .le 4, 3) := by decide +kernel
theorem dX11_readSpan_52 : decode cX11_readSpan 52 = .ok (.return_, 1) := by decide +kernel
theorem dX11_readSpan_53 : decode cX11_readSpan 53 = .ok (.aload_n 0, 1) := by decide +kernel
theorem dX11_readSpan_54 : decode cX11_readSpan 54 = .ok (.invokevirtual 170, 3) := by decide +kernel
theorem dX11_readSpan_57 : decode cX11_readSpan 57 = .ok (.aload_n 0, 1) := by decide +kernel
theorem dX11_readSpan_58 : decode cX11_readSpan 58 = .ok (.iconst 0, 1) := by decide +kernel
theorem dX11_readSpan_59 : decode cX11_readSpan 59 = .ok (.aload_n 0, 1) := by decide +kernel
theorem dX11_readSpan_60 : decode cX11_readSpan 60 = .ok (.iload_n 1, 1) := by decide +kernel
theorem dX11_readSpan_61 : decode cX11_readSpan 61 = .ok (.invokevirtual 216, 3) := by decide +kernel
theorem dX11_readSpan_64 : decode cX11_readSpan 64 = .ok (.iconst 1, 1) := by decide +kernel
theorem dX11_readSpan_65 : decode cX11_readSpan 65 = .ok (.isub, 1) := by decide +kernel
theorem dX11_readSpan_66 : decode cX11_readSpan 66 = .ok (.invokevirtual 196, 3) := by decide +kernel
theorem dX11_readSpan_69 : decode cX11_readSpan 69 = .ok (.istore_n 3, 1) := by decide +kernel
theorem dX11_readSpan_70 : decode cX11_readSpan 70 = .ok (.aload_n 0, 1) := by decide +kernel
theorem dX11_readSpan_71 : decode cX11_readSpan 71 = .ok (.iload_n 3, 1) := by decide +kernel
theorem dX11_readSpan_72 : decode cX11_readSpan 72 = .ok (.aload_n 0, 1) := by decide +kernel
theorem dX11_readSpan_73 : decode cX11_readSpan 73 = .ok (.iload_n 1, 1) := by decide +kernel
theorem dX11_readSpan_74 : decode cX11_readSpan 74 = .ok (.invokevirtual 216, 3) := by decide +kernel
theorem dX11_readSpan_77 : decode cX11_readSpan 77 = .ok (.iconst 1, 1) := by decide +kernel
theorem dX11_readSpan_78 : decode cX11_readSpan 78 = .ok (.isub, 1) := by decide +kernel
theorem dX11_readSpan_79 : decode cX11_readSpan 79 = .ok (.invokevirtual 196, 3) := by decide +kernel
theorem dX11_readSpan_82 : decode cX11_readSpan 82 = .ok (.istore 4, 2) := by decide +kernel
theorem dX11_readSpan_84 : decode cX11_readSpan 84 = .ok (.aload_n 0, 1) := by decide +kernel
theorem dX11_readSpan_85 : decode cX11_readSpan 85 = .ok (.invokevirtual 200, 3) := by decide +kernel
theorem dX11_readSpan_88 : decode cX11_readSpan 88 = .ok (.istore 5, 2) := by decide +kernel
theorem dX11_readSpan_90 : decode cX11_readSpan 90 = .ok (.aload_n 0, 1) := by decide +kernel
theorem dX11_readSpan_91 : decode cX11_readSpan 91 = .ok (.getfield 157, 3) := by decide +kernel
theorem dX11_readSpan_94 : decode cX11_readSpan 94 = .ok (.ifCond .le 4, 3) := by decide +kernel
theorem dX11_readSpan_97 : decode cX11_readSpan 97 = .ok (.return_, 1) := by decide +kernel
theorem dX11_readSpan_98 : decode cX11_readSpan 98 = .ok (.aload_n 0, 1) := by decide +kernel
theorem dX11_readSpan_99 : decode cX11_readSpan 99 = .ok (.getfield 22, 3) := by decide +kernel
theorem dX11_readSpan_102 : decode cX11_readSpan 102 = .ok (.iload_n 2, 1) := by decide +kernel
theorem dX11_readSpan_103 : decode cX11_readSpan 103 = .ok (.iload_n 3, 1) := by decide +kernel
theorem dX11_readSpan_104 : decode cX11_readSpan 104 = .ok (.iastore, 1) := by decide +kernel
theorem dX11_readSpan_105 : decode cX11_readSpan 105 = .ok (.aload_n 0, 1) := by decide +kernel
theorem dX11_readSpan_106 : decode cX11_readSpan 106 = .ok (.getfield 22, 3) := by decide +kernel
theorem dX11_readSpan_109 : decode cX11_readSpan 109 = .ok (.iload_n 2, 1) := by decide +kernel
theorem dX11_readSpan_110 : decode cX11_readSpan 110 = .ok (.iconst 1, 1) := by decide +kernel
theorem dX11_readSpan_111 : decode cX11_readSpan 111 = .ok (.iadd, 1) := by decide +kernel
theorem dX11_readSpan_112 : decode cX11_readSpan 112 = .ok (.iload 4, 2) := by decide +kernel
theorem dX11_readSpan_114 : decode cX11_readSpan 114 = .ok (.iastore, 1) := by decide +kernel
theorem dX11_readSpan_115 : decode cX11_readSpan 115 = .ok (.aload_n 0, 1) := by decide +kernel
theorem dX11_readSpan_116 : decode cX11_readSpan 116 = .ok (.getfield 22, 3) := by decide +kernel
theorem dX11_readSpan_119 : decode cX11_readSpan 119 = .ok (.iload_n 2, 1) := by decide +kernel
theorem dX11_readSpan_120 : decode cX11_readSpan 120 = .ok (.iconst 2, 1) := by decide +kernel
theorem dX11_readSpan_121 : decode cX11_readSpan 121 = .ok (.iadd, 1) := by decide +kernel
theorem dX11_readSpan_122 : decode cX11_readSpan 122 = .ok (.iload 5, 2) := by decide +kernel
theorem dX11_readSpan_124 : decode cX11_readSpan 124 = .ok (.iastore, 1) := by decide +kernel
theorem dX11_readSpan_125 : decode cX11_readSpan 125 = .ok (.aload_n 0, 1) := by decide +kernel
theorem dX11_readSpan_126 : decode cX11_readSpan 126 = .ok (.getfield 22, 3) := by decide +kernel
theorem dX11_readSpan_129 : decode cX11_readSpan 129 = .ok (.sipush 140, 3) := by decide +kernel
theorem dX11_readSpan_132 : decode cX11_readSpan 132 = .ok (.iload_n 1, 1) := by decide +kernel
theorem dX11_readSpan_133 : decode cX11_readSpan 133 = .ok (.imul, 1) := by decide +kernel
theorem dX11_readSpan_134 : decode cX11_readSpan 134 = .ok (.iconst 1, 1) := by decide +kernel
theorem dX11_readSpan_135 : decode cX11_readSpan 135 = .ok (.iadd, 1) := by decide +kernel
theorem dX11_readSpan_136 : decode cX11_readSpan 136 = .ok (.dup2, 1) := by decide +kernel
theorem dX11_readSpan_137 : decode cX11_readSpan 137 = .ok (.iaload, 1) := by decide +kernel
theorem dX11_readSpan_138 : decode cX11_readSpan 138 = .ok (.iconst 1, 1) := by decide +kernel
theorem dX11_readSpan_139 : decode cX11_readSpan 139 = .ok (.iadd, 1) := by decide +kernel
theorem dX11_readSpan_140 : decode cX11_readSpan 140 = .ok (.iastore, 1) := by decide +kernel
theorem dX11_readSpan_141 : decode cX11_readSpan 141 = .ok (.return_, 1) := by decide +kernel
theorem dX11_emptyIn_0 : decode cX11_emptyIn 0 = .ok (.iconst 0, 1) := by decide +kernel
theorem dX11_emptyIn_1 : decode cX11_emptyIn 1 = .ok (.istore_n 2, 1) := by decide +kernel
theorem dX11_emptyIn_2 : decode cX11_emptyIn 2 = .ok (.iload_n 2, 1) := by decide +kernel
theorem dX11_emptyIn_3 : decode cX11_emptyIn 3 = .ok (.aload_n 0, 1) := by decide +kernel
theorem dX11_emptyIn_4 : decode cX11_emptyIn 4 = .ok (.getfield 16, 3) := by decide +kernel
theorem dX11_emptyIn_7 : decode cX11_emptyIn 7 = .ok (.iload_n 1, 1) := by decide +kernel
theorem dX11_emptyIn_8 : decode cX11_emptyIn 8 = .ok (.iaload, 1) := by decide +kernel
theorem dX11_emptyIn_9 : decode cX11_emptyIn 9 = .ok (.if_icmp .ge 33, 3) := by decide +kernel
theorem dX11_emptyIn_12 : decode cX11_emptyIn 12 = .ok (.aload_n 0, 1) := by decide +kernel
theorem dX11_emptyIn_13 : decode cX11_emptyIn 13 = .ok (.getfield 22, 3) := by decide +kernel
theorem dX11_emptyIn_16 : decode cX11_emptyIn 16 = .ok (.sipush 140, 3) := by decide +kernel
theorem dX11_emptyIn_19 : decode cX11_emptyIn 19 = .ok (.iload_n 1, 1) := by decide +kernel
theorem dX11_emptyIn_20 : decode cX11_emptyIn 20 = .ok (.imul, 1) := by decide +kernel
theorem dX11_emptyIn_21 : decode cX11_emptyIn 21 = .ok (.bipush 38, 2) := by decide +kernel
theorem dX11_emptyIn_23 : decode cX11_emptyIn 23 = .ok (.iadd, 1) := by decide +kernel
theorem dX11_emptyIn_24 : decode cX11_emptyIn 24 = .ok (.iconst 3, 1) := by decide +kernel
theorem dX11_emptyIn_25 : decode cX11_emptyIn 25 = .ok (.iload_n 2, 1) := by decide +kernel
theorem dX11_emptyIn_26 : decode cX11_emptyIn 26 = .ok (.imul, 1) := by decide +kernel
theorem dX11_emptyIn_27 : decode cX11_emptyIn 27 = .ok (.iadd, 1) := by decide +kernel
theorem dX11_emptyIn_28 : decode cX11_emptyIn 28 = .ok (.iconst 1, 1) := by decide +kernel
theorem dX11_emptyIn_29 : decode cX11_emptyIn 29 = .ok (.iadd, 1) := by decide +kernel
theorem dX11_emptyIn_30 : decode cX11_emptyIn 30 = .ok (.iaload, 1) := by decide +kernel
theorem dX11_emptyIn_31 : decode cX11_emptyIn 31 = .ok (.ifCond .ne 5, 3) := by decide +kernel
theorem dX11_emptyIn_34 : decode cX11_emptyIn 34 = .ok (.iload_n 2, 1) := by decide +kernel
theorem dX11_emptyIn_35 : decode cX11_emptyIn 35 = .ok (.ireturn, 1) := by decide +kernel
theorem dX11_emptyIn_36 : decode cX11_emptyIn 36 = .ok (.iinc 2 1, 3) := by decide +kernel
theorem dX11_emptyIn_39 : decode cX11_emptyIn 39 = .ok (.goto (-37), 3) := by decide +kernel
theorem dX11_emptyIn_42 : decode cX11_emptyIn 42 = .ok (.iconst (-1), 1) := by decide +kernel
theorem dX11_emptyIn_43 : decode cX11_emptyIn 43 = .ok (.ireturn, 1) := by decide +kernel
theorem dX11_isBlock_0 : decode cX11_isBlock 0 = .ok (.iload_n 1, 1) := by decide +kernel
theorem dX11_isBlock_1 : decode cX11_isBlock 1 = .ok (.ifCond .le 37, 3) := by decide +kernel
theorem dX11_isBlock_4 : decode cX11_isBlock 4 = .ok (.iload_n 1, 1) := by decide +kernel
theorem dX11_isBlock_5 : decode cX11_isBlock 5 = .ok (.iload_n 1, 1) := by decide +kernel
theorem dX11_isBlock_6 : decode cX11_isBlock 6 = .ok (.iconst 1, 1) := by decide +kernel
theorem dX11_isBlock_7 : decode cX11_isBlock 7 = .ok (.isub, 1) := by decide +kernel
theorem dX11_isBlock_8 : decode cX11_isBlock 8 = .ok (.iand, 1) := by decide +kernel
theorem dX11_isBlock_9 : decode cX11_isBlock 9 = .ok (.ifCond .ne 29, 3) := by decide +kernel
theorem dX11_isBlock_12 : decode cX11_isBlock 12 = .ok (.iload_n 1, 1) := by decide +kernel
theorem dX11_isBlock_13 : decode cX11_isBlock 13 = .ok (.iload_n 2, 1) := by decide +kernel
theorem dX11_isBlock_14 : decode cX11_isBlock 14 = .ok (.if_icmp .gt 24, 3) := by decide +kernel
theorem dX11_isBlock_17 : decode cX11_isBlock 17 = .ok (.iload_n 0, 1) := by decide +kernel
theorem dX11_isBlock_18 : decode cX11_isBlock 18 = .ok (.iconst 0, 1) := by decide +kernel
theorem dX11_isBlock_19 : decode cX11_isBlock 19 = .ok (.iload_n 2, 1) := by decide +kernel
theorem dX11_isBlock_20 : decode cX11_isBlock 20 = .ok (.iconst 1, 1) := by decide +kernel
theorem dX11_isBlock_21 : decode cX11_isBlock 21 = .ok (.isub, 1) := by decide +kernel
theorem dX11_isBlock_22 : decode cX11_isBlock 22 = .ok (.invokestatic 163, 3) := by decide +kernel
theorem dX11_isBlock_25 : decode cX11_isBlock 25 = .ok (.ifCond .eq 13, 3) := by decide +kernel
theorem dX11_isBlock_28 : decode cX11_isBlock 28 = .ok (.iload_n 0, 1) := by decide +kernel
theorem dX11_isBlock_29 : decode cX11_isBlock 29 = .ok (.iload_n 1, 1) := by decide +kernel
theorem dX11_isBlock_30 : decode cX11_isBlock 30 = .ok (.irem, 1) := by decide +kernel
theorem dX11_isBlock_31 : decode cX11_isBlock 31 = .ok (.ifCond .ne 7, 3) := by decide +kernel
theorem dX11_isBlock_34 : decode cX11_isBlock 34 = .ok (.iconst 1, 1) := by decide +kernel
theorem dX11_isBlock_35 : decode cX11_isBlock 35 = .ok (.goto 4, 3) := by decide +kernel
theorem dX11_isBlock_38 : decode cX11_isBlock 38 = .ok (.iconst 0, 1) := by decide +kernel
theorem dX11_isBlock_39 : decode cX11_isBlock 39 = .ok (.ireturn, 1) := by decide +kernel
theorem dX11_readRegister_0 : decode cX11_readRegister 0 = .ok (.aload_n 0, 1) := by decide +kernel
theorem dX11_readRegister_1 : decode cX11_readRegister 1 = .ok (.iload_n 1, 1) := by decide +kernel
theorem dX11_readRegister_2 : decode cX11_readRegister 2 = .ok (.invokevirtual 219, 3) := by decide +kernel
theorem dX11_readRegister_5 : decode cX11_readRegister 5 = .ok (.istore_n 2, 1) := by decide +kernel
theorem dX11_readRegister_6 : decode cX11_readRegister 6 = .ok (.iload_n 2, 1) := by decide +kernel
theorem dX11_readRegister_7 : decode cX11_readRegister 7 = .ok (.ifCond .ge 8, 3) := by decide +kernel
theorem dX11_readRegister_10 : decode cX11_readRegister 10 = .ok (.aload_n 0, 1) := by decide +kernel
theorem dX11_readRegister_11 : decode cX11_readRegister 11 = .ok (.iconst 4, 1) := by decide +kernel
theorem dX11_readRegister_12 : decode cX11_readRegister 12 = .ok (.invokevirtual 167, 3) := by decide +kernel
theorem dX11_readRegister_15 : decode cX11_readRegister 15 = .ok (.aload_n 0, 1) := by decide +kernel
theorem dX11_readRegister_16 : decode cX11_readRegister 16 = .ok (.getfield 157, 3) := by decide +kernel
theorem dX11_readRegister_19 : decode cX11_readRegister 19 = .ok (.ifCond .le 4, 3) := by decide +kernel
theorem dX11_readRegister_22 : decode cX11_readRegister 22 = .ok (.return_, 1) := by decide +kernel
theorem dX11_readRegister_23 : decode cX11_readRegister 23 = .ok (.aload_n 0, 1) := by decide +kernel
theorem dX11_readRegister_24 : decode cX11_readRegister 24 = .ok (.invokevirtual 170, 3) := by decide +kernel
theorem dX11_readRegister_27 : decode cX11_readRegister 27 = .ok (.aload_n 0, 1) := by decide +kernel
theorem dX11_readRegister_28 : decode cX11_readRegister 28 = .ok (.iconst 0, 1) := by decide +kernel
theorem dX11_readRegister_29 : decode cX11_readRegister 29 = .ok (.aload_n 0, 1) := by decide +kernel
theorem dX11_readRegister_30 : decode cX11_readRegister 30 = .ok (.iload_n 1, 1) := by decide +kernel
theorem dX11_readRegister_31 : decode cX11_readRegister 31 = .ok (.invokevirtual 216, 3) := by decide +kernel
theorem dX11_readRegister_34 : decode cX11_readRegister 34 = .ok (.iconst 1, 1) := by decide +kernel
theorem dX11_readRegister_35 : decode cX11_readRegister 35 = .ok (.isub, 1) := by decide +kernel
theorem dX11_readRegister_36 : decode cX11_readRegister 36 = .ok (.invokevirtual 196, 3) := by decide +kernel
theorem dX11_readRegister_39 : decode cX11_readRegister 39 = .ok (.istore_n 3, 1) := by decide +kernel
theorem dX11_readRegister_40 : decode cX11_readRegister 40 = .ok (.aload_n 0, 1) := by decide +kernel
theorem dX11_readRegister_41 : decode cX11_readRegister 41 = .ok (.getfield 157, 3) := by decide +kernel
theorem dX11_readRegister_44 : decode cX11_readRegister 44 = .ok (.ifCond .ne 19, 3) := by decide +kernel
theorem dX11_readRegister_47 : decode cX11_readRegister 47 = .ok (.aload_n 0, 1) := by decide +kernel
theorem dX11_readRegister_48 : decode cX11_readRegister 48 = .ok (.getfield 131, 3) := by decide +kernel
theorem dX11_readRegister_51 : decode cX11_readRegister 51 = .ok (.iconst 3, 1) := by decide +kernel
theorem dX11_readRegister_52 : decode cX11_readRegister 52 = .ok (.if_icmp .eq 11, 3) := by decide +kernel
theorem dX11_readRegister_55 : decode cX11_readRegister 55 = .ok (.aload_n 0, 1) := by decide +kernel
theorem dX11_readRegister_56 : decode cX11_readRegister 56 = .ok (.iconst 1, 1) := by decide +kernel
theorem dX11_readRegister_57 : decode cX11_readRegister 57 = .ok (.invokevirtual 167, 3) := by decide +kernel
theorem dX11_readRegister_60 : decode cX11_readRegister 60 = .ok (.goto 24, 3) := by decide +kernel
theorem dX11_readRegister_63 : decode cX11_readRegister 63 = .ok (.iload_n 3, 1) := by decide +kernel
theorem dX11_readRegister_64 : decode cX11_readRegister 64 = .ok (.aload_n 0, 1) := by decide +kernel
theorem dX11_readRegister_65 : decode cX11_readRegister 65 = .ok (.getfield 153, 3) := by decide +kernel
theorem dX11_readRegister_68 : decode cX11_readRegister 68 = .ok (.aload_n 0, 1) := by decide +kernel
theorem dX11_readRegister_69 : decode cX11_readRegister 69 = .ok (.iload_n 1, 1) := by decide +kernel
theorem dX11_readRegister_70 : decode cX11_readRegister 70 = .ok (.invokevirtual 216, 3) := by decide +kernel
theorem dX11_readRegister_73 : decode cX11_readRegister 73 = .ok (.invokestatic 222, 3) := by decide +kernel
theorem dX11_readRegister_76 : decode cX11_readRegister 76 = .ok (.ifCond .ne 8, 3) := by decide +kernel
theorem dX11_readRegister_79 : decode cX11_readRegister 79 = .ok (.aload_n 0, 1) := by decide +kernel
theorem dX11_readRegister_80 : decode cX11_readRegister 80 = .ok (.iconst 2, 1) := by decide +kernel
theorem dX11_readRegister_81 : decode cX11_readRegister 81 = .ok (.invokevirtual 167, 3) := by decide +kernel
theorem dX11_readRegister_84 : decode cX11_readRegister 84 = .ok (.aload_n 0, 1) := by decide +kernel
theorem dX11_readRegister_85 : decode cX11_readRegister 85 = .ok (.getfield 153, 3) := by decide +kernel
theorem dX11_readRegister_88 : decode cX11_readRegister 88 = .ok (.istore 4, 2) := by decide +kernel
theorem dX11_readRegister_90 : decode cX11_readRegister 90 = .ok (.iconst 0, 1) := by decide +kernel
theorem dX11_readRegister_91 : decode cX11_readRegister 91 = .ok (.istore 5, 2) := by decide +kernel
theorem dX11_readRegister_93 : decode cX11_readRegister 93 = .ok (.iload 5, 2) := by decide +kernel
theorem dX11_readRegister_95 : decode cX11_readRegister 95 = .ok (.aload_n 0, 1) := by decide +kernel
theorem dX11_readRegister_96 : decode cX11_readRegister 96 = .ok (.getfield 16, 3) := by decide +kernel
theorem dX11_readRegister_99 : decode cX11_readRegister 99 = .ok (.iload_n 1, 1) := by decide +kernel
theorem dX11_readRegister_100 : decode cX11_readRegister 100 = .ok (.iaload, 1) := by decide +kernel
theorem dX11_readRegister_101 : decode cX11_readRegister 101 = .ok (.if_icmp .ge 68, 3) := by decide +kernel
theorem dX11_readRegister_104 : decode cX11_readRegister 104 = .ok (.aload_n 0, 1) := by decide +kernel
theorem dX11_readRegister_105 : decode cX11_readRegister 105 = .ok (.getfield 157, 3) := by decide +kernel
theorem dX11_readRegister_108 : decode cX11_readRegister 108 = .ok (.ifCond .ne 61, 3) := by decide +kernel
theorem dX11_readRegister_111 : decode cX11_readRegister 111 = .ok (.aload_n 0, 1) := by decide +kernel
theorem dX11_readRegister_112 : decode cX11_readRegister 112 = .ok (.getfield 22, 3) := by decide +kernel
theorem dX11_readRegister_115 : decode cX11_readRegister 115 = .ok (.sipush 140, 3) := by decide +kernel
theorem dX11_readRegister_118 : decode cX11_readRegister 118 = .ok (.iload_n 1, 1) := by decide +kernel
theorem dX11_readRegister_119 : decode cX11_readRegister 119 = .ok (.imul, 1) := by decide +kernel
theorem dX11_readRegister_120 : decode cX11_readRegister 120 = .ok (.bipush 38, 2) := by decide +kernel
theorem dX11_readRegister_122 : decode cX11_readRegister 122 = .ok (.iadd, 1) := by decide +kernel
theorem dX11_readRegister_123 : decode cX11_readRegister 123 = .ok (.iconst 3, 1) := by decide +kernel
theorem dX11_readRegister_124 : decode cX11_readRegister 124 = .ok (.iload 5, 2) := by decide +kernel
theorem dX11_readRegister_126 : decode cX11_readRegister 126 = .ok (.imul, 1) := by decide +kernel
theorem dX11_readRegister_127 : decode cX11_readRegister 127 = .ok (.iadd, 1) := by decide +kernel
theorem dX11_readRegister_128 : decode cX11_readRegister 128 = .ok (.iaload, 1) := by decide +kernel
theorem dX11_readRegister_129 : decode cX11_readRegister 129 = .ok (.iload_n 3, 1) := by decide +kernel
theorem dX11_readRegister_130 : decode cX11_readRegister 130 = .ok (.if_icmp .ne 33, 3) := by decide +kernel
theorem dX11_readRegister_133 : decode cX11_readRegister 133 = .ok (.aload_n 0, 1) := by decide +kernel
theorem dX11_readRegister_134 : decode cX11_readRegister 134 = .ok (.getfield 22, 3) := by decide +kernel
theorem dX11_readRegister_137 : decode cX11_readRegister 137 = .ok (.sipush 140, 3) := by decide +kernel
theorem dX11_readRegister_140 : decode cX11_readRegister 140 = .ok (.iload_n 1, 1) := by decide +kernel
theorem dX11_readRegister_141 : decode cX11_readRegister 141 = .ok (.imul, 1) := by decide +kernel
theorem dX11_readRegister_142 : decode cX11_readRegister 142 = .ok (.bipush 38, 2) := by decide +kernel
theorem dX11_readRegister_144 : decode cX11_readRegister 144 = .ok (.iadd, 1) := by decide +kernel
theorem dX11_readRegister_145 : decode cX11_readRegister 145 = .ok (.iconst 3, 1) := by decide +kernel
theorem dX11_readRegister_146 : decode cX11_readRegister 146 = .ok (.iload 5, 2) := by decide +kernel
theorem dX11_readRegister_148 : decode cX11_readRegister 148 = .ok (.imul, 1) := by decide +kernel
theorem dX11_readRegister_149 : decode cX11_readRegister 149 = .ok (.iadd, 1) := by decide +kernel
theorem dX11_readRegister_150 : decode cX11_readRegister 150 = .ok (.iconst 1, 1) := by decide +kernel
theorem dX11_readRegister_151 : decode cX11_readRegister 151 = .ok (.iadd, 1) := by decide +kernel
theorem dX11_readRegister_152 : decode cX11_readRegister 152 = .ok (.iaload, 1) := by decide +kernel
theorem dX11_readRegister_153 : decode cX11_readRegister 153 = .ok (.iload 4, 2) := by decide +kernel
theorem dX11_readRegister_155 : decode cX11_readRegister 155 = .ok (.if_icmp .ne 8, 3) := by decide +kernel
theorem dX11_readRegister_158 : decode cX11_readRegister 158 = .ok (.aload_n 0, 1) := by decide +kernel
theorem dX11_readRegister_159 : decode cX11_readRegister 159 = .ok (.iconst 3, 1) := by decide +kernel
theorem dX11_readRegister_160 : decode cX11_readRegister 160 = .ok (.invokevirtual 167, 3) := by decide +kernel
theorem dX11_readRegister_163 : decode cX11_readRegister 163 = .ok (.iinc 5 1, 3) := by decide +kernel
theorem dX11_readRegister_166 : decode cX11_readRegister 166 = .ok (.goto (-73), 3) := by decide +kernel
theorem dX11_readRegister_169 : decode cX11_readRegister 169 = .ok (.aload_n 0, 1) := by decide +kernel
theorem dX11_readRegister_170 : decode cX11_readRegister 170 = .ok (.getfield 157, 3) := by decide +kernel
theorem dX11_readRegister_173 : decode cX11_readRegister 173 = .ok (.ifCond .le 4, 3) := by decide +kernel
theorem dX11_readRegister_176 : decode cX11_readRegister 176 = .ok (.return_, 1) := by decide +kernel
theorem dX11_readRegister_177 : decode cX11_readRegister 177 = .ok (.aload_n 0, 1) := by decide +kernel
theorem dX11_readRegister_178 : decode cX11_readRegister 178 = .ok (.invokevirtual 170, 3) := by decide +kernel
theorem dX11_readRegister_181 : decode cX11_readRegister 181 = .ok (.aload_n 0, 1) := by decide +kernel
theorem dX11_readRegister_182 : decode cX11_readRegister 182 = .ok (.invokevirtual 200, 3) := by decide +kernel
theorem dX11_readRegister_185 : decode cX11_readRegister 185 = .ok (.istore 5, 2) := by decide +kernel
theorem dX11_readRegister_187 : decode cX11_readRegister 187 = .ok (.aload_n 0, 1) := by decide +kernel
theorem dX11_readRegister_188 : decode cX11_readRegister 188 = .ok (.getfield 157, 3) := by decide +kernel
theorem dX11_readRegister_191 : decode cX11_readRegister 191 = .ok (.ifCond .le 4, 3) := by decide +kernel
theorem dX11_readRegister_194 : decode cX11_readRegister 194 = .ok (.return_, 1) := by decide +kernel
theorem dX11_readRegister_195 : decode cX11_readRegister 195 = .ok (.aload_n 0, 1) := by decide +kernel
theorem dX11_readRegister_196 : decode cX11_readRegister 196 = .ok (.getfield 22, 3) := by decide +kernel
theorem dX11_readRegister_199 : decode cX11_readRegister 199 = .ok (.sipush 140, 3) := by decide +kernel
theorem dX11_readRegister_202 : decode cX11_readRegister 202 = .ok (.iload_n 1, 1) := by decide +kernel
theorem dX11_readRegister_203 : decode cX11_readRegister 203 = .ok (.imul, 1) := by decide +kernel
theorem dX11_readRegister_204 : decode cX11_readRegister 204 = .ok (.bipush 38, 2) := by decide +kernel
theorem dX11_readRegister_206 : decode cX11_readRegister 206 = .ok (.iadd, 1) := by decide +kernel
theorem dX11_readRegister_207 : decode cX11_readRegister 207 = .ok (.iconst 3, 1) := by decide +kernel
theorem dX11_readRegister_208 : decode cX11_readRegister 208 = .ok (.iload_n 2, 1) := by decide +kernel
theorem dX11_readRegister_209 : decode cX11_readRegister 209 = .ok (.imul, 1) := by decide +kernel
theorem dX11_readRegister_210 : decode cX11_readRegister 210 = .ok (.iadd, 1) := by decide +kernel
theorem dX11_readRegister_211 : decode cX11_readRegister 211 = .ok (.iload_n 3, 1) := by decide +kernel
theorem dX11_readRegister_212 : decode cX11_readRegister 212 = .ok (.iastore, 1) := by decide +kernel
theorem dX11_readRegister_213 : decode cX11_readRegister 213 = .ok (.aload_n 0, 1) := by decide +kernel
theorem dX11_readRegister_214 : decode cX11_readRegister 214 = .ok (.getfield 22, 3) := by decide +kernel
theorem dX11_readRegister_217 : decode cX11_readRegister 217 = .ok (.sipush 140, 3) := by decide +kernel
theorem dX11_readRegister_220 : decode cX11_readRegister 220 = .ok (.iload_n 1, 1) := by decide +kernel
theorem dX11_readRegister_221 : decode cX11_readRegister 221 = .ok (.imul, 1) := by decide +kernel
theorem dX11_readRegister_222 : decode cX11_readRegister 222 = .ok (.bipush 38, 2) := by decide +kernel
theorem dX11_readRegister_224 : decode cX11_readRegister 224 = .ok (.iadd, 1) := by decide +kernel
theorem dX11_readRegister_225 : decode cX11_readRegister 225 = .ok (.iconst 3, 1) := by decide +kernel
theorem dX11_readRegister_226 : decode cX11_readRegister 226 = .ok (.iload_n 2, 1) := by decide +kernel
theorem dX11_readRegister_227 : decode cX11_readRegister 227 = .ok (.imul, 1) := by decide +kernel
theorem dX11_readRegister_228 : decode cX11_readRegister 228 = .ok (.iadd, 1) := by decide +kernel
theorem dX11_readRegister_229 : decode cX11_readRegister 229 = .ok (.iconst 1, 1) := by decide +kernel
theorem dX11_readRegister_230 : decode cX11_readRegister 230 = .ok (.iadd, 1) := by decide +kernel
theorem dX11_readRegister_231 : decode cX11_readRegister 231 = .ok (.iload 4, 2) := by decide +kernel
theorem dX11_readRegister_233 : decode cX11_readRegister 233 = .ok (.iastore, 1) := by decide +kernel
theorem dX11_readRegister_234 : decode cX11_readRegister 234 = .ok (.aload_n 0, 1) := by decide +kernel
theorem dX11_readRegister_235 : decode cX11_readRegister 235 = .ok (.getfield 22, 3) := by decide +kernel
theorem dX11_readRegister_238 : decode cX11_readRegister 238 = .ok (.sipush 140, 3) := by decide +kernel
theorem dX11_readRegister_241 : decode cX11_readRegister 241 = .ok (.iload_n 1, 1) := by decide +kernel
theorem dX11_readRegister_242 : decode cX11_readRegister 242 = .ok (.imul, 1) := by decide +kernel
theorem dX11_readRegister_243 : decode cX11_readRegister 243 = .ok (.bipush 38, 2) := by decide +kernel
theorem dX11_readRegister_245 : decode cX11_readRegister 245 = .ok (.iadd, 1) := by decide +kernel
theorem dX11_readRegister_246 : decode cX11_readRegister 246 = .ok (.iconst 3, 1) := by decide +kernel
theorem dX11_readRegister_247 : decode cX11_readRegister 247 = .ok (.iload_n 2, 1) := by decide +kernel
theorem dX11_readRegister_248 : decode cX11_readRegister 248 = .ok (.imul, 1) := by decide +kernel
theorem dX11_readRegister_249 : decode cX11_readRegister 249 = .ok (.iadd, 1) := by decide +kernel
theorem dX11_readRegister_250 : decode cX11_readRegister 250 = .ok (.iconst 2, 1) := by decide +kernel
theorem dX11_readRegister_251 : decode cX11_readRegister 251 = .ok (.iadd, 1) := by decide +kernel
theorem dX11_readRegister_252 : decode cX11_readRegister 252 = .ok (.iload 5, 2) := by decide +kernel
theorem dX11_readRegister_254 : decode cX11_readRegister 254 = .ok (.iastore, 1) := by decide +kernel
theorem dX11_readRegister_255 : decode cX11_readRegister 255 = .ok (.return_, 1) := by decide +kernel
theorem dX11_readPage_0 : decode cX11_readPage 0 = .ok (.aload_n 0, 1) := by decide +kernel
theorem dX11_readPage_1 : decode cX11_readPage 1 = .ok (.invokevirtual 170, 3) := by decide +kernel
theorem dX11_readPage_4 : decode cX11_readPage 4 = .ok (.aload_n 0, 1) := by decide +kernel
theorem dX11_readPage_5 : decode cX11_readPage 5 = .ok (.getfield 131, 3) := by decide +kernel
theorem dX11_readPage_8 : decode cX11_readPage 8 = .ok (.iconst 3, 1) := by decide +kernel
theorem dX11_readPage_9 : decode cX11_readPage 9 = .ok (.if_icmp .eq 11, 3) := by decide +kernel
theorem dX11_readPage_12 : decode cX11_readPage 12 = .ok (.aload_n 0, 1) := by decide +kernel
theorem dX11_readPage_13 : decode cX11_readPage 13 = .ok (.iconst 1, 1) := by decide +kernel
theorem dX11_readPage_14 : decode cX11_readPage 14 = .ok (.invokevirtual 167, 3) := by decide +kernel
theorem dX11_readPage_17 : decode cX11_readPage 17 = .ok (.goto 59, 3) := by decide +kernel
theorem dX11_readPage_20 : decode cX11_readPage 20 = .ok (.aload_n 0, 1) := by decide +kernel
theorem dX11_readPage_21 : decode cX11_readPage 21 = .ok (.getfield 153, 3) := by decide +kernel
theorem dX11_readPage_24 : decode cX11_readPage 24 = .ok (.iconst 0, 1) := by decide +kernel
theorem dX11_readPage_25 : decode cX11_readPage 25 = .ok (.aload_n 0, 1) := by decide +kernel
theorem dX11_readPage_26 : decode cX11_readPage 26 = .ok (.iload_n 1, 1) := by decide +kernel
theorem dX11_readPage_27 : decode cX11_readPage 27 = .ok (.invokevirtual 216, 3) := by decide +kernel
theorem dX11_readPage_30 : decode cX11_readPage 30 = .ok (.bipush 16, 2) := by decide +kernel
theorem dX11_readPage_32 : decode cX11_readPage 32 = .ok (.idiv, 1) := by decide +kernel
theorem dX11_readPage_33 : decode cX11_readPage 33 = .ok (.iconst 1, 1) := by decide +kernel
theorem dX11_readPage_34 : decode cX11_readPage 34 = .ok (.isub, 1) := by decide +kernel
theorem dX11_readPage_35 : decode cX11_readPage 35 = .ok (.invokestatic 163, 3) := by decide +kernel
theorem dX11_readPage_38 : decode cX11_readPage 38 = .ok (.ifCond .ne 11, 3) := by decide +kernel
theorem dX11_readPage_41 : decode cX11_readPage 41 = .ok (.aload_n 0, 1) := by decide +kernel
theorem dX11_readPage_42 : decode cX11_readPage 42 = .ok (.iconst 2, 1) := by decide +kernel
theorem dX11_readPage_43 : decode cX11_readPage 43 = .ok (.invokevirtual 167, 3) := by decide +kernel
theorem dX11_readPage_46 : decode cX11_readPage 46 = .ok (.goto 30, 3) := by decide +kernel
theorem dX11_readPage_49 : decode cX11_readPage 49 = .ok (.aload_n 0, 1) := by decide +kernel
theorem dX11_readPage_50 : decode cX11_readPage 50 = .ok (.getfield 22, 3) := by decide +kernel
theorem dX11_readPage_53 : decode cX11_readPage 53 = .ok (.sipush 140, 3) := by decide +kernel
theorem dX11_readPage_56 : decode cX11_readPage 56 = .ok (.iload_n 1, 1) := by decide +kernel
theorem dX11_readPage_57 : decode cX11_readPage 57 = .ok (.imul, 1) := by decide +kernel
theorem dX11_readPage_58 : decode cX11_readPage 58 = .ok (.bipush 76, 2) := by decide +kernel
theorem dX11_readPage_60 : decode cX11_readPage 60 = .ok (.iadd, 1) := by decide +kernel
theorem dX11_readPage_61 : decode cX11_readPage 61 = .ok (.aload_n 0, 1) := by decide +kernel
theorem dX11_readPage_62 : decode cX11_readPage 62 = .ok (.getfield 153, 3) := by decide +kernel
theorem dX11_readPage_65 : decode cX11_readPage 65 = .ok (.iadd, 1) := by decide +kernel
theorem dX11_readPage_66 : decode cX11_readPage 66 = .ok (.iaload, 1) := by decide +kernel
theorem dX11_readPage_67 : decode cX11_readPage 67 = .ok (.iconst 5, 1) := by decide +kernel
theorem dX11_readPage_68 : decode cX11_readPage 68 = .ok (.if_icmp .eq 8, 3) := by decide +kernel
theorem dX11_readPage_71 : decode cX11_readPage 71 = .ok (.aload_n 0, 1) := by decide +kernel
theorem dX11_readPage_72 : decode cX11_readPage 72 = .ok (.iconst 3, 1) := by decide +kernel
theorem dX11_readPage_73 : decode cX11_readPage 73 = .ok (.invokevirtual 167, 3) := by decide +kernel
theorem dX11_readPage_76 : decode cX11_readPage 76 = .ok (.aload_n 0, 1) := by decide +kernel
theorem dX11_readPage_77 : decode cX11_readPage 77 = .ok (.getfield 153, 3) := by decide +kernel
theorem dX11_readPage_80 : decode cX11_readPage 80 = .ok (.istore_n 2, 1) := by decide +kernel
theorem dX11_readPage_81 : decode cX11_readPage 81 = .ok (.aload_n 0, 1) := by decide +kernel
theorem dX11_readPage_82 : decode cX11_readPage 82 = .ok (.getfield 157, 3) := by decide +kernel
theorem dX11_readPage_85 : decode cX11_readPage 85 = .ok (.ifCond .le 4, 3) := by decide +kernel
theorem dX11_readPage_88 : decode cX11_readPage 88 = .ok (.return_, 1) := by decide +kernel
theorem dX11_readPage_89 : decode cX11_readPage 89 = .ok (.aload_n 0, 1) := by decide +kernel
theorem dX11_readPage_90 : decode cX11_readPage 90 = .ok (.invokevirtual 170, 3) := by decide +kernel
theorem dX11_readPage_93 : decode cX11_readPage 93 = .ok (.aload_n 0, 1) := by decide +kernel
theorem dX11_readPage_94 : decode cX11_readPage 94 = .ok (.invokevirtual 200, 3) := by decide +kernel
theorem dX11_readPage_97 : decode cX11_readPage 97 = .ok (.istore_n 3, 1) := by decide +kernel
theorem dX11_readPage_98 : decode cX11_readPage 98 = .ok (.aload_n 0, 1) := by decide +kernel
theorem dX11_readPage_99 : decode cX11_readPage 99 = .ok (.getfield 157, 3) := by decide +kernel
theorem dX11_readPage_102 : decode cX11_readPage 102 = .ok (.ifCond .ne 19, 3) := by decide +kernel
theorem dX11_readPage_105 : decode cX11_readPage 105 = .ok (.aload_n 0, 1) := by decide +kernel
theorem dX11_readPage_106 : decode cX11_readPage 106 = .ok (.getfield 22, 3) := by decide +kernel
theorem dX11_readPage_109 : decode cX11_readPage 109 = .ok (.sipush 140, 3) := by decide +kernel
theorem dX11_readPage_112 : decode cX11_readPage 112 = .ok (.iload_n 1, 1) := by decide +kernel
theorem dX11_readPage_113 : decode cX11_readPage 113 = .ok (.imul, 1) := by decide +kernel
theorem dX11_readPage_114 : decode cX11_readPage 114 = .ok (.bipush 76, 2) := by decide +kernel
theorem dX11_readPage_116 : decode cX11_readPage 116 = .ok (.iadd, 1) := by decide +kernel
theorem dX11_readPage_117 : decode cX11_readPage 117 = .ok (.iload_n 2, 1) := by decide +kernel
theorem dX11_readPage_118 : decode cX11_readPage 118 = .ok (.iadd, 1) := by decide +kernel
theorem dX11_readPage_119 : decode cX11_readPage 119 = .ok (.iload_n 3, 1) := by decide +kernel
theorem dX11_readPage_120 : decode cX11_readPage 120 = .ok (.iastore, 1) := by decide +kernel
theorem dX11_readPage_121 : decode cX11_readPage 121 = .ok (.return_, 1) := by decide +kernel
theorem dX11_readLine_0 : decode cX11_readLine 0 = .ok (.aload_n 0, 1) := by decide +kernel
theorem dX11_readLine_1 : decode cX11_readLine 1 = .ok (.iconst 5, 1) := by decide +kernel
theorem dX11_readLine_2 : decode cX11_readLine 2 = .ok (.invokevirtual 190, 3) := by decide +kernel
theorem dX11_readLine_5 : decode cX11_readLine 5 = .ok (.ifCond .eq 27, 3) := by decide +kernel
theorem dX11_readLine_8 : decode cX11_readLine 8 = .ok (.aload_n 0, 1) := by decide +kernel
theorem dX11_readLine_9 : decode cX11_readLine 9 = .ok (.iconst 5, 1) := by decide +kernel
theorem dX11_readLine_10 : decode cX11_readLine 10 = .ok (.invokevirtual 193, 3) := by decide +kernel
theorem dX11_readLine_13 : decode cX11_readLine 13 = .ok (.ifCond .eq 187, 3) := by decide +kernel
theorem dX11_readLine_16 : decode cX11_readLine 16 = .ok (.aload_n 0, 1) := by decide +kernel
theorem dX11_readLine_17 : decode cX11_readLine 17 = .ok (.getfield 13, 3) := by decide +kernel
theorem dX11_readLine_20 : decode cX11_readLine 20 = .ok (.iload_n 1, 1) := by decide +kernel
theorem dX11_readLine_21 : decode cX11_readLine 21 = .ok (.aload_n 0, 1) := by decide +kernel
theorem dX11_readLine_22 : decode cX11_readLine 22 = .ok (.iconst 4, 1) := by decide +kernel
theorem dX11_readLine_23 : decode cX11_readLine 23 = .ok (.bipush 10, 2) := by decide +kernel
theorem dX11_readLine_25 : decode cX11_readLine 25 = .ok (.invokevirtual 196, 3) := by decide +kernel
theorem dX11_readLine_28 : decode cX11_readLine 28 = .ok (.iastore, 1) := by decide +kernel
theorem dX11_readLine_29 : decode cX11_readLine 29 = .ok (.goto 171, 3) := by decide +kernel
theorem dX11_readLine_32 : decode cX11_readLine 32 = .ok (.aload_n 0, 1) := by decide +kernel
theorem dX11_readLine_33 : decode cX11_readLine 33 = .ok (.bipush 6, 2) := by decide +kernel
theorem dX11_readLine_35 : decode cX11_readLine 35 = .ok (.invokevirtual 190, 3) := by decide +kernel
theorem dX11_readLine_38 : decode cX11_readLine 38 = .ok (.ifCond .eq 28, 3) := by decide +kernel
theorem dX11_readLine_41 : decode cX11_readLine 41 = .ok (.aload_n 0, 1) := by decide +kernel
theorem dX11_readLine_42 : decode cX11_readLine 42 = .ok (.bipush 6, 2) := by decide +kernel
theorem dX11_readLine_44 : decode cX11_readLine 44 = .ok (.invokevirtual 193, 3) := by decide +kernel
theorem dX11_readLine_47 : decode cX11_readLine 47 = .ok (.ifCond .eq 153, 3) := by decide +kernel
theorem dX11_readLine_50 : decode cX11_readLine 50 = .ok (.aload_n 0, 1) := by decide +kernel
theorem dX11_readLine_51 : decode cX11_readLine 51 = .ok (.getfield 16, 3) := by decide +kernel
theorem dX11_readLine_54 : decode cX11_readLine 54 = .ok (.iload_n 1, 1) := by decide +kernel
theorem dX11_readLine_55 : decode cX11_readLine 55 = .ok (.aload_n 0, 1) := by decide +kernel
theorem dX11_readLine_56 : decode cX11_readLine 56 = .ok (.iconst 1, 1) := by decide +kernel
theorem dX11_readLine_57 : decode cX11_readLine 57 = .ok (.bipush 10, 2) := by decide +kernel
theorem dX11_readLine_59 : decode cX11_readLine 59 = .ok (.invokevirtual 196, 3) := by decide +kernel
theorem dX11_readLine_62 : decode cX11_readLine 62 = .ok (.iastore, 1) := by decide +kernel
theorem dX11_readLine_63 : decode cX11_readLine 63 = .ok (.goto 137, 3) := by decide +kernel
theorem dX11_readLine_66 : decode cX11_readLine 66 = .ok (.aload_n 0, 1) := by decide +kernel
theorem dX11_readLine_67 : decode cX11_readLine 67 = .ok (.bipush 7, 2) := by decide +kernel
theorem dX11_readLine_69 : decode cX11_readLine 69 = .ok (.invokevirtual 190, 3) := by decide +kernel
theorem dX11_readLine_72 : decode cX11_readLine 72 = .ok (.ifCond .eq 31, 3) := by decide +kernel
theorem dX11_readLine_75 : decode cX11_readLine 75 = .ok (.aload_n 0, 1) := by decide +kernel
theorem dX11_readLine_76 : decode cX11_readLine 76 = .ok (.bipush 7, 2) := by decide +kernel
theorem dX11_readLine_78 : decode cX11_readLine 78 = .ok (.invokevirtual 193, 3) := by decide +kernel
theorem dX11_readLine_81 : decode cX11_readLine 81 = .ok (.ifCond .eq 119, 3) := by decide +kernel
theorem dX11_readLine_84 : decode cX11_readLine 84 = .ok (.aload_n 0, 1) := by decide +kernel
theorem dX11_readLine_85 : decode cX11_readLine 85 = .ok (.getfield 22, 3) := by decide +kernel
theorem dX11_readLine_88 : decode cX11_readLine 88 = .ok (.sipush 140, 3) := by decide +kernel
theorem dX11_readLine_91 : decode cX11_readLine 91 = .ok (.iload_n 1, 1) := by decide +kernel
theorem dX11_readLine_92 : decode cX11_readLine 92 = .ok (.imul, 1) := by decide +kernel
theorem dX11_readLine_93 : decode cX11_readLine 93 = .ok (.iconst 0, 1) := by decide +kernel
theorem dX11_readLine_94 : decode cX11_readLine 94 = .ok (.iadd, 1) := by decide +kernel
theorem dX11_readLine_95 : decode cX11_readLine 95 = .ok (.aload_n 0, 1) := by decide +kernel
theorem dX11_readLine_96 : decode cX11_readLine 96 = .ok (.invokevirtual 200, 3) := by decide +kernel
theorem dX11_readLine_99 : decode cX11_readLine 99 = .ok (.iastore, 1) := by decide +kernel
theorem dX11_readLine_100 : decode cX11_readLine 100 = .ok (.goto 100, 3) := by decide +kernel
theorem dX11_readLine_103 : decode cX11_readLine 103 = .ok (.aload_n 0, 1) := by decide +kernel
theorem dX11_readLine_104 : decode cX11_readLine 104 = .ok (.bipush 8, 2) := by decide +kernel
theorem dX11_readLine_106 : decode cX11_readLine 106 = .ok (.invokevirtual 190, 3) := by decide +kernel
theorem dX11_readLine_109 : decode cX11_readLine 109 = .ok (.ifCond .eq 20, 3) := by decide +kernel
theorem dX11_readLine_112 : decode cX11_readLine 112 = .ok (.aload_n 0, 1) := by decide +kernel
theorem dX11_readLine_113 : decode cX11_readLine 113 = .ok (.bipush 8, 2) := by decide +kernel
theorem dX11_readLine_115 : decode cX11_readLine 115 = .ok (.invokevirtual 193, 3) := by decide +kernel
theorem dX11_readLine_118 : decode cX11_readLine 118 = .ok (.ifCond .eq 82, 3) := by decide +kernel
theorem dX11_readLine_121 : decode cX11_readLine 121 = .ok (.aload_n 0, 1) := by decide +kernel
theorem dX11_readLine_122 : decode cX11_readLine 122 = .ok (.iload_n 1, 1) := by decide +kernel
theorem dX11_readLine_123 : decode cX11_readLine 123 = .ok (.invokevirtual 204, 3) := by decide +kernel
theorem dX11_readLine_126 : decode cX11_readLine 126 = .ok (.goto 74, 3) := by decide +kernel
theorem dX11_readLine_129 : decode cX11_readLine 129 = .ok (.aload_n 0, 1) := by decide +kernel
theorem dX11_readLine_130 : decode cX11_readLine 130 = .ok (.bipush 9, 2) := by decide +kernel
theorem dX11_readLine_132 : decode cX11_readLine 132 = .ok (.invokevirtual 190, 3) := by decide +kernel
theorem dX11_readLine_135 : decode cX11_readLine 135 = .ok (.ifCond .eq 16, 3) := by decide +kernel
theorem dX11_readLine_138 : decode cX11_readLine 138 = .ok (.aload_n 0, 1) := by decide +kernel
theorem dX11_readLine_139 : decode cX11_readLine 139 = .ok (.iconst 1, 1) := by decide +kernel
theorem dX11_readLine_140 : decode cX11_readLine 140 = .ok (.putfield 186, 3) := by decide +kernel
theorem dX11_readLine_143 : decode cX11_readLine 143 = .ok (.aload_n 0, 1) := by decide +kernel
theorem dX11_readLine_144 : decode cX11_readLine 144 = .ok (.iload_n 1, 1) := by decide +kernel
theorem dX11_readLine_145 : decode cX11_readLine 145 = .ok (.invokevirtual 207, 3) := by decide +kernel
theorem dX11_readLine_148 : decode cX11_readLine 148 = .ok (.goto 52, 3) := by decide +kernel
theorem dX11_readLine_151 : decode cX11_readLine 151 = .ok (.aload_n 0, 1) := by decide +kernel
theorem dX11_readLine_152 : decode cX11_readLine 152 = .ok (.bipush 10, 2) := by decide +kernel
theorem dX11_readLine_154 : decode cX11_readLine 154 = .ok (.invokevirtual 190, 3) := by decide +kernel
theorem dX11_readLine_157 : decode cX11_readLine 157 = .ok (.ifCond .eq 16, 3) := by decide +kernel
theorem dX11_readLine_160 : decode cX11_readLine 160 = .ok (.aload_n 0, 1) := by decide +kernel
theorem dX11_readLine_161 : decode cX11_readLine 161 = .ok (.iconst 1, 1) := by decide +kernel
theorem dX11_readLine_162 : decode cX11_readLine 162 = .ok (.putfield 186, 3) := by decide +kernel
theorem dX11_readLine_165 : decode cX11_readLine 165 = .ok (.aload_n 0, 1) := by decide +kernel
theorem dX11_readLine_166 : decode cX11_readLine 166 = .ok (.iload_n 1, 1) := by decide +kernel
theorem dX11_readLine_167 : decode cX11_readLine 167 = .ok (.invokevirtual 210, 3) := by decide +kernel
theorem dX11_readLine_170 : decode cX11_readLine 170 = .ok (.goto 30, 3) := by decide +kernel
theorem dX11_readLine_173 : decode cX11_readLine 173 = .ok (.aload_n 0, 1) := by decide +kernel
theorem dX11_readLine_174 : decode cX11_readLine 174 = .ok (.bipush 11, 2) := by decide +kernel
theorem dX11_readLine_176 : decode cX11_readLine 176 = .ok (.invokevirtual 190, 3) := by decide +kernel
theorem dX11_readLine_179 : decode cX11_readLine 179 = .ok (.ifCond .eq 16, 3) := by decide +kernel
theorem dX11_readLine_182 : decode cX11_readLine 182 = .ok (.aload_n 0, 1) := by decide +kernel
theorem dX11_readLine_183 : decode cX11_readLine 183 = .ok (.iconst 1, 1) := by decide +kernel
theorem dX11_readLine_184 : decode cX11_readLine 184 = .ok (.putfield 186, 3) := by decide +kernel
theorem dX11_readLine_187 : decode cX11_readLine 187 = .ok (.aload_n 0, 1) := by decide +kernel
theorem dX11_readLine_188 : decode cX11_readLine 188 = .ok (.iload_n 1, 1) := by decide +kernel
theorem dX11_readLine_189 : decode cX11_readLine 189 = .ok (.invokevirtual 213, 3) := by decide +kernel
theorem dX11_readLine_192 : decode cX11_readLine 192 = .ok (.goto 8, 3) := by decide +kernel
theorem dX11_readLine_195 : decode cX11_readLine 195 = .ok (.aload_n 0, 1) := by decide +kernel
theorem dX11_readLine_196 : decode cX11_readLine 196 = .ok (.iconst 1, 1) := by decide +kernel
theorem dX11_readLine_197 : decode cX11_readLine 197 = .ok (.invokevirtual 167, 3) := by decide +kernel
theorem dX11_readLine_200 : decode cX11_readLine 200 = .ok (.return_, 1) := by decide +kernel
theorem dX11_readAll_0 : decode cX11_readAll 0 = .ok (.aload_n 0, 1) := by decide +kernel
theorem dX11_readAll_1 : decode cX11_readAll 1 = .ok (.invokevirtual 170, 3) := by decide +kernel
theorem dX11_readAll_4 : decode cX11_readAll 4 = .ok (.aload_n 0, 1) := by decide +kernel
theorem dX11_readAll_5 : decode cX11_readAll 5 = .ok (.getfield 157, 3) := by decide +kernel
theorem dX11_readAll_8 : decode cX11_readAll 8 = .ok (.ifCond .ne 37, 3) := by decide +kernel
theorem dX11_readAll_11 : decode cX11_readAll 11 = .ok (.aload_n 0, 1) := by decide +kernel
theorem dX11_readAll_12 : decode cX11_readAll 12 = .ok (.getfield 131, 3) := by decide +kernel
theorem dX11_readAll_15 : decode cX11_readAll 15 = .ok (.ifCond .eq 30, 3) := by decide +kernel
theorem dX11_readAll_18 : decode cX11_readAll 18 = .ok (.aload_n 0, 1) := by decide +kernel
theorem dX11_readAll_19 : decode cX11_readAll 19 = .ok (.iload_n 1, 1) := by decide +kernel
theorem dX11_readAll_20 : decode cX11_readAll 20 = .ok (.invokevirtual 177, 3) := by decide +kernel
theorem dX11_readAll_23 : decode cX11_readAll 23 = .ok (.aload_n 0, 1) := by decide +kernel
theorem dX11_readAll_24 : decode cX11_readAll 24 = .ok (.invokevirtual 180, 3) := by decide +kernel
theorem dX11_readAll_27 : decode cX11_readAll 27 = .ok (.ifCond .eq 10, 3) := by decide +kernel
theorem dX11_readAll_30 : decode cX11_readAll 30 = .ok (.aload_n 0, 1) := by decide +kernel
theorem dX11_readAll_31 : decode cX11_readAll 31 = .ok (.invokevirtual 170, 3) := by decide +kernel
theorem dX11_readAll_34 : decode cX11_readAll 34 = .ok (.goto (-30), 3) := by decide +kernel
theorem dX11_readAll_37 : decode cX11_readAll 37 = .ok (.aload_n 0, 1) := by decide +kernel
theorem dX11_readAll_38 : decode cX11_readAll 38 = .ok (.iconst 1, 1) := by decide +kernel
theorem dX11_readAll_39 : decode cX11_readAll 39 = .ok (.invokevirtual 167, 3) := by decide +kernel
theorem dX11_readAll_42 : decode cX11_readAll 42 = .ok (.goto (-38), 3) := by decide +kernel
theorem dX11_readAll_45 : decode cX11_readAll 45 = .ok (.return_, 1) := by decide +kernel
theorem dX11_startAnew_0 : decode cX11_startAnew 0 = .ok (.iconst 0, 1) := by decide +kernel
theorem dX11_startAnew_1 : decode cX11_startAnew 1 = .ok (.istore_n 1, 1) := by decide +kernel
theorem dX11_startAnew_2 : decode cX11_startAnew 2 = .ok (.iload_n 1, 1) := by decide +kernel
theorem dX11_startAnew_3 : decode cX11_startAnew 3 = .ok (.sipush 140, 3) := by decide +kernel
theorem dX11_startAnew_6 : decode cX11_startAnew 6 = .ok (.if_icmp .ge 30, 3) := by decide +kernel
theorem dX11_startAnew_9 : decode cX11_startAnew 9 = .ok (.aload_n 0, 1) := by decide +kernel
theorem dX11_startAnew_10 : decode cX11_startAnew 10 = .ok (.getfield 7, 3) := by decide +kernel
theorem dX11_startAnew_13 : decode cX11_startAnew 13 = .ok (.iload_n 1, 1) := by decide +kernel
theorem dX11_startAnew_14 : decode cX11_startAnew 14 = .ok (.aload_n 0, 1) := by decide +kernel
theorem dX11_startAnew_15 : decode cX11_startAnew 15 = .ok (.getfield 22, 3) := by decide +kernel
theorem dX11_startAnew_18 : decode cX11_startAnew 18 = .ok (.sipush 140, 3) := by decide +kernel
theorem dX11_startAnew_21 : decode cX11_startAnew 21 = .ok (.aload_n 0, 1) := by decide +kernel
theorem dX11_startAnew_22 : decode cX11_startAnew 22 = .ok (.getfield 225, 3) := by decide +kernel
theorem dX11_startAnew_25 : decode cX11_startAnew 25 = .ok (.imul, 1) := by decide +kernel
theorem dX11_startAnew_26 : decode cX11_startAnew 26 = .ok (.iload_n 1, 1) := by decide +kernel
theorem dX11_startAnew_27 : decode cX11_startAnew 27 = .ok (.iadd, 1) := by decide +kernel
theorem dX11_startAnew_28 : decode cX11_startAnew 28 = .ok (.iaload, 1) := by decide +kernel
theorem dX11_startAnew_29 : decode cX11_startAnew 29 = .ok (.iastore, 1) := by decide +kernel
theorem dX11_startAnew_30 : decode cX11_startAnew 30 = .ok (.iinc 1 1, 3) := by decide +kernel
theorem dX11_startAnew_33 : decode cX11_startAnew 33 = .ok (.goto (-31), 3) := by decide +kernel
theorem dX11_startAnew_36 : decode cX11_startAnew 36 = .ok (.aload_n 0, 1) := by decide +kernel
theorem dX11_startAnew_37 : decode cX11_startAnew 37 = .ok (.iconst 0, 1) := by decide +kernel
theorem dX11_startAnew_38 : decode cX11_startAnew 38 = .ok (.putfield 234, 3) := by decide +kernel
theorem dX11_startAnew_41 : decode cX11_startAnew 41 = .ok (.aload_n 0, 1) := by decide +kernel
theorem dX11_startAnew_42 : decode cX11_startAnew 42 = .ok (.iconst 0, 1) := by decide +kernel
theorem dX11_startAnew_43 : decode cX11_startAnew 43 = .ok (.putfield 237, 3) := by decide +kernel
theorem dX11_startAnew_46 : decode cX11_startAnew 46 = .ok (.iconst 0, 1) := by decide +kernel
theorem dX11_startAnew_47 : decode cX11_startAnew 47 = .ok (.istore_n 1, 1) := by decide +kernel
theorem dX11_startAnew_48 : decode cX11_startAnew 48 = .ok (.iload_n 1, 1) := by decide +kernel
theorem dX11_startAnew_49 : decode cX11_startAnew 49 = .ok (.iconst 2, 1) := by decide +kernel
theorem dX11_startAnew_50 : decode cX11_startAnew 50 = .ok (.if_icmp .ge 16, 3) := by decide +kernel
theorem dX11_startAnew_53 : decode cX11_startAnew 53 = .ok (.aload_n 0, 1) := by decide +kernel
theorem dX11_startAnew_54 : decode cX11_startAnew 54 = .ok (.getfield 101, 3) := by decide +kernel
theorem dX11_startAnew_57 : decode cX11_startAnew 57 = .ok (.iload_n 1, 1) := by decide +kernel
theorem dX11_startAnew_58 : decode cX11_startAnew 58 = .ok (.iconst 0, 1) := by decide +kernel
theorem dX11_startAnew_59 : decode cX11_startAnew 59 = .ok (.bastore, 1) := by decide +kernel
theorem dX11_startAnew_60 : decode cX11_startAnew 60 = .ok (.iinc 1 1, 3) := by decide +kernel
theorem dX11_startAnew_63 : decode cX11_startAnew 63 = .ok (.goto (-15), 3) := by decide +kernel
theorem dX11_startAnew_66 : decode cX11_startAnew 66 = .ok (.return_, 1) := by decide +kernel
section G21_model0_lean_txt
variable {p : Program} {l : Launch} {e : Env} {s : State} {m : MethodId} {args : Array Value} {below : List Frame} {meth : Method} {c : Code} {H : Heap} {locs : List Loc} {ls : Array Slot} {E : Ge} {L : Lay} {fu d : Nat}
def fX11_isIn_j15 (fu : Nat) (t0 : Int32) : Option Int32 :=
  gd (t0 = 0 ∨ t0 = 1) <|
  some t0
set_option maxRecDepth 100000 in
set_option maxHeartbeats 4000000 in
theorem wX11_isIn_j15 {r : Int32}   {t0 : Int32} {M : Mm} (B : Bx p s m args c cX11_isIn 3 RX11 E L) (hr : meth.sig.returnType = (some .boolean)) (hlk : meth.locks = false)   (h : fX11_isIn_j15 fu t0 = some r) (hR : Rx s E L M H locs) (hl : lv_has ls 3 []) : W p l e (rmD (d + 0)) s m args below meth c H locs 0 0 (MQ below (QcM E L (some (.int r)) M) args s 0 0 E.2.2.2) (F0 m 15 ls [.int t0]) := by
  have hx := B.1
  have hb := B.2.1
  unfold fX11_isIn_j15 at h
  obtain ⟨hz_15, h⟩ := gd_el h
  exact r_zretP B hR hr hlk hz_15 h dX11_isIn_15
def fX11_isIn_j14 (fu : Nat)  : Option Int32 :=
  fX11_isIn_j15 fu 0
set_option maxRecDepth 100000 in
set_option maxHeartbeats 4000000 in
theorem wX11_isIn_j14 {r : Int32}    {M : Mm} (B : Bx p s m args c cX11_isIn 3 RX11 E L) (hr : meth.sig.returnType = (some .boolean)) (hlk : meth.locks = false)   (h : fX11_isIn_j14 fu  = some r) (hR : Rx s E L M H locs) (hl : lv_has ls 3 []) : W p l e (rmD (d + 0)) s m args below meth c H locs 0 0 (MQ below (QcM E L (some (.int r)) M) args s 0 0 E.2.2.2) (F0 m 14 ls []) := by
  have hx := B.1
  have hb := B.2.1
  unfold fX11_isIn_j14 at h
  refine lv_iconst (v := 0) hx hb dX11_isIn_14 (by decide) ?_
  exact wX11_isIn_j15 B hr hlk  h hR hl
def fX11_isIn (fu : Nat) (x0 : Int32) (x1 : Int32) (x2 : Int32) : Option Int32 :=
  if x0 < x1 then
    fX11_isIn_j14 fu 
  else
    if x2 < x0 then
      fX11_isIn_j14 fu 
    else
      fX11_isIn_j15 fu 1
set_option maxRecDepth 100000 in
set_option maxHeartbeats 4000000 in
theorem mX11_isIn {l : Launch} {E : Ge} {L : Lay} (fu d : Nat) {x0 : Int32} {x1 : Int32} {x2 : Int32} {M : Mm} {r : Int32}   (h : fX11_isIn fu x0 x1 x2 = some r) : Ct l E L yX11_isIn cX11_isIn 3 (some .boolean) (d + 0) [.int x0, .int x1, .int x2] M (some (.int r)) M := by
  refine Ct.of (by decide) ?_
  intro p e s m below meth c hr hlk B hR
  have B : Bx p s m _ c cX11_isIn 3 RX11 E L := B
  have hx := B.1
  have hb := B.2.1
  have hl := lv_entry ([.int x0, .int x1, .int x2]) (n := 3) (Nat.le_of_ble_eq_true rfl)
  rw [lg_entry_eq]
  generalize (lg_sl ([.int x0, .int x1, .int x2]) ++ List.replicate (3 - (lg_sl ([.int x0, .int x1, .int x2])).length) Slot.unset).toArray = ls at hl ⊢
  have hl : lv_has ls 3 [(0, .int x0), (1, .int x1), (2, .int x2)] := hl
  unfold fX11_isIn at h
  refine lv_iload_n hx hb dX11_isIn_0 rfl (lv_at hl 0 rfl) ?_
  refine lv_iload_n hx hb dX11_isIn_1 rfl (lv_at hl 1 rfl) ?_
  refine lv_icmp_lt (tgt := 14) hx hb dX11_isIn_2 (by decide) (fun c_2 => ?_) (fun c_2 => ?_)
  · rw [if_pos c_2] at h
    exact wX11_isIn_j14 B hr hlk  h hR (lv_sub hl [] rfl)
  · rw [if_neg c_2] at h
    refine lv_iload_n hx hb dX11_isIn_5 rfl (lv_at hl 0 rfl) ?_
    refine lv_iload_n hx hb dX11_isIn_6 rfl (lv_at hl 2 rfl) ?_
    refine lv_icmp_gt (tgt := 14) hx hb dX11_isIn_7 (by decide) (fun c_7 => ?_) (fun c_7 => ?_)
    · rw [if_pos c_7] at h
      exact wX11_isIn_j14 B hr hlk  h hR (lv_sub hl [] rfl)
    · rw [if_neg c_7] at h
      refine lv_iconst (v := 1) hx hb dX11_isIn_10 (by decide) ?_
      refine lv_goto (tgt := 15) hx hb dX11_isIn_11 (by decide) ?_
      exact wX11_isIn_j15 B hr hlk  h hR (lv_sub hl [] rfl)
def fX11_less_j10 (fu : Nat) (t0 : Int32) : Option Int32 :=
  some t0
set_option maxRecDepth 100000 in
set_option maxHeartbeats 4000000 in
theorem wX11_less_j10 {r : Int32}   {t0 : Int32} {M : Mm} (B : Bx p s m args c cX11_less 2 RX11 E L) (hr : meth.sig.returnType = (some .int)) (hlk : meth.locks = false)   (h : fX11_less_j10 fu t0 = some r) (hR : Rx s E L M H locs) (hl : lv_has ls 2 []) : W p l e (rmD (d + 0)) s m args below meth c H locs 0 0 (MQ below (QcM E L (some (.int r)) M) args s 0 0 E.2.2.2) (F0 m 10 ls [.int t0]) := by
  have hx := B.1
  have hb := B.2.1
  unfold fX11_less_j10 at h
  exact r_iretP B hR hr hlk h dX11_less_10
def fX11_less (fu : Nat) (x0 : Int32) (x1 : Int32) : Option Int32 :=
  if x1 ≤ x0 then
    fX11_less_j10 fu x1
  else
    fX11_less_j10 fu x0
set_option maxRecDepth 100000 in
set_option maxHeartbeats 4000000 in
theorem mX11_less {l : Launch} {E : Ge} {L : Lay} (fu d : Nat) {x0 : Int32} {x1 : Int32} {M : Mm} {r : Int32}   (h : fX11_less fu x0 x1 = some r) : Ct l E L yX11_less cX11_less 2 (some .int) (d + 0) [.int x0, .int x1] M (some (.int r)) M := by
  refine Ct.of (by decide) ?_
  intro p e s m below meth c hr hlk B hR
  have B : Bx p s m _ c cX11_less 2 RX11 E L := B
  have hx := B.1
  have hb := B.2.1
  have hl := lv_entry ([.int x0, .int x1]) (n := 2) (Nat.le_of_ble_eq_true rfl)
  rw [lg_entry_eq]
  generalize (lg_sl ([.int x0, .int x1]) ++ List.replicate (2 - (lg_sl ([.int x0, .int x1])).length) Slot.unset).toArray = ls at hl ⊢
  have hl : lv_has ls 2 [(0, .int x0), (1, .int x1)] := hl
  unfold fX11_less at h
  refine lv_iload_n hx hb dX11_less_0 rfl (lv_at hl 0 rfl) ?_
  refine lv_iload_n hx hb dX11_less_1 rfl (lv_at hl 1 rfl) ?_
  refine lv_icmp_ge (tgt := 9) hx hb dX11_less_2 (by decide) (fun c_2 => ?_) (fun c_2 => ?_)
  · rw [if_pos c_2] at h
    refine lv_iload_n hx hb dX11_less_9 rfl (lv_at hl 1 rfl) ?_
    exact wX11_less_j10 B hr hlk  h hR (lv_sub hl [] rfl)
  · rw [if_neg c_2] at h
    refine lv_iload_n hx hb dX11_less_5 rfl (lv_at hl 0 rfl) ?_
    refine lv_goto (tgt := 10) hx hb dX11_less_6 (by decide) ?_
    exact wX11_less_j10 B hr hlk  h hR (lv_sub hl [] rfl)
def fX11_more_j10 (fu : Nat) (t0 : Int32) : Option Int32 :=
  some t0
set_option maxRecDepth 100000 in
set_option maxHeartbeats 4000000 in
theorem wX11_more_j10 {r : Int32}   {t0 : Int32} {M : Mm} (B : Bx p s m args c cX11_more 2 RX11 E L) (hr : meth.sig.returnType = (some .int)) (hlk : meth.locks = false)   (h : fX11_more_j10 fu t0 = some r) (hR : Rx s E L M H locs) (hl : lv_has ls 2 []) : W p l e (rmD (d + 0)) s m args below meth c H locs 0 0 (MQ below (QcM E L (some (.int r)) M) args s 0 0 E.2.2.2) (F0 m 10 ls [.int t0]) := by
  have hx := B.1
  have hb := B.2.1
  unfold fX11_more_j10 at h
  exact r_iretP B hR hr hlk h dX11_more_10
def fX11_more (fu : Nat) (x0 : Int32) (x1 : Int32) : Option Int32 :=
  if x0 ≤ x1 then
    fX11_more_j10 fu x1
  else
    fX11_more_j10 fu x0
set_option maxRecDepth 100000 in
set_option maxHeartbeats 4000000 in
theorem mX11_more {l : Launch} {E : Ge} {L : Lay} (fu d : Nat) {x0 : Int32} {x1 : Int32} {M : Mm} {r : Int32}   (h : fX11_more fu x0 x1 = some r) : Ct l E L yX11_more cX11_more 2 (some .int) (d + 0) [.int x0, .int x1] M (some (.int r)) M := by
  refine Ct.of (by decide) ?_
  intro p e s m below meth c hr hlk B hR
  have B : Bx p s m _ c cX11_more 2 RX11 E L := B
  have hx := B.1
  have hb := B.2.1
  have hl := lv_entry ([.int x0, .int x1]) (n := 2) (Nat.le_of_ble_eq_true rfl)
  rw [lg_entry_eq]
  generalize (lg_sl ([.int x0, .int x1]) ++ List.replicate (2 - (lg_sl ([.int x0, .int x1])).length) Slot.unset).toArray = ls at hl ⊢
  have hl : lv_has ls 2 [(0, .int x0), (1, .int x1)] := hl
  unfold fX11_more at h
  refine lv_iload_n hx hb dX11_more_0 rfl (lv_at hl 0 rfl) ?_
  refine lv_iload_n hx hb dX11_more_1 rfl (lv_at hl 1 rfl) ?_
  refine lv_icmp_le (tgt := 9) hx hb dX11_more_2 (by decide) (fun c_2 => ?_) (fun c_2 => ?_)
  · rw [if_pos c_2] at h
    refine lv_iload_n hx hb dX11_more_9 rfl (lv_at hl 1 rfl) ?_
    exact wX11_more_j10 B hr hlk  h hR (lv_sub hl [] rfl)
  · rw [if_neg c_2] at h
    refine lv_iload_n hx hb dX11_more_5 rfl (lv_at hl 0 rfl) ?_
    refine lv_goto (tgt := 10) hx hb dX11_more_6 (by decide) ?_
    exact wX11_more_j10 B hr hlk  h hR (lv_sub hl [] rfl)
def fX11_clearBank_j61 (fu : Nat) (M : Mm) : Option Mm :=
  some M
set_option maxRecDepth 100000 in
set_option maxHeartbeats 4000000 in
theorem wX11_clearBank_j61 {M' : Mm}    {M : Mm} (B : Bx p s m args c cX11_clearBank 3 RX11 E L) (hr : meth.sig.returnType = none) (hlk : meth.locks = false)   (h : fX11_clearBank_j61 fu M = some M') (hR : Rx s E L M H locs) (hl : lv_has ls 3 []) : W p l e (rmD (d + 0)) s m args below meth c H locs 0 0 (MQ below (QcM E L none M') args s 0 0 E.2.2.2) (F0 m 61 ls []) := by
  have hx := B.1
  have hb := B.2.1
  unfold fX11_clearBank_j61 at h
  exact r_vretW B hR hr hlk h dX11_clearBank_61
def fX11_clearBank_j54 (fu : Nat) (k25 : Int32 → Mm → Option Mm) (a0 : Nat) (x1 : Int32) (x2 : Int32) (b0 : Nat) (t1 : Int32) (t2 : Int32) (M : Mm) : Option Mm :=
  if t1 < 0 ∨ 280 ≤ ix t1 then none else
  lt (wI M b0 (ix t1) t2) fun M_54 =>
  lt (x2 + 1) fun x2_55 =>
  k25 x2_55 M_54
set_option maxRecDepth 100000 in
set_option maxHeartbeats 4000000 in
theorem wX11_clearBank_j54 {M' : Mm}  {k25 : Int32 → Mm → Option Mm} {a0 : Nat} {x1 : Int32} {x2 : Int32} {b0 : Nat} {t1 : Int32} {t2 : Int32} {M : Mm} (B : Bx p s m args c cX11_clearBank 3 RX11 E L) (hr : meth.sig.returnType = none) (hlk : meth.locks = false) (ih25 : ∀ (x2 : Int32) (M : Mm), k25 x2 M = some M' → ∀ (H : Heap) (locs : List Loc) (ls : Array Slot), Rx s E L M H locs → lv_has ls 3 [(0, .ref a0), (1, .int x1), (2, .int x2)] → W p l e (rmD (d + 0)) s m args below meth c H locs 0 0 (MQ below (QcM E L none M') args s 0 0 E.2.2.2) (F0 m 25 ls [])) (h0 : At L a0 T11) (g0 : (b0, (0, 280)) ∈ L) (h : fX11_clearBank_j54 fu k25 a0 x1 x2 b0 t1 t2 M = some M') (hR : Rx s E L M H locs) (hl : lv_has ls 3 [(0, .ref a0), (1, .int x1), (2, .int x2)]) : W p l e (rmD (d + 0)) s m args below meth c H locs 0 0 (MQ below (QcM E L none M') args s 0 0 E.2.2.2) (F0 m 54 ls [.int t2, .int t1, .ref b0]) := by
  have hx := B.1
  have hb := B.2.1
  unfold fX11_clearBank_j54 at h
  obtain ⟨hi_54, h⟩ := ifn_el h
  obtain ⟨M_54, eM_54, h⟩ := lt_el h
  refine r_iast B hR g0 hi_54 dX11_clearBank_54 (fun H locs hR => ?_)
  rw [← eM_54] at hR
  obtain ⟨x2_55, ex2_55, h⟩ := lt_el h
  refine lv_iinc (v := x2_55) (lv' := [(2, .int x2_55), (0, .ref a0), (1, .int x1)]) hx hb dX11_clearBank_55 hl (k := 2) rfl (by rw [ex2_55]; rfl) (by decide) rfl (fun ls hl => ?_)
  refine lv_goto (tgt := 25) hx hb dX11_clearBank_58 (by decide) ?_
  exact ih25 x2_55 M_54 h _ _ _ hR (lv_sub hl [1, 2, 0] rfl)
def fX11_clearBank_b25 (fu : Nat) (k25 : Int32 → Mm → Option Mm) (a0 : Nat) (x1 : Int32) (x2 : Int32) (M : Mm) : Option Mm :=
  if 140 ≤ x2 then
    fX11_clearBank_j61 fu M
  else
    if x2 < 76 then
      fX11_clearBank_j54 fu k25 a0 x1 x2 (a0 + 5) ((140 * x1) + x2) 0 M
    else
      fX11_clearBank_j54 fu k25 a0 x1 x2 (a0 + 5) ((140 * x1) + x2) 5 M
set_option maxRecDepth 100000 in
set_option maxHeartbeats 4000000 in
theorem wX11_clearBank_b25 {M' : Mm}   {k25 : Int32 → Mm → Option Mm} {a0 : Nat} {x1 : Int32} {x2 : Int32} {M : Mm} (B : Bx p s m args c cX11_clearBank 3 RX11 E L) (hr : meth.sig.returnType = none) (hlk : meth.locks = false)  (ih25 : ∀ (x2 : Int32) (M : Mm), k25 x2 M = some M' → ∀ (H : Heap) (locs : List Loc) (ls : Array Slot), Rx s E L M H locs → lv_has ls 3 [(0, .ref a0), (1, .int x1), (2, .int x2)] → W p l e (rmD (d + 0)) s m args below meth c H locs 0 0 (MQ below (QcM E L none M') args s 0 0 E.2.2.2) (F0 m 25 ls [])) (h0 : At L a0 T11) (h : fX11_clearBank_b25 fu k25 a0 x1 x2 M = some M') (hR : Rx s E L M H locs) (hl : lv_has ls 3 [(0, .ref a0), (1, .int x1), (2, .int x2)]) : W p l e (rmD (d + 0)) s m args below meth c H locs 0 0 (MQ below (QcM E L none M') args s 0 0 E.2.2.2) (F0 m 25 ls []) := by
  have hx := B.1
  have hb := B.2.1
  unfold fX11_clearBank_b25 at h
  refine lv_iload_n hx hb dX11_clearBank_25 rfl (lv_at hl 2 rfl) ?_
  refine lv_sipush (v := 140) hx hb dX11_clearBank_26 (by decide) ?_
  refine lv_icmp_ge (tgt := 61) hx hb dX11_clearBank_29 (by decide) (fun c_29 => ?_) (fun c_29 => ?_)
  · rw [if_pos c_29] at h
    exact wX11_clearBank_j61 B hr hlk  h hR (lv_sub hl [] rfl)
  · rw [if_neg c_29] at h
    refine lv_aload_n hx hb dX11_clearBank_32 rfl (lv_at hl 0 rfl) ?_
    refine gf_X11_22 B hR (h0.at0 rfl) dX11_clearBank_33 ?_
    refine lv_sipush (v := 140) hx hb dX11_clearBank_36 (by decide) ?_
    refine lv_iload_n hx hb dX11_clearBank_39 rfl (lv_at hl 1 rfl) ?_
    refine lv_imul hx hb dX11_clearBank_40 ?_
    refine lv_iload_n hx hb dX11_clearBank_41 rfl (lv_at hl 2 rfl) ?_
    refine lv_iadd hx hb dX11_clearBank_42 ?_
    refine lv_iload_n hx hb dX11_clearBank_43 rfl (lv_at hl 2 rfl) ?_
    refine lv_bipush (v := 76) hx hb dX11_clearBank_44 (by decide) ?_
    refine lv_icmp_lt (tgt := 53) hx hb dX11_clearBank_46 (by decide) (fun c_46 => ?_) (fun c_46 => ?_)
    · rw [if_pos c_46] at h
      refine lv_iconst (v := 0) hx hb dX11_clearBank_53 (by decide) ?_
      exact wX11_clearBank_j54 B hr hlk ih25 h0 (h0.at 5 rfl) h hR hl
    · rw [if_neg c_46] at h
      refine lv_iconst (v := 5) hx hb dX11_clearBank_49 (by decide) ?_
      refine lv_goto (tgt := 54) hx hb dX11_clearBank_50 (by decide) ?_
      exact wX11_clearBank_j54 B hr hlk ih25 h0 (h0.at 5 rfl) h hR hl
def fX11_clearBank_l25 (fu : Nat) (a0 : Nat) (x1 : Int32) (x2 : Int32) (M : Mm) : Option Mm := lp (fun (rec : (Int32 × Mm) → Option Mm) (s : Int32 × Mm) => fX11_clearBank_b25 fu  (fun x2 M => rec (x2, M)) a0 x1 s.1 s.2) fu (x2, M)
set_option maxRecDepth 100000 in
set_option maxHeartbeats 4000000 in
theorem wX11_clearBank_l25 {M' : Mm}   {a0 : Nat} {x1 : Int32} {x2 : Int32} {M : Mm} (B : Bx p s m args c cX11_clearBank 3 RX11 E L) (hr : meth.sig.returnType = none) (hlk : meth.locks = false)  (h0 : At L a0 T11) (h : fX11_clearBank_l25 fu a0 x1 x2 M = some M') (hR : Rx s E L M H locs) (hl : lv_has ls 3 [(0, .ref a0), (1, .int x1), (2, .int x2)]) : W p l e (rmD (d + 0)) s m args below meth c H locs 0 0 (MQ below (QcM E L none M') args s 0 0 E.2.2.2) (F0 m 25 ls []) := by
  refine lp_G (G := fun z : Int32 × Mm => ∀ (H : Heap) (locs : List Loc) (ls : Array Slot), Rx s E L z.2 H locs → lv_has ls 3 [(0, .ref a0), (1, .int x1), (2, .int z.1)] → W p l e (rmD (d + 0)) s m args below meth c H locs 0 0 (MQ below (QcM E L none M') args s 0 0 E.2.2.2) (F0 m 25 ls [])) (fun rec ih z h H locs ls hR hl => ?_) fu _ h H locs ls hR hl
  exact wX11_clearBank_b25 B hr hlk  (fun x2 M h => ih (x2, M) h) h0 h hR hl
def fX11_clearBank (fu : Nat) (a0 : Nat) (x1 : Int32) (M : Mm) : Option Mm :=
  if x1 < 0 ∨ 2 ≤ ix x1 then none else
  lt (wI M (a0 + 2) (ix x1) 8) fun M_7 =>
  lt (wI M_7 (a0 + 3) (ix x1) 8) fun M_15 =>
  lt (wI M_15 (a0 + 4) (ix x1) 0) fun M_22 =>
  fX11_clearBank_l25 fu a0 x1 0 M_22
set_option maxRecDepth 100000 in
set_option maxHeartbeats 4000000 in
theorem mX11_clearBank {l : Launch} {E : Ge} {L : Lay} (fu d : Nat) {a0 : Nat} {x1 : Int32} {M : Mm} {M' : Mm}  (h0 : At L a0 T11) (h : fX11_clearBank fu a0 x1 M = some M') : Ct l E L yX11_clearBank cX11_clearBank 3 none (d + 0) [.ref a0, .int x1] M none M' := by
  refine Ct.of (by decide) ?_
  intro p e s m below meth c hr hlk B hR
  have B : Bx p s m _ c cX11_clearBank 3 RX11 E L := B
  have hx := B.1
  have hb := B.2.1
  have hl := lv_entry ([.ref a0, .int x1]) (n := 3) (Nat.le_of_ble_eq_true rfl)
  rw [lg_entry_eq]
  generalize (lg_sl ([.ref a0, .int x1]) ++ List.replicate (3 - (lg_sl ([.ref a0, .int x1])).length) Slot.unset).toArray = ls at hl ⊢
  have hl : lv_has ls 3 [(0, .ref a0), (1, .int x1)] := hl
  unfold fX11_clearBank at h
  refine lv_aload_n hx hb dX11_clearBank_0 rfl (lv_at hl 0 rfl) ?_
  refine gf_X11_13 B hR (h0.at0 rfl) dX11_clearBank_1 ?_
  refine lv_iload_n hx hb dX11_clearBank_4 rfl (lv_at hl 1 rfl) ?_
  refine lv_bipush (v := 8) hx hb dX11_clearBank_5 (by decide) ?_
  obtain ⟨hi_7, h⟩ := ifn_el h
  obtain ⟨M_7, eM_7, h⟩ := lt_el h
  refine r_iast B hR (h0.at 2 rfl) hi_7 dX11_clearBank_7 (fun H locs hR => ?_)
  rw [← eM_7] at hR
  refine lv_aload_n hx hb dX11_clearBank_8 rfl (lv_at hl 0 rfl) ?_
  refine gf_X11_16 B hR (h0.at0 rfl) dX11_clearBank_9 ?_
  refine lv_iload_n hx hb dX11_clearBank_12 rfl (lv_at hl 1 rfl) ?_
  refine lv_bipush (v := 8) hx hb dX11_clearBank_13 (by decide) ?_
  obtain ⟨M_15, eM_15, h⟩ := lt_el h
  refine r_iast B hR (h0.at 3 rfl) hi_7 dX11_clearBank_15 (fun H locs hR => ?_)
  rw [← eM_15] at hR
  refine lv_aload_n hx hb dX11_clearBank_16 rfl (lv_at hl 0 rfl) ?_
  refine gf_X11_19 B hR (h0.at0 rfl) dX11_clearBank_17 ?_
  refine lv_iload_n hx hb dX11_clearBank_20 rfl (lv_at hl 1 rfl) ?_
  refine lv_iconst (v := 0) hx hb dX11_clearBank_21 (by decide) ?_
  obtain ⟨M_22, eM_22, h⟩ := lt_el h
  refine r_iast B hR (h0.at 4 rfl) hi_7 dX11_clearBank_22 (fun H locs hR => ?_)
  rw [← eM_22] at hR
  refine lv_iconst (v := 0) hx hb dX11_clearBank_23 (by decide) ?_
  refine lv_istore_n (lv' := [(2, .int 0), (0, .ref a0), (1, .int x1)]) hx hb dX11_clearBank_24 rfl hl (by decide) rfl (fun ls hl => ?_)
  exact wX11_clearBank_l25 B hr hlk h0 h hR (lv_sub hl [1, 2, 0] rfl)
def fX11_feed_j105 (fu : Nat) (a0 : Nat) (M : Mm) : Option (Int32 × Mm) :=
  lt (wI M a0 7 ((M.1 a0 7) + 20)) fun M_113 =>
  some ((M_113.1 a0 7), M_113)
set_option maxRecDepth 100000 in
set_option maxHeartbeats 4000000 in
theorem wX11_feed_j105 {r : Int32} {M' : Mm}   {a0 : Nat} {M : Mm} (B : Bx p s m args c cX11_feed 8 RX11 E L) (hr : meth.sig.returnType = (some .int)) (hlk : meth.locks = false)  (h0 : At L a0 T11) (h : fX11_feed_j105 fu a0 M = some (r, M')) (hR : Rx s E L M H locs) (hl : lv_has ls 8 [(0, .ref a0)]) : W p l e (rmD (d + 0)) s m args below meth c H locs 0 0 (MQ below (QcM E L (some (.int r)) M') args s 0 0 E.2.2.2) (F0 m 105 ls []) := by
  have hx := B.1
  have hb := B.2.1
  unfold fX11_feed_j105 at h
  refine lv_aload_n hx hb dX11_feed_105 rfl (lv_at hl 0 rfl) ?_
  refine lv_dup hx hb dX11_feed_106 rfl ?_
  refine gf_X11_111 B hR (h0.at0 rfl) dX11_feed_107 ?_
  refine lv_bipush (v := 20) hx hb dX11_feed_110 (by decide) ?_
  refine lv_iadd hx hb dX11_feed_112 ?_
  obtain ⟨M_113, eM_113, h⟩ := lt_el h
  refine pf_X11_111 B hR (h0.at0 rfl) dX11_feed_113 (fun H locs hR => ?_)
  rw [← eM_113] at hR
  refine lv_aload_n hx hb dX11_feed_116 rfl (lv_at hl 0 rfl) ?_
  refine gf_X11_111 B hR (h0.at0 rfl) dX11_feed_117 ?_
  exact r_iretW B hR hr hlk h dX11_feed_120
def fX11_feed_j71 (fu : Nat) (k18 : Int32 → Mm → Option (Int32 × Mm)) (a0 : Nat) (x1 : Int32) (x2 : Int32) (x3 : Int32) (x4 : Int32) (x5 : Int32) (x6 : Int32) (t0 : Int32) (M : Mm) : Option (Int32 × Mm) :=
  if ((M.1 a0 7) + x6) < 0 ∨ 800 ≤ ix ((M.1 a0 7) + x6) then none else
  lt (wI M (a0 + 6) (ix ((M.1 a0 7) + x6)) (vp_nar .byte (((t0 >>> ((24 - (8 * (x6 &&& 3))) &&& 31)) : Int32).toInt8.toInt32))) fun M_98 =>
  lt (x6 + 1) fun x6_99 =>
  k18 x6_99 M_98
set_option maxRecDepth 100000 in
set_option maxHeartbeats 4000000 in
theorem wX11_feed_j71 {r : Int32} {M' : Mm}  {k18 : Int32 → Mm → Option (Int32 × Mm)} {a0 : Nat} {x1 : Int32} {x2 : Int32} {x3 : Int32} {x4 : Int32} {x5 : Int32} {x6 : Int32} {t0 : Int32} {M : Mm} (B : Bx p s m args c cX11_feed 8 RX11 E L) (hr : meth.sig.returnType = (some .int)) (hlk : meth.locks = false) (ih18 : ∀ (x6 : Int32) (M : Mm), k18 x6 M = some (r, M') → ∀ (H : Heap) (locs : List Loc) (ls : Array Slot), Rx s E L M H locs → lv_has ls 8 [(0, .ref a0), (1, .int x1), (2, .int x2), (3, .int x3), (4, .int x4), (5, .int x5), (6, .int x6)] → W p l e (rmD (d + 0)) s m args below meth c H locs 0 0 (MQ below (QcM E L (some (.int r)) M') args s 0 0 E.2.2.2) (F0 m 18 ls [])) (h0 : At L a0 T11) (h : fX11_feed_j71 fu k18 a0 x1 x2 x3 x4 x5 x6 t0 M = some (r, M')) (hR : Rx s E L M H locs) (hl : lv_has ls 8 [(0, .ref a0), (1, .int x1), (2, .int x2), (3, .int x3), (4, .int x4), (5, .int x5), (6, .int x6)]) : W p l e (rmD (d + 0)) s m args below meth c H locs 0 0 (MQ below (QcM E L (some (.int r)) M') args s 0 0 E.2.2.2) (F0 m 71 ls [.int t0]) := by
  have hx := B.1
  have hb := B.2.1
  unfold fX11_feed_j71 at h
  refine lv_istore (lv' := [(7, .int t0), (0, .ref a0), (1, .int x1), (2, .int x2), (3, .int x3), (4, .int x4), (5, .int x5), (6, .int x6)]) hx hb dX11_feed_71 hl (by decide) rfl (fun ls hl => ?_)
  refine lv_aload_n hx hb dX11_feed_73 rfl (lv_at hl 1 rfl) ?_
  refine gf_X11_25 B hR (h0.at0 rfl) dX11_feed_74 ?_
  refine lv_aload_n hx hb dX11_feed_77 rfl (lv_at hl 1 rfl) ?_
  refine gf_X11_111 B hR (h0.at0 rfl) dX11_feed_78 ?_
  refine lv_iload hx hb dX11_feed_81 (lv_at hl 7 rfl) ?_
  refine lv_iadd hx hb dX11_feed_83 ?_
  refine lv_iload hx hb dX11_feed_84 (lv_at hl 0 rfl) ?_
  refine lv_bipush (v := 24) hx hb dX11_feed_86 (by decide) ?_
  refine lv_bipush (v := 8) hx hb dX11_feed_88 (by decide) ?_
  refine lv_iload hx hb dX11_feed_90 (lv_at hl 7 rfl) ?_
  refine lv_iconst (v := 3) hx hb dX11_feed_92 (by decide) ?_
  refine lv_iand hx hb dX11_feed_93 ?_
  refine lv_imul hx hb dX11_feed_94 ?_
  refine lv_isub hx hb dX11_feed_95 ?_
  refine lv_ishr hx hb dX11_feed_96 ?_
  refine lv_i2b hx hb dX11_feed_97 rfl ?_
  obtain ⟨hi_98, h⟩ := ifn_el h
  obtain ⟨M_98, eM_98, h⟩ := lt_el h
  refine r_bast B hR (h0.at 6 rfl) hi_98 dX11_feed_98 (fun H locs hR => ?_)
  rw [← eM_98] at hR
  obtain ⟨x6_99, ex6_99, h⟩ := lt_el h
  refine lv_iinc (v := x6_99) (lv' := [(6, .int x6_99), (7, .int t0), (0, .ref a0), (1, .int x1), (2, .int x2), (3, .int x3), (4, .int x4), (5, .int x5)]) hx hb dX11_feed_99 hl (k := 7) rfl (by rw [ex6_99]; rfl) (by decide) rfl (fun ls hl => ?_)
  refine lv_goto (tgt := 18) hx hb dX11_feed_102 (by decide) ?_
  exact ih18 x6_99 M_98 h _ _ _ hR (lv_sub hl [2, 3, 4, 5, 6, 7, 0] rfl)
def fX11_feed_b18 (fu : Nat) (k18 : Int32 → Mm → Option (Int32 × Mm)) (a0 : Nat) (x1 : Int32) (x2 : Int32) (x3 : Int32) (x4 : Int32) (x5 : Int32) (x6 : Int32) (M : Mm) : Option (Int32 × Mm) :=
  if 20 ≤ x6 then
    fX11_feed_j105 fu a0 M
  else
    if 4 ≤ x6 then
      if 8 ≤ x6 then
        if 12 ≤ x6 then
          if 16 ≤ x6 then
            fX11_feed_j71 fu k18 a0 x1 x2 x3 x4 x5 x6 x5 M
          else
            fX11_feed_j71 fu k18 a0 x1 x2 x3 x4 x5 x6 x4 M
        else
          fX11_feed_j71 fu k18 a0 x1 x2 x3 x4 x5 x6 x3 M
      else
        fX11_feed_j71 fu k18 a0 x1 x2 x3 x4 x5 x6 x2 M
    else
      fX11_feed_j71 fu k18 a0 x1 x2 x3 x4 x5 x6 x1 M
set_option maxRecDepth 100000 in
set_option maxHeartbeats 4000000 in
theorem wX11_feed_b18 {r : Int32} {M' : Mm}   {k18 : Int32 → Mm → Option (Int32 × Mm)} {a0 : Nat} {x1 : Int32} {x2 : Int32} {x3 : Int32} {x4 : Int32} {x5 : Int32} {x6 : Int32} {M : Mm} (B : Bx p s m args c cX11_feed 8 RX11 E L) (hr : meth.sig.returnType = (some .int)) (hlk : meth.locks = false)  (ih18 : ∀ (x6 : Int32) (M : Mm), k18 x6 M = some (r, M') → ∀ (H : Heap) (locs : List Loc) (ls : Array Slot), Rx s E L M H locs → lv_has ls 8 [(0, .ref a0), (1, .int x1), (2, .int x2), (3, .int x3), (4, .int x4), (5, .int x5), (6, .int x6)] → W p l e (rmD (d + 0)) s m args below meth c H locs 0 0 (MQ below (QcM E L (some (.int r)) M') args s 0 0 E.2.2.2) (F0 m 18 ls [])) (h0 : At L a0 T11) (h : fX11_feed_b18 fu k18 a0 x1 x2 x3 x4 x5 x6 M = some (r, M')) (hR : Rx s E L M H locs) (hl : lv_has ls 8 [(0, .ref a0), (1, .int x1), (2, .int x2), (3, .int x3), (4, .int x4), (5, .int x5), (6, .int x6)]) : W p l e (rmD (d + 0)) s m args below meth c H locs 0 0 (MQ below (QcM E L (some (.int r)) M') args s 0 0 E.2.2.2) (F0 m 18 ls []) := by
  have hx := B.1
  have hb := B.2.1
  unfold fX11_feed_b18 at h
  refine lv_iload hx hb dX11_feed_18 (lv_at hl 6 rfl) ?_
  refine lv_bipush (v := 20) hx hb dX11_feed_20 (by decide) ?_
  refine lv_icmp_ge (tgt := 105) hx hb dX11_feed_22 (by decide) (fun c_22 => ?_) (fun c_22 => ?_)
  · rw [if_pos c_22] at h
    exact wX11_feed_j105 B hr hlk h0 h hR (lv_sub hl [0] rfl)
  · rw [if_neg c_22] at h
    refine lv_iload hx hb dX11_feed_25 (lv_at hl 6 rfl) ?_
    refine lv_iconst (v := 4) hx hb dX11_feed_27 (by decide) ?_
    refine lv_icmp_ge (tgt := 35) hx hb dX11_feed_28 (by decide) (fun c_28 => ?_) (fun c_28 => ?_)
    · rw [if_pos c_28] at h
      refine lv_iload hx hb dX11_feed_35 (lv_at hl 6 rfl) ?_
      refine lv_bipush (v := 8) hx hb dX11_feed_37 (by decide) ?_
      refine lv_icmp_ge (tgt := 46) hx hb dX11_feed_39 (by decide) (fun c_39 => ?_) (fun c_39 => ?_)
      · rw [if_pos c_39] at h
        refine lv_iload hx hb dX11_feed_46 (lv_at hl 6 rfl) ?_
        refine lv_bipush (v := 12) hx hb dX11_feed_48 (by decide) ?_
        refine lv_icmp_ge (tgt := 57) hx hb dX11_feed_50 (by decide) (fun c_50 => ?_) (fun c_50 => ?_)
        · rw [if_pos c_50] at h
          refine lv_iload hx hb dX11_feed_57 (lv_at hl 6 rfl) ?_
          refine lv_bipush (v := 16) hx hb dX11_feed_59 (by decide) ?_
          refine lv_icmp_ge (tgt := 69) hx hb dX11_feed_61 (by decide) (fun c_61 => ?_) (fun c_61 => ?_)
          · rw [if_pos c_61] at h
            refine lv_iload hx hb dX11_feed_69 (lv_at hl 5 rfl) ?_
            exact wX11_feed_j71 B hr hlk ih18 h0 h hR hl
          · rw [if_neg c_61] at h
            refine lv_iload hx hb dX11_feed_64 (lv_at hl 4 rfl) ?_
            refine lv_goto (tgt := 71) hx hb dX11_feed_66 (by decide) ?_
            exact wX11_feed_j71 B hr hlk ih18 h0 h hR hl
        · rw [if_neg c_50] at h
          refine lv_iload_n hx hb dX11_feed_53 rfl (lv_at hl 3 rfl) ?_
          refine lv_goto (tgt := 71) hx hb dX11_feed_54 (by decide) ?_
          exact wX11_feed_j71 B hr hlk ih18 h0 h hR hl
      · rw [if_neg c_39] at h
        refine lv_iload_n hx hb dX11_feed_42 rfl (lv_at hl 2 rfl) ?_
        refine lv_goto (tgt := 71) hx hb dX11_feed_43 (by decide) ?_
        exact wX11_feed_j71 B hr hlk ih18 h0 h hR hl
    · rw [if_neg c_28] at h
      refine lv_iload_n hx hb dX11_feed_31 rfl (lv_at hl 1 rfl) ?_
      refine lv_goto (tgt := 71) hx hb dX11_feed_32 (by decide) ?_
      exact wX11_feed_j71 B hr hlk ih18 h0 h hR hl
def fX11_feed_l18 (fu : Nat) (a0 : Nat) (x1 : Int32) (x2 : Int32) (x3 : Int32) (x4 : Int32) (x5 : Int32) (x6 : Int32) (M : Mm) : Option (Int32 × Mm) := lp (fun (rec : (Int32 × Mm) → Option (Int32 × Mm)) (s : Int32 × Mm) => fX11_feed_b18 fu  (fun x6 M => rec (x6, M)) a0 x1 x2 x3 x4 x5 s.1 s.2) fu (x6, M)
set_option maxRecDepth 100000 in
set_option maxHeartbeats 4000000 in
theorem wX11_feed_l18 {r : Int32} {M' : Mm}   {a0 : Nat} {x1 : Int32} {x2 : Int32} {x3 : Int32} {x4 : Int32} {x5 : Int32} {x6 : Int32} {M : Mm} (B : Bx p s m args c cX11_feed 8 RX11 E L) (hr : meth.sig.returnType = (some .int)) (hlk : meth.locks = false)  (h0 : At L a0 T11) (h : fX11_feed_l18 fu a0 x1 x2 x3 x4 x5 x6 M = some (r, M')) (hR : Rx s E L M H locs) (hl : lv_has ls 8 [(0, .ref a0), (1, .int x1), (2, .int x2), (3, .int x3), (4, .int x4), (5, .int x5), (6, .int x6)]) : W p l e (rmD (d + 0)) s m args below meth c H locs 0 0 (MQ below (QcM E L (some (.int r)) M') args s 0 0 E.2.2.2) (F0 m 18 ls []) := by
  refine lp_G (G := fun z : Int32 × Mm => ∀ (H : Heap) (locs : List Loc) (ls : Array Slot), Rx s E L z.2 H locs → lv_has ls 8 [(0, .ref a0), (1, .int x1), (2, .int x2), (3, .int x3), (4, .int x4), (5, .int x5), (6, .int z.1)] → W p l e (rmD (d + 0)) s m args below meth c H locs 0 0 (MQ below (QcM E L (some (.int r)) M') args s 0 0 E.2.2.2) (F0 m 18 ls [])) (fun rec ih z h H locs ls hR hl => ?_) fu _ h H locs ls hR hl
  exact wX11_feed_b18 B hr hlk  (fun x6 M h => ih (x6, M) h) h0 h hR hl
def fX11_feed (fu : Nat) (a0 : Nat) (x1 : Int32) (x2 : Int32) (x3 : Int32) (x4 : Int32) (x5 : Int32) (M : Mm) : Option (Int32 × Mm) :=
  if ((M.1 a0 7) + 20) ≤ 800 then
    fX11_feed_l18 fu a0 x1 x2 x3 x4 x5 0 M
  else
    some ((-1), M)
set_option maxRecDepth 100000 in
set_option maxHeartbeats 4000000 in
theorem mX11_feed {l : Launch} {E : Ge} {L : Lay} (fu d : Nat) {a0 : Nat} {x1 : Int32} {x2 : Int32} {x3 : Int32} {x4 : Int32} {x5 : Int32} {M : Mm} {r : Int32} {M' : Mm}  (h0 : At L a0 T11) (h : fX11_feed fu a0 x1 x2 x3 x4 x5 M = some (r, M')) : Ct l E L yX11_feed cX11_feed 8 (some .int) (d + 0) [.ref a0, .int x1, .int x2, .int x3, .int x4, .int x5] M (some (.int r)) M' := by
  refine Ct.of (by decide) ?_
  intro p e s m below meth c hr hlk B hR
  have B : Bx p s m _ c cX11_feed 8 RX11 E L := B
  have hx := B.1
  have hb := B.2.1
  have hl := lv_entry ([.ref a0, .int x1, .int x2, .int x3, .int x4, .int x5]) (n := 8) (Nat.le_of_ble_eq_true rfl)
  rw [lg_entry_eq]
  generalize (lg_sl ([.ref a0, .int x1, .int x2, .int x3, .int x4, .int x5]) ++ List.replicate (8 - (lg_sl ([.ref a0, .int x1, .int x2, .int x3, .int x4, .int x5])).length) Slot.unset).toArray = ls at hl ⊢
  have hl : lv_has ls 8 [(0, .ref a0), (1, .int x1), (2, .int x2), (3, .int x3), (4, .int x4), (5, .int x5)] := hl
  unfold fX11_feed at h
  refine lv_aload_n hx hb dX11_feed_0 rfl (lv_at hl 0 rfl) ?_
  refine gf_X11_111 B hR (h0.at0 rfl) dX11_feed_1 ?_
  refine lv_bipush (v := 20) hx hb dX11_feed_4 (by decide) ?_
  refine lv_iadd hx hb dX11_feed_6 ?_
  refine lv_sipush (v := 800) hx hb dX11_feed_7 (by decide) ?_
  refine lv_icmp_le (tgt := 15) hx hb dX11_feed_10 (by decide) (fun c_10 => ?_) (fun c_10 => ?_)
  · rw [if_pos c_10] at h
    refine lv_iconst (v := 0) hx hb dX11_feed_15 (by decide) ?_
    refine lv_istore (lv' := [(6, .int 0), (0, .ref a0), (1, .int x1), (2, .int x2), (3, .int x3), (4, .int x4), (5, .int x5)]) hx hb dX11_feed_16 hl (by decide) rfl (fun ls hl => ?_)
    exact wX11_feed_l18 B hr hlk h0 h hR (lv_sub hl [1, 2, 3, 4, 5, 6, 0] rfl)
  · rw [if_neg c_10] at h
    refine lv_iconst (v := (-1)) hx hb dX11_feed_13 (by decide) ?_
    exact r_iretW B hR hr hlk h dX11_feed_14
def fX11_end_j12 (fu : Nat) (M : Mm) : Option (Int32 × Mm) :=
  some ((-1), M)
set_option maxRecDepth 100000 in
set_option maxHeartbeats 4000000 in
theorem wX11_end_j12 {r : Int32} {M' : Mm}    {M : Mm} (B : Bx p s m args c cX11_end 2 RX11 E L) (hr : meth.sig.returnType = (some .int)) (hlk : meth.locks = false)   (h : fX11_end_j12 fu M = some (r, M')) (hR : Rx s E L M H locs) (hl : lv_has ls 2 []) : W p l e (rmD (d + 0)) s m args below meth c H locs 0 0 (MQ below (QcM E L (some (.int r)) M') args s 0 0 E.2.2.2) (F0 m 12 ls []) := by
  have hx := B.1
  have hb := B.2.1
  unfold fX11_end_j12 at h
  refine lv_iconst (v := (-1)) hx hb dX11_end_12 (by decide) ?_
  exact r_iretW B hR hr hlk h dX11_end_13
def fX11_end (fu : Nat) (a0 : Nat) (x1 : Int32) (M : Mm) : Option (Int32 × Mm) :=
  if x1 < 0 then
    fX11_end_j12 fu M
  else
    if x1 ≤ (M.1 a0 7) then
      lt (wI M a0 7 x1) fun M_16 =>
      some (x1, M_16)
    else
      fX11_end_j12 fu M
set_option maxRecDepth 100000 in
set_option maxHeartbeats 4000000 in
theorem mX11_end {l : Launch} {E : Ge} {L : Lay} (fu d : Nat) {a0 : Nat} {x1 : Int32} {M : Mm} {r : Int32} {M' : Mm}  (h0 : At L a0 T11) (h : fX11_end fu a0 x1 M = some (r, M')) : Ct l E L yX11_end cX11_end 2 (some .int) (d + 0) [.ref a0, .int x1] M (some (.int r)) M' := by
  refine Ct.of (by decide) ?_
  intro p e s m below meth c hr hlk B hR
  have B : Bx p s m _ c cX11_end 2 RX11 E L := B
  have hx := B.1
  have hb := B.2.1
  have hl := lv_entry ([.ref a0, .int x1]) (n := 2) (Nat.le_of_ble_eq_true rfl)
  rw [lg_entry_eq]
  generalize (lg_sl ([.ref a0, .int x1]) ++ List.replicate (2 - (lg_sl ([.ref a0, .int x1])).length) Slot.unset).toArray = ls at hl ⊢
  have hl : lv_has ls 2 [(0, .ref a0), (1, .int x1)] := hl
  unfold fX11_end at h
  refine lv_iload_n hx hb dX11_end_0 rfl (lv_at hl 1 rfl) ?_
  refine lv_if_lt (tgt := 12) hx hb dX11_end_1 (by decide) (fun c_1 => ?_) (fun c_1 => ?_)
  · rw [if_pos c_1] at h
    exact wX11_end_j12 B hr hlk  h hR (lv_sub hl [] rfl)
  · rw [if_neg c_1] at h
    refine lv_iload_n hx hb dX11_end_4 rfl (lv_at hl 1 rfl) ?_
    refine lv_aload_n hx hb dX11_end_5 rfl (lv_at hl 0 rfl) ?_
    refine gf_X11_111 B hR (h0.at0 rfl) dX11_end_6 ?_
    refine lv_icmp_le (tgt := 14) hx hb dX11_end_9 (by decide) (fun c_9 => ?_) (fun c_9 => ?_)
    · rw [if_pos c_9] at h
      refine lv_aload_n hx hb dX11_end_14 rfl (lv_at hl 0 rfl) ?_
      refine lv_iload_n hx hb dX11_end_15 rfl (lv_at hl 1 rfl) ?_
      obtain ⟨M_16, eM_16, h⟩ := lt_el h
      refine pf_X11_111 B hR (h0.at0 rfl) dX11_end_16 (fun H locs hR => ?_)
      rw [← eM_16] at hR
      refine lv_iload_n hx hb dX11_end_19 rfl (lv_at hl 1 rfl) ?_
      exact r_iretW B hR hr hlk h dX11_end_20
    · rw [if_neg c_9] at h
      exact wX11_end_j12 B hr hlk  h hR (lv_sub hl [] rfl)
def fX11_signAt_j18 (fu : Nat) (t0 : Int32) (M : Mm) : Option Int32 :=
  some t0
set_option maxRecDepth 100000 in
set_option maxHeartbeats 4000000 in
theorem wX11_signAt_j18 {r : Int32}   {t0 : Int32} {M : Mm} (B : Bx p s m args c cX11_signAt 2 RX11 E L) (hr : meth.sig.returnType = (some .int)) (hlk : meth.locks = false)   (h : fX11_signAt_j18 fu t0 M = some r) (hR : Rx s E L M H locs) (hl : lv_has ls 2 []) : W p l e (rmD (d + 0)) s m args below meth c H locs 0 0 (MQ below (QcM E L (some (.int r)) M) args s 0 0 E.2.2.2) (F0 m 18 ls [.int t0]) := by
  have hx := B.1
  have hb := B.2.1
  unfold fX11_signAt_j18 at h
  exact r_iretP B hR hr hlk h dX11_signAt_18
def fX11_signAt (fu : Nat) (a0 : Nat) (x1 : Int32) (M : Mm) : Option Int32 :=
  if (M.1 a0 8) ≤ x1 then
    fX11_signAt_j18 fu 0 M
  else
    if x1 < 0 ∨ 800 ≤ ix x1 then none else
    fX11_signAt_j18 fu (M.1 (a0 + 6) (ix x1)) M
set_option maxRecDepth 100000 in
set_option maxHeartbeats 4000000 in
theorem mX11_signAt {l : Launch} {E : Ge} {L : Lay} (fu d : Nat) {a0 : Nat} {x1 : Int32} {M : Mm} {r : Int32}  (h0 : At L a0 T11) (h : fX11_signAt fu a0 x1 M = some r) : Ct l E L yX11_signAt cX11_signAt 2 (some .int) (d + 0) [.ref a0, .int x1] M (some (.int r)) M := by
  refine Ct.of (by decide) ?_
  intro p e s m below meth c hr hlk B hR
  have B : Bx p s m _ c cX11_signAt 2 RX11 E L := B
  have hx := B.1
  have hb := B.2.1
  have hl := lv_entry ([.ref a0, .int x1]) (n := 2) (Nat.le_of_ble_eq_true rfl)
  rw [lg_entry_eq]
  generalize (lg_sl ([.ref a0, .int x1]) ++ List.replicate (2 - (lg_sl ([.ref a0, .int x1])).length) Slot.unset).toArray = ls at hl ⊢
  have hl : lv_has ls 2 [(0, .ref a0), (1, .int x1)] := hl
  unfold fX11_signAt at h
  refine lv_iload_n hx hb dX11_signAt_0 rfl (lv_at hl 1 rfl) ?_
  refine lv_aload_n hx hb dX11_signAt_1 rfl (lv_at hl 0 rfl) ?_
  refine gf_X11_114 B hR (h0.at0 rfl) dX11_signAt_2 ?_
  refine lv_icmp_ge (tgt := 17) hx hb dX11_signAt_5 (by decide) (fun c_5 => ?_) (fun c_5 => ?_)
  · rw [if_pos c_5] at h
    refine lv_iconst (v := 0) hx hb dX11_signAt_17 (by decide) ?_
    exact wX11_signAt_j18 B hr hlk  h hR (lv_sub hl [] rfl)
  · rw [if_neg c_5] at h
    refine lv_aload_n hx hb dX11_signAt_8 rfl (lv_at hl 0 rfl) ?_
    refine gf_X11_25 B hR (h0.at0 rfl) dX11_signAt_9 ?_
    refine lv_iload_n hx hb dX11_signAt_12 rfl (lv_at hl 1 rfl) ?_
    obtain ⟨hi_13, h⟩ := ifn_el h
    refine r_bald B hR (h0.at 6 rfl) hi_13 dX11_signAt_13 ?_
    refine lv_goto (tgt := 18) hx hb dX11_signAt_14 (by decide) ?_
    exact wX11_signAt_j18 B hr hlk  h hR (lv_sub hl [] rfl)
def fX11_isLetter_j17 (fu : Nat) (t0 : Int32) : Option Int32 :=
  gd (t0 = 0 ∨ t0 = 1) <|
  some t0
set_option maxRecDepth 100000 in
set_option maxHeartbeats 4000000 in
theorem wX11_isLetter_j17 {r : Int32}   {t0 : Int32} {M : Mm} (B : Bx p s m args c cX11_isLetter 1 RX11 E L) (hr : meth.sig.returnType = (some .boolean)) (hlk : meth.locks = false)   (h : fX11_isLetter_j17 fu t0 = some r) (hR : Rx s E L M H locs) (hl : lv_has ls 1 []) : W p l e (rmD (d + 0)) s m args below meth c H locs 0 0 (MQ below (QcM E L (some (.int r)) M) args s 0 0 E.2.2.2) (F0 m 17 ls [.int t0]) := by
  have hx := B.1
  have hb := B.2.1
  unfold fX11_isLetter_j17 at h
  obtain ⟨hz_17, h⟩ := gd_el h
  exact r_zretP B hR hr hlk hz_17 h dX11_isLetter_17
def fX11_isLetter_j16 (fu : Nat)  : Option Int32 :=
  fX11_isLetter_j17 fu 0
set_option maxRecDepth 100000 in
set_option maxHeartbeats 4000000 in
theorem wX11_isLetter_j16 {r : Int32}    {M : Mm} (B : Bx p s m args c cX11_isLetter 1 RX11 E L) (hr : meth.sig.returnType = (some .boolean)) (hlk : meth.locks = false)   (h : fX11_isLetter_j16 fu  = some r) (hR : Rx s E L M H locs) (hl : lv_has ls 1 []) : W p l e (rmD (d + 0)) s m args below meth c H locs 0 0 (MQ below (QcM E L (some (.int r)) M) args s 0 0 E.2.2.2) (F0 m 16 ls []) := by
  have hx := B.1
  have hb := B.2.1
  unfold fX11_isLetter_j16 at h
  refine lv_iconst (v := 0) hx hb dX11_isLetter_16 (by decide) ?_
  exact wX11_isLetter_j17 B hr hlk  h hR hl
def fX11_isLetter (fu : Nat) (x0 : Int32) : Option Int32 :=
  if x0 < 97 then
    fX11_isLetter_j16 fu 
  else
    if 122 < x0 then
      fX11_isLetter_j16 fu 
    else
      fX11_isLetter_j17 fu 1
set_option maxRecDepth 100000 in
set_option maxHeartbeats 4000000 in
theorem mX11_isLetter {l : Launch} {E : Ge} {L : Lay} (fu d : Nat) {x0 : Int32} {M : Mm} {r : Int32}   (h : fX11_isLetter fu x0 = some r) : Ct l E L yX11_isLetter cX11_isLetter 1 (some .boolean) (d + 0) [.int x0] M (some (.int r)) M := by
  refine Ct.of (by decide) ?_
  intro p e s m below meth c hr hlk B hR
  have B : Bx p s m _ c cX11_isLetter 1 RX11 E L := B
  have hx := B.1
  have hb := B.2.1
  have hl := lv_entry ([.int x0]) (n := 1) (Nat.le_of_ble_eq_true rfl)
  rw [lg_entry_eq]
  generalize (lg_sl ([.int x0]) ++ List.replicate (1 - (lg_sl ([.int x0])).length) Slot.unset).toArray = ls at hl ⊢
  have hl : lv_has ls 1 [(0, .int x0)] := hl
  unfold fX11_isLetter at h
  refine lv_iload_n hx hb dX11_isLetter_0 rfl (lv_at hl 0 rfl) ?_
  refine lv_bipush (v := 97) hx hb dX11_isLetter_1 (by decide) ?_
  refine lv_icmp_lt (tgt := 16) hx hb dX11_isLetter_3 (by decide) (fun c_3 => ?_) (fun c_3 => ?_)
  · rw [if_pos c_3] at h
    exact wX11_isLetter_j16 B hr hlk  h hR (lv_sub hl [] rfl)
  · rw [if_neg c_3] at h
    refine lv_iload_n hx hb dX11_isLetter_6 rfl (lv_at hl 0 rfl) ?_
    refine lv_bipush (v := 122) hx hb dX11_isLetter_7 (by decide) ?_
    refine lv_icmp_gt (tgt := 16) hx hb dX11_isLetter_9 (by decide) (fun c_9 => ?_) (fun c_9 => ?_)
    · rw [if_pos c_9] at h
      exact wX11_isLetter_j16 B hr hlk  h hR (lv_sub hl [] rfl)
    · rw [if_neg c_9] at h
      refine lv_iconst (v := 1) hx hb dX11_isLetter_12 (by decide) ?_
      refine lv_goto (tgt := 17) hx hb dX11_isLetter_13 (by decide) ?_
      exact wX11_isLetter_j17 B hr hlk  h hR (lv_sub hl [] rfl)
def fX11_isDigit_j17 (fu : Nat) (t0 : Int32) : Option Int32 :=
  gd (t0 = 0 ∨ t0 = 1) <|
  some t0
set_option maxRecDepth 100000 in
set_option maxHeartbeats 4000000 in
theorem wX11_isDigit_j17 {r : Int32}   {t0 : Int32} {M : Mm} (B : Bx p s m args c cX11_isDigit 1 RX11 E L) (hr : meth.sig.returnType = (some .boolean)) (hlk : meth.locks = false)   (h : fX11_isDigit_j17 fu t0 = some r) (hR : Rx s E L M H locs) (hl : lv_has ls 1 []) : W p l e (rmD (d + 0)) s m args below meth c H locs 0 0 (MQ below (QcM E L (some (.int r)) M) args s 0 0 E.2.2.2) (F0 m 17 ls [.int t0]) := by
  have hx := B.1
  have hb := B.2.1
  unfold fX11_isDigit_j17 at h
  obtain ⟨hz_17, h⟩ := gd_el h
  exact r_zretP B hR hr hlk hz_17 h dX11_isDigit_17
def fX11_isDigit_j16 (fu : Nat)  : Option Int32 :=
  fX11_isDigit_j17 fu 0
set_option maxRecDepth 100000 in
set_option maxHeartbeats 4000000 in
theorem wX11_isDigit_j16 {r : Int32}    {M : Mm} (B : Bx p s m args c cX11_isDigit 1 RX11 E L) (hr : meth.sig.returnType = (some .boolean)) (hlk : meth.locks = false)   (h : fX11_isDigit_j16 fu  = some r) (hR : Rx s E L M H locs) (hl : lv_has ls 1 []) : W p l e (rmD (d + 0)) s m args below meth c H locs 0 0 (MQ below (QcM E L (some (.int r)) M) args s 0 0 E.2.2.2) (F0 m 16 ls []) := by
  have hx := B.1
  have hb := B.2.1
  unfold fX11_isDigit_j16 at h
  refine lv_iconst (v := 0) hx hb dX11_isDigit_16 (by decide) ?_
  exact wX11_isDigit_j17 B hr hlk  h hR hl
def fX11_isDigit (fu : Nat) (x0 : Int32) : Option Int32 :=
  if x0 < 48 then
    fX11_isDigit_j16 fu 
  else
    if 57 < x0 then
      fX11_isDigit_j16 fu 
    else
      fX11_isDigit_j17 fu 1
set_option maxRecDepth 100000 in
set_option maxHeartbeats 4000000 in
theorem mX11_isDigit {l : Launch} {E : Ge} {L : Lay} (fu d : Nat) {x0 : Int32} {M : Mm} {r : Int32}   (h : fX11_isDigit fu x0 = some r) : Ct l E L yX11_isDigit cX11_isDigit 1 (some .boolean) (d + 0) [.int x0] M (some (.int r)) M := by
  refine Ct.of (by decide) ?_
  intro p e s m below meth c hr hlk B hR
  have B : Bx p s m _ c cX11_isDigit 1 RX11 E L := B
  have hx := B.1
  have hb := B.2.1
  have hl := lv_entry ([.int x0]) (n := 1) (Nat.le_of_ble_eq_true rfl)
  rw [lg_entry_eq]
  generalize (lg_sl ([.int x0]) ++ List.replicate (1 - (lg_sl ([.int x0])).length) Slot.unset).toArray = ls at hl ⊢
  have hl : lv_has ls 1 [(0, .int x0)] := hl
  unfold fX11_isDigit at h
  refine lv_iload_n hx hb dX11_isDigit_0 rfl (lv_at hl 0 rfl) ?_
  refine lv_bipush (v := 48) hx hb dX11_isDigit_1 (by decide) ?_
  refine lv_icmp_lt (tgt := 16) hx hb dX11_isDigit_3 (by decide) (fun c_3 => ?_) (fun c_3 => ?_)
  · rw [if_pos c_3] at h
    exact wX11_isDigit_j16 B hr hlk  h hR (lv_sub hl [] rfl)
  · rw [if_neg c_3] at h
    refine lv_iload_n hx hb dX11_isDigit_6 rfl (lv_at hl 0 rfl) ?_
    refine lv_bipush (v := 57) hx hb dX11_isDigit_7 (by decide) ?_
    refine lv_icmp_gt (tgt := 16) hx hb dX11_isDigit_9 (by decide) (fun c_9 => ?_) (fun c_9 => ?_)
    · rw [if_pos c_9] at h
      exact wX11_isDigit_j16 B hr hlk  h hR (lv_sub hl [] rfl)
    · rw [if_neg c_9] at h
      refine lv_iconst (v := 1) hx hb dX11_isDigit_12 (by decide) ?_
      refine lv_goto (tgt := 17) hx hb dX11_isDigit_13 (by decide) ?_
      exact wX11_isDigit_j17 B hr hlk  h hR (lv_sub hl [] rfl)
def fX11_isBlank_j35 (fu : Nat) (t0 : Int32) (M : Mm) : Option Int32 :=
  gd (t0 = 0 ∨ t0 = 1) <|
  some t0
set_option maxRecDepth 100000 in
set_option maxHeartbeats 4000000 in
theorem wX11_isBlank_j35 {r : Int32}   {t0 : Int32} {M : Mm} (B : Bx p s m args c cX11_isBlank 2 RX11 E L) (hr : meth.sig.returnType = (some .boolean)) (hlk : meth.locks = false)   (h : fX11_isBlank_j35 fu t0 M = some r) (hR : Rx s E L M H locs) (hl : lv_has ls 2 []) : W p l e (rmD (d + 0)) s m args below meth c H locs 0 0 (MQ below (QcM E L (some (.int r)) M) args s 0 0 E.2.2.2) (F0 m 35 ls [.int t0]) := by
  have hx := B.1
  have hb := B.2.1
  unfold fX11_isBlank_j35 at h
  obtain ⟨hz_35, h⟩ := gd_el h
  exact r_zretP B hR hr hlk hz_35 h dX11_isBlank_35
def fX11_isBlank_j34 (fu : Nat) (M : Mm) : Option Int32 :=
  fX11_isBlank_j35 fu 0 M
set_option maxRecDepth 100000 in
set_option maxHeartbeats 4000000 in
theorem wX11_isBlank_j34 {r : Int32}    {M : Mm} (B : Bx p s m args c cX11_isBlank 2 RX11 E L) (hr : meth.sig.returnType = (some .boolean)) (hlk : meth.locks = false)   (h : fX11_isBlank_j34 fu M = some r) (hR : Rx s E L M H locs) (hl : lv_has ls 2 []) : W p l e (rmD (d + 0)) s m args below meth c H locs 0 0 (MQ below (QcM E L (some (.int r)) M) args s 0 0 E.2.2.2) (F0 m 34 ls []) := by
  have hx := B.1
  have hb := B.2.1
  unfold fX11_isBlank_j34 at h
  refine lv_iconst (v := 0) hx hb dX11_isBlank_34 (by decide) ?_
  exact wX11_isBlank_j35 B hr hlk  h hR hl
def fX11_isBlank_j30 (fu : Nat) (M : Mm) : Option Int32 :=
  fX11_isBlank_j35 fu 1 M
set_option maxRecDepth 100000 in
set_option maxHeartbeats 4000000 in
theorem wX11_isBlank_j30 {r : Int32}    {M : Mm} (B : Bx p s m args c cX11_isBlank 2 RX11 E L) (hr : meth.sig.returnType = (some .boolean)) (hlk : meth.locks = false)   (h : fX11_isBlank_j30 fu M = some r) (hR : Rx s E L M H locs) (hl : lv_has ls 2 []) : W p l e (rmD (d + 0)) s m args below meth c H locs 0 0 (MQ below (QcM E L (some (.int r)) M) args s 0 0 E.2.2.2) (F0 m 30 ls []) := by
  have hx := B.1
  have hb := B.2.1
  unfold fX11_isBlank_j30 at h
  refine lv_iconst (v := 1) hx hb dX11_isBlank_30 (by decide) ?_
  refine lv_goto (tgt := 35) hx hb dX11_isBlank_31 (by decide) ?_
  exact wX11_isBlank_j35 B hr hlk  h hR hl
def fX11_isBlank (fu : Nat) (a0 : Nat) (x1 : Int32) (M : Mm) : Option Int32 :=
  if (M.1 a0 8) ≤ x1 then
    fX11_isBlank_j34 fu M
  else
    if x1 < 0 ∨ 800 ≤ ix x1 then none else
    if (M.1 (a0 + 6) (ix x1)) = 32 then
      fX11_isBlank_j30 fu M
    else
      if (M.1 (a0 + 6) (ix x1)) = 10 then
        fX11_isBlank_j30 fu M
      else
        fX11_isBlank_j34 fu M
set_option maxRecDepth 100000 in
set_option maxHeartbeats 4000000 in
theorem mX11_isBlank {l : Launch} {E : Ge} {L : Lay} (fu d : Nat) {a0 : Nat} {x1 : Int32} {M : Mm} {r : Int32}  (h0 : At L a0 T11) (h : fX11_isBlank fu a0 x1 M = some r) : Ct l E L yX11_isBlank cX11_isBlank 2 (some .boolean) (d + 0) [.ref a0, .int x1] M (some (.int r)) M := by
  refine Ct.of (by decide) ?_
  intro p e s m below meth c hr hlk B hR
  have B : Bx p s m _ c cX11_isBlank 2 RX11 E L := B
  have hx := B.1
  have hb := B.2.1
  have hl := lv_entry ([.ref a0, .int x1]) (n := 2) (Nat.le_of_ble_eq_true rfl)
  rw [lg_entry_eq]
  generalize (lg_sl ([.ref a0, .int x1]) ++ List.replicate (2 - (lg_sl ([.ref a0, .int x1])).length) Slot.unset).toArray = ls at hl ⊢
  have hl : lv_has ls 2 [(0, .ref a0), (1, .int x1)] := hl
  unfold fX11_isBlank at h
  refine lv_iload_n hx hb dX11_isBlank_0 rfl (lv_at hl 1 rfl) ?_
  refine lv_aload_n hx hb dX11_isBlank_1 rfl (lv_at hl 0 rfl) ?_
  refine gf_X11_114 B hR (h0.at0 rfl) dX11_isBlank_2 ?_
  refine lv_icmp_ge (tgt := 34) hx hb dX11_isBlank_5 (by decide) (fun c_5 => ?_) (fun c_5 => ?_)
  · rw [if_pos c_5] at h
    exact wX11_isBlank_j34 B hr hlk  h hR (lv_sub hl [] rfl)
  · rw [if_neg c_5] at h
    refine lv_aload_n hx hb dX11_isBlank_8 rfl (lv_at hl 0 rfl) ?_
    refine gf_X11_25 B hR (h0.at0 rfl) dX11_isBlank_9 ?_
    refine lv_iload_n hx hb dX11_isBlank_12 rfl (lv_at hl 1 rfl) ?_
    obtain ⟨hi_13, h⟩ := ifn_el h
    refine r_bald B hR (h0.at 6 rfl) hi_13 dX11_isBlank_13 ?_
    refine lv_bipush (v := 32) hx hb dX11_isBlank_14 (by decide) ?_
    refine lv_icmp_eq (tgt := 30) hx hb dX11_isBlank_16 (by decide) (fun c_16 => ?_) (fun c_16 => ?_)
    · rw [if_pos c_16] at h
      exact wX11_isBlank_j30 B hr hlk  h hR (lv_sub hl [] rfl)
    · rw [if_neg c_16] at h
      refine lv_aload_n hx hb dX11_isBlank_19 rfl (lv_at hl 0 rfl) ?_
      refine gf_X11_25 B hR (h0.at0 rfl) dX11_isBlank_20 ?_
      refine lv_iload_n hx hb dX11_isBlank_23 rfl (lv_at hl 1 rfl) ?_
      refine r_bald B hR (h0.at 6 rfl) hi_13 dX11_isBlank_24 ?_
      refine lv_bipush (v := 10) hx hb dX11_isBlank_25 (by decide) ?_
      refine lv_icmp_ne (tgt := 34) hx hb dX11_isBlank_27 (by decide) (fun c_27 => ?_) (fun c_27 => ?_)
      · rw [if_neg c_27] at h
        exact wX11_isBlank_j34 B hr hlk  h hR (lv_sub hl [] rfl)
      · rw [if_pos c_27] at h
        exact wX11_isBlank_j30 B hr hlk  h hR (lv_sub hl [] rfl)
def fX11_isSame_j56 (fu : Nat) (M : Mm) : Option Int32 :=
  some 1
set_option maxRecDepth 100000 in
set_option maxHeartbeats 4000000 in
theorem wX11_isSame_j56 {r : Int32}    {M : Mm} (B : Bx p s m args c cX11_isSame 4 RX11 E L) (hr : meth.sig.returnType = (some .boolean)) (hlk : meth.locks = false)   (h : fX11_isSame_j56 fu M = some r) (hR : Rx s E L M H locs) (hl : lv_has ls 4 []) : W p l e (rmD (d + 0)) s m args below meth c H locs 0 0 (MQ below (QcM E L (some (.int r)) M) args s 0 0 E.2.2.2) (F0 m 56 ls []) := by
  have hx := B.1
  have hb := B.2.1
  unfold fX11_isSame_j56 at h
  refine lv_iconst (v := 1) hx hb dX11_isSame_56 (by decide) ?_
  exact r_zretP B hR hr hlk (Or.inr rfl) h dX11_isSame_57
def fX11_isSame_j48 (fu : Nat) (M : Mm) : Option Int32 :=
  some 0
set_option maxRecDepth 100000 in
set_option maxHeartbeats 4000000 in
theorem wX11_isSame_j48 {r : Int32}    {M : Mm} (B : Bx p s m args c cX11_isSame 4 RX11 E L) (hr : meth.sig.returnType = (some .boolean)) (hlk : meth.locks = false)   (h : fX11_isSame_j48 fu M = some r) (hR : Rx s E L M H locs) (hl : lv_has ls 4 []) : W p l e (rmD (d + 0)) s m args below meth c H locs 0 0 (MQ below (QcM E L (some (.int r)) M) args s 0 0 E.2.2.2) (F0 m 48 ls []) := by
  have hx := B.1
  have hb := B.2.1
  unfold fX11_isSame_j48 at h
  refine lv_iconst (v := 0) hx hb dX11_isSame_48 (by decide) ?_
  exact r_zretP B hR hr hlk (Or.inl rfl) h dX11_isSame_49
def fX11_isSame_b19 (fu : Nat) (k19 : Int32 → Option Int32) (a0 : Nat) (x1 : Int32) (x2 : Int32) (x3 : Int32) (M : Mm) : Option Int32 :=
  if (x2 - x1) ≤ x3 then
    fX11_isSame_j56 fu M
  else
    if (x1 + x3) < 0 ∨ 69 ≤ ix (x1 + x3) then none else
    if ((M.1 a0 10) + x3) < 0 ∨ 800 ≤ ix ((M.1 a0 10) + x3) then none else
    if (M.1 (a0 + 7) (ix (x1 + x3))) = (M.1 (a0 + 6) (ix ((M.1 a0 10) + x3))) then
      lt (x3 + 1) fun x3_50 =>
      k19 x3_50
    else
      fX11_isSame_j48 fu M
set_option maxRecDepth 100000 in
set_option maxHeartbeats 4000000 in
theorem wX11_isSame_b19 {r : Int32}   {k19 : Int32 → Option Int32} {a0 : Nat} {x1 : Int32} {x2 : Int32} {x3 : Int32} {M : Mm} (B : Bx p s m args c cX11_isSame 4 RX11 E L) (hr : meth.sig.returnType = (some .boolean)) (hlk : meth.locks = false)  (ih19 : ∀ (x3 : Int32), k19 x3 = some r → ∀ (H : Heap) (locs : List Loc) (ls : Array Slot), Rx s E L M H locs → lv_has ls 4 [(0, .ref a0), (1, .int x1), (2, .int x2), (3, .int x3)] → W p l e (rmD (d + 0)) s m args below meth c H locs 0 0 (MQ below (QcM E L (some (.int r)) M) args s 0 0 E.2.2.2) (F0 m 19 ls [])) (h0 : At L a0 T11) (h : fX11_isSame_b19 fu k19 a0 x1 x2 x3 M = some r) (hR : Rx s E L M H locs) (hl : lv_has ls 4 [(0, .ref a0), (1, .int x1), (2, .int x2), (3, .int x3)]) : W p l e (rmD (d + 0)) s m args below meth c H locs 0 0 (MQ below (QcM E L (some (.int r)) M) args s 0 0 E.2.2.2) (F0 m 19 ls []) := by
  have hx := B.1
  have hb := B.2.1
  unfold fX11_isSame_b19 at h
  refine lv_iload_n hx hb dX11_isSame_19 rfl (lv_at hl 3 rfl) ?_
  refine lv_iload_n hx hb dX11_isSame_20 rfl (lv_at hl 2 rfl) ?_
  refine lv_iload_n hx hb dX11_isSame_21 rfl (lv_at hl 1 rfl) ?_
  refine lv_isub hx hb dX11_isSame_22 ?_
  refine lv_icmp_ge (tgt := 56) hx hb dX11_isSame_23 (by decide) (fun c_23 => ?_) (fun c_23 => ?_)
  · rw [if_pos c_23] at h
    exact wX11_isSame_j56 B hr hlk  h hR (lv_sub hl [] rfl)
  · rw [if_neg c_23] at h
    refine lv_aload_n hx hb dX11_isSame_26 rfl (lv_at hl 0 rfl) ?_
    refine gf_X11_33 B hR (h0.at0 rfl) dX11_isSame_27 ?_
    refine lv_iload_n hx hb dX11_isSame_30 rfl (lv_at hl 1 rfl) ?_
    refine lv_iload_n hx hb dX11_isSame_31 rfl (lv_at hl 3 rfl) ?_
    refine lv_iadd hx hb dX11_isSame_32 ?_
    obtain ⟨hi_33, h⟩ := ifn_el h
    refine r_bald B hR (h0.at 7 rfl) hi_33 dX11_isSame_33 ?_
    refine lv_aload_n hx hb dX11_isSame_34 rfl (lv_at hl 0 rfl) ?_
    refine gf_X11_25 B hR (h0.at0 rfl) dX11_isSame_35 ?_
    refine lv_aload_n hx hb dX11_isSame_38 rfl (lv_at hl 0 rfl) ?_
    refine gf_X11_120 B hR (h0.at0 rfl) dX11_isSame_39 ?_
    refine lv_iload_n hx hb dX11_isSame_42 rfl (lv_at hl 3 rfl) ?_
    refine lv_iadd hx hb dX11_isSame_43 ?_
    obtain ⟨hi_44, h⟩ := ifn_el h
    refine r_bald B hR (h0.at 6 rfl) hi_44 dX11_isSame_44 ?_
    refine lv_icmp_eq (tgt := 50) hx hb dX11_isSame_45 (by decide) (fun c_45 => ?_) (fun c_45 => ?_)
    · rw [if_pos c_45] at h
      obtain ⟨x3_50, ex3_50, h⟩ := lt_el h
      refine lv_iinc (v := x3_50) (lv' := [(3, .int x3_50), (0, .ref a0), (1, .int x1), (2, .int x2)]) hx hb dX11_isSame_50 hl (k := 3) rfl (by rw [ex3_50]; rfl) (by decide) rfl (fun ls hl => ?_)
      refine lv_goto (tgt := 19) hx hb dX11_isSame_53 (by decide) ?_
      exact ih19 x3_50 h _ _ _ hR (lv_sub hl [1, 2, 3, 0] rfl)
    · rw [if_neg c_45] at h
      exact wX11_isSame_j48 B hr hlk  h hR (lv_sub hl [] rfl)
def fX11_isSame_l19 (fu : Nat) (a0 : Nat) (x1 : Int32) (x2 : Int32) (M : Mm) (x3 : Int32) : Option Int32 := lp (fun (rec : Int32 → Option Int32) (s : Int32) => fX11_isSame_b19 fu  (fun x3 => rec (x3)) a0 x1 x2 s M) fu (x3)
set_option maxRecDepth 100000 in
set_option maxHeartbeats 4000000 in
theorem wX11_isSame_l19 {r : Int32}   {a0 : Nat} {x1 : Int32} {x2 : Int32} {x3 : Int32} {M : Mm} (B : Bx p s m args c cX11_isSame 4 RX11 E L) (hr : meth.sig.returnType = (some .boolean)) (hlk : meth.locks = false)  (h0 : At L a0 T11) (h : fX11_isSame_l19 fu a0 x1 x2 M x3 = some r) (hR : Rx s E L M H locs) (hl : lv_has ls 4 [(0, .ref a0), (1, .int x1), (2, .int x2), (3, .int x3)]) : W p l e (rmD (d + 0)) s m args below meth c H locs 0 0 (MQ below (QcM E L (some (.int r)) M) args s 0 0 E.2.2.2) (F0 m 19 ls []) := by
  refine lp_G (G := fun z : Int32 => ∀ (H : Heap) (locs : List Loc) (ls : Array Slot), Rx s E L M H locs → lv_has ls 4 [(0, .ref a0), (1, .int x1), (2, .int x2), (3, .int z)] → W p l e (rmD (d + 0)) s m args below meth c H locs 0 0 (MQ below (QcM E L (some (.int r)) M) args s 0 0 E.2.2.2) (F0 m 19 ls [])) (fun rec ih z h H locs ls hR hl => ?_) fu _ h H locs ls hR hl
  exact wX11_isSame_b19 B hr hlk  (fun x3 h => ih (x3) h) h0 h hR hl
def fX11_isSame (fu : Nat) (a0 : Nat) (x1 : Int32) (x2 : Int32) (M : Mm) : Option Int32 :=
  if (x2 - x1) = ((M.1 a0 9) - (M.1 a0 10)) then
    fX11_isSame_l19 fu a0 x1 x2 M 0
  else
    some 0
set_option maxRecDepth 100000 in
set_option maxHeartbeats 4000000 in
theorem mX11_isSame {l : Launch} {E : Ge} {L : Lay} (fu d : Nat) {a0 : Nat} {x1 : Int32} {x2 : Int32} {M : Mm} {r : Int32}  (h0 : At L a0 T11) (h : fX11_isSame fu a0 x1 x2 M = some r) : Ct l E L yX11_isSame cX11_isSame 4 (some .boolean) (d + 0) [.ref a0, .int x1, .int x2] M (some (.int r)) M := by
  refine Ct.of (by decide) ?_
  intro p e s m below meth c hr hlk B hR
  have B : Bx p s m _ c cX11_isSame 4 RX11 E L := B
  have hx := B.1
  have hb := B.2.1
  have hl := lv_entry ([.ref a0, .int x1, .int x2]) (n := 4) (Nat.le_of_ble_eq_true rfl)
  rw [lg_entry_eq]
  generalize (lg_sl ([.ref a0, .int x1, .int x2]) ++ List.replicate (4 - (lg_sl ([.ref a0, .int x1, .int x2])).length) Slot.unset).toArray = ls at hl ⊢
  have hl : lv_has ls 4 [(0, .ref a0), (1, .int x1), (2, .int x2)] := hl
  unfold fX11_isSame at h
  refine lv_iload_n hx hb dX11_isSame_0 rfl (lv_at hl 2 rfl) ?_
  refine lv_iload_n hx hb dX11_isSame_1 rfl (lv_at hl 1 rfl) ?_
  refine lv_isub hx hb dX11_isSame_2 ?_
  refine lv_aload_n hx hb dX11_isSame_3 rfl (lv_at hl 0 rfl) ?_
  refine gf_X11_117 B hR (h0.at0 rfl) dX11_isSame_4 ?_
  refine lv_aload_n hx hb dX11_isSame_7 rfl (lv_at hl 0 rfl) ?_
  refine gf_X11_120 B hR (h0.at0 rfl) dX11_isSame_8 ?_
  refine lv_isub hx hb dX11_isSame_11 ?_
  refine lv_icmp_eq (tgt := 17) hx hb dX11_isSame_12 (by decide) (fun c_12 => ?_) (fun c_12 => ?_)
  · rw [if_pos c_12] at h
    refine lv_iconst (v := 0) hx hb dX11_isSame_17 (by decide) ?_
    refine lv_istore_n (lv' := [(3, .int 0), (0, .ref a0), (1, .int x1), (2, .int x2)]) hx hb dX11_isSame_18 rfl hl (by decide) rfl (fun ls hl => ?_)
    exact wX11_isSame_l19 B hr hlk h0 h hR (lv_sub hl [1, 2, 3, 0] rfl)
  · rw [if_neg c_12] at h
    refine lv_iconst (v := 0) hx hb dX11_isSame_15 (by decide) ?_
    exact r_zretP B hR hr hlk (Or.inl rfl) h dX11_isSame_16
def fX11_scanWord_j98 (fu : Nat) (M : Mm) : Option Mm :=
  some M
set_option maxRecDepth 100000 in
set_option maxHeartbeats 4000000 in
theorem wX11_scanWord_j98 {M' : Mm}    {M : Mm} (B : Bx p s m args c cX11_scanWord 4 RX11 E L) (hr : meth.sig.returnType = none) (hlk : meth.locks = false)   (h : fX11_scanWord_j98 fu M = some M') (hR : Rx s E L M H locs) (hl : lv_has ls 4 []) : W p l e (rmD (d + 1)) s m args below meth c H locs 0 0 (MQ below (QcM E L none M') args s 0 0 E.2.2.2) (F0 m 98 ls []) := by
  have hx := B.1
  have hb := B.2.1
  unfold fX11_scanWord_j98 at h
  exact r_vretW B hR hr hlk h dX11_scanWord_98
def fX11_scanWord_j88 (fu : Nat) (k49 : Int32 → Int32 → Mm → Option Mm) (a0 : Nat) (x2 : Int32) (x3 : Int32) (M : Mm) : Option Mm :=
  lt ((x3 + 1)) fun x1_91 =>
  lt (x2 + 1) fun x2_92 =>
  k49 x1_91 x2_92 M
set_option maxRecDepth 100000 in
set_option maxHeartbeats 4000000 in
theorem wX11_scanWord_j88 {M' : Mm}  {k49 : Int32 → Int32 → Mm → Option Mm} {a0 : Nat} {x2 : Int32} {x3 : Int32} {M : Mm} (B : Bx p s m args c cX11_scanWord 4 RX11 E L) (hr : meth.sig.returnType = none) (hlk : meth.locks = false) (ih49 : ∀ (x1 : Int32) (x2 : Int32) (M : Mm), k49 x1 x2 M = some M' → ∀ (H : Heap) (locs : List Loc) (ls : Array Slot), Rx s E L M H locs → lv_has ls 4 [(0, .ref a0), (1, .int x1), (2, .int x2)] → W p l e (rmD (d + 1)) s m args below meth c H locs 0 0 (MQ below (QcM E L none M') args s 0 0 E.2.2.2) (F0 m 49 ls [])) (h0 : At L a0 T11) (h : fX11_scanWord_j88 fu k49 a0 x2 x3 M = some M') (hR : Rx s E L M H locs) (hl : lv_has ls 4 [(0, .ref a0), (2, .int x2), (3, .int x3)]) : W p l e (rmD (d + 1)) s m args below meth c H locs 0 0 (MQ below (QcM E L none M') args s 0 0 E.2.2.2) (F0 m 88 ls []) := by
  have hx := B.1
  have hb := B.2.1
  unfold fX11_scanWord_j88 at h
  refine lv_iload_n hx hb dX11_scanWord_88 rfl (lv_at hl 2 rfl) ?_
  refine lv_iconst (v := 1) hx hb dX11_scanWord_89 (by decide) ?_
  refine lv_iadd hx hb dX11_scanWord_90 ?_
  obtain ⟨x1_91, ex1_91, h⟩ := lt_el h
  refine r_nmI ex1_91 ?_
  refine lv_istore_n (lv' := [(1, .int x1_91), (0, .ref a0), (2, .int x2), (3, .int x3)]) hx hb dX11_scanWord_91 rfl hl (by decide) rfl (fun ls hl => ?_)
  obtain ⟨x2_92, ex2_92, h⟩ := lt_el h
  refine lv_iinc (v := x2_92) (lv' := [(2, .int x2_92), (1, .int x1_91), (0, .ref a0), (3, .int x3)]) hx hb dX11_scanWord_92 hl (k := 2) rfl (by rw [ex2_92]; rfl) (by decide) rfl (fun ls hl => ?_)
  refine lv_goto (tgt := 49) hx hb dX11_scanWord_95 (by decide) ?_
  exact ih49 x1_91 x2_92 M h _ _ _ hR (lv_sub hl [2, 1, 0] rfl)
def fX11_scanWord_j74 (fu : Nat) (k49 : Int32 → Int32 → Mm → Option Mm) (a0 : Nat) (x1 : Int32) (x2 : Int32) (x3 : Int32) (M : Mm) : Option Mm :=
  bi (fX11_isSame fu a0 x1 x3 M) fun r_77 =>
  if r_77 = 0 then
    fX11_scanWord_j88 fu k49 a0 x2 x3 M
  else
    lt (wI M a0 13 x2) fun M_85 =>
    fX11_scanWord_j88 fu k49 a0 x2 x3 M_85
set_option maxRecDepth 100000 in
set_option maxHeartbeats 4000000 in
theorem wX11_scanWord_j74 {M' : Mm}  {k49 : Int32 → Int32 → Mm → Option Mm} {a0 : Nat} {x1 : Int32} {x2 : Int32} {x3 : Int32} {M : Mm} (B : Bx p s m args c cX11_scanWord 4 RX11 E L) (hr : meth.sig.returnType = none) (hlk : meth.locks = false) (ih49 : ∀ (x1 : Int32) (x2 : Int32) (M : Mm), k49 x1 x2 M = some M' → ∀ (H : Heap) (locs : List Loc) (ls : Array Slot), Rx s E L M H locs → lv_has ls 4 [(0, .ref a0), (1, .int x1), (2, .int x2)] → W p l e (rmD (d + 1)) s m args below meth c H locs 0 0 (MQ below (QcM E L none M') args s 0 0 E.2.2.2) (F0 m 49 ls [])) (h0 : At L a0 T11) (h : fX11_scanWord_j74 fu k49 a0 x1 x2 x3 M = some M') (hR : Rx s E L M H locs) (hl : lv_has ls 4 [(0, .ref a0), (1, .int x1), (2, .int x2), (3, .int x3)]) : W p l e (rmD (d + 1)) s m args below meth c H locs 0 0 (MQ below (QcM E L none M') args s 0 0 E.2.2.2) (F0 m 74 ls []) := by
  have hx := B.1
  have hb := B.2.1
  unfold fX11_scanWord_j74 at h
  refine lv_aload_n hx hb dX11_scanWord_74 rfl (lv_at hl 0 rfl) ?_
  refine lv_iload_n hx hb dX11_scanWord_75 rfl (lv_at hl 1 rfl) ?_
  refine lv_iload_n hx hb dX11_scanWord_76 rfl (lv_at hl 3 rfl) ?_
  obtain ⟨r_77, hc_77, h⟩ := bi_el h
  refine iv_X11_149 B hR (h0.at0 rfl) hl.1 (mX11_isSame fu _ h0 hc_77) (Nat.le_of_ble_eq_true rfl) dX11_scanWord_77 (fun H locs hR => ?_)
  refine lv_if_eq (tgt := 88) hx hb dX11_scanWord_80 (by decide) (fun c_80 => ?_) (fun c_80 => ?_)
  · rw [if_pos c_80] at h
    exact wX11_scanWord_j88 B hr hlk ih49 h0 h hR (lv_sub hl [0, 2, 3] rfl)
  · rw [if_neg c_80] at h
    refine lv_aload_n hx hb dX11_scanWord_83 rfl (lv_at hl 0 rfl) ?_
    refine lv_iload_n hx hb dX11_scanWord_84 rfl (lv_at hl 2 rfl) ?_
    obtain ⟨M_85, eM_85, h⟩ := lt_el h
    refine pf_X11_146 B hR (h0.at0 rfl) dX11_scanWord_85 (fun H locs hR => ?_)
    rw [← eM_85] at hR
    exact wX11_scanWord_j88 B hr hlk ih49 h0 h hR (lv_sub hl [0, 2, 3] rfl)
def fX11_scanWord_b57 (fu : Nat) (k49 : Int32 → Int32 → Mm → Option Mm) (k57 : Int32 → Option Mm) (a0 : Nat) (x1 : Int32) (x2 : Int32) (x3 : Int32) (M : Mm) : Option Mm :=
  if x3 < 0 ∨ 69 ≤ ix x3 then none else
  if (M.1 (a0 + 7) (ix x3)) = 32 then
    fX11_scanWord_j74 fu k49 a0 x1 x2 x3 M
  else
    lt (x3 + 1) fun x3_68 =>
    k57 x3_68
set_option maxRecDepth 100000 in
set_option maxHeartbeats 4000000 in
theorem wX11_scanWord_b57 {M' : Mm}  {k49 : Int32 → Int32 → Mm → Option Mm} {k57 : Int32 → Option Mm} {a0 : Nat} {x1 : Int32} {x2 : Int32} {x3 : Int32} {M : Mm} (B : Bx p s m args c cX11_scanWord 4 RX11 E L) (hr : meth.sig.returnType = none) (hlk : meth.locks = false) (ih49 : ∀ (x1 : Int32) (x2 : Int32) (M : Mm), k49 x1 x2 M = some M' → ∀ (H : Heap) (locs : List Loc) (ls : Array Slot), Rx s E L M H locs → lv_has ls 4 [(0, .ref a0), (1, .int x1), (2, .int x2)] → W p l e (rmD (d + 1)) s m args below meth c H locs 0 0 (MQ below (QcM E L none M') args s 0 0 E.2.2.2) (F0 m 49 ls [])) (ih57 : ∀ (x3 : Int32), k57 x3 = some M' → ∀ (H : Heap) (locs : List Loc) (ls : Array Slot), Rx s E L M H locs → lv_has ls 4 [(0, .ref a0), (1, .int x1), (2, .int x2), (3, .int x3)] → W p l e (rmD (d + 1)) s m args below meth c H locs 0 0 (MQ below (QcM E L none M') args s 0 0 E.2.2.2) (F0 m 57 ls [])) (h0 : At L a0 T11) (h : fX11_scanWord_b57 fu k49 k57 a0 x1 x2 x3 M = some M') (hR : Rx s E L M H locs) (hl : lv_has ls 4 [(0, .ref a0), (1, .int x1), (2, .int x2), (3, .int x3)]) : W p l e (rmD (d + 1)) s m args below meth c H locs 0 0 (MQ below (QcM E L none M') args s 0 0 E.2.2.2) (F0 m 57 ls []) := by
  have hx := B.1
  have hb := B.2.1
  unfold fX11_scanWord_b57 at h
  refine lv_aload_n hx hb dX11_scanWord_57 rfl (lv_at hl 0 rfl) ?_
  refine gf_X11_33 B hR (h0.at0 rfl) dX11_scanWord_58 ?_
  refine lv_iload_n hx hb dX11_scanWord_61 rfl (lv_at hl 3 rfl) ?_
  obtain ⟨hi_62, h⟩ := ifn_el h
  refine r_bald B hR (h0.at 7 rfl) hi_62 dX11_scanWord_62 ?_
  refine lv_bipush (v := 32) hx hb dX11_scanWord_63 (by decide) ?_
  refine lv_icmp_eq (tgt := 74) hx hb dX11_scanWord_65 (by decide) (fun c_65 => ?_) (fun c_65 => ?_)
  · rw [if_pos c_65] at h
    exact wX11_scanWord_j74 B hr hlk ih49 h0 h hR hl
  · rw [if_neg c_65] at h
    obtain ⟨x3_68, ex3_68, h⟩ := lt_el h
    refine lv_iinc (v := x3_68) (lv' := [(3, .int x3_68), (0, .ref a0), (1, .int x1), (2, .int x2)]) hx hb dX11_scanWord_68 hl (k := 3) rfl (by rw [ex3_68]; rfl) (by decide) rfl (fun ls hl => ?_)
    refine lv_goto (tgt := 57) hx hb dX11_scanWord_71 (by decide) ?_
    exact ih57 x3_68 h _ _ _ hR (lv_sub hl [1, 2, 3, 0] rfl)
def fX11_scanWord_l57 (fu : Nat) (k49 : Int32 → Int32 → Mm → Option Mm) (a0 : Nat) (x1 : Int32) (x2 : Int32) (M : Mm) (x3 : Int32) : Option Mm := lp (fun (rec : Int32 → Option Mm) (s : Int32) => fX11_scanWord_b57 fu k49 (fun x3 => rec (x3)) a0 x1 x2 s M) fu (x3)
set_option maxRecDepth 100000 in
set_option maxHeartbeats 4000000 in
theorem wX11_scanWord_l57 {M' : Mm}  {k49 : Int32 → Int32 → Mm → Option Mm} {a0 : Nat} {x1 : Int32} {x2 : Int32} {x3 : Int32} {M : Mm} (B : Bx p s m args c cX11_scanWord 4 RX11 E L) (hr : meth.sig.returnType = none) (hlk : meth.locks = false) (ih49 : ∀ (x1 : Int32) (x2 : Int32) (M : Mm), k49 x1 x2 M = some M' → ∀ (H : Heap) (locs : List Loc) (ls : Array Slot), Rx s E L M H locs → lv_has ls 4 [(0, .ref a0), (1, .int x1), (2, .int x2)] → W p l e (rmD (d + 1)) s m args below meth c H locs 0 0 (MQ below (QcM E L none M') args s 0 0 E.2.2.2) (F0 m 49 ls [])) (h0 : At L a0 T11) (h : fX11_scanWord_l57 fu k49 a0 x1 x2 M x3 = some M') (hR : Rx s E L M H locs) (hl : lv_has ls 4 [(0, .ref a0), (1, .int x1), (2, .int x2), (3, .int x3)]) : W p l e (rmD (d + 1)) s m args below meth c H locs 0 0 (MQ below (QcM E L none M') args s 0 0 E.2.2.2) (F0 m 57 ls []) := by
  refine lp_G (G := fun z : Int32 => ∀ (H : Heap) (locs : List Loc) (ls : Array Slot), Rx s E L M H locs → lv_has ls 4 [(0, .ref a0), (1, .int x1), (2, .int x2), (3, .int z)] → W p l e (rmD (d + 1)) s m args below meth c H locs 0 0 (MQ below (QcM E L none M') args s 0 0 E.2.2.2) (F0 m 57 ls [])) (fun rec ih z h H locs ls hR hl => ?_) fu _ h H locs ls hR hl
  exact wX11_scanWord_b57 B hr hlk ih49 (fun x3 h => ih (x3) h) h0 h hR hl
def fX11_scanWord_b49 (fu : Nat) (k49 : Int32 → Int32 → Mm → Option Mm) (a0 : Nat) (x1 : Int32) (x2 : Int32) (M : Mm) : Option Mm :=
  if 12 ≤ x2 then
    fX11_scanWord_j98 fu M
  else
    fX11_scanWord_l57 fu k49 a0 x1 x2 M x1
set_option maxRecDepth 100000 in
set_option maxHeartbeats 4000000 in
theorem wX11_scanWord_b49 {M' : Mm}   {k49 : Int32 → Int32 → Mm → Option Mm} {a0 : Nat} {x1 : Int32} {x2 : Int32} {M : Mm} (B : Bx p s m args c cX11_scanWord 4 RX11 E L) (hr : meth.sig.returnType = none) (hlk : meth.locks = false)  (ih49 : ∀ (x1 : Int32) (x2 : Int32) (M : Mm), k49 x1 x2 M = some M' → ∀ (H : Heap) (locs : List Loc) (ls : Array Slot), Rx s E L M H locs → lv_has ls 4 [(0, .ref a0), (1, .int x1), (2, .int x2)] → W p l e (rmD (d + 1)) s m args below meth c H locs 0 0 (MQ below (QcM E L none M') args s 0 0 E.2.2.2) (F0 m 49 ls [])) (h0 : At L a0 T11) (h : fX11_scanWord_b49 fu k49 a0 x1 x2 M = some M') (hR : Rx s E L M H locs) (hl : lv_has ls 4 [(0, .ref a0), (1, .int x1), (2, .int x2)]) : W p l e (rmD (d + 1)) s m args below meth c H locs 0 0 (MQ below (QcM E L none M') args s 0 0 E.2.2.2) (F0 m 49 ls []) := by
  have hx := B.1
  have hb := B.2.1
  unfold fX11_scanWord_b49 at h
  refine lv_iload_n hx hb dX11_scanWord_49 rfl (lv_at hl 2 rfl) ?_
  refine lv_bipush (v := 12) hx hb dX11_scanWord_50 (by decide) ?_
  refine lv_icmp_ge (tgt := 98) hx hb dX11_scanWord_52 (by decide) (fun c_52 => ?_) (fun c_52 => ?_)
  · rw [if_pos c_52] at h
    exact wX11_scanWord_j98 B hr hlk  h hR (lv_sub hl [] rfl)
  · rw [if_neg c_52] at h
    refine lv_iload_n hx hb dX11_scanWord_55 rfl (lv_at hl 1 rfl) ?_
    refine lv_istore_n (lv' := [(3, .int x1), (0, .ref a0), (1, .int x1), (2, .int x2)]) hx hb dX11_scanWord_56 rfl hl (by decide) rfl (fun ls hl => ?_)
    exact wX11_scanWord_l57 B hr hlk ih49 h0 h hR (lv_sub hl [1, 2, 3, 0] rfl)
def fX11_scanWord_l49 (fu : Nat) (a0 : Nat) (x1 : Int32) (x2 : Int32) (M : Mm) : Option Mm := lp (fun (rec : (Int32 × Int32 × Mm) → Option Mm) (s : Int32 × Int32 × Mm) => fX11_scanWord_b49 fu  (fun x1 x2 M => rec (x1, x2, M)) a0 s.1 s.2.1 s.2.2) fu (x1, x2, M)
set_option maxRecDepth 100000 in
set_option maxHeartbeats 4000000 in
theorem wX11_scanWord_l49 {M' : Mm}   {a0 : Nat} {x1 : Int32} {x2 : Int32} {M : Mm} (B : Bx p s m args c cX11_scanWord 4 RX11 E L) (hr : meth.sig.returnType = none) (hlk : meth.locks = false)  (h0 : At L a0 T11) (h : fX11_scanWord_l49 fu a0 x1 x2 M = some M') (hR : Rx s E L M H locs) (hl : lv_has ls 4 [(0, .ref a0), (1, .int x1), (2, .int x2)]) : W p l e (rmD (d + 1)) s m args below meth c H locs 0 0 (MQ below (QcM E L none M') args s 0 0 E.2.2.2) (F0 m 49 ls []) := by
  refine lp_G (G := fun z : Int32 × Int32 × Mm => ∀ (H : Heap) (locs : List Loc) (ls : Array Slot), Rx s E L z.2.2 H locs → lv_has ls 4 [(0, .ref a0), (1, .int z.1), (2, .int z.2.1)] → W p l e (rmD (d + 1)) s m args below meth c H locs 0 0 (MQ below (QcM E L none M') args s 0 0 E.2.2.2) (F0 m 49 ls [])) (fun rec ih z h H locs ls hR hl => ?_) fu _ h H locs ls hR hl
  exact wX11_scanWord_b49 B hr hlk  (fun x1 x2 M h => ih (x1, x2, M) h) h0 h hR hl
def fX11_scanWord_j40 (fu : Nat) (a0 : Nat) (M : Mm) : Option Mm :=
  lt (wI M a0 13 (-1)) fun M_42 =>
  fX11_scanWord_l49 fu a0 0 0 M_42
set_option maxRecDepth 100000 in
set_option maxHeartbeats 4000000 in
theorem wX11_scanWord_j40 {M' : Mm}   {a0 : Nat} {M : Mm} (B : Bx p s m args c cX11_scanWord 4 RX11 E L) (hr : meth.sig.returnType = none) (hlk : meth.locks = false)  (h0 : At L a0 T11) (h : fX11_scanWord_j40 fu a0 M = some M') (hR : Rx s E L M H locs) (hl : lv_has ls 4 [(0, .ref a0)]) : W p l e (rmD (d + 1)) s m args below meth c H locs 0 0 (MQ below (QcM E L none M') args s 0 0 E.2.2.2) (F0 m 40 ls []) := by
  have hx := B.1
  have hb := B.2.1
  unfold fX11_scanWord_j40 at h
  refine lv_aload_n hx hb dX11_scanWord_40 rfl (lv_at hl 0 rfl) ?_
  refine lv_iconst (v := (-1)) hx hb dX11_scanWord_41 (by decide) ?_
  obtain ⟨M_42, eM_42, h⟩ := lt_el h
  refine pf_X11_146 B hR (h0.at0 rfl) dX11_scanWord_42 (fun H locs hR => ?_)
  rw [← eM_42] at hR
  refine lv_iconst (v := 0) hx hb dX11_scanWord_45 (by decide) ?_
  refine lv_istore_n (lv' := [(1, .int 0), (0, .ref a0)]) hx hb dX11_scanWord_46 rfl hl (by decide) rfl (fun ls hl => ?_)
  refine lv_iconst (v := 0) hx hb dX11_scanWord_47 (by decide) ?_
  refine lv_istore_n (lv' := [(2, .int 0), (1, .int 0), (0, .ref a0)]) hx hb dX11_scanWord_48 rfl hl (by decide) rfl (fun ls hl => ?_)
  exact wX11_scanWord_l49 B hr hlk h0 h hR (lv_sub hl [2, 1, 0] rfl)
def fX11_scanWord_b13 (fu : Nat) (k13 : Mm → Option Mm) (a0 : Nat) (M : Mm) : Option Mm :=
  bi (fX11_signAt fu a0 (M.1 a0 9) M) fun r_18 =>
  bi (fX11_isLetter fu r_18) fun r_21 =>
  if r_21 = 0 then
    fX11_scanWord_j40 fu a0 M
  else
    lt (wI M a0 9 ((M.1 a0 9) + 1)) fun M_34 =>
    k13 M_34
set_option maxRecDepth 100000 in
set_option maxHeartbeats 4000000 in
theorem wX11_scanWord_b13 {M' : Mm}   {k13 : Mm → Option Mm} {a0 : Nat} {M : Mm} (B : Bx p s m args c cX11_scanWord 4 RX11 E L) (hr : meth.sig.returnType = none) (hlk : meth.locks = false)  (ih13 : ∀ (M : Mm), k13 M = some M' → ∀ (H : Heap) (locs : List Loc) (ls : Array Slot), Rx s E L M H locs → lv_has ls 4 [(0, .ref a0)] → W p l e (rmD (d + 1)) s m args below meth c H locs 0 0 (MQ below (QcM E L none M') args s 0 0 E.2.2.2) (F0 m 13 ls [])) (h0 : At L a0 T11) (h : fX11_scanWord_b13 fu k13 a0 M = some M') (hR : Rx s E L M H locs) (hl : lv_has ls 4 [(0, .ref a0)]) : W p l e (rmD (d + 1)) s m args below meth c H locs 0 0 (MQ below (QcM E L none M') args s 0 0 E.2.2.2) (F0 m 13 ls []) := by
  have hx := B.1
  have hb := B.2.1
  unfold fX11_scanWord_b13 at h
  refine lv_aload_n hx hb dX11_scanWord_13 rfl (lv_at hl 0 rfl) ?_
  refine lv_aload_n hx hb dX11_scanWord_14 rfl (lv_at hl 0 rfl) ?_
  refine gf_X11_117 B hR (h0.at0 rfl) dX11_scanWord_15 ?_
  obtain ⟨r_18, hc_18, h⟩ := bi_el h
  refine iv_X11_127 B hR (h0.at0 rfl) hl.1 (mX11_signAt fu _ h0 hc_18) (Nat.le_of_ble_eq_true rfl) dX11_scanWord_18 (fun H locs hR => ?_)
  obtain ⟨r_21, hc_21, h⟩ := bi_el h
  refine is_X11_134 B hR hl.1 (mX11_isLetter fu _  hc_21) (Nat.le_of_ble_eq_true rfl) dX11_scanWord_21 (fun H locs hR => ?_)
  refine lv_if_eq (tgt := 40) hx hb dX11_scanWord_24 (by decide) (fun c_24 => ?_) (fun c_24 => ?_)
  · rw [if_pos c_24] at h
    exact wX11_scanWord_j40 B hr hlk h0 h hR hl
  · rw [if_neg c_24] at h
    refine lv_aload_n hx hb dX11_scanWord_27 rfl (lv_at hl 0 rfl) ?_
    refine lv_dup hx hb dX11_scanWord_28 rfl ?_
    refine gf_X11_117 B hR (h0.at0 rfl) dX11_scanWord_29 ?_
    refine lv_iconst (v := 1) hx hb dX11_scanWord_32 (by decide) ?_
    refine lv_iadd hx hb dX11_scanWord_33 ?_
    obtain ⟨M_34, eM_34, h⟩ := lt_el h
    refine pf_X11_117 B hR (h0.at0 rfl) dX11_scanWord_34 (fun H locs hR => ?_)
    rw [← eM_34] at hR
    refine lv_goto (tgt := 13) hx hb dX11_scanWord_37 (by decide) ?_
    exact ih13 M_34 h _ _ _ hR hl
def fX11_scanWord_l13 (fu : Nat) (a0 : Nat) (M : Mm) : Option Mm := lp (fun (rec : Mm → Option Mm) (s : Mm) => fX11_scanWord_b13 fu  (fun M => rec (M)) a0 s) fu (M)
set_option maxRecDepth 100000 in
set_option maxHeartbeats 4000000 in
theorem wX11_scanWord_l13 {M' : Mm}   {a0 : Nat} {M : Mm} (B : Bx p s m args c cX11_scanWord 4 RX11 E L) (hr : meth.sig.returnType = none) (hlk : meth.locks = false)  (h0 : At L a0 T11) (h : fX11_scanWord_l13 fu a0 M = some M') (hR : Rx s E L M H locs) (hl : lv_has ls 4 [(0, .ref a0)]) : W p l e (rmD (d + 1)) s m args below meth c H locs 0 0 (MQ below (QcM E L none M') args s 0 0 E.2.2.2) (F0 m 13 ls []) := by
  refine lp_G (G := fun z : Mm => ∀ (H : Heap) (locs : List Loc) (ls : Array Slot), Rx s E L z H locs → lv_has ls 4 [(0, .ref a0)] → W p l e (rmD (d + 1)) s m args below meth c H locs 0 0 (MQ below (QcM E L none M') args s 0 0 E.2.2.2) (F0 m 13 ls [])) (fun rec ih z h H locs ls hR hl => ?_) fu _ h H locs ls hR hl
  exact wX11_scanWord_b13 B hr hlk  (fun M h => ih (M) h) h0 h hR hl
def fX11_scanWord (fu : Nat) (a0 : Nat) (M : Mm) : Option Mm :=
  lt (wI M a0 11 2) fun M_2 =>
  lt (wI M_2 a0 9 (M_2.1 a0 10)) fun M_10 =>
  fX11_scanWord_l13 fu a0 M_10
set_option maxRecDepth 100000 in
set_option maxHeartbeats 4000000 in
theorem mX11_scanWord {l : Launch} {E : Ge} {L : Lay} (fu d : Nat) {a0 : Nat} {M : Mm} {M' : Mm}  (h0 : At L a0 T11) (h : fX11_scanWord fu a0 M = some M') : Ct l E L yX11_scanWord cX11_scanWord 4 none (d + 1) [.ref a0] M none M' := by
  refine Ct.of (by decide) ?_
  intro p e s m below meth c hr hlk B hR
  have B : Bx p s m _ c cX11_scanWord 4 RX11 E L := B
  have hx := B.1
  have hb := B.2.1
  have hl := lv_entry ([.ref a0]) (n := 4) (Nat.le_of_ble_eq_true rfl)
  rw [lg_entry_eq]
  generalize (lg_sl ([.ref a0]) ++ List.replicate (4 - (lg_sl ([.ref a0])).length) Slot.unset).toArray = ls at hl ⊢
  have hl : lv_has ls 4 [(0, .ref a0)] := hl
  unfold fX11_scanWord at h
  refine lv_aload_n hx hb dX11_scanWord_0 rfl (lv_at hl 0 rfl) ?_
  refine lv_iconst (v := 2) hx hb dX11_scanWord_1 (by decide) ?_
  obtain ⟨M_2, eM_2, h⟩ := lt_el h
  refine pf_X11_131 B hR (h0.at0 rfl) dX11_scanWord_2 (fun H locs hR => ?_)
  rw [← eM_2] at hR
  refine lv_aload_n hx hb dX11_scanWord_5 rfl (lv_at hl 0 rfl) ?_
  refine lv_aload_n hx hb dX11_scanWord_6 rfl (lv_at hl 0 rfl) ?_
  refine gf_X11_120 B hR (h0.at0 rfl) dX11_scanWord_7 ?_
  obtain ⟨M_10, eM_10, h⟩ := lt_el h
  refine pf_X11_117 B hR (h0.at0 rfl) dX11_scanWord_10 (fun H locs hR => ?_)
  rw [← eM_10] at hR
  exact wX11_scanWord_l13 B hr hlk h0 h hR hl
def fX11_scanNumber_j84 (fu : Nat) (M : Mm) : Option Mm :=
  some M
set_option maxRecDepth 100000 in
set_option maxHeartbeats 4000000 in
theorem wX11_scanNumber_j84 {M' : Mm}    {M : Mm} (B : Bx p s m args c cX11_scanNumber 1 RX11 E L) (hr : meth.sig.returnType = none) (hlk : meth.locks = false)   (h : fX11_scanNumber_j84 fu M = some M') (hR : Rx s E L M H locs) (hl : lv_has ls 1 []) : W p l e (rmD (d + 1)) s m args below meth c H locs 0 0 (MQ below (QcM E L none M') args s 0 0 E.2.2.2) (F0 m 84 ls []) := by
  have hx := B.1
  have hb := B.2.1
  unfold fX11_scanNumber_j84 at h
  exact r_vretW B hR hr hlk h dX11_scanNumber_84
def fX11_scanNumber_j68 (fu : Nat) (k18 : Mm → Option Mm) (a0 : Nat) (b0 : Nat) (t1 : Int32) (M : Mm) : Option Mm :=
  lt (wI M b0 12 t1) fun M_68 =>
  lt (wI M_68 a0 9 ((M_68.1 a0 9) + 1)) fun M_78 =>
  k18 M_78
set_option maxRecDepth 100000 in
set_option maxHeartbeats 4000000 in
theorem wX11_scanNumber_j68 {M' : Mm}  {k18 : Mm → Option Mm} {a0 : Nat} {b0 : Nat} {t1 : Int32} {M : Mm} (B : Bx p s m args c cX11_scanNumber 1 RX11 E L) (hr : meth.sig.returnType = none) (hlk : meth.locks = false) (ih18 : ∀ (M : Mm), k18 M = some M' → ∀ (H : Heap) (locs : List Loc) (ls : Array Slot), Rx s E L M H locs → lv_has ls 1 [(0, .ref a0)] → W p l e (rmD (d + 1)) s m args below meth c H locs 0 0 (MQ below (QcM E L none M') args s 0 0 E.2.2.2) (F0 m 18 ls [])) (h0 : At L a0 T11) (g0 : At L b0 T11) (h : fX11_scanNumber_j68 fu k18 a0 b0 t1 M = some M') (hR : Rx s E L M H locs) (hl : lv_has ls 1 [(0, .ref a0)]) : W p l e (rmD (d + 1)) s m args below meth c H locs 0 0 (MQ below (QcM E L none M') args s 0 0 E.2.2.2) (F0 m 68 ls [.int t1, .ref b0]) := by
  have hx := B.1
  have hb := B.2.1
  unfold fX11_scanNumber_j68 at h
  obtain ⟨M_68, eM_68, h⟩ := lt_el h
  refine pf_X11_153 B hR (g0.at0 rfl) dX11_scanNumber_68 (fun H locs hR => ?_)
  rw [← eM_68] at hR
  refine lv_aload_n hx hb dX11_scanNumber_71 rfl (lv_at hl 0 rfl) ?_
  refine lv_dup hx hb dX11_scanNumber_72 rfl ?_
  refine gf_X11_117 B hR (h0.at0 rfl) dX11_scanNumber_73 ?_
  refine lv_iconst (v := 1) hx hb dX11_scanNumber_76 (by decide) ?_
  refine lv_iadd hx hb dX11_scanNumber_77 ?_
  obtain ⟨M_78, eM_78, h⟩ := lt_el h
  refine pf_X11_117 B hR (h0.at0 rfl) dX11_scanNumber_78 (fun H locs hR => ?_)
  rw [← eM_78] at hR
  refine lv_goto (tgt := 18) hx hb dX11_scanNumber_81 (by decide) ?_
  exact ih18 M_78 h _ _ _ hR hl
def fX11_scanNumber_b18 (fu : Nat) (k18 : Mm → Option Mm) (a0 : Nat) (M : Mm) : Option Mm :=
  bi (fX11_signAt fu a0 (M.1 a0 9) M) fun r_23 =>
  bi (fX11_isDigit fu r_23) fun r_26 =>
  if r_26 = 0 then
    fX11_scanNumber_j84 fu M
  else
    if (M.1 a0 12) ≤ 99999 then
      bi (fX11_signAt fu a0 (M.1 a0 9) M) fun r_61 =>
      fX11_scanNumber_j68 fu k18 a0 a0 (((10 * (M.1 a0 12)) + r_61) - 48) M
    else
      fX11_scanNumber_j68 fu k18 a0 a0 (M.1 a0 12) M
set_option maxRecDepth 100000 in
set_option maxHeartbeats 4000000 in
theorem wX11_scanNumber_b18 {M' : Mm}   {k18 : Mm → Option Mm} {a0 : Nat} {M : Mm} (B : Bx p s m args c cX11_scanNumber 1 RX11 E L) (hr : meth.sig.returnType = none) (hlk : meth.locks = false)  (ih18 : ∀ (M : Mm), k18 M = some M' → ∀ (H : Heap) (locs : List Loc) (ls : Array Slot), Rx s E L M H locs → lv_has ls 1 [(0, .ref a0)] → W p l e (rmD (d + 1)) s m args below meth c H locs 0 0 (MQ below (QcM E L none M') args s 0 0 E.2.2.2) (F0 m 18 ls [])) (h0 : At L a0 T11) (h : fX11_scanNumber_b18 fu k18 a0 M = some M') (hR : Rx s E L M H locs) (hl : lv_has ls 1 [(0, .ref a0)]) : W p l e (rmD (d + 1)) s m args below meth c H locs 0 0 (MQ below (QcM E L none M') args s 0 0 E.2.2.2) (F0 m 18 ls []) := by
  have hx := B.1
  have hb := B.2.1
  unfold fX11_scanNumber_b18 at h
  refine lv_aload_n hx hb dX11_scanNumber_18 rfl (lv_at hl 0 rfl) ?_
  refine lv_aload_n hx hb dX11_scanNumber_19 rfl (lv_at hl 0 rfl) ?_
  refine gf_X11_117 B hR (h0.at0 rfl) dX11_scanNumber_20 ?_
  obtain ⟨r_23, hc_23, h⟩ := bi_el h
  refine iv_X11_127 B hR (h0.at0 rfl) hl.1 (mX11_signAt fu _ h0 hc_23) (Nat.le_of_ble_eq_true rfl) dX11_scanNumber_23 (fun H locs hR => ?_)
  obtain ⟨r_26, hc_26, h⟩ := bi_el h
  refine is_X11_140 B hR hl.1 (mX11_isDigit fu _  hc_26) (Nat.le_of_ble_eq_true rfl) dX11_scanNumber_26 (fun H locs hR => ?_)
  refine lv_if_eq (tgt := 84) hx hb dX11_scanNumber_29 (by decide) (fun c_29 => ?_) (fun c_29 => ?_)
  · rw [if_pos c_29] at h
    exact wX11_scanNumber_j84 B hr hlk  h hR (lv_sub hl [] rfl)
  · rw [if_neg c_29] at h
    refine lv_aload_n hx hb dX11_scanNumber_32 rfl (lv_at hl 0 rfl) ?_
    refine lv_aload_n hx hb dX11_scanNumber_33 rfl (lv_at hl 0 rfl) ?_
    refine gf_X11_153 B hR (h0.at0 rfl) dX11_scanNumber_34 ?_
    refine lc_X11_156 B dX11_scanNumber_37 ?_
    refine lv_icmp_le (tgt := 49) hx hb dX11_scanNumber_39 (by decide) (fun c_39 => ?_) (fun c_39 => ?_)
    · rw [if_pos c_39] at h
      refine lv_bipush (v := 10) hx hb dX11_scanNumber_49 (by decide) ?_
      refine lv_aload_n hx hb dX11_scanNumber_51 rfl (lv_at hl 0 rfl) ?_
      refine gf_X11_153 B hR (h0.at0 rfl) dX11_scanNumber_52 ?_
      refine lv_imul hx hb dX11_scanNumber_55 ?_
      refine lv_aload_n hx hb dX11_scanNumber_56 rfl (lv_at hl 0 rfl) ?_
      refine lv_aload_n hx hb dX11_scanNumber_57 rfl (lv_at hl 0 rfl) ?_
      refine gf_X11_117 B hR (h0.at0 rfl) dX11_scanNumber_58 ?_
      obtain ⟨r_61, hc_61, h⟩ := bi_el h
      refine iv_X11_127 B hR (h0.at0 rfl) hl.1 (mX11_signAt fu _ h0 hc_61) (Nat.le_of_ble_eq_true rfl) dX11_scanNumber_61 (fun H locs hR => ?_)
      refine lv_iadd hx hb dX11_scanNumber_64 ?_
      refine lv_bipush (v := 48) hx hb dX11_scanNumber_65 (by decide) ?_
      refine lv_isub hx hb dX11_scanNumber_67 ?_
      exact wX11_scanNumber_j68 B hr hlk ih18 h0 h0 h hR hl
    · rw [if_neg c_39] at h
      refine lv_aload_n hx hb dX11_scanNumber_42 rfl (lv_at hl 0 rfl) ?_
      refine gf_X11_153 B hR (h0.at0 rfl) dX11_scanNumber_43 ?_
      refine lv_goto (tgt := 68) hx hb dX11_scanNumber_46 (by decide) ?_
      exact wX11_scanNumber_j68 B hr hlk ih18 h0 h0 h hR hl
def fX11_scanNumber_l18 (fu : Nat) (a0 : Nat) (M : Mm) : Option Mm := lp (fun (rec : Mm → Option Mm) (s : Mm) => fX11_scanNumber_b18 fu  (fun M => rec (M)) a0 s) fu (M)
set_option maxRecDepth 100000 in
set_option maxHeartbeats 4000000 in
theorem wX11_scanNumber_l18 {M' : Mm}   {a0 : Nat} {M : Mm} (B : Bx p s m args c cX11_scanNumber 1 RX11 E L) (hr : meth.sig.returnType = none) (hlk : meth.locks = false)  (h0 : At L a0 T11) (h : fX11_scanNumber_l18 fu a0 M = some M') (hR : Rx s E L M H locs) (hl : lv_has ls 1 [(0, .ref a0)]) : W p l e (rmD (d + 1)) s m args below meth c H locs 0 0 (MQ below (QcM E L none M') args s 0 0 E.2.2.2) (F0 m 18 ls []) := by
  refine lp_G (G := fun z : Mm => ∀ (H : Heap) (locs : List Loc) (ls : Array Slot), Rx s E L z H locs → lv_has ls 1 [(0, .ref a0)] → W p l e (rmD (d + 1)) s m args below meth c H locs 0 0 (MQ below (QcM E L none M') args s 0 0 E.2.2.2) (F0 m 18 ls [])) (fun rec ih z h H locs ls hR hl => ?_) fu _ h H locs ls hR hl
  exact wX11_scanNumber_b18 B hr hlk  (fun M h => ih (M) h) h0 h hR hl
def fX11_scanNumber (fu : Nat) (a0 : Nat) (M : Mm) : Option Mm :=
  lt (wI M a0 11 3) fun M_2 =>
  lt (wI M_2 a0 12 0) fun M_7 =>
  lt (wI M_7 a0 9 (M_7.1 a0 10)) fun M_15 =>
  fX11_scanNumber_l18 fu a0 M_15
set_option maxRecDepth 100000 in
set_option maxHeartbeats 4000000 in
theorem mX11_scanNumber {l : Launch} {E : Ge} {L : Lay} (fu d : Nat) {a0 : Nat} {M : Mm} {M' : Mm}  (h0 : At L a0 T11) (h : fX11_scanNumber fu a0 M = some M') : Ct l E L yX11_scanNumber cX11_scanNumber 1 none (d + 1) [.ref a0] M none M' := by
  refine Ct.of (by decide) ?_
  intro p e s m below meth c hr hlk B hR
  have B : Bx p s m _ c cX11_scanNumber 1 RX11 E L := B
  have hx := B.1
  have hb := B.2.1
  have hl := lv_entry ([.ref a0]) (n := 1) (Nat.le_of_ble_eq_true rfl)
  rw [lg_entry_eq]
  generalize (lg_sl ([.ref a0]) ++ List.replicate (1 - (lg_sl ([.ref a0])).length) Slot.unset).toArray = ls at hl ⊢
  have hl : lv_has ls 1 [(0, .ref a0)] := hl
  unfold fX11_scanNumber at h
  refine lv_aload_n hx hb dX11_scanNumber_0 rfl (lv_at hl 0 rfl) ?_
  refine lv_iconst (v := 3) hx hb dX11_scanNumber_1 (by decide) ?_
  obtain ⟨M_2, eM_2, h⟩ := lt_el h
  refine pf_X11_131 B hR (h0.at0 rfl) dX11_scanNumber_2 (fun H locs hR => ?_)
  rw [← eM_2] at hR
  refine lv_aload_n hx hb dX11_scanNumber_5 rfl (lv_at hl 0 rfl) ?_
  refine lv_iconst (v := 0) hx hb dX11_scanNumber_6 (by decide) ?_
  obtain ⟨M_7, eM_7, h⟩ := lt_el h
  refine pf_X11_153 B hR (h0.at0 rfl) dX11_scanNumber_7 (fun H locs hR => ?_)
  rw [← eM_7] at hR
  refine lv_aload_n hx hb dX11_scanNumber_10 rfl (lv_at hl 0 rfl) ?_
  refine lv_aload_n hx hb dX11_scanNumber_11 rfl (lv_at hl 0 rfl) ?_
  refine gf_X11_120 B hR (h0.at0 rfl) dX11_scanNumber_12 ?_
  obtain ⟨M_15, eM_15, h⟩ := lt_el h
  refine pf_X11_117 B hR (h0.at0 rfl) dX11_scanNumber_15 (fun H locs hR => ?_)
  rw [← eM_15] at hR
  exact wX11_scanNumber_l18 B hr hlk h0 h hR hl
def fX11_scan_j121 (fu : Nat) (M : Mm) : Option Mm :=
  some M
set_option maxRecDepth 100000 in
set_option maxHeartbeats 4000000 in
theorem wX11_scan_j121 {M' : Mm}    {M : Mm} (B : Bx p s m args c cX11_scan 2 RX11 E L) (hr : meth.sig.returnType = none) (hlk : meth.locks = false)   (h : fX11_scan_j121 fu M = some M') (hR : Rx s E L M H locs) (hl : lv_has ls 2 []) : W p l e (rmD (d + 2)) s m args below meth c H locs 0 0 (MQ below (QcM E L none M') args s 0 0 E.2.2.2) (F0 m 121 ls []) := by
  have hx := B.1
  have hb := B.2.1
  unfold fX11_scan_j121 at h
  exact r_vretW B hR hr hlk h dX11_scan_121
def fX11_scan_j118 (fu : Nat) (b0 : Nat) (t1 : Int32) (M : Mm) : Option Mm :=
  lt (wI M b0 11 t1) fun M_118 =>
  fX11_scan_j121 fu M_118
set_option maxRecDepth 100000 in
set_option maxHeartbeats 4000000 in
theorem wX11_scan_j118 {M' : Mm}   {b0 : Nat} {t1 : Int32} {M : Mm} (B : Bx p s m args c cX11_scan 2 RX11 E L) (hr : meth.sig.returnType = none) (hlk : meth.locks = false)  (g0 : At L b0 T11) (h : fX11_scan_j118 fu b0 t1 M = some M') (hR : Rx s E L M H locs) (hl : lv_has ls 2 []) : W p l e (rmD (d + 2)) s m args below meth c H locs 0 0 (MQ below (QcM E L none M') args s 0 0 E.2.2.2) (F0 m 118 ls [.int t1, .ref b0]) := by
  have hx := B.1
  have hb := B.2.1
  unfold fX11_scan_j118 at h
  obtain ⟨M_118, eM_118, h⟩ := lt_el h
  refine pf_X11_131 B hR (g0.at0 rfl) dX11_scan_118 (fun H locs hR => ?_)
  rw [← eM_118] at hR
  exact wX11_scan_j121 B hr hlk  h hR hl
def fX11_scan_j32 (fu : Nat) (a0 : Nat) (M : Mm) : Option Mm :=
  lt (wI M a0 9 ((M.1 a0 10) + 1)) fun M_39 =>
  bi (fX11_signAt fu a0 (M_39.1 a0 10) M_39) fun r_47 =>
  if (M_39.1 a0 10) < (M_39.1 a0 8) then
    bi (fX11_isLetter fu r_47) fun r_79 =>
    if r_79 = 0 then
      bi (fX11_isDigit fu r_47) fun r_93 =>
      if r_93 = 0 then
        if r_47 = 59 then
          fX11_scan_j118 fu a0 4 M_39
        else
          fX11_scan_j118 fu a0 1 M_39
      else
        bm (fX11_scanNumber fu a0 M_39) fun M_100 =>
        fX11_scan_j121 fu M_100
    else
      bm (fX11_scanWord fu a0 M_39) fun M_86 =>
      fX11_scan_j121 fu M_86
  else
    lt (wI M_39 a0 9 (M_39.1 a0 10)) fun M_67 =>
    lt (wI M_67 a0 11 0) fun M_72 =>
    fX11_scan_j121 fu M_72
set_option maxRecDepth 100000 in
set_option maxHeartbeats 4000000 in
theorem wX11_scan_j32 {M' : Mm}   {a0 : Nat} {M : Mm} (B : Bx p s m args c cX11_scan 2 RX11 E L) (hr : meth.sig.returnType = none) (hlk : meth.locks = false)  (h0 : At L a0 T11) (h : fX11_scan_j32 fu a0 M = some M') (hR : Rx s E L M H locs) (hl : lv_has ls 2 [(0, .ref a0)]) : W p l e (rmD (d + 2)) s m args below meth c H locs 0 0 (MQ below (QcM E L none M') args s 0 0 E.2.2.2) (F0 m 32 ls []) := by
  have hx := B.1
  have hb := B.2.1
  unfold fX11_scan_j32 at h
  refine lv_aload_n hx hb dX11_scan_32 rfl (lv_at hl 0 rfl) ?_
  refine lv_aload_n hx hb dX11_scan_33 rfl (lv_at hl 0 rfl) ?_
  refine gf_X11_120 B hR (h0.at0 rfl) dX11_scan_34 ?_
  refine lv_iconst (v := 1) hx hb dX11_scan_37 (by decide) ?_
  refine lv_iadd hx hb dX11_scan_38 ?_
  obtain ⟨M_39, eM_39, h⟩ := lt_el h
  refine pf_X11_117 B hR (h0.at0 rfl) dX11_scan_39 (fun H locs hR => ?_)
  rw [← eM_39] at hR
  refine lv_aload_n hx hb dX11_scan_42 rfl (lv_at hl 0 rfl) ?_
  refine lv_aload_n hx hb dX11_scan_43 rfl (lv_at hl 0 rfl) ?_
  refine gf_X11_120 B hR (h0.at0 rfl) dX11_scan_44 ?_
  obtain ⟨r_47, hc_47, h⟩ := bi_el h
  refine iv_X11_127 B hR (h0.at0 rfl) hl.1 (mX11_signAt fu _ h0 hc_47) (Nat.le_of_ble_eq_true rfl) dX11_scan_47 (fun H locs hR => ?_)
  refine lv_istore_n (lv' := [(1, .int r_47), (0, .ref a0)]) hx hb dX11_scan_50 rfl hl (by decide) rfl (fun ls hl => ?_)
  refine lv_aload_n hx hb dX11_scan_51 rfl (lv_at hl 1 rfl) ?_
  refine gf_X11_120 B hR (h0.at0 rfl) dX11_scan_52 ?_
  refine lv_aload_n hx hb dX11_scan_55 rfl (lv_at hl 1 rfl) ?_
  refine gf_X11_114 B hR (h0.at0 rfl) dX11_scan_56 ?_
  refine lv_icmp_lt (tgt := 78) hx hb dX11_scan_59 (by decide) (fun c_59 => ?_) (fun c_59 => ?_)
  · rw [if_pos c_59] at h
    refine lv_iload_n hx hb dX11_scan_78 rfl (lv_at hl 0 rfl) ?_
    obtain ⟨r_79, hc_79, h⟩ := bi_el h
    refine is_X11_134 B hR hl.1 (mX11_isLetter fu _  hc_79) (Nat.le_of_ble_eq_true rfl) dX11_scan_79 (fun H locs hR => ?_)
    refine lv_if_eq (tgt := 92) hx hb dX11_scan_82 (by decide) (fun c_82 => ?_) (fun c_82 => ?_)
    · rw [if_pos c_82] at h
      refine lv_iload_n hx hb dX11_scan_92 rfl (lv_at hl 0 rfl) ?_
      obtain ⟨r_93, hc_93, h⟩ := bi_el h
      refine is_X11_140 B hR hl.1 (mX11_isDigit fu _  hc_93) (Nat.le_of_ble_eq_true rfl) dX11_scan_93 (fun H locs hR => ?_)
      refine lv_if_eq (tgt := 106) hx hb dX11_scan_96 (by decide) (fun c_96 => ?_) (fun c_96 => ?_)
      · rw [if_pos c_96] at h
        refine lv_aload_n hx hb dX11_scan_106 rfl (lv_at hl 1 rfl) ?_
        refine lv_iload_n hx hb dX11_scan_107 rfl (lv_at hl 0 rfl) ?_
        refine lv_bipush (v := 59) hx hb dX11_scan_108 (by decide) ?_
        refine lv_icmp_ne (tgt := 117) hx hb dX11_scan_110 (by decide) (fun c_110 => ?_) (fun c_110 => ?_)
        · rw [if_neg c_110] at h
          refine lv_iconst (v := 1) hx hb dX11_scan_117 (by decide) ?_
          exact wX11_scan_j118 B hr hlk h0 h hR (lv_sub hl [] rfl)
        · rw [if_pos c_110] at h
          refine lv_iconst (v := 4) hx hb dX11_scan_113 (by decide) ?_
          refine lv_goto (tgt := 118) hx hb dX11_scan_114 (by decide) ?_
          exact wX11_scan_j118 B hr hlk h0 h hR (lv_sub hl [] rfl)
      · rw [if_neg c_96] at h
        refine lv_aload_n hx hb dX11_scan_99 rfl (lv_at hl 1 rfl) ?_
        obtain ⟨M_100, hc_100, h⟩ := bm_el h
        refine iv_X11_143 B hR (h0.at0 rfl) hl.1 (mX11_scanNumber fu _ h0 hc_100) (Nat.le_of_ble_eq_true rfl) dX11_scan_100 (fun H locs hR => ?_)
        refine lv_goto (tgt := 121) hx hb dX11_scan_103 (by decide) ?_
        exact wX11_scan_j121 B hr hlk  h hR (lv_sub hl [] rfl)
    · rw [if_neg c_82] at h
      refine lv_aload_n hx hb dX11_scan_85 rfl (lv_at hl 1 rfl) ?_
      obtain ⟨M_86, hc_86, h⟩ := bm_el h
      refine iv_X11_137 B hR (h0.at0 rfl) hl.1 (mX11_scanWord fu _ h0 hc_86) (Nat.le_of_ble_eq_true rfl) dX11_scan_86 (fun H locs hR => ?_)
      refine lv_goto (tgt := 121) hx hb dX11_scan_89 (by decide) ?_
      exact wX11_scan_j121 B hr hlk  h hR (lv_sub hl [] rfl)
  · rw [if_neg c_59] at h
    refine lv_aload_n hx hb dX11_scan_62 rfl (lv_at hl 1 rfl) ?_
    refine lv_aload_n hx hb dX11_scan_63 rfl (lv_at hl 1 rfl) ?_
    refine gf_X11_120 B hR (h0.at0 rfl) dX11_scan_64 ?_
    obtain ⟨M_67, eM_67, h⟩ := lt_el h
    refine pf_X11_117 B hR (h0.at0 rfl) dX11_scan_67 (fun H locs hR => ?_)
    rw [← eM_67] at hR
    refine lv_aload_n hx hb dX11_scan_70 rfl (lv_at hl 1 rfl) ?_
    refine lv_iconst (v := 0) hx hb dX11_scan_71 (by decide) ?_
    obtain ⟨M_72, eM_72, h⟩ := lt_el h
    refine pf_X11_131 B hR (h0.at0 rfl) dX11_scan_72 (fun H locs hR => ?_)
    rw [← eM_72] at hR
    refine lv_goto (tgt := 121) hx hb dX11_scan_75 (by decide) ?_
    exact wX11_scan_j121 B hr hlk  h hR (lv_sub hl [] rfl)
def fX11_scan_b8 (fu : Nat) (k8 : Mm → Option Mm) (a0 : Nat) (M : Mm) : Option Mm :=
  bi (fX11_isBlank fu a0 (M.1 a0 10) M) fun r_13 =>
  if r_13 = 0 then
    fX11_scan_j32 fu a0 M
  else
    lt (wI M a0 10 ((M.1 a0 10) + 1)) fun M_26 =>
    k8 M_26
set_option maxRecDepth 100000 in
set_option maxHeartbeats 4000000 in
theorem wX11_scan_b8 {M' : Mm}   {k8 : Mm → Option Mm} {a0 : Nat} {M : Mm} (B : Bx p s m args c cX11_scan 2 RX11 E L) (hr : meth.sig.returnType = none) (hlk : meth.locks = false)  (ih8 : ∀ (M : Mm), k8 M = some M' → ∀ (H : Heap) (locs : List Loc) (ls : Array Slot), Rx s E L M H locs → lv_has ls 2 [(0, .ref a0)] → W p l e (rmD (d + 2)) s m args below meth c H locs 0 0 (MQ below (QcM E L none M') args s 0 0 E.2.2.2) (F0 m 8 ls [])) (h0 : At L a0 T11) (h : fX11_scan_b8 fu k8 a0 M = some M') (hR : Rx s E L M H locs) (hl : lv_has ls 2 [(0, .ref a0)]) : W p l e (rmD (d + 2)) s m args below meth c H locs 0 0 (MQ below (QcM E L none M') args s 0 0 E.2.2.2) (F0 m 8 ls []) := by
  have hx := B.1
  have hb := B.2.1
  unfold fX11_scan_b8 at h
  refine lv_aload_n hx hb dX11_scan_8 rfl (lv_at hl 0 rfl) ?_
  refine lv_aload_n hx hb dX11_scan_9 rfl (lv_at hl 0 rfl) ?_
  refine gf_X11_120 B hR (h0.at0 rfl) dX11_scan_10 ?_
  obtain ⟨r_13, hc_13, h⟩ := bi_el h
  refine iv_X11_123 B hR (h0.at0 rfl) hl.1 (mX11_isBlank fu _ h0 hc_13) (Nat.le_of_ble_eq_true rfl) dX11_scan_13 (fun H locs hR => ?_)
  refine lv_if_eq (tgt := 32) hx hb dX11_scan_16 (by decide) (fun c_16 => ?_) (fun c_16 => ?_)
  · rw [if_pos c_16] at h
    exact wX11_scan_j32 B hr hlk h0 h hR hl
  · rw [if_neg c_16] at h
    refine lv_aload_n hx hb dX11_scan_19 rfl (lv_at hl 0 rfl) ?_
    refine lv_dup hx hb dX11_scan_20 rfl ?_
    refine gf_X11_120 B hR (h0.at0 rfl) dX11_scan_21 ?_
    refine lv_iconst (v := 1) hx hb dX11_scan_24 (by decide) ?_
    refine lv_iadd hx hb dX11_scan_25 ?_
    obtain ⟨M_26, eM_26, h⟩ := lt_el h
    refine pf_X11_120 B hR (h0.at0 rfl) dX11_scan_26 (fun H locs hR => ?_)
    rw [← eM_26] at hR
    refine lv_goto (tgt := 8) hx hb dX11_scan_29 (by decide) ?_
    exact ih8 M_26 h _ _ _ hR hl
def fX11_scan_l8 (fu : Nat) (a0 : Nat) (M : Mm) : Option Mm := lp (fun (rec : Mm → Option Mm) (s : Mm) => fX11_scan_b8 fu  (fun M => rec (M)) a0 s) fu (M)
set_option maxRecDepth 100000 in
set_option maxHeartbeats 4000000 in
theorem wX11_scan_l8 {M' : Mm}   {a0 : Nat} {M : Mm} (B : Bx p s m args c cX11_scan 2 RX11 E L) (hr : meth.sig.returnType = none) (hlk : meth.locks = false)  (h0 : At L a0 T11) (h : fX11_scan_l8 fu a0 M = some M') (hR : Rx s E L M H locs) (hl : lv_has ls 2 [(0, .ref a0)]) : W p l e (rmD (d + 2)) s m args below meth c H locs 0 0 (MQ below (QcM E L none M') args s 0 0 E.2.2.2) (F0 m 8 ls []) := by
  refine lp_G (G := fun z : Mm => ∀ (H : Heap) (locs : List Loc) (ls : Array Slot), Rx s E L z H locs → lv_has ls 2 [(0, .ref a0)] → W p l e (rmD (d + 2)) s m args below meth c H locs 0 0 (MQ below (QcM E L none M') args s 0 0 E.2.2.2) (F0 m 8 ls [])) (fun rec ih z h H locs ls hR hl => ?_) fu _ h H locs ls hR hl
  exact wX11_scan_b8 B hr hlk  (fun M h => ih (M) h) h0 h hR hl
def fX11_scan (fu : Nat) (a0 : Nat) (M : Mm) : Option Mm :=
  lt (wI M a0 10 (M.1 a0 9)) fun M_5 =>
  fX11_scan_l8 fu a0 M_5
set_option maxRecDepth 100000 in
set_option maxHeartbeats 4000000 in
theorem mX11_scan {l : Launch} {E : Ge} {L : Lay} (fu d : Nat) {a0 : Nat} {M : Mm} {M' : Mm}  (h0 : At L a0 T11) (h : fX11_scan fu a0 M = some M') : Ct l E L yX11_scan cX11_scan 2 none (d + 2) [.ref a0] M none M' := by
  refine Ct.of (by decide) ?_
  intro p e s m below meth c hr hlk B hR
  have B : Bx p s m _ c cX11_scan 2 RX11 E L := B
  have hx := B.1
  have hb := B.2.1
  have hl := lv_entry ([.ref a0]) (n := 2) (Nat.le_of_ble_eq_true rfl)
  rw [lg_entry_eq]
  generalize (lg_sl ([.ref a0]) ++ List.replicate (2 - (lg_sl ([.ref a0])).length) Slot.unset).toArray = ls at hl ⊢
  have hl : lv_has ls 2 [(0, .ref a0)] := hl
  unfold fX11_scan at h
  refine lv_aload_n hx hb dX11_scan_0 rfl (lv_at hl 0 rfl) ?_
  refine lv_aload_n hx hb dX11_scan_1 rfl (lv_at hl 0 rfl) ?_
  refine gf_X11_117 B hR (h0.at0 rfl) dX11_scan_2 ?_
  obtain ⟨M_5, eM_5, h⟩ := lt_el h
  refine pf_X11_120 B hR (h0.at0 rfl) dX11_scan_5 (fun H locs hR => ?_)
  rw [← eM_5] at hR
  exact wX11_scan_l8 B hr hlk h0 h hR hl
def fX11_fail (fu : Nat) (a0 : Nat) (x1 : Int32) (M : Mm) : Option Mm :=
  if (M.1 a0 14) ≤ 0 then
    lt (wI M a0 14 x1) fun M_10 =>
    lt (wI M_10 a0 15 (M_10.1 a0 10)) fun M_18 =>
    some M_18
  else
    some M
set_option maxRecDepth 100000 in
set_option maxHeartbeats 4000000 in
theorem mX11_fail {l : Launch} {E : Ge} {L : Lay} (fu d : Nat) {a0 : Nat} {x1 : Int32} {M : Mm} {M' : Mm}  (h0 : At L a0 T11) (h : fX11_fail fu a0 x1 M = some M') : Ct l E L yX11_fail cX11_fail 2 none (d + 0) [.ref a0, .int x1] M none M' := by
  refine Ct.of (by decide) ?_
  intro p e s m below meth c hr hlk B hR
  have B : Bx p s m _ c cX11_fail 2 RX11 E L := B
  have hx := B.1
  have hb := B.2.1
  have hl := lv_entry ([.ref a0, .int x1]) (n := 2) (Nat.le_of_ble_eq_true rfl)
  rw [lg_entry_eq]
  generalize (lg_sl ([.ref a0, .int x1]) ++ List.replicate (2 - (lg_sl ([.ref a0, .int x1])).length) Slot.unset).toArray = ls at hl ⊢
  have hl : lv_has ls 2 [(0, .ref a0), (1, .int x1)] := hl
  unfold fX11_fail at h
  refine lv_aload_n hx hb dX11_fail_0 rfl (lv_at hl 0 rfl) ?_
  refine gf_X11_157 B hR (h0.at0 rfl) dX11_fail_1 ?_
  refine lv_if_le (tgt := 8) hx hb dX11_fail_4 (by decide) (fun c_4 => ?_) (fun c_4 => ?_)
  · rw [if_pos c_4] at h
    refine lv_aload_n hx hb dX11_fail_8 rfl (lv_at hl 0 rfl) ?_
    refine lv_iload_n hx hb dX11_fail_9 rfl (lv_at hl 1 rfl) ?_
    obtain ⟨M_10, eM_10, h⟩ := lt_el h
    refine pf_X11_157 B hR (h0.at0 rfl) dX11_fail_10 (fun H locs hR => ?_)
    rw [← eM_10] at hR
    refine lv_aload_n hx hb dX11_fail_13 rfl (lv_at hl 0 rfl) ?_
    refine lv_aload_n hx hb dX11_fail_14 rfl (lv_at hl 0 rfl) ?_
    refine gf_X11_120 B hR (h0.at0 rfl) dX11_fail_15 ?_
    obtain ⟨M_18, eM_18, h⟩ := lt_el h
    refine pf_X11_160 B hR (h0.at0 rfl) dX11_fail_18 (fun H locs hR => ?_)
    rw [← eM_18] at hR
    exact r_vretW B hR hr hlk h dX11_fail_21
  · rw [if_neg c_4] at h
    exact r_vretW B hR hr hlk h dX11_fail_7
def fX11_isWord_j28 (fu : Nat) (t0 : Int32) (M : Mm) : Option Int32 :=
  gd (t0 = 0 ∨ t0 = 1) <|
  some t0
set_option maxRecDepth 100000 in
set_option maxHeartbeats 4000000 in
theorem wX11_isWord_j28 {r : Int32}   {t0 : Int32} {M : Mm} (B : Bx p s m args c cX11_isWord 2 RX11 E L) (hr : meth.sig.returnType = (some .boolean)) (hlk : meth.locks = false)   (h : fX11_isWord_j28 fu t0 M = some r) (hR : Rx s E L M H locs) (hl : lv_has ls 2 []) : W p l e (rmD (d + 0)) s m args below meth c H locs 0 0 (MQ below (QcM E L (some (.int r)) M) args s 0 0 E.2.2.2) (F0 m 28 ls [.int t0]) := by
  have hx := B.1
  have hb := B.2.1
  unfold fX11_isWord_j28 at h
  obtain ⟨hz_28, h⟩ := gd_el h
  exact r_zretP B hR hr hlk hz_28 h dX11_isWord_28
def fX11_isWord_j27 (fu : Nat) (M : Mm) : Option Int32 :=
  fX11_isWord_j28 fu 0 M
set_option maxRecDepth 100000 in
set_option maxHeartbeats 4000000 in
theorem wX11_isWord_j27 {r : Int32}    {M : Mm} (B : Bx p s m args c cX11_isWord 2 RX11 E L) (hr : meth.sig.returnType = (some .boolean)) (hlk : meth.locks = false)   (h : fX11_isWord_j27 fu M = some r) (hR : Rx s E L M H locs) (hl : lv_has ls 2 []) : W p l e (rmD (d + 0)) s m args below meth c H locs 0 0 (MQ below (QcM E L (some (.int r)) M) args s 0 0 E.2.2.2) (F0 m 27 ls []) := by
  have hx := B.1
  have hb := B.2.1
  unfold fX11_isWord_j27 at h
  refine lv_iconst (v := 0) hx hb dX11_isWord_27 (by decide) ?_
  exact wX11_isWord_j28 B hr hlk  h hR hl
def fX11_isWord (fu : Nat) (a0 : Nat) (x1 : Int32) (M : Mm) : Option Int32 :=
  if (M.1 a0 14) = 0 then
    if (M.1 a0 11) = 2 then
      if (M.1 a0 13) = x1 then
        fX11_isWord_j28 fu 1 M
      else
        fX11_isWord_j27 fu M
    else
      fX11_isWord_j27 fu M
  else
    fX11_isWord_j27 fu M
set_option maxRecDepth 100000 in
set_option maxHeartbeats 4000000 in
theorem mX11_isWord {l : Launch} {E : Ge} {L : Lay} (fu d : Nat) {a0 : Nat} {x1 : Int32} {M : Mm} {r : Int32}  (h0 : At L a0 T11) (h : fX11_isWord fu a0 x1 M = some r) : Ct l E L yX11_isWord cX11_isWord 2 (some .boolean) (d + 0) [.ref a0, .int x1] M (some (.int r)) M := by
  refine Ct.of (by decide) ?_
  intro p e s m below meth c hr hlk B hR
  have B : Bx p s m _ c cX11_isWord 2 RX11 E L := B
  have hx := B.1
  have hb := B.2.1
  have hl := lv_entry ([.ref a0, .int x1]) (n := 2) (Nat.le_of_ble_eq_true rfl)
  rw [lg_entry_eq]
  generalize (lg_sl ([.ref a0, .int x1]) ++ List.replicate (2 - (lg_sl ([.ref a0, .int x1])).length) Slot.unset).toArray = ls at hl ⊢
  have hl : lv_has ls 2 [(0, .ref a0), (1, .int x1)] := hl
  unfold fX11_isWord at h
  refine lv_aload_n hx hb dX11_isWord_0 rfl (lv_at hl 0 rfl) ?_
  refine gf_X11_157 B hR (h0.at0 rfl) dX11_isWord_1 ?_
  refine lv_if_ne (tgt := 27) hx hb dX11_isWord_4 (by decide) (fun c_4 => ?_) (fun c_4 => ?_)
  · rw [if_neg c_4] at h
    exact wX11_isWord_j27 B hr hlk  h hR (lv_sub hl [] rfl)
  · rw [if_pos c_4] at h
    refine lv_aload_n hx hb dX11_isWord_7 rfl (lv_at hl 0 rfl) ?_
    refine gf_X11_131 B hR (h0.at0 rfl) dX11_isWord_8 ?_
    refine lv_iconst (v := 2) hx hb dX11_isWord_11 (by decide) ?_
    refine lv_icmp_ne (tgt := 27) hx hb dX11_isWord_12 (by decide) (fun c_12 => ?_) (fun c_12 => ?_)
    · rw [if_neg c_12] at h
      exact wX11_isWord_j27 B hr hlk  h hR (lv_sub hl [] rfl)
    · rw [if_pos c_12] at h
      refine lv_aload_n hx hb dX11_isWord_15 rfl (lv_at hl 0 rfl) ?_
      refine gf_X11_146 B hR (h0.at0 rfl) dX11_isWord_16 ?_
      refine lv_iload_n hx hb dX11_isWord_19 rfl (lv_at hl 1 rfl) ?_
      refine lv_icmp_ne (tgt := 27) hx hb dX11_isWord_20 (by decide) (fun c_20 => ?_) (fun c_20 => ?_)
      · rw [if_neg c_20] at h
        exact wX11_isWord_j27 B hr hlk  h hR (lv_sub hl [] rfl)
      · rw [if_pos c_20] at h
        refine lv_iconst (v := 1) hx hb dX11_isWord_23 (by decide) ?_
        refine lv_goto (tgt := 28) hx hb dX11_isWord_24 (by decide) ?_
        exact wX11_isWord_j28 B hr hlk  h hR (lv_sub hl [] rfl)
def fX11_isKindWord_j32 (fu : Nat) (t0 : Int32) (M : Mm) : Option Int32 :=
  gd (t0 = 0 ∨ t0 = 1) <|
  some t0
set_option maxRecDepth 100000 in
set_option maxHeartbeats 4000000 in
theorem wX11_isKindWord_j32 {r : Int32}   {t0 : Int32} {M : Mm} (B : Bx p s m args c cX11_isKindWord 1 RX11 E L) (hr : meth.sig.returnType = (some .boolean)) (hlk : meth.locks = false)   (h : fX11_isKindWord_j32 fu t0 M = some r) (hR : Rx s E L M H locs) (hl : lv_has ls 1 []) : W p l e (rmD (d + 1)) s m args below meth c H locs 0 0 (MQ below (QcM E L (some (.int r)) M) args s 0 0 E.2.2.2) (F0 m 32 ls [.int t0]) := by
  have hx := B.1
  have hb := B.2.1
  unfold fX11_isKindWord_j32 at h
  obtain ⟨hz_32, h⟩ := gd_el h
  exact r_zretP B hR hr hlk hz_32 h dX11_isKindWord_32
def fX11_isKindWord_j31 (fu : Nat) (M : Mm) : Option Int32 :=
  fX11_isKindWord_j32 fu 0 M
set_option maxRecDepth 100000 in
set_option maxHeartbeats 4000000 in
theorem wX11_isKindWord_j31 {r : Int32}    {M : Mm} (B : Bx p s m args c cX11_isKindWord 1 RX11 E L) (hr : meth.sig.returnType = (some .boolean)) (hlk : meth.locks = false)   (h : fX11_isKindWord_j31 fu M = some r) (hR : Rx s E L M H locs) (hl : lv_has ls 1 []) : W p l e (rmD (d + 1)) s m args below meth c H locs 0 0 (MQ below (QcM E L (some (.int r)) M) args s 0 0 E.2.2.2) (F0 m 31 ls []) := by
  have hx := B.1
  have hb := B.2.1
  unfold fX11_isKindWord_j31 at h
  refine lv_iconst (v := 0) hx hb dX11_isKindWord_31 (by decide) ?_
  exact wX11_isKindWord_j32 B hr hlk  h hR hl
def fX11_isKindWord (fu : Nat) (a0 : Nat) (M : Mm) : Option Int32 :=
  if (M.1 a0 14) = 0 then
    if (M.1 a0 11) = 2 then
      bi (fX11_isIn fu (M.1 a0 13) 0 4) fun r_21 =>
      if r_21 = 0 then
        fX11_isKindWord_j31 fu M
      else
        fX11_isKindWord_j32 fu 1 M
    else
      fX11_isKindWord_j31 fu M
  else
    fX11_isKindWord_j31 fu M
set_option maxRecDepth 100000 in
set_option maxHeartbeats 4000000 in
theorem mX11_isKindWord {l : Launch} {E : Ge} {L : Lay} (fu d : Nat) {a0 : Nat} {M : Mm} {r : Int32}  (h0 : At L a0 T11) (h : fX11_isKindWord fu a0 M = some r) : Ct l E L yX11_isKindWord cX11_isKindWord 1 (some .boolean) (d + 1) [.ref a0] M (some (.int r)) M := by
  refine Ct.of (by decide) ?_
  intro p e s m below meth c hr hlk B hR
  have B : Bx p s m _ c cX11_isKindWord 1 RX11 E L := B
  have hx := B.1
  have hb := B.2.1
  have hl := lv_entry ([.ref a0]) (n := 1) (Nat.le_of_ble_eq_true rfl)
  rw [lg_entry_eq]
  generalize (lg_sl ([.ref a0]) ++ List.replicate (1 - (lg_sl ([.ref a0])).length) Slot.unset).toArray = ls at hl ⊢
  have hl : lv_has ls 1 [(0, .ref a0)] := hl
  unfold fX11_isKindWord at h
  refine lv_aload_n hx hb dX11_isKindWord_0 rfl (lv_at hl 0 rfl) ?_
  refine gf_X11_157 B hR (h0.at0 rfl) dX11_isKindWord_1 ?_
  refine lv_if_ne (tgt := 31) hx hb dX11_isKindWord_4 (by decide) (fun c_4 => ?_) (fun c_4 => ?_)
  · rw [if_neg c_4] at h
    exact wX11_isKindWord_j31 B hr hlk  h hR (lv_sub hl [] rfl)
  · rw [if_pos c_4] at h
    refine lv_aload_n hx hb dX11_isKindWord_7 rfl (lv_at hl 0 rfl) ?_
    refine gf_X11_131 B hR (h0.at0 rfl) dX11_isKindWord_8 ?_
    refine lv_iconst (v := 2) hx hb dX11_isKindWord_11 (by decide) ?_
    refine lv_icmp_ne (tgt := 31) hx hb dX11_isKindWord_12 (by decide) (fun c_12 => ?_) (fun c_12 => ?_)
    · rw [if_neg c_12] at h
      exact wX11_isKindWord_j31 B hr hlk  h hR (lv_sub hl [] rfl)
    · rw [if_pos c_12] at h
      refine lv_aload_n hx hb dX11_isKindWord_15 rfl (lv_at hl 0 rfl) ?_
      refine gf_X11_146 B hR (h0.at0 rfl) dX11_isKindWord_16 ?_
      refine lv_iconst (v := 0) hx hb dX11_isKindWord_19 (by decide) ?_
      refine lv_iconst (v := 4) hx hb dX11_isKindWord_20 (by decide) ?_
      obtain ⟨r_21, hc_21, h⟩ := bi_el h
      refine is_X11_163 B hR hl.1 (mX11_isIn fu _  hc_21) (Nat.le_of_ble_eq_true rfl) dX11_isKindWord_21 (fun H locs hR => ?_)
      refine lv_if_eq (tgt := 31) hx hb dX11_isKindWord_24 (by decide) (fun c_24 => ?_) (fun c_24 => ?_)
      · rw [if_pos c_24] at h
        exact wX11_isKindWord_j31 B hr hlk  h hR (lv_sub hl [] rfl)
      · rw [if_neg c_24] at h
        refine lv_iconst (v := 1) hx hb dX11_isKindWord_27 (by decide) ?_
        refine lv_goto (tgt := 32) hx hb dX11_isKindWord_28 (by decide) ?_
        exact wX11_isKindWord_j32 B hr hlk  h hR (lv_sub hl [] rfl)
def fX11_isStop_j20 (fu : Nat) (t0 : Int32) (M : Mm) : Option Int32 :=
  gd (t0 = 0 ∨ t0 = 1) <|
  some t0
set_option maxRecDepth 100000 in
set_option maxHeartbeats 4000000 in
theorem wX11_isStop_j20 {r : Int32}   {t0 : Int32} {M : Mm} (B : Bx p s m args c cX11_isStop 1 RX11 E L) (hr : meth.sig.returnType = (some .boolean)) (hlk : meth.locks = false)   (h : fX11_isStop_j20 fu t0 M = some r) (hR : Rx s E L M H locs) (hl : lv_has ls 1 []) : W p l e (rmD (d + 0)) s m args below meth c H locs 0 0 (MQ below (QcM E L (some (.int r)) M) args s 0 0 E.2.2.2) (F0 m 20 ls [.int t0]) := by
  have hx := B.1
  have hb := B.2.1
  unfold fX11_isStop_j20 at h
  obtain ⟨hz_20, h⟩ := gd_el h
  exact r_zretP B hR hr hlk hz_20 h dX11_isStop_20
def fX11_isStop_j19 (fu : Nat) (M : Mm) : Option Int32 :=
  fX11_isStop_j20 fu 0 M
set_option maxRecDepth 100000 in
set_option maxHeartbeats 4000000 in
theorem wX11_isStop_j19 {r : Int32}    {M : Mm} (B : Bx p s m args c cX11_isStop 1 RX11 E L) (hr : meth.sig.returnType = (some .boolean)) (hlk : meth.locks = false)   (h : fX11_isStop_j19 fu M = some r) (hR : Rx s E L M H locs) (hl : lv_has ls 1 []) : W p l e (rmD (d + 0)) s m args below meth c H locs 0 0 (MQ below (QcM E L (some (.int r)) M) args s 0 0 E.2.2.2) (F0 m 19 ls []) := by
  have hx := B.1
  have hb := B.2.1
  unfold fX11_isStop_j19 at h
  refine lv_iconst (v := 0) hx hb dX11_isStop_19 (by decide) ?_
  exact wX11_isStop_j20 B hr hlk  h hR hl
def fX11_isStop (fu : Nat) (a0 : Nat) (M : Mm) : Option Int32 :=
  if (M.1 a0 14) = 0 then
    if (M.1 a0 11) = 4 then
      fX11_isStop_j20 fu 1 M
    else
      fX11_isStop_j19 fu M
  else
    fX11_isStop_j19 fu M
set_option maxRecDepth 100000 in
set_option maxHeartbeats 4000000 in
theorem mX11_isStop {l : Launch} {E : Ge} {L : Lay} (fu d : Nat) {a0 : Nat} {M : Mm} {r : Int32}  (h0 : At L a0 T11) (h : fX11_isStop fu a0 M = some r) : Ct l E L yX11_isStop cX11_isStop 1 (some .boolean) (d + 0) [.ref a0] M (some (.int r)) M := by
  refine Ct.of (by decide) ?_
  intro p e s m below meth c hr hlk B hR
  have B : Bx p s m _ c cX11_isStop 1 RX11 E L := B
  have hx := B.1
  have hb := B.2.1
  have hl := lv_entry ([.ref a0]) (n := 1) (Nat.le_of_ble_eq_true rfl)
  rw [lg_entry_eq]
  generalize (lg_sl ([.ref a0]) ++ List.replicate (1 - (lg_sl ([.ref a0])).length) Slot.unset).toArray = ls at hl ⊢
  have hl : lv_has ls 1 [(0, .ref a0)] := hl
  unfold fX11_isStop at h
  refine lv_aload_n hx hb dX11_isStop_0 rfl (lv_at hl 0 rfl) ?_
  refine gf_X11_157 B hR (h0.at0 rfl) dX11_isStop_1 ?_
  refine lv_if_ne (tgt := 19) hx hb dX11_isStop_4 (by decide) (fun c_4 => ?_) (fun c_4 => ?_)
  · rw [if_neg c_4] at h
    exact wX11_isStop_j19 B hr hlk  h hR (lv_sub hl [] rfl)
  · rw [if_pos c_4] at h
    refine lv_aload_n hx hb dX11_isStop_7 rfl (lv_at hl 0 rfl) ?_
    refine gf_X11_131 B hR (h0.at0 rfl) dX11_isStop_8 ?_
    refine lv_iconst (v := 4) hx hb dX11_isStop_11 (by decide) ?_
    refine lv_icmp_ne (tgt := 19) hx hb dX11_isStop_12 (by decide) (fun c_12 => ?_) (fun c_12 => ?_)
    · rw [if_neg c_12] at h
      exact wX11_isStop_j19 B hr hlk  h hR (lv_sub hl [] rfl)
    · rw [if_pos c_12] at h
      refine lv_iconst (v := 1) hx hb dX11_isStop_15 (by decide) ?_
      refine lv_goto (tgt := 20) hx hb dX11_isStop_16 (by decide) ?_
      exact wX11_isStop_j20 B hr hlk  h hR (lv_sub hl [] rfl)
def fX11_numeral_j49 (fu : Nat) (x3 : Int32) (M : Mm) : Option (Int32 × Mm) :=
  some (x3, M)
set_option maxRecDepth 100000 in
set_option maxHeartbeats 4000000 in
theorem wX11_numeral_j49 {r : Int32} {M' : Mm}   {x3 : Int32} {M : Mm} (B : Bx p s m args c cX11_numeral 4 RX11 E L) (hr : meth.sig.returnType = (some .int)) (hlk : meth.locks = false)   (h : fX11_numeral_j49 fu x3 M = some (r, M')) (hR : Rx s E L M H locs) (hl : lv_has ls 4 [(3, .int x3)]) : W p l e (rmD (d + 3)) s m args below meth c H locs 0 0 (MQ below (QcM E L (some (.int r)) M') args s 0 0 E.2.2.2) (F0 m 49 ls []) := by
  have hx := B.1
  have hb := B.2.1
  unfold fX11_numeral_j49 at h
  refine lv_iload_n hx hb dX11_numeral_49 rfl (lv_at hl 0 rfl) ?_
  exact r_iretW B hR hr hlk h dX11_numeral_50
def fX11_numeral_j33 (fu : Nat) (a0 : Nat) (M : Mm) : Option (Int32 × Mm) :=
  lt ((M.1 a0 12)) fun x3_37 =>
  if (M.1 a0 14) = 0 then
    bm (fX11_scan fu a0 M) fun M_46 =>
    fX11_numeral_j49 fu x3_37 M_46
  else
    fX11_numeral_j49 fu x3_37 M
set_option maxRecDepth 100000 in
set_option maxHeartbeats 4000000 in
theorem wX11_numeral_j33 {r : Int32} {M' : Mm}   {a0 : Nat} {M : Mm} (B : Bx p s m args c cX11_numeral 4 RX11 E L) (hr : meth.sig.returnType = (some .int)) (hlk : meth.locks = false)  (h0 : At L a0 T11) (h : fX11_numeral_j33 fu a0 M = some (r, M')) (hR : Rx s E L M H locs) (hl : lv_has ls 4 [(0, .ref a0)]) : W p l e (rmD (d + 3)) s m args below meth c H locs 0 0 (MQ below (QcM E L (some (.int r)) M') args s 0 0 E.2.2.2) (F0 m 33 ls []) := by
  have hx := B.1
  have hb := B.2.1
  unfold fX11_numeral_j33 at h
  refine lv_aload_n hx hb dX11_numeral_33 rfl (lv_at hl 0 rfl) ?_
  refine gf_X11_153 B hR (h0.at0 rfl) dX11_numeral_34 ?_
  obtain ⟨x3_37, ex3_37, h⟩ := lt_el h
  refine r_nmI ex3_37 ?_
  refine lv_istore_n (lv' := [(3, .int x3_37), (0, .ref a0)]) hx hb dX11_numeral_37 rfl hl (by decide) rfl (fun ls hl => ?_)
  refine lv_aload_n hx hb dX11_numeral_38 rfl (lv_at hl 1 rfl) ?_
  refine gf_X11_157 B hR (h0.at0 rfl) dX11_numeral_39 ?_
  refine lv_if_ne (tgt := 49) hx hb dX11_numeral_42 (by decide) (fun c_42 => ?_) (fun c_42 => ?_)
  · rw [if_neg c_42] at h
    exact wX11_numeral_j49 B hr hlk  h hR (lv_sub hl [0] rfl)
  · rw [if_pos c_42] at h
    refine lv_aload_n hx hb dX11_numeral_45 rfl (lv_at hl 1 rfl) ?_
    obtain ⟨M_46, hc_46, h⟩ := bm_el h
    refine iv_X11_170 B hR (h0.at0 rfl) hl.1 (mX11_scan fu _ h0 hc_46) (Nat.le_of_ble_eq_true rfl) dX11_numeral_46 (fun H locs hR => ?_)
    exact wX11_numeral_j49 B hr hlk  h hR (lv_sub hl [0] rfl)
def fX11_numeral (fu : Nat) (a0 : Nat) (x1 : Int32) (x2 : Int32) (M : Mm) : Option (Int32 × Mm) :=
  if (M.1 a0 11) = 3 then
    bi (fX11_isIn fu (M.1 a0 12) x1 x2) fun r_22 =>
    if r_22 = 0 then
      bm (fX11_fail fu a0 2 M) fun M_30 =>
      fX11_numeral_j33 fu a0 M_30
    else
      fX11_numeral_j33 fu a0 M
  else
    bm (fX11_fail fu a0 1 M) fun M_10 =>
    fX11_numeral_j33 fu a0 M_10
set_option maxRecDepth 100000 in
set_option maxHeartbeats 4000000 in
theorem mX11_numeral {l : Launch} {E : Ge} {L : Lay} (fu d : Nat) {a0 : Nat} {x1 : Int32} {x2 : Int32} {M : Mm} {r : Int32} {M' : Mm}  (h0 : At L a0 T11) (h : fX11_numeral fu a0 x1 x2 M = some (r, M')) : Ct l E L yX11_numeral cX11_numeral 4 (some .int) (d + 3) [.ref a0, .int x1, .int x2] M (some (.int r)) M' := by
  refine Ct.of (by decide) ?_
  intro p e s m below meth c hr hlk B hR
  have B : Bx p s m _ c cX11_numeral 4 RX11 E L := B
  have hx := B.1
  have hb := B.2.1
  have hl := lv_entry ([.ref a0, .int x1, .int x2]) (n := 4) (Nat.le_of_ble_eq_true rfl)
  rw [lg_entry_eq]
  generalize (lg_sl ([.ref a0, .int x1, .int x2]) ++ List.replicate (4 - (lg_sl ([.ref a0, .int x1, .int x2])).length) Slot.unset).toArray = ls at hl ⊢
  have hl : lv_has ls 4 [(0, .ref a0), (1, .int x1), (2, .int x2)] := hl
  unfold fX11_numeral at h
  refine lv_aload_n hx hb dX11_numeral_0 rfl (lv_at hl 0 rfl) ?_
  refine gf_X11_131 B hR (h0.at0 rfl) dX11_numeral_1 ?_
  refine lv_iconst (v := 3) hx hb dX11_numeral_4 (by decide) ?_
  refine lv_icmp_eq (tgt := 16) hx hb dX11_numeral_5 (by decide) (fun c_5 => ?_) (fun c_5 => ?_)
  · rw [if_pos c_5] at h
    refine lv_aload_n hx hb dX11_numeral_16 rfl (lv_at hl 0 rfl) ?_
    refine gf_X11_153 B hR (h0.at0 rfl) dX11_numeral_17 ?_
    refine lv_iload_n hx hb dX11_numeral_20 rfl (lv_at hl 1 rfl) ?_
    refine lv_iload_n hx hb dX11_numeral_21 rfl (lv_at hl 2 rfl) ?_
    obtain ⟨r_22, hc_22, h⟩ := bi_el h
    refine is_X11_163 B hR hl.1 (mX11_isIn fu _  hc_22) (Nat.le_of_ble_eq_true rfl) dX11_numeral_22 (fun H locs hR => ?_)
    refine lv_if_ne (tgt := 33) hx hb dX11_numeral_25 (by decide) (fun c_25 => ?_) (fun c_25 => ?_)
    · rw [if_neg c_25] at h
      exact wX11_numeral_j33 B hr hlk h0 h hR (lv_sub hl [0] rfl)
    · rw [if_pos c_25] at h
      refine lv_aload_n hx hb dX11_numeral_28 rfl (lv_at hl 0 rfl) ?_
      refine lv_iconst (v := 2) hx hb dX11_numeral_29 (by decide) ?_
      obtain ⟨M_30, hc_30, h⟩ := bm_el h
      refine iv_X11_167 B hR (h0.at0 rfl) hl.1 (mX11_fail fu _ h0 hc_30) (Nat.le_of_ble_eq_true rfl) dX11_numeral_30 (fun H locs hR => ?_)
      exact wX11_numeral_j33 B hr hlk h0 h hR (lv_sub hl [0] rfl)
  · rw [if_neg c_5] at h
    refine lv_aload_n hx hb dX11_numeral_8 rfl (lv_at hl 0 rfl) ?_
    refine lv_iconst (v := 1) hx hb dX11_numeral_9 (by decide) ?_
    obtain ⟨M_10, hc_10, h⟩ := bm_el h
    refine iv_X11_167 B hR (h0.at0 rfl) hl.1 (mX11_fail fu _ h0 hc_10) (Nat.le_of_ble_eq_true rfl) dX11_numeral_10 (fun H locs hR => ?_)
    refine lv_goto (tgt := 33) hx hb dX11_numeral_13 (by decide) ?_
    exact wX11_numeral_j33 B hr hlk h0 h hR (lv_sub hl [0] rfl)
def fX11_kindTold_j28 (fu : Nat) (x1 : Int32) (M : Mm) : Option (Int32 × Mm) :=
  some (x1, M)
set_option maxRecDepth 100000 in
set_option maxHeartbeats 4000000 in
theorem wX11_kindTold_j28 {r : Int32} {M' : Mm}   {x1 : Int32} {M : Mm} (B : Bx p s m args c cX11_kindTold 2 RX11 E L) (hr : meth.sig.returnType = (some .int)) (hlk : meth.locks = false)   (h : fX11_kindTold_j28 fu x1 M = some (r, M')) (hR : Rx s E L M H locs) (hl : lv_has ls 2 [(1, .int x1)]) : W p l e (rmD (d + 3)) s m args below meth c H locs 0 0 (MQ below (QcM E L (some (.int r)) M') args s 0 0 E.2.2.2) (F0 m 28 ls []) := by
  have hx := B.1
  have hb := B.2.1
  unfold fX11_kindTold_j28 at h
  refine lv_iload_n hx hb dX11_kindTold_28 rfl (lv_at hl 0 rfl) ?_
  exact r_iretW B hR hr hlk h dX11_kindTold_29
def fX11_kindTold_j12 (fu : Nat) (a0 : Nat) (M : Mm) : Option (Int32 × Mm) :=
  lt ((M.1 a0 13)) fun x1_16 =>
  if (M.1 a0 14) = 0 then
    bm (fX11_scan fu a0 M) fun M_25 =>
    fX11_kindTold_j28 fu x1_16 M_25
  else
    fX11_kindTold_j28 fu x1_16 M
set_option maxRecDepth 100000 in
set_option maxHeartbeats 4000000 in
theorem wX11_kindTold_j12 {r : Int32} {M' : Mm}   {a0 : Nat} {M : Mm} (B : Bx p s m args c cX11_kindTold 2 RX11 E L) (hr : meth.sig.returnType = (some .int)) (hlk : meth.locks = false)  (h0 : At L a0 T11) (h : fX11_kindTold_j12 fu a0 M = some (r, M')) (hR : Rx s E L M H locs) (hl : lv_has ls 2 [(0, .ref a0)]) : W p l e (rmD (d + 3)) s m args below meth c H locs 0 0 (MQ below (QcM E L (some (.int r)) M') args s 0 0 E.2.2.2) (F0 m 12 ls []) := by
  have hx := B.1
  have hb := B.2.1
  unfold fX11_kindTold_j12 at h
  refine lv_aload_n hx hb dX11_kindTold_12 rfl (lv_at hl 0 rfl) ?_
  refine gf_X11_146 B hR (h0.at0 rfl) dX11_kindTold_13 ?_
  obtain ⟨x1_16, ex1_16, h⟩ := lt_el h
  refine r_nmI ex1_16 ?_
  refine lv_istore_n (lv' := [(1, .int x1_16), (0, .ref a0)]) hx hb dX11_kindTold_16 rfl hl (by decide) rfl (fun ls hl => ?_)
  refine lv_aload_n hx hb dX11_kindTold_17 rfl (lv_at hl 1 rfl) ?_
  refine gf_X11_157 B hR (h0.at0 rfl) dX11_kindTold_18 ?_
  refine lv_if_ne (tgt := 28) hx hb dX11_kindTold_21 (by decide) (fun c_21 => ?_) (fun c_21 => ?_)
  · rw [if_neg c_21] at h
    exact wX11_kindTold_j28 B hr hlk  h hR (lv_sub hl [0] rfl)
  · rw [if_pos c_21] at h
    refine lv_aload_n hx hb dX11_kindTold_24 rfl (lv_at hl 1 rfl) ?_
    obtain ⟨M_25, hc_25, h⟩ := bm_el h
    refine iv_X11_170 B hR (h0.at0 rfl) hl.1 (mX11_scan fu _ h0 hc_25) (Nat.le_of_ble_eq_true rfl) dX11_kindTold_25 (fun H locs hR => ?_)
    exact wX11_kindTold_j28 B hr hlk  h hR (lv_sub hl [0] rfl)
def fX11_kindTold (fu : Nat) (a0 : Nat) (M : Mm) : Option (Int32 × Mm) :=
  bi (fX11_isKindWord fu a0 M) fun r_1 =>
  if r_1 = 0 then
    bm (fX11_fail fu a0 1 M) fun M_9 =>
    fX11_kindTold_j12 fu a0 M_9
  else
    fX11_kindTold_j12 fu a0 M
set_option maxRecDepth 100000 in
set_option maxHeartbeats 4000000 in
theorem mX11_kindTold {l : Launch} {E : Ge} {L : Lay} (fu d : Nat) {a0 : Nat} {M : Mm} {r : Int32} {M' : Mm}  (h0 : At L a0 T11) (h : fX11_kindTold fu a0 M = some (r, M')) : Ct l E L yX11_kindTold cX11_kindTold 2 (some .int) (d + 3) [.ref a0] M (some (.int r)) M' := by
  refine Ct.of (by decide) ?_
  intro p e s m below meth c hr hlk B hR
  have B : Bx p s m _ c cX11_kindTold 2 RX11 E L := B
  have hx := B.1
  have hb := B.2.1
  have hl := lv_entry ([.ref a0]) (n := 2) (Nat.le_of_ble_eq_true rfl)
  rw [lg_entry_eq]
  generalize (lg_sl ([.ref a0]) ++ List.replicate (2 - (lg_sl ([.ref a0])).length) Slot.unset).toArray = ls at hl ⊢
  have hl : lv_has ls 2 [(0, .ref a0)] := hl
  unfold fX11_kindTold at h
  refine lv_aload_n hx hb dX11_kindTold_0 rfl (lv_at hl 0 rfl) ?_
  obtain ⟨r_1, hc_1, h⟩ := bi_el h
  refine iv_X11_173 B hR (h0.at0 rfl) hl.1 (mX11_isKindWord fu _ h0 hc_1) (Nat.le_of_ble_eq_true rfl) dX11_kindTold_1 (fun H locs hR => ?_)
  refine lv_if_ne (tgt := 12) hx hb dX11_kindTold_4 (by decide) (fun c_4 => ?_) (fun c_4 => ?_)
  · rw [if_neg c_4] at h
    exact wX11_kindTold_j12 B hr hlk h0 h hR hl
  · rw [if_pos c_4] at h
    refine lv_aload_n hx hb dX11_kindTold_7 rfl (lv_at hl 0 rfl) ?_
    refine lv_iconst (v := 1) hx hb dX11_kindTold_8 (by decide) ?_
    obtain ⟨M_9, hc_9, h⟩ := bm_el h
    refine iv_X11_167 B hR (h0.at0 rfl) hl.1 (mX11_fail fu _ h0 hc_9) (Nat.le_of_ble_eq_true rfl) dX11_kindTold_9 (fun H locs hR => ?_)
    exact wX11_kindTold_j12 B hr hlk h0 h hR hl
def fX11_isOnce_j87 (fu : Nat) (t0 : Int32) (M : Mm) : Option (Int32 × Mm) :=
  gd (t0 = 0 ∨ t0 = 1) <|
  some (t0, M)
set_option maxRecDepth 100000 in
set_option maxHeartbeats 4000000 in
theorem wX11_isOnce_j87 {r : Int32} {M' : Mm}   {t0 : Int32} {M : Mm} (B : Bx p s m args c cX11_isOnce 2 RX11 E L) (hr : meth.sig.returnType = (some .boolean)) (hlk : meth.locks = false)   (h : fX11_isOnce_j87 fu t0 M = some (r, M')) (hR : Rx s E L M H locs) (hl : lv_has ls 2 []) : W p l e (rmD (d + 3)) s m args below meth c H locs 0 0 (MQ below (QcM E L (some (.int r)) M') args s 0 0 E.2.2.2) (F0 m 87 ls [.int t0]) := by
  have hx := B.1
  have hb := B.2.1
  unfold fX11_isOnce_j87 at h
  obtain ⟨hz_87, h⟩ := gd_el h
  exact r_zretW B hR hr hlk hz_87 h dX11_isOnce_87
def fX11_isOnce_j75 (fu : Nat) (a0 : Nat) (M : Mm) : Option (Int32 × Mm) :=
  if (M.1 a0 14) = 0 then
    fX11_isOnce_j87 fu 1 M
  else
    fX11_isOnce_j87 fu 0 M
set_option maxRecDepth 100000 in
set_option maxHeartbeats 4000000 in
theorem wX11_isOnce_j75 {r : Int32} {M' : Mm}   {a0 : Nat} {M : Mm} (B : Bx p s m args c cX11_isOnce 2 RX11 E L) (hr : meth.sig.returnType = (some .boolean)) (hlk : meth.locks = false)  (h0 : At L a0 T11) (h : fX11_isOnce_j75 fu a0 M = some (r, M')) (hR : Rx s E L M H locs) (hl : lv_has ls 2 [(0, .ref a0)]) : W p l e (rmD (d + 3)) s m args below meth c H locs 0 0 (MQ below (QcM E L (some (.int r)) M') args s 0 0 E.2.2.2) (F0 m 75 ls []) := by
  have hx := B.1
  have hb := B.2.1
  unfold fX11_isOnce_j75 at h
  refine lv_aload_n hx hb dX11_isOnce_75 rfl (lv_at hl 0 rfl) ?_
  refine gf_X11_157 B hR (h0.at0 rfl) dX11_isOnce_76 ?_
  refine lv_if_ne (tgt := 86) hx hb dX11_isOnce_79 (by decide) (fun c_79 => ?_) (fun c_79 => ?_)
  · rw [if_neg c_79] at h
    refine lv_iconst (v := 0) hx hb dX11_isOnce_86 (by decide) ?_
    exact wX11_isOnce_j87 B hr hlk  h hR (lv_sub hl [] rfl)
  · rw [if_pos c_79] at h
    refine lv_iconst (v := 1) hx hb dX11_isOnce_82 (by decide) ?_
    refine lv_goto (tgt := 87) hx hb dX11_isOnce_83 (by decide) ?_
    exact wX11_isOnce_j87 B hr hlk  h hR (lv_sub hl [] rfl)
def fX11_isOnce_j61 (fu : Nat) (a0 : Nat) (b0 : Nat) (t1 : Int32) (M : Mm) : Option (Int32 × Mm) :=
  gd (t1 = 0 ∨ t1 = 1) <|
  lt (wI M b0 20 t1) fun M_61 =>
  if (M_61.1 a0 14) = 0 then
    bm (fX11_scan fu a0 M_61) fun M_72 =>
    fX11_isOnce_j75 fu a0 M_72
  else
    fX11_isOnce_j75 fu a0 M_61
set_option maxRecDepth 100000 in
set_option maxHeartbeats 4000000 in
theorem wX11_isOnce_j61 {r : Int32} {M' : Mm}   {a0 : Nat} {b0 : Nat} {t1 : Int32} {M : Mm} (B : Bx p s m args c cX11_isOnce 2 RX11 E L) (hr : meth.sig.returnType = (some .boolean)) (hlk : meth.locks = false)  (h0 : At L a0 T11) (g0 : At L b0 T11) (h : fX11_isOnce_j61 fu a0 b0 t1 M = some (r, M')) (hR : Rx s E L M H locs) (hl : lv_has ls 2 [(0, .ref a0)]) : W p l e (rmD (d + 3)) s m args below meth c H locs 0 0 (MQ below (QcM E L (some (.int r)) M') args s 0 0 E.2.2.2) (F0 m 61 ls [.int t1, .ref b0]) := by
  have hx := B.1
  have hb := B.2.1
  unfold fX11_isOnce_j61 at h
  obtain ⟨hz_61, h⟩ := gd_el h
  obtain ⟨M_61, eM_61, h⟩ := lt_el h
  refine pz_X11_186 B hR (g0.at0 rfl) hz_61 dX11_isOnce_61 (fun H locs hR => ?_)
  rw [← eM_61] at hR
  refine lv_aload_n hx hb dX11_isOnce_64 rfl (lv_at hl 0 rfl) ?_
  refine gf_X11_157 B hR (h0.at0 rfl) dX11_isOnce_65 ?_
  refine lv_if_ne (tgt := 75) hx hb dX11_isOnce_68 (by decide) (fun c_68 => ?_) (fun c_68 => ?_)
  · rw [if_neg c_68] at h
    exact wX11_isOnce_j75 B hr hlk h0 h hR hl
  · rw [if_pos c_68] at h
    refine lv_aload_n hx hb dX11_isOnce_71 rfl (lv_at hl 0 rfl) ?_
    obtain ⟨M_72, hc_72, h⟩ := bm_el h
    refine iv_X11_170 B hR (h0.at0 rfl) hl.1 (mX11_scan fu _ h0 hc_72) (Nat.le_of_ble_eq_true rfl) dX11_isOnce_72 (fun H locs hR => ?_)
    exact wX11_isOnce_j75 B hr hlk h0 h hR hl
def fX11_isOnce_j56 (fu : Nat) (a0 : Nat) (b0 : Nat) (M : Mm) : Option (Int32 × Mm) :=
  fX11_isOnce_j61 fu a0 b0 1 M
set_option maxRecDepth 100000 in
set_option maxHeartbeats 4000000 in
theorem wX11_isOnce_j56 {r : Int32} {M' : Mm}   {a0 : Nat} {b0 : Nat} {M : Mm} (B : Bx p s m args c cX11_isOnce 2 RX11 E L) (hr : meth.sig.returnType = (some .boolean)) (hlk : meth.locks = false)  (h0 : At L a0 T11) (g0 : At L b0 T11) (h : fX11_isOnce_j56 fu a0 b0 M = some (r, M')) (hR : Rx s E L M H locs) (hl : lv_has ls 2 [(0, .ref a0)]) : W p l e (rmD (d + 3)) s m args below meth c H locs 0 0 (MQ below (QcM E L (some (.int r)) M') args s 0 0 E.2.2.2) (F0 m 56 ls [.ref b0]) := by
  have hx := B.1
  have hb := B.2.1
  unfold fX11_isOnce_j56 at h
  refine lv_iconst (v := 1) hx hb dX11_isOnce_56 (by decide) ?_
  refine lv_goto (tgt := 61) hx hb dX11_isOnce_57 (by decide) ?_
  exact wX11_isOnce_j61 B hr hlk h0 g0 h hR hl
def fX11_isOnce_j30 (fu : Nat) (a0 : Nat) (x1 : Int32) (M : Mm) : Option (Int32 × Mm) :=
  lt (wI M a0 19 ((M.1 a0 19) ||| (1 <<< (x1 &&& 31)))) fun M_39 =>
  if (M_39.1 a0 20) = 0 then
    if x1 < 8 then
      fX11_isOnce_j61 fu a0 a0 0 M_39
    else
      fX11_isOnce_j56 fu a0 a0 M_39
  else
    fX11_isOnce_j56 fu a0 a0 M_39
set_option maxRecDepth 100000 in
set_option maxHeartbeats 4000000 in
theorem wX11_isOnce_j30 {r : Int32} {M' : Mm}   {a0 : Nat} {x1 : Int32} {M : Mm} (B : Bx p s m args c cX11_isOnce 2 RX11 E L) (hr : meth.sig.returnType = (some .boolean)) (hlk : meth.locks = false)  (h0 : At L a0 T11) (h : fX11_isOnce_j30 fu a0 x1 M = some (r, M')) (hR : Rx s E L M H locs) (hl : lv_has ls 2 [(0, .ref a0), (1, .int x1)]) : W p l e (rmD (d + 3)) s m args below meth c H locs 0 0 (MQ below (QcM E L (some (.int r)) M') args s 0 0 E.2.2.2) (F0 m 30 ls []) := by
  have hx := B.1
  have hb := B.2.1
  unfold fX11_isOnce_j30 at h
  refine lv_aload_n hx hb dX11_isOnce_30 rfl (lv_at hl 0 rfl) ?_
  refine lv_dup hx hb dX11_isOnce_31 rfl ?_
  refine gf_X11_183 B hR (h0.at0 rfl) dX11_isOnce_32 ?_
  refine lv_iconst (v := 1) hx hb dX11_isOnce_35 (by decide) ?_
  refine lv_iload_n hx hb dX11_isOnce_36 rfl (lv_at hl 1 rfl) ?_
  refine lv_ishl hx hb dX11_isOnce_37 ?_
  refine lv_ior hx hb dX11_isOnce_38 ?_
  obtain ⟨M_39, eM_39, h⟩ := lt_el h
  refine pf_X11_183 B hR (h0.at0 rfl) dX11_isOnce_39 (fun H locs hR => ?_)
  rw [← eM_39] at hR
  refine lv_aload_n hx hb dX11_isOnce_42 rfl (lv_at hl 0 rfl) ?_
  refine lv_aload_n hx hb dX11_isOnce_43 rfl (lv_at hl 0 rfl) ?_
  refine gf_X11_186 B hR (h0.at0 rfl) dX11_isOnce_44 ?_
  refine lv_if_ne (tgt := 56) hx hb dX11_isOnce_47 (by decide) (fun c_47 => ?_) (fun c_47 => ?_)
  · rw [if_neg c_47] at h
    exact wX11_isOnce_j56 B hr hlk h0 h0 h hR (lv_sub hl [0] rfl)
  · rw [if_pos c_47] at h
    refine lv_iload_n hx hb dX11_isOnce_50 rfl (lv_at hl 1 rfl) ?_
    refine lv_bipush (v := 8) hx hb dX11_isOnce_51 (by decide) ?_
    refine lv_icmp_lt (tgt := 60) hx hb dX11_isOnce_53 (by decide) (fun c_53 => ?_) (fun c_53 => ?_)
    · rw [if_pos c_53] at h
      refine lv_iconst (v := 0) hx hb dX11_isOnce_60 (by decide) ?_
      exact wX11_isOnce_j61 B hr hlk h0 h0 h hR (lv_sub hl [0] rfl)
    · rw [if_neg c_53] at h
      exact wX11_isOnce_j56 B hr hlk h0 h0 h hR (lv_sub hl [0] rfl)
def fX11_isOnce_j25 (fu : Nat) (a0 : Nat) (x1 : Int32) (M : Mm) : Option (Int32 × Mm) :=
  bm (fX11_fail fu a0 3 M) fun M_27 =>
  fX11_isOnce_j30 fu a0 x1 M_27
set_option maxRecDepth 100000 in
set_option maxHeartbeats 4000000 in
theorem wX11_isOnce_j25 {r : Int32} {M' : Mm}   {a0 : Nat} {x1 : Int32} {M : Mm} (B : Bx p s m args c cX11_isOnce 2 RX11 E L) (hr : meth.sig.returnType = (some .boolean)) (hlk : meth.locks = false)  (h0 : At L a0 T11) (h : fX11_isOnce_j25 fu a0 x1 M = some (r, M')) (hR : Rx s E L M H locs) (hl : lv_has ls 2 [(0, .ref a0), (1, .int x1)]) : W p l e (rmD (d + 3)) s m args below meth c H locs 0 0 (MQ below (QcM E L (some (.int r)) M') args s 0 0 E.2.2.2) (F0 m 25 ls []) := by
  have hx := B.1
  have hb := B.2.1
  unfold fX11_isOnce_j25 at h
  refine lv_aload_n hx hb dX11_isOnce_25 rfl (lv_at hl 0 rfl) ?_
  refine lv_iconst (v := 3) hx hb dX11_isOnce_26 (by decide) ?_
  obtain ⟨M_27, hc_27, h⟩ := bm_el h
  refine iv_X11_167 B hR (h0.at0 rfl) hl.1 (mX11_fail fu _ h0 hc_27) (Nat.le_of_ble_eq_true rfl) dX11_isOnce_27 (fun H locs hR => ?_)
  exact wX11_isOnce_j30 B hr hlk h0 h hR hl
def fX11_isOnce (fu : Nat) (a0 : Nat) (x1 : Int32) (M : Mm) : Option (Int32 × Mm) :=
  if (((M.1 a0 19) >>> (x1 &&& 31)) &&& 1) = 1 then
    fX11_isOnce_j25 fu a0 x1 M
  else
    if 8 ≤ x1 then
      fX11_isOnce_j30 fu a0 x1 M
    else
      if (M.1 a0 20) = 0 then
        fX11_isOnce_j30 fu a0 x1 M
      else
        fX11_isOnce_j25 fu a0 x1 M
set_option maxRecDepth 100000 in
set_option maxHeartbeats 4000000 in
theorem mX11_isOnce {l : Launch} {E : Ge} {L : Lay} (fu d : Nat) {a0 : Nat} {x1 : Int32} {M : Mm} {r : Int32} {M' : Mm}  (h0 : At L a0 T11) (h : fX11_isOnce fu a0 x1 M = some (r, M')) : Ct l E L yX11_isOnce cX11_isOnce 2 (some .boolean) (d + 3) [.ref a0, .int x1] M (some (.int r)) M' := by
  refine Ct.of (by decide) ?_
  intro p e s m below meth c hr hlk B hR
  have B : Bx p s m _ c cX11_isOnce 2 RX11 E L := B
  have hx := B.1
  have hb := B.2.1
  have hl := lv_entry ([.ref a0, .int x1]) (n := 2) (Nat.le_of_ble_eq_true rfl)
  rw [lg_entry_eq]
  generalize (lg_sl ([.ref a0, .int x1]) ++ List.replicate (2 - (lg_sl ([.ref a0, .int x1])).length) Slot.unset).toArray = ls at hl ⊢
  have hl : lv_has ls 2 [(0, .ref a0), (1, .int x1)] := hl
  unfold fX11_isOnce at h
  refine lv_aload_n hx hb dX11_isOnce_0 rfl (lv_at hl 0 rfl) ?_
  refine gf_X11_183 B hR (h0.at0 rfl) dX11_isOnce_1 ?_
  refine lv_iload_n hx hb dX11_isOnce_4 rfl (lv_at hl 1 rfl) ?_
  refine lv_ishr hx hb dX11_isOnce_5 ?_
  refine lv_iconst (v := 1) hx hb dX11_isOnce_6 (by decide) ?_
  refine lv_iand hx hb dX11_isOnce_7 ?_
  refine lv_iconst (v := 1) hx hb dX11_isOnce_8 (by decide) ?_
  refine lv_icmp_eq (tgt := 25) hx hb dX11_isOnce_9 (by decide) (fun c_9 => ?_) (fun c_9 => ?_)
  · rw [if_pos c_9] at h
    exact wX11_isOnce_j25 B hr hlk h0 h hR hl
  · rw [if_neg c_9] at h
    refine lv_iload_n hx hb dX11_isOnce_12 rfl (lv_at hl 1 rfl) ?_
    refine lv_bipush (v := 8) hx hb dX11_isOnce_13 (by decide) ?_
    refine lv_icmp_ge (tgt := 30) hx hb dX11_isOnce_15 (by decide) (fun c_15 => ?_) (fun c_15 => ?_)
    · rw [if_pos c_15] at h
      exact wX11_isOnce_j30 B hr hlk h0 h hR hl
    · rw [if_neg c_15] at h
      refine lv_aload_n hx hb dX11_isOnce_18 rfl (lv_at hl 0 rfl) ?_
      refine gf_X11_186 B hR (h0.at0 rfl) dX11_isOnce_19 ?_
      refine lv_if_eq (tgt := 30) hx hb dX11_isOnce_22 (by decide) (fun c_22 => ?_) (fun c_22 => ?_)
      · rw [if_pos c_22] at h
        exact wX11_isOnce_j30 B hr hlk h0 h hR hl
      · rw [if_neg c_22] at h
        exact wX11_isOnce_j25 B hr hlk h0 h hR hl
def fX11_readFixed_j112 (fu : Nat) (M : Mm) : Option Mm :=
  some M
set_option maxRecDepth 100000 in
set_option maxHeartbeats 4000000 in
theorem wX11_readFixed_j112 {M' : Mm}    {M : Mm} (B : Bx p s m args c cX11_readFixed 4 RX11 E L) (hr : meth.sig.returnType = none) (hlk : meth.locks = false)   (h : fX11_readFixed_j112 fu M = some M') (hR : Rx s E L M H locs) (hl : lv_has ls 4 []) : W p l e (rmD (d + 4)) s m args below meth c H locs 0 0 (MQ below (QcM E L none M') args s 0 0 E.2.2.2) (F0 m 112 ls []) := by
  have hx := B.1
  have hb := B.2.1
  unfold fX11_readFixed_j112 at h
  exact r_vretW B hR hr hlk h dX11_readFixed_112
def fX11_readFixed_j96 (fu : Nat) (a0 : Nat) (x1 : Int32) (x2 : Int32) (M : Mm) : Option Mm :=
  if (M.1 a0 14) = 0 then
    if x1 < 0 ∨ 2 ≤ ix x1 then none else
    lt (wI M (a0 + 4) (ix x1) (1 <<< (x2 &&& 31))) fun M_111 =>
    fX11_readFixed_j112 fu M_111
  else
    fX11_readFixed_j112 fu M
set_option maxRecDepth 100000 in
set_option maxHeartbeats 4000000 in
theorem wX11_readFixed_j96 {M' : Mm}   {a0 : Nat} {x1 : Int32} {x2 : Int32} {M : Mm} (B : Bx p s m args c cX11_readFixed 4 RX11 E L) (hr : meth.sig.returnType = none) (hlk : meth.locks = false)  (h0 : At L a0 T11) (h : fX11_readFixed_j96 fu a0 x1 x2 M = some M') (hR : Rx s E L M H locs) (hl : lv_has ls 4 [(0, .ref a0), (1, .int x1), (2, .int x2)]) : W p l e (rmD (d + 4)) s m args below meth c H locs 0 0 (MQ below (QcM E L none M') args s 0 0 E.2.2.2) (F0 m 96 ls []) := by
  have hx := B.1
  have hb := B.2.1
  unfold fX11_readFixed_j96 at h
  refine lv_aload_n hx hb dX11_readFixed_96 rfl (lv_at hl 0 rfl) ?_
  refine gf_X11_157 B hR (h0.at0 rfl) dX11_readFixed_97 ?_
  refine lv_if_ne (tgt := 112) hx hb dX11_readFixed_100 (by decide) (fun c_100 => ?_) (fun c_100 => ?_)
  · rw [if_neg c_100] at h
    exact wX11_readFixed_j112 B hr hlk  h hR (lv_sub hl [] rfl)
  · rw [if_pos c_100] at h
    refine lv_aload_n hx hb dX11_readFixed_103 rfl (lv_at hl 0 rfl) ?_
    refine gf_X11_19 B hR (h0.at0 rfl) dX11_readFixed_104 ?_
    refine lv_iload_n hx hb dX11_readFixed_107 rfl (lv_at hl 1 rfl) ?_
    refine lv_iconst (v := 1) hx hb dX11_readFixed_108 (by decide) ?_
    refine lv_iload_n hx hb dX11_readFixed_109 rfl (lv_at hl 2 rfl) ?_
    refine lv_ishl hx hb dX11_readFixed_110 ?_
    obtain ⟨hi_111, h⟩ := ifn_el h
    obtain ⟨M_111, eM_111, h⟩ := lt_el h
    refine r_iast B hR (h0.at 4 rfl) hi_111 dX11_readFixed_111 (fun H locs hR => ?_)
    rw [← eM_111] at hR
    exact wX11_readFixed_j112 B hr hlk  h hR (lv_sub hl [] rfl)
def fX11_readFixed_j87 (fu : Nat) (a0 : Nat) (x1 : Int32) (x2 : Int32) (x3 : Int32) (M : Mm) : Option Mm :=
  if x3 = 0 then
    bm (fX11_fail fu a0 1 M) fun M_93 =>
    fX11_readFixed_j96 fu a0 x1 x2 M_93
  else
    fX11_readFixed_j96 fu a0 x1 x2 M
set_option maxRecDepth 100000 in
set_option maxHeartbeats 4000000 in
theorem wX11_readFixed_j87 {M' : Mm}   {a0 : Nat} {x1 : Int32} {x2 : Int32} {x3 : Int32} {M : Mm} (B : Bx p s m args c cX11_readFixed 4 RX11 E L) (hr : meth.sig.returnType = none) (hlk : meth.locks = false)  (h0 : At L a0 T11) (h : fX11_readFixed_j87 fu a0 x1 x2 x3 M = some M') (hR : Rx s E L M H locs) (hl : lv_has ls 4 [(0, .ref a0), (1, .int x1), (2, .int x2), (3, .int x3)]) : W p l e (rmD (d + 4)) s m args below meth c H locs 0 0 (MQ below (QcM E L none M') args s 0 0 E.2.2.2) (F0 m 87 ls []) := by
  have hx := B.1
  have hb := B.2.1
  unfold fX11_readFixed_j87 at h
  refine lv_iload_n hx hb dX11_readFixed_87 rfl (lv_at hl 3 rfl) ?_
  refine lv_if_ne (tgt := 96) hx hb dX11_readFixed_88 (by decide) (fun c_88 => ?_) (fun c_88 => ?_)
  · rw [if_neg c_88] at h
    exact wX11_readFixed_j96 B hr hlk h0 h hR (lv_sub hl [0, 1, 2] rfl)
  · rw [if_pos c_88] at h
    refine lv_aload_n hx hb dX11_readFixed_91 rfl (lv_at hl 0 rfl) ?_
    refine lv_iconst (v := 1) hx hb dX11_readFixed_92 (by decide) ?_
    obtain ⟨M_93, hc_93, h⟩ := bm_el h
    refine iv_X11_167 B hR (h0.at0 rfl) hl.1 (mX11_fail fu _ h0 hc_93) (Nat.le_of_ble_eq_true rfl) dX11_readFixed_93 (fun H locs hR => ?_)
    exact wX11_readFixed_j96 B hr hlk h0 h hR (lv_sub hl [0, 1, 2] rfl)
def fX11_readFixed_j65 (fu : Nat) (a0 : Nat) (x1 : Int32) (x2 : Int32) (x3 : Int32) (M : Mm) : Option Mm :=
  bi (fX11_isStop fu a0 M) fun r_66 =>
  if r_66 = 0 then
    fX11_readFixed_j87 fu a0 x1 x2 x3 M
  else
    if x3 ≤ 0 then
      fX11_readFixed_j87 fu a0 x1 x2 x3 M
    else
      if 8 ≤ x3 then
        fX11_readFixed_j87 fu a0 x1 x2 x3 M
      else
        bm (fX11_fail fu a0 4 M) fun M_84 =>
        fX11_readFixed_j87 fu a0 x1 x2 x3 M_84
set_option maxRecDepth 100000 in
set_option maxHeartbeats 4000000 in
theorem wX11_readFixed_j65 {M' : Mm}   {a0 : Nat} {x1 : Int32} {x2 : Int32} {x3 : Int32} {M : Mm} (B : Bx p s m args c cX11_readFixed 4 RX11 E L) (hr : meth.sig.returnType = none) (hlk : meth.locks = false)  (h0 : At L a0 T11) (h : fX11_readFixed_j65 fu a0 x1 x2 x3 M = some M') (hR : Rx s E L M H locs) (hl : lv_has ls 4 [(0, .ref a0), (1, .int x1), (2, .int x2), (3, .int x3)]) : W p l e (rmD (d + 4)) s m args below meth c H locs 0 0 (MQ below (QcM E L none M') args s 0 0 E.2.2.2) (F0 m 65 ls []) := by
  have hx := B.1
  have hb := B.2.1
  unfold fX11_readFixed_j65 at h
  refine lv_aload_n hx hb dX11_readFixed_65 rfl (lv_at hl 0 rfl) ?_
  obtain ⟨r_66, hc_66, h⟩ := bi_el h
  refine iv_X11_180 B hR (h0.at0 rfl) hl.1 (mX11_isStop fu _ h0 hc_66) (Nat.le_of_ble_eq_true rfl) dX11_readFixed_66 (fun H locs hR => ?_)
  refine lv_if_eq (tgt := 87) hx hb dX11_readFixed_69 (by decide) (fun c_69 => ?_) (fun c_69 => ?_)
  · rw [if_pos c_69] at h
    exact wX11_readFixed_j87 B hr hlk h0 h hR hl
  · rw [if_neg c_69] at h
    refine lv_iload_n hx hb dX11_readFixed_72 rfl (lv_at hl 3 rfl) ?_
    refine lv_if_le (tgt := 87) hx hb dX11_readFixed_73 (by decide) (fun c_73 => ?_) (fun c_73 => ?_)
    · rw [if_pos c_73] at h
      exact wX11_readFixed_j87 B hr hlk h0 h hR hl
    · rw [if_neg c_73] at h
      refine lv_iload_n hx hb dX11_readFixed_76 rfl (lv_at hl 3 rfl) ?_
      refine lv_bipush (v := 8) hx hb dX11_readFixed_77 (by decide) ?_
      refine lv_icmp_ge (tgt := 87) hx hb dX11_readFixed_79 (by decide) (fun c_79 => ?_) (fun c_79 => ?_)
      · rw [if_pos c_79] at h
        exact wX11_readFixed_j87 B hr hlk h0 h hR hl
      · rw [if_neg c_79] at h
        refine lv_aload_n hx hb dX11_readFixed_82 rfl (lv_at hl 0 rfl) ?_
        refine lv_iconst (v := 4) hx hb dX11_readFixed_83 (by decide) ?_
        obtain ⟨M_84, hc_84, h⟩ := bm_el h
        refine iv_X11_167 B hR (h0.at0 rfl) hl.1 (mX11_fail fu _ h0 hc_84) (Nat.le_of_ble_eq_true rfl) dX11_readFixed_84 (fun H locs hR => ?_)
        exact wX11_readFixed_j87 B hr hlk h0 h hR hl
def fX11_readFixed_j39 (fu : Nat) (M : Mm) : Option Mm :=
  some M
set_option maxRecDepth 100000 in
set_option maxHeartbeats 4000000 in
theorem wX11_readFixed_j39 {M' : Mm}    {M : Mm} (B : Bx p s m args c cX11_readFixed 4 RX11 E L) (hr : meth.sig.returnType = none) (hlk : meth.locks = false)   (h : fX11_readFixed_j39 fu M = some M') (hR : Rx s E L M H locs) (hl : lv_has ls 4 []) : W p l e (rmD (d + 4)) s m args below meth c H locs 0 0 (MQ below (QcM E L none M') args s 0 0 E.2.2.2) (F0 m 39 ls []) := by
  have hx := B.1
  have hb := B.2.1
  unfold fX11_readFixed_j39 at h
  exact r_vretW B hR hr hlk h dX11_readFixed_39
def fX11_readFixed_j32 (fu : Nat) (k14 : Int32 → Mm → Option Mm) (a0 : Nat) (x1 : Int32) (x2 : Int32) (x3 : Int32) (M : Mm) : Option Mm :=
  if (M.1 a0 14) ≤ 0 then
    bw (fX11_kindTold fu a0 M) fun r_55 M_55 =>
    if (((140 * x1) + 68) + x3) < 0 ∨ 280 ≤ ix (((140 * x1) + 68) + x3) then none else
    lt (wI M_55 (a0 + 5) (ix (((140 * x1) + 68) + x3)) r_55) fun M_58 =>
    lt (x3 + 1) fun x3_59 =>
    k14 x3_59 M_58
  else
    fX11_readFixed_j39 fu M
set_option maxRecDepth 100000 in
set_option maxHeartbeats 4000000 in
theorem wX11_readFixed_j32 {M' : Mm}  {k14 : Int32 → Mm → Option Mm} {a0 : Nat} {x1 : Int32} {x2 : Int32} {x3 : Int32} {M : Mm} (B : Bx p s m args c cX11_readFixed 4 RX11 E L) (hr : meth.sig.returnType = none) (hlk : meth.locks = false) (ih14 : ∀ (x3 : Int32) (M : Mm), k14 x3 M = some M' → ∀ (H : Heap) (locs : List Loc) (ls : Array Slot), Rx s E L M H locs → lv_has ls 4 [(0, .ref a0), (1, .int x1), (2, .int x2), (3, .int x3)] → W p l e (rmD (d + 4)) s m args below meth c H locs 0 0 (MQ below (QcM E L none M') args s 0 0 E.2.2.2) (F0 m 14 ls [])) (h0 : At L a0 T11) (h : fX11_readFixed_j32 fu k14 a0 x1 x2 x3 M = some M') (hR : Rx s E L M H locs) (hl : lv_has ls 4 [(0, .ref a0), (1, .int x1), (2, .int x2), (3, .int x3)]) : W p l e (rmD (d + 4)) s m args below meth c H locs 0 0 (MQ below (QcM E L none M') args s 0 0 E.2.2.2) (F0 m 32 ls []) := by
  have hx := B.1
  have hb := B.2.1
  unfold fX11_readFixed_j32 at h
  refine lv_aload_n hx hb dX11_readFixed_32 rfl (lv_at hl 0 rfl) ?_
  refine gf_X11_157 B hR (h0.at0 rfl) dX11_readFixed_33 ?_
  refine lv_if_le (tgt := 40) hx hb dX11_readFixed_36 (by decide) (fun c_36 => ?_) (fun c_36 => ?_)
  · rw [if_pos c_36] at h
    refine lv_aload_n hx hb dX11_readFixed_40 rfl (lv_at hl 0 rfl) ?_
    refine gf_X11_22 B hR (h0.at0 rfl) dX11_readFixed_41 ?_
    refine lv_sipush (v := 140) hx hb dX11_readFixed_44 (by decide) ?_
    refine lv_iload_n hx hb dX11_readFixed_47 rfl (lv_at hl 1 rfl) ?_
    refine lv_imul hx hb dX11_readFixed_48 ?_
    refine lv_bipush (v := 68) hx hb dX11_readFixed_49 (by decide) ?_
    refine lv_iadd hx hb dX11_readFixed_51 ?_
    refine lv_iload_n hx hb dX11_readFixed_52 rfl (lv_at hl 3 rfl) ?_
    refine lv_iadd hx hb dX11_readFixed_53 ?_
    refine lv_aload_n hx hb dX11_readFixed_54 rfl (lv_at hl 0 rfl) ?_
    obtain ⟨r_55, M_55, hc_55, h⟩ := bw_el h
    refine iv_X11_200 B hR (h0.at0 rfl) hl.1 (mX11_kindTold fu _ h0 hc_55) (Nat.le_of_ble_eq_true rfl) dX11_readFixed_55 (fun H locs hR => ?_)
    obtain ⟨hi_58, h⟩ := ifn_el h
    obtain ⟨M_58, eM_58, h⟩ := lt_el h
    refine r_iast B hR (h0.at 5 rfl) hi_58 dX11_readFixed_58 (fun H locs hR => ?_)
    rw [← eM_58] at hR
    obtain ⟨x3_59, ex3_59, h⟩ := lt_el h
    refine lv_iinc (v := x3_59) (lv' := [(3, .int x3_59), (0, .ref a0), (1, .int x1), (2, .int x2)]) hx hb dX11_readFixed_59 hl (k := 3) rfl (by rw [ex3_59]; rfl) (by decide) rfl (fun ls hl => ?_)
    refine lv_goto (tgt := 14) hx hb dX11_readFixed_62 (by decide) ?_
    exact ih14 x3_59 M_58 h _ _ _ hR (lv_sub hl [1, 2, 3, 0] rfl)
  · rw [if_neg c_36] at h
    exact wX11_readFixed_j39 B hr hlk  h hR (lv_sub hl [] rfl)
def fX11_readFixed_b14 (fu : Nat) (k14 : Int32 → Mm → Option Mm) (a0 : Nat) (x1 : Int32) (x2 : Int32) (x3 : Int32) (M : Mm) : Option Mm :=
  bi (fX11_isKindWord fu a0 M) fun r_15 =>
  if r_15 = 0 then
    fX11_readFixed_j65 fu a0 x1 x2 x3 M
  else
    if x3 = 8 then
      bm (fX11_fail fu a0 4 M) fun M_29 =>
      fX11_readFixed_j32 fu k14 a0 x1 x2 x3 M_29
    else
      fX11_readFixed_j32 fu k14 a0 x1 x2 x3 M
set_option maxRecDepth 100000 in
set_option maxHeartbeats 4000000 in
theorem wX11_readFixed_b14 {M' : Mm}   {k14 : Int32 → Mm → Option Mm} {a0 : Nat} {x1 : Int32} {x2 : Int32} {x3 : Int32} {M : Mm} (B : Bx p s m args c cX11_readFixed 4 RX11 E L) (hr : meth.sig.returnType = none) (hlk : meth.locks = false)  (ih14 : ∀ (x3 : Int32) (M : Mm), k14 x3 M = some M' → ∀ (H : Heap) (locs : List Loc) (ls : Array Slot), Rx s E L M H locs → lv_has ls 4 [(0, .ref a0), (1, .int x1), (2, .int x2), (3, .int x3)] → W p l e (rmD (d + 4)) s m args below meth c H locs 0 0 (MQ below (QcM E L none M') args s 0 0 E.2.2.2) (F0 m 14 ls [])) (h0 : At L a0 T11) (h : fX11_readFixed_b14 fu k14 a0 x1 x2 x3 M = some M') (hR : Rx s E L M H locs) (hl : lv_has ls 4 [(0, .ref a0), (1, .int x1), (2, .int x2), (3, .int x3)]) : W p l e (rmD (d + 4)) s m args below meth c H locs 0 0 (MQ below (QcM E L none M') args s 0 0 E.2.2.2) (F0 m 14 ls []) := by
  have hx := B.1
  have hb := B.2.1
  unfold fX11_readFixed_b14 at h
  refine lv_aload_n hx hb dX11_readFixed_14 rfl (lv_at hl 0 rfl) ?_
  obtain ⟨r_15, hc_15, h⟩ := bi_el h
  refine iv_X11_173 B hR (h0.at0 rfl) hl.1 (mX11_isKindWord fu _ h0 hc_15) (Nat.le_of_ble_eq_true rfl) dX11_readFixed_15 (fun H locs hR => ?_)
  refine lv_if_eq (tgt := 65) hx hb dX11_readFixed_18 (by decide) (fun c_18 => ?_) (fun c_18 => ?_)
  · rw [if_pos c_18] at h
    exact wX11_readFixed_j65 B hr hlk h0 h hR hl
  · rw [if_neg c_18] at h
    refine lv_iload_n hx hb dX11_readFixed_21 rfl (lv_at hl 3 rfl) ?_
    refine lv_bipush (v := 8) hx hb dX11_readFixed_22 (by decide) ?_
    refine lv_icmp_ne (tgt := 32) hx hb dX11_readFixed_24 (by decide) (fun c_24 => ?_) (fun c_24 => ?_)
    · rw [if_neg c_24] at h
      exact wX11_readFixed_j32 B hr hlk ih14 h0 h hR hl
    · rw [if_pos c_24] at h
      refine lv_aload_n hx hb dX11_readFixed_27 rfl (lv_at hl 0 rfl) ?_
      refine lv_iconst (v := 4) hx hb dX11_readFixed_28 (by decide) ?_
      obtain ⟨M_29, hc_29, h⟩ := bm_el h
      refine iv_X11_167 B hR (h0.at0 rfl) hl.1 (mX11_fail fu _ h0 hc_29) (Nat.le_of_ble_eq_true rfl) dX11_readFixed_29 (fun H locs hR => ?_)
      exact wX11_readFixed_j32 B hr hlk ih14 h0 h hR hl
def fX11_readFixed_l14 (fu : Nat) (a0 : Nat) (x1 : Int32) (x2 : Int32) (x3 : Int32) (M : Mm) : Option Mm := lp (fun (rec : (Int32 × Mm) → Option Mm) (s : Int32 × Mm) => fX11_readFixed_b14 fu  (fun x3 M => rec (x3, M)) a0 x1 x2 s.1 s.2) fu (x3, M)
set_option maxRecDepth 100000 in
set_option maxHeartbeats 4000000 in
theorem wX11_readFixed_l14 {M' : Mm}   {a0 : Nat} {x1 : Int32} {x2 : Int32} {x3 : Int32} {M : Mm} (B : Bx p s m args c cX11_readFixed 4 RX11 E L) (hr : meth.sig.returnType = none) (hlk : meth.locks = false)  (h0 : At L a0 T11) (h : fX11_readFixed_l14 fu a0 x1 x2 x3 M = some M') (hR : Rx s E L M H locs) (hl : lv_has ls 4 [(0, .ref a0), (1, .int x1), (2, .int x2), (3, .int x3)]) : W p l e (rmD (d + 4)) s m args below meth c H locs 0 0 (MQ below (QcM E L none M') args s 0 0 E.2.2.2) (F0 m 14 ls []) := by
  refine lp_G (G := fun z : Int32 × Mm => ∀ (H : Heap) (locs : List Loc) (ls : Array Slot), Rx s E L z.2 H locs → lv_has ls 4 [(0, .ref a0), (1, .int x1), (2, .int x2), (3, .int z.1)] → W p l e (rmD (d + 4)) s m args below meth c H locs 0 0 (MQ below (QcM E L none M') args s 0 0 E.2.2.2) (F0 m 14 ls [])) (fun rec ih z h H locs ls hR hl => ?_) fu _ h H locs ls hR hl
  exact wX11_readFixed_b14 B hr hlk  (fun x3 M h => ih (x3, M) h) h0 h hR hl
def fX11_readFixed (fu : Nat) (a0 : Nat) (x1 : Int32) (M : Mm) : Option Mm :=
  if x1 < 0 ∨ 2 ≤ ix x1 then none else
  bw (fX11_numeral fu a0 3 (M.1 (a0 + 2) (ix x1)) M) fun r_8 M_8 =>
  fX11_readFixed_l14 fu a0 x1 r_8 0 M_8
set_option maxRecDepth 100000 in
set_option maxHeartbeats 4000000 in
theorem mX11_readFixed {l : Launch} {E : Ge} {L : Lay} (fu d : Nat) {a0 : Nat} {x1 : Int32} {M : Mm} {M' : Mm}  (h0 : At L a0 T11) (h : fX11_readFixed fu a0 x1 M = some M') : Ct l E L yX11_readFixed cX11_readFixed 4 none (d + 4) [.ref a0, .int x1] M none M' := by
  refine Ct.of (by decide) ?_
  intro p e s m below meth c hr hlk B hR
  have B : Bx p s m _ c cX11_readFixed 4 RX11 E L := B
  have hx := B.1
  have hb := B.2.1
  have hl := lv_entry ([.ref a0, .int x1]) (n := 4) (Nat.le_of_ble_eq_true rfl)
  rw [lg_entry_eq]
  generalize (lg_sl ([.ref a0, .int x1]) ++ List.replicate (4 - (lg_sl ([.ref a0, .int x1])).length) Slot.unset).toArray = ls at hl ⊢
  have hl : lv_has ls 4 [(0, .ref a0), (1, .int x1)] := hl
  unfold fX11_readFixed at h
  refine lv_aload_n hx hb dX11_readFixed_0 rfl (lv_at hl 0 rfl) ?_
  refine lv_iconst (v := 3) hx hb dX11_readFixed_1 (by decide) ?_
  refine lv_aload_n hx hb dX11_readFixed_2 rfl (lv_at hl 0 rfl) ?_
  refine gf_X11_13 B hR (h0.at0 rfl) dX11_readFixed_3 ?_
  refine lv_iload_n hx hb dX11_readFixed_6 rfl (lv_at hl 1 rfl) ?_
  obtain ⟨hi_7, h⟩ := ifn_el h
  refine r_iald B hR (h0.at 2 rfl) hi_7 dX11_readFixed_7 ?_
  obtain ⟨r_8, M_8, hc_8, h⟩ := bw_el h
  refine iv_X11_196 B hR (h0.at0 rfl) hl.1 (mX11_numeral fu _ h0 hc_8) (Nat.le_of_ble_eq_true rfl) dX11_readFixed_8 (fun H locs hR => ?_)
  refine lv_istore_n (lv' := [(2, .int r_8), (0, .ref a0), (1, .int x1)]) hx hb dX11_readFixed_11 rfl hl (by decide) rfl (fun ls hl => ?_)
  refine lv_iconst (v := 0) hx hb dX11_readFixed_12 (by decide) ?_
  refine lv_istore_n (lv' := [(3, .int 0), (2, .int r_8), (0, .ref a0), (1, .int x1)]) hx hb dX11_readFixed_13 rfl hl (by decide) rfl (fun ls hl => ?_)
  exact wX11_readFixed_l14 B hr hlk h0 h hR (lv_sub hl [2, 3, 1, 0] rfl)
def fX11_spaceOf (fu : Nat) (a0 : Nat) (x1 : Int32) (M : Mm) : Option Int32 :=
  if x1 < 0 ∨ 2 ≤ ix x1 then none else
  some (1 <<< ((M.1 (a0 + 2) (ix x1)) &&& 31))
set_option maxRecDepth 100000 in
set_option maxHeartbeats 4000000 in
theorem mX11_spaceOf {l : Launch} {E : Ge} {L : Lay} (fu d : Nat) {a0 : Nat} {x1 : Int32} {M : Mm} {r : Int32}  (h0 : At L a0 T11) (h : fX11_spaceOf fu a0 x1 M = some r) : Ct l E L yX11_spaceOf cX11_spaceOf 2 (some .int) (d + 0) [.ref a0, .int x1] M (some (.int r)) M := by
  refine Ct.of (by decide) ?_
  intro p e s m below meth c hr hlk B hR
  have B : Bx p s m _ c cX11_spaceOf 2 RX11 E L := B
  have hx := B.1
  have hb := B.2.1
  have hl := lv_entry ([.ref a0, .int x1]) (n := 2) (Nat.le_of_ble_eq_true rfl)
  rw [lg_entry_eq]
  generalize (lg_sl ([.ref a0, .int x1]) ++ List.replicate (2 - (lg_sl ([.ref a0, .int x1])).length) Slot.unset).toArray = ls at hl ⊢
  have hl : lv_has ls 2 [(0, .ref a0), (1, .int x1)] := hl
  unfold fX11_spaceOf at h
  refine lv_iconst (v := 1) hx hb dX11_spaceOf_0 (by decide) ?_
  refine lv_aload_n hx hb dX11_spaceOf_1 rfl (lv_at hl 0 rfl) ?_
  refine gf_X11_13 B hR (h0.at0 rfl) dX11_spaceOf_2 ?_
  refine lv_iload_n hx hb dX11_spaceOf_5 rfl (lv_at hl 1 rfl) ?_
  obtain ⟨hi_6, h⟩ := ifn_el h
  refine r_iald B hR (h0.at 2 rfl) hi_6 dX11_spaceOf_6 ?_
  refine lv_ishl hx hb dX11_spaceOf_7 ?_
  exact r_iretP B hR hr hlk h dX11_spaceOf_8
def fX11_readSpan_j45 (fu : Nat) (a0 : Nat) (x1 : Int32) (x2 : Int32) (M : Mm) : Option Mm :=
  if (M.1 a0 14) ≤ 0 then
    bm (fX11_scan fu a0 M) fun M_54 =>
    bi (fX11_spaceOf fu a0 x1 M_54) fun r_61 =>
    bw (fX11_numeral fu a0 0 (r_61 - 1) M_54) fun r_66 M_66 =>
    bi (fX11_spaceOf fu a0 x1 M_66) fun r_74 =>
    bw (fX11_numeral fu a0 r_66 (r_74 - 1) M_66) fun r_79 M_79 =>
    bw (fX11_kindTold fu a0 M_79) fun r_85 M_85 =>
    if (M_85.1 a0 14) ≤ 0 then
      if x2 < 0 ∨ 280 ≤ ix x2 then none else
      lt (wI M_85 (a0 + 5) (ix x2) r_66) fun M_104 =>
      if (x2 + 1) < 0 ∨ 280 ≤ ix (x2 + 1) then none else
      lt (wI M_104 (a0 + 5) (ix (x2 + 1)) r_79) fun M_114 =>
      if (x2 + 2) < 0 ∨ 280 ≤ ix (x2 + 2) then none else
      lt (wI M_114 (a0 + 5) (ix (x2 + 2)) r_85) fun M_124 =>
      if ((140 * x1) + 1) < 0 ∨ 280 ≤ ix ((140 * x1) + 1) then none else
      lt (wI M_124 (a0 + 5) (ix ((140 * x1) + 1)) ((M_124.1 (a0 + 5) (ix ((140 * x1) + 1))) + 1)) fun M_140 =>
      some M_140
    else
      some M_85
  else
    some M
set_option maxRecDepth 100000 in
set_option maxHeartbeats 4000000 in
theorem wX11_readSpan_j45 {M' : Mm}   {a0 : Nat} {x1 : Int32} {x2 : Int32} {M : Mm} (B : Bx p s m args c cX11_readSpan 6 RX11 E L) (hr : meth.sig.returnType = none) (hlk : meth.locks = false)  (h0 : At L a0 T11) (h : fX11_readSpan_j45 fu a0 x1 x2 M = some M') (hR : Rx s E L M H locs) (hl : lv_has ls 6 [(0, .ref a0), (1, .int x1), (2, .int x2)]) : W p l e (rmD (d + 4)) s m args below meth c H locs 0 0 (MQ below (QcM E L none M') args s 0 0 E.2.2.2) (F0 m 45 ls []) := by
  have hx := B.1
  have hb := B.2.1
  unfold fX11_readSpan_j45 at h
  refine lv_aload_n hx hb dX11_readSpan_45 rfl (lv_at hl 0 rfl) ?_
  refine gf_X11_157 B hR (h0.at0 rfl) dX11_readSpan_46 ?_
  refine lv_if_le (tgt := 53) hx hb dX11_readSpan_49 (by decide) (fun c_49 => ?_) (fun c_49 => ?_)
  · rw [if_pos c_49] at h
    refine lv_aload_n hx hb dX11_readSpan_53 rfl (lv_at hl 0 rfl) ?_
    obtain ⟨M_54, hc_54, h⟩ := bm_el h
    refine iv_X11_170 B hR (h0.at0 rfl) hl.1 (mX11_scan fu _ h0 hc_54) (Nat.le_of_ble_eq_true rfl) dX11_readSpan_54 (fun H locs hR => ?_)
    refine lv_aload_n hx hb dX11_readSpan_57 rfl (lv_at hl 0 rfl) ?_
    refine lv_iconst (v := 0) hx hb dX11_readSpan_58 (by decide) ?_
    refine lv_aload_n hx hb dX11_readSpan_59 rfl (lv_at hl 0 rfl) ?_
    refine lv_iload_n hx hb dX11_readSpan_60 rfl (lv_at hl 1 rfl) ?_
    obtain ⟨r_61, hc_61, h⟩ := bi_el h
    refine iv_X11_216 B hR (h0.at0 rfl) hl.1 (mX11_spaceOf fu _ h0 hc_61) (Nat.le_of_ble_eq_true rfl) dX11_readSpan_61 (fun H locs hR => ?_)
    refine lv_iconst (v := 1) hx hb dX11_readSpan_64 (by decide) ?_
    refine lv_isub hx hb dX11_readSpan_65 ?_
    obtain ⟨r_66, M_66, hc_66, h⟩ := bw_el h
    refine iv_X11_196 B hR (h0.at0 rfl) hl.1 (mX11_numeral fu _ h0 hc_66) (Nat.le_of_ble_eq_true rfl) dX11_readSpan_66 (fun H locs hR => ?_)
    refine lv_istore_n (lv' := [(3, .int r_66), (0, .ref a0), (1, .int x1), (2, .int x2)]) hx hb dX11_readSpan_69 rfl hl (by decide) rfl (fun ls hl => ?_)
    refine lv_aload_n hx hb dX11_readSpan_70 rfl (lv_at hl 1 rfl) ?_
    refine lv_iload_n hx hb dX11_readSpan_71 rfl (lv_at hl 0 rfl) ?_
    refine lv_aload_n hx hb dX11_readSpan_72 rfl (lv_at hl 1 rfl) ?_
    refine lv_iload_n hx hb dX11_readSpan_73 rfl (lv_at hl 2 rfl) ?_
    obtain ⟨r_74, hc_74, h⟩ := bi_el h
    refine iv_X11_216 B hR (h0.at0 rfl) hl.1 (mX11_spaceOf fu _ h0 hc_74) (Nat.le_of_ble_eq_true rfl) dX11_readSpan_74 (fun H locs hR => ?_)
    refine lv_iconst (v := 1) hx hb dX11_readSpan_77 (by decide) ?_
    refine lv_isub hx hb dX11_readSpan_78 ?_
    obtain ⟨r_79, M_79, hc_79, h⟩ := bw_el h
    refine iv_X11_196 B hR (h0.at0 rfl) hl.1 (mX11_numeral fu _ h0 hc_79) (Nat.le_of_ble_eq_true rfl) dX11_readSpan_79 (fun H locs hR => ?_)
    refine lv_istore (lv' := [(4, .int r_79), (3, .int r_66), (0, .ref a0), (1, .int x1), (2, .int x2)]) hx hb dX11_readSpan_82 hl (by decide) rfl (fun ls hl => ?_)
    refine lv_aload_n hx hb dX11_readSpan_84 rfl (lv_at hl 2 rfl) ?_
    obtain ⟨r_85, M_85, hc_85, h⟩ := bw_el h
    refine iv_X11_200 B hR (h0.at0 rfl) hl.1 (mX11_kindTold fu _ h0 hc_85) (Nat.le_of_ble_eq_true rfl) dX11_readSpan_85 (fun H locs hR => ?_)
    refine lv_istore (lv' := [(5, .int r_85), (4, .int r_79), (3, .int r_66), (0, .ref a0), (1, .int x1), (2, .int x2)]) hx hb dX11_readSpan_88 hl (by decide) rfl (fun ls hl => ?_)
    refine lv_aload_n hx hb dX11_readSpan_90 rfl (lv_at hl 3 rfl) ?_
    refine gf_X11_157 B hR (h0.at0 rfl) dX11_readSpan_91 ?_
    refine lv_if_le (tgt := 98) hx hb dX11_readSpan_94 (by decide) (fun c_94 => ?_) (fun c_94 => ?_)
    · rw [if_pos c_94] at h
      refine lv_aload_n hx hb dX11_readSpan_98 rfl (lv_at hl 3 rfl) ?_
      refine gf_X11_22 B hR (h0.at0 rfl) dX11_readSpan_99 ?_
      refine lv_iload_n hx hb dX11_readSpan_102 rfl (lv_at hl 5 rfl) ?_
      refine lv_iload_n hx hb dX11_readSpan_103 rfl (lv_at hl 2 rfl) ?_
      obtain ⟨hi_104, h⟩ := ifn_el h
      obtain ⟨M_104, eM_104, h⟩ := lt_el h
      refine r_iast B hR (h0.at 5 rfl) hi_104 dX11_readSpan_104 (fun H locs hR => ?_)
      rw [← eM_104] at hR
      refine lv_aload_n hx hb dX11_readSpan_105 rfl (lv_at hl 3 rfl) ?_
      refine gf_X11_22 B hR (h0.at0 rfl) dX11_readSpan_106 ?_
      refine lv_iload_n hx hb dX11_readSpan_109 rfl (lv_at hl 5 rfl) ?_
      refine lv_iconst (v := 1) hx hb dX11_readSpan_110 (by decide) ?_
      refine lv_iadd hx hb dX11_readSpan_111 ?_
      refine lv_iload hx hb dX11_readSpan_112 (lv_at hl 1 rfl) ?_
      obtain ⟨hi_114, h⟩ := ifn_el h
      obtain ⟨M_114, eM_114, h⟩ := lt_el h
      refine r_iast B hR (h0.at 5 rfl) hi_114 dX11_readSpan_114 (fun H locs hR => ?_)
      rw [← eM_114] at hR
      refine lv_aload_n hx hb dX11_readSpan_115 rfl (lv_at hl 3 rfl) ?_
      refine gf_X11_22 B hR (h0.at0 rfl) dX11_readSpan_116 ?_
      refine lv_iload_n hx hb dX11_readSpan_119 rfl (lv_at hl 5 rfl) ?_
      refine lv_iconst (v := 2) hx hb dX11_readSpan_120 (by decide) ?_
      refine lv_iadd hx hb dX11_readSpan_121 ?_
      refine lv_iload hx hb dX11_readSpan_122 (lv_at hl 0 rfl) ?_
      obtain ⟨hi_124, h⟩ := ifn_el h
      obtain ⟨M_124, eM_124, h⟩ := lt_el h
      refine r_iast B hR (h0.at 5 rfl) hi_124 dX11_readSpan_124 (fun H locs hR => ?_)
      rw [← eM_124] at hR
      refine lv_aload_n hx hb dX11_readSpan_125 rfl (lv_at hl 3 rfl) ?_
      refine gf_X11_22 B hR (h0.at0 rfl) dX11_readSpan_126 ?_
      refine lv_sipush (v := 140) hx hb dX11_readSpan_129 (by decide) ?_
      refine lv_iload_n hx hb dX11_readSpan_132 rfl (lv_at hl 4 rfl) ?_
      refine lv_imul hx hb dX11_readSpan_133 ?_
      refine lv_iconst (v := 1) hx hb dX11_readSpan_134 (by decide) ?_
      refine lv_iadd hx hb dX11_readSpan_135 ?_
      refine lv_dup2_11 hx hb dX11_readSpan_136 rfl rfl ?_
      obtain ⟨hi_137, h⟩ := ifn_el h
      refine r_iald B hR (h0.at 5 rfl) hi_137 dX11_readSpan_137 ?_
      refine lv_iconst (v := 1) hx hb dX11_readSpan_138 (by decide) ?_
      refine lv_iadd hx hb dX11_readSpan_139 ?_
      obtain ⟨M_140, eM_140, h⟩ := lt_el h
      refine r_iast B hR (h0.at 5 rfl) hi_137 dX11_readSpan_140 (fun H locs hR => ?_)
      rw [← eM_140] at hR
      exact r_vretW B hR hr hlk h dX11_readSpan_141
    · rw [if_neg c_94] at h
      exact r_vretW B hR hr hlk h dX11_readSpan_97
  · rw [if_neg c_49] at h
    exact r_vretW B hR hr hlk h dX11_readSpan_52
def fX11_readSpan (fu : Nat) (a0 : Nat) (x1 : Int32) (M : Mm) : Option Mm :=
  if ((140 * x1) + 1) < 0 ∨ 280 ≤ ix ((140 * x1) + 1) then none else
  lt ((((140 * x1) + 2) + (3 * (M.1 (a0 + 5) (ix ((140 * x1) + 1)))))) fun x2_22 =>
  if (M.1 (a0 + 5) (ix ((140 * x1) + 1))) = 12 then
    bm (fX11_fail fu a0 4 M) fun M_42 =>
    fX11_readSpan_j45 fu a0 x1 x2_22 M_42
  else
    fX11_readSpan_j45 fu a0 x1 x2_22 M
set_option maxRecDepth 100000 in
set_option maxHeartbeats 4000000 in
theorem mX11_readSpan {l : Launch} {E : Ge} {L : Lay} (fu d : Nat) {a0 : Nat} {x1 : Int32} {M : Mm} {M' : Mm}  (h0 : At L a0 T11) (h : fX11_readSpan fu a0 x1 M = some M') : Ct l E L yX11_readSpan cX11_readSpan 6 none (d + 4) [.ref a0, .int x1] M none M' := by
  refine Ct.of (by decide) ?_
  intro p e s m below meth c hr hlk B hR
  have B : Bx p s m _ c cX11_readSpan 6 RX11 E L := B
  have hx := B.1
  have hb := B.2.1
  have hl := lv_entry ([.ref a0, .int x1]) (n := 6) (Nat.le_of_ble_eq_true rfl)
  rw [lg_entry_eq]
  generalize (lg_sl ([.ref a0, .int x1]) ++ List.replicate (6 - (lg_sl ([.ref a0, .int x1])).length) Slot.unset).toArray = ls at hl ⊢
  have hl : lv_has ls 6 [(0, .ref a0), (1, .int x1)] := hl
  unfold fX11_readSpan at h
  refine lv_sipush (v := 140) hx hb dX11_readSpan_0 (by decide) ?_
  refine lv_iload_n hx hb dX11_readSpan_3 rfl (lv_at hl 1 rfl) ?_
  refine lv_imul hx hb dX11_readSpan_4 ?_
  refine lv_iconst (v := 2) hx hb dX11_readSpan_5 (by decide) ?_
  refine lv_iadd hx hb dX11_readSpan_6 ?_
  refine lv_iconst (v := 3) hx hb dX11_readSpan_7 (by decide) ?_
  refine lv_aload_n hx hb dX11_readSpan_8 rfl (lv_at hl 0 rfl) ?_
  refine gf_X11_22 B hR (h0.at0 rfl) dX11_readSpan_9 ?_
  refine lv_sipush (v := 140) hx hb dX11_readSpan_12 (by decide) ?_
  refine lv_iload_n hx hb dX11_readSpan_15 rfl (lv_at hl 1 rfl) ?_
  refine lv_imul hx hb dX11_readSpan_16 ?_
  refine lv_iconst (v := 1) hx hb dX11_readSpan_17 (by decide) ?_
  refine lv_iadd hx hb dX11_readSpan_18 ?_
  obtain ⟨hi_19, h⟩ := ifn_el h
  refine r_iald B hR (h0.at 5 rfl) hi_19 dX11_readSpan_19 ?_
  refine lv_imul hx hb dX11_readSpan_20 ?_
  refine lv_iadd hx hb dX11_readSpan_21 ?_
  obtain ⟨x2_22, ex2_22, h⟩ := lt_el h
  refine r_nmI ex2_22 ?_
  refine lv_istore_n (lv' := [(2, .int x2_22), (0, .ref a0), (1, .int x1)]) hx hb dX11_readSpan_22 rfl hl (by decide) rfl (fun ls hl => ?_)
  refine lv_aload_n hx hb dX11_readSpan_23 rfl (lv_at hl 1 rfl) ?_
  refine gf_X11_22 B hR (h0.at0 rfl) dX11_readSpan_24 ?_
  refine lv_sipush (v := 140) hx hb dX11_readSpan_27 (by decide) ?_
  refine lv_iload_n hx hb dX11_readSpan_30 rfl (lv_at hl 2 rfl) ?_
  refine lv_imul hx hb dX11_readSpan_31 ?_
  refine lv_iconst (v := 1) hx hb dX11_readSpan_32 (by decide) ?_
  refine lv_iadd hx hb dX11_readSpan_33 ?_
  refine r_iald B hR (h0.at 5 rfl) hi_19 dX11_readSpan_34 ?_
  refine lv_bipush (v := 12) hx hb dX11_readSpan_35 (by decide) ?_
  refine lv_icmp_ne (tgt := 45) hx hb dX11_readSpan_37 (by decide) (fun c_37 => ?_) (fun c_37 => ?_)
  · rw [if_neg c_37] at h
    exact wX11_readSpan_j45 B hr hlk h0 h hR (lv_sub hl [1, 2, 0] rfl)
  · rw [if_pos c_37] at h
    refine lv_aload_n hx hb dX11_readSpan_40 rfl (lv_at hl 1 rfl) ?_
    refine lv_iconst (v := 4) hx hb dX11_readSpan_41 (by decide) ?_
    obtain ⟨M_42, hc_42, h⟩ := bm_el h
    refine iv_X11_167 B hR (h0.at0 rfl) hl.1 (mX11_fail fu _ h0 hc_42) (Nat.le_of_ble_eq_true rfl) dX11_readSpan_42 (fun H locs hR => ?_)
    exact wX11_readSpan_j45 B hr hlk h0 h hR (lv_sub hl [1, 2, 0] rfl)
def fX11_emptyIn_j42 (fu : Nat) (M : Mm) : Option Int32 :=
  some (-1)
set_option maxRecDepth 100000 in
set_option maxHeartbeats 4000000 in
theorem wX11_emptyIn_j42 {r : Int32}    {M : Mm} (B : Bx p s m args c cX11_emptyIn 3 RX11 E L) (hr : meth.sig.returnType = (some .int)) (hlk : meth.locks = false)   (h : fX11_emptyIn_j42 fu M = some r) (hR : Rx s E L M H locs) (hl : lv_has ls 3 []) : W p l e (rmD (d + 0)) s m args below meth c H locs 0 0 (MQ below (QcM E L (some (.int r)) M) args s 0 0 E.2.2.2) (F0 m 42 ls []) := by
  have hx := B.1
  have hb := B.2.1
  unfold fX11_emptyIn_j42 at h
  refine lv_iconst (v := (-1)) hx hb dX11_emptyIn_42 (by decide) ?_
  exact r_iretP B hR hr hlk h dX11_emptyIn_43
def fX11_emptyIn_j34 (fu : Nat) (x2 : Int32) (M : Mm) : Option Int32 :=
  some x2
set_option maxRecDepth 100000 in
set_option maxHeartbeats 4000000 in
theorem wX11_emptyIn_j34 {r : Int32}   {x2 : Int32} {M : Mm} (B : Bx p s m args c cX11_emptyIn 3 RX11 E L) (hr : meth.sig.returnType = (some .int)) (hlk : meth.locks = false)   (h : fX11_emptyIn_j34 fu x2 M = some r) (hR : Rx s E L M H locs) (hl : lv_has ls 3 [(2, .int x2)]) : W p l e (rmD (d + 0)) s m args below meth c H locs 0 0 (MQ below (QcM E L (some (.int r)) M) args s 0 0 E.2.2.2) (F0 m 34 ls []) := by
  have hx := B.1
  have hb := B.2.1
  unfold fX11_emptyIn_j34 at h
  refine lv_iload_n hx hb dX11_emptyIn_34 rfl (lv_at hl 0 rfl) ?_
  exact r_iretP B hR hr hlk h dX11_emptyIn_35
def fX11_emptyIn_b2 (fu : Nat) (k2 : Int32 → Option Int32) (a0 : Nat) (x1 : Int32) (x2 : Int32) (M : Mm) : Option Int32 :=
  if x1 < 0 ∨ 2 ≤ ix x1 then none else
  if (M.1 (a0 + 3) (ix x1)) ≤ x2 then
    fX11_emptyIn_j42 fu M
  else
    if ((((140 * x1) + 38) + (3 * x2)) + 1) < 0 ∨ 280 ≤ ix ((((140 * x1) + 38) + (3 * x2)) + 1) then none else
    if (M.1 (a0 + 5) (ix ((((140 * x1) + 38) + (3 * x2)) + 1))) = 0 then
      fX11_emptyIn_j34 fu x2 M
    else
      lt (x2 + 1) fun x2_36 =>
      k2 x2_36
set_option maxRecDepth 100000 in
set_option maxHeartbeats 4000000 in
theorem wX11_emptyIn_b2 {r : Int32}   {k2 : Int32 → Option Int32} {a0 : Nat} {x1 : Int32} {x2 : Int32} {M : Mm} (B : Bx p s m args c cX11_emptyIn 3 RX11 E L) (hr : meth.sig.returnType = (some .int)) (hlk : meth.locks = false)  (ih2 : ∀ (x2 : Int32), k2 x2 = some r → ∀ (H : Heap) (locs : List Loc) (ls : Array Slot), Rx s E L M H locs → lv_has ls 3 [(0, .ref a0), (1, .int x1), (2, .int x2)] → W p l e (rmD (d + 0)) s m args below meth c H locs 0 0 (MQ below (QcM E L (some (.int r)) M) args s 0 0 E.2.2.2) (F0 m 2 ls [])) (h0 : At L a0 T11) (h : fX11_emptyIn_b2 fu k2 a0 x1 x2 M = some r) (hR : Rx s E L M H locs) (hl : lv_has ls 3 [(0, .ref a0), (1, .int x1), (2, .int x2)]) : W p l e (rmD (d + 0)) s m args below meth c H locs 0 0 (MQ below (QcM E L (some (.int r)) M) args s 0 0 E.2.2.2) (F0 m 2 ls []) := by
  have hx := B.1
  have hb := B.2.1
  unfold fX11_emptyIn_b2 at h
  refine lv_iload_n hx hb dX11_emptyIn_2 rfl (lv_at hl 2 rfl) ?_
  refine lv_aload_n hx hb dX11_emptyIn_3 rfl (lv_at hl 0 rfl) ?_
  refine gf_X11_16 B hR (h0.at0 rfl) dX11_emptyIn_4 ?_
  refine lv_iload_n hx hb dX11_emptyIn_7 rfl (lv_at hl 1 rfl) ?_
  obtain ⟨hi_8, h⟩ := ifn_el h
  refine r_iald B hR (h0.at 3 rfl) hi_8 dX11_emptyIn_8 ?_
  refine lv_icmp_ge (tgt := 42) hx hb dX11_emptyIn_9 (by decide) (fun c_9 => ?_) (fun c_9 => ?_)
  · rw [if_pos c_9] at h
    exact wX11_emptyIn_j42 B hr hlk  h hR (lv_sub hl [] rfl)
  · rw [if_neg c_9] at h
    refine lv_aload_n hx hb dX11_emptyIn_12 rfl (lv_at hl 0 rfl) ?_
    refine gf_X11_22 B hR (h0.at0 rfl) dX11_emptyIn_13 ?_
    refine lv_sipush (v := 140) hx hb dX11_emptyIn_16 (by decide) ?_
    refine lv_iload_n hx hb dX11_emptyIn_19 rfl (lv_at hl 1 rfl) ?_
    refine lv_imul hx hb dX11_emptyIn_20 ?_
    refine lv_bipush (v := 38) hx hb dX11_emptyIn_21 (by decide) ?_
    refine lv_iadd hx hb dX11_emptyIn_23 ?_
    refine lv_iconst (v := 3) hx hb dX11_emptyIn_24 (by decide) ?_
    refine lv_iload_n hx hb dX11_emptyIn_25 rfl (lv_at hl 2 rfl) ?_
    refine lv_imul hx hb dX11_emptyIn_26 ?_
    refine lv_iadd hx hb dX11_emptyIn_27 ?_
    refine lv_iconst (v := 1) hx hb dX11_emptyIn_28 (by decide) ?_
    refine lv_iadd hx hb dX11_emptyIn_29 ?_
    obtain ⟨hi_30, h⟩ := ifn_el h
    refine r_iald B hR (h0.at 5 rfl) hi_30 dX11_emptyIn_30 ?_
    refine lv_if_ne (tgt := 36) hx hb dX11_emptyIn_31 (by decide) (fun c_31 => ?_) (fun c_31 => ?_)
    · rw [if_neg c_31] at h
      obtain ⟨x2_36, ex2_36, h⟩ := lt_el h
      refine lv_iinc (v := x2_36) (lv' := [(2, .int x2_36), (0, .ref a0), (1, .int x1)]) hx hb dX11_emptyIn_36 hl (k := 2) rfl (by rw [ex2_36]; rfl) (by decide) rfl (fun ls hl => ?_)
      refine lv_goto (tgt := 2) hx hb dX11_emptyIn_39 (by decide) ?_
      exact ih2 x2_36 h _ _ _ hR (lv_sub hl [1, 2, 0] rfl)
    · rw [if_pos c_31] at h
      exact wX11_emptyIn_j34 B hr hlk  h hR (lv_sub hl [2] rfl)
def fX11_emptyIn_l2 (fu : Nat) (a0 : Nat) (x1 : Int32) (M : Mm) (x2 : Int32) : Option Int32 := lp (fun (rec : Int32 → Option Int32) (s : Int32) => fX11_emptyIn_b2 fu  (fun x2 => rec (x2)) a0 x1 s M) fu (x2)
set_option maxRecDepth 100000 in
set_option maxHeartbeats 4000000 in
theorem wX11_emptyIn_l2 {r : Int32}   {a0 : Nat} {x1 : Int32} {x2 : Int32} {M : Mm} (B : Bx p s m args c cX11_emptyIn 3 RX11 E L) (hr : meth.sig.returnType = (some .int)) (hlk : meth.locks = false)  (h0 : At L a0 T11) (h : fX11_emptyIn_l2 fu a0 x1 M x2 = some r) (hR : Rx s E L M H locs) (hl : lv_has ls 3 [(0, .ref a0), (1, .int x1), (2, .int x2)]) : W p l e (rmD (d + 0)) s m args below meth c H locs 0 0 (MQ below (QcM E L (some (.int r)) M) args s 0 0 E.2.2.2) (F0 m 2 ls []) := by
  refine lp_G (G := fun z : Int32 => ∀ (H : Heap) (locs : List Loc) (ls : Array Slot), Rx s E L M H locs → lv_has ls 3 [(0, .ref a0), (1, .int x1), (2, .int z)] → W p l e (rmD (d + 0)) s m args below meth c H locs 0 0 (MQ below (QcM E L (some (.int r)) M) args s 0 0 E.2.2.2) (F0 m 2 ls [])) (fun rec ih z h H locs ls hR hl => ?_) fu _ h H locs ls hR hl
  exact wX11_emptyIn_b2 B hr hlk  (fun x2 h => ih (x2) h) h0 h hR hl
def fX11_emptyIn (fu : Nat) (a0 : Nat) (x1 : Int32) (M : Mm) : Option Int32 :=
  fX11_emptyIn_l2 fu a0 x1 M 0
set_option maxRecDepth 100000 in
set_option maxHeartbeats 4000000 in
theorem mX11_emptyIn {l : Launch} {E : Ge} {L : Lay} (fu d : Nat) {a0 : Nat} {x1 : Int32} {M : Mm} {r : Int32}  (h0 : At L a0 T11) (h : fX11_emptyIn fu a0 x1 M = some r) : Ct l E L yX11_emptyIn cX11_emptyIn 3 (some .int) (d + 0) [.ref a0, .int x1] M (some (.int r)) M := by
  refine Ct.of (by decide) ?_
  intro p e s m below meth c hr hlk B hR
  have B : Bx p s m _ c cX11_emptyIn 3 RX11 E L := B
  have hx := B.1
  have hb := B.2.1
  have hl := lv_entry ([.ref a0, .int x1]) (n := 3) (Nat.le_of_ble_eq_true rfl)
  rw [lg_entry_eq]
  generalize (lg_sl ([.ref a0, .int x1]) ++ List.replicate (3 - (lg_sl ([.ref a0, .int x1])).length) Slot.unset).toArray = ls at hl ⊢
  have hl : lv_has ls 3 [(0, .ref a0), (1, .int x1)] := hl
  unfold fX11_emptyIn at h
  refine lv_iconst (v := 0) hx hb dX11_emptyIn_0 (by decide) ?_
  refine lv_istore_n (lv' := [(2, .int 0), (0, .ref a0), (1, .int x1)]) hx hb dX11_emptyIn_1 rfl hl (by decide) rfl (fun ls hl => ?_)
  exact wX11_emptyIn_l2 B hr hlk h0 h hR (lv_sub hl [1, 2, 0] rfl)
def fX11_isBlock_j39 (fu : Nat) (t0 : Int32) : Option Int32 :=
  gd (t0 = 0 ∨ t0 = 1) <|
  some t0
set_option maxRecDepth 100000 in
set_option maxHeartbeats 4000000 in
theorem wX11_isBlock_j39 {r : Int32}   {t0 : Int32} {M : Mm} (B : Bx p s m args c cX11_isBlock 3 RX11 E L) (hr : meth.sig.returnType = (some .boolean)) (hlk : meth.locks = false)   (h : fX11_isBlock_j39 fu t0 = some r) (hR : Rx s E L M H locs) (hl : lv_has ls 3 []) : W p l e (rmD (d + 1)) s m args below meth c H locs 0 0 (MQ below (QcM E L (some (.int r)) M) args s 0 0 E.2.2.2) (F0 m 39 ls [.int t0]) := by
  have hx := B.1
  have hb := B.2.1
  unfold fX11_isBlock_j39 at h
  obtain ⟨hz_39, h⟩ := gd_el h
  exact r_zretP B hR hr hlk hz_39 h dX11_isBlock_39
def fX11_isBlock_j38 (fu : Nat)  : Option Int32 :=
  fX11_isBlock_j39 fu 0
set_option maxRecDepth 100000 in
set_option maxHeartbeats 4000000 in
theorem wX11_isBlock_j38 {r : Int32}    {M : Mm} (B : Bx p s m args c cX11_isBlock 3 RX11 E L) (hr : meth.sig.returnType = (some .boolean)) (hlk : meth.locks = false)   (h : fX11_isBlock_j38 fu  = some r) (hR : Rx s E L M H locs) (hl : lv_has ls 3 []) : W p l e (rmD (d + 1)) s m args below meth c H locs 0 0 (MQ below (QcM E L (some (.int r)) M) args s 0 0 E.2.2.2) (F0 m 38 ls []) := by
  have hx := B.1
  have hb := B.2.1
  unfold fX11_isBlock_j38 at h
  refine lv_iconst (v := 0) hx hb dX11_isBlock_38 (by decide) ?_
  exact wX11_isBlock_j39 B hr hlk  h hR hl
def fX11_isBlock (fu : Nat) (x0 : Int32) (x1 : Int32) (x2 : Int32) : Option Int32 :=
  if x1 ≤ 0 then
    fX11_isBlock_j38 fu 
  else
    if (x1 &&& (x1 - 1)) = 0 then
      if x2 < x1 then
        fX11_isBlock_j38 fu 
      else
        bi (fX11_isIn fu x0 0 (x2 - 1)) fun r_22 =>
        if r_22 = 0 then
          fX11_isBlock_j38 fu 
        else
          if x1 = 0 then none else
          if (x0 - x0 / x1 * x1) = 0 then
            fX11_isBlock_j39 fu 1
          else
            fX11_isBlock_j38 fu 
    else
      fX11_isBlock_j38 fu 
set_option maxRecDepth 100000 in
set_option maxHeartbeats 4000000 in
theorem mX11_isBlock {l : Launch} {E : Ge} {L : Lay} (fu d : Nat) {x0 : Int32} {x1 : Int32} {x2 : Int32} {M : Mm} {r : Int32}   (h : fX11_isBlock fu x0 x1 x2 = some r) : Ct l E L yX11_isBlock cX11_isBlock 3 (some .boolean) (d + 1) [.int x0, .int x1, .int x2] M (some (.int r)) M := by
  refine Ct.of (by decide) ?_
  intro p e s m below meth c hr hlk B hR
  have B : Bx p s m _ c cX11_isBlock 3 RX11 E L := B
  have hx := B.1
  have hb := B.2.1
  have hl := lv_entry ([.int x0, .int x1, .int x2]) (n := 3) (Nat.le_of_ble_eq_true rfl)
  rw [lg_entry_eq]
  generalize (lg_sl ([.int x0, .int x1, .int x2]) ++ List.replicate (3 - (lg_sl ([.int x0, .int x1, .int x2])).length) Slot.unset).toArray = ls at hl ⊢
  have hl : lv_has ls 3 [(0, .int x0), (1, .int x1), (2, .int x2)] := hl
  unfold fX11_isBlock at h
  refine lv_iload_n hx hb dX11_isBlock_0 rfl (lv_at hl 1 rfl) ?_
  refine lv_if_le (tgt := 38) hx hb dX11_isBlock_1 (by decide) (fun c_1 => ?_) (fun c_1 => ?_)
  · rw [if_pos c_1] at h
    exact wX11_isBlock_j38 B hr hlk  h hR (lv_sub hl [] rfl)
  · rw [if_neg c_1] at h
    refine lv_iload_n hx hb dX11_isBlock_4 rfl (lv_at hl 1 rfl) ?_
    refine lv_iload_n hx hb dX11_isBlock_5 rfl (lv_at hl 1 rfl) ?_
    refine lv_iconst (v := 1) hx hb dX11_isBlock_6 (by decide) ?_
    refine lv_isub hx hb dX11_isBlock_7 ?_
    refine lv_iand hx hb dX11_isBlock_8 ?_
    refine lv_if_ne (tgt := 38) hx hb dX11_isBlock_9 (by decide) (fun c_9 => ?_) (fun c_9 => ?_)
    · rw [if_neg c_9] at h
      exact wX11_isBlock_j38 B hr hlk  h hR (lv_sub hl [] rfl)
    · rw [if_pos c_9] at h
      refine lv_iload_n hx hb dX11_isBlock_12 rfl (lv_at hl 1 rfl) ?_
      refine lv_iload_n hx hb dX11_isBlock_13 rfl (lv_at hl 2 rfl) ?_
      refine lv_icmp_gt (tgt := 38) hx hb dX11_isBlock_14 (by decide) (fun c_14 => ?_) (fun c_14 => ?_)
      · rw [if_pos c_14] at h
        exact wX11_isBlock_j38 B hr hlk  h hR (lv_sub hl [] rfl)
      · rw [if_neg c_14] at h
        refine lv_iload_n hx hb dX11_isBlock_17 rfl (lv_at hl 0 rfl) ?_
        refine lv_iconst (v := 0) hx hb dX11_isBlock_18 (by decide) ?_
        refine lv_iload_n hx hb dX11_isBlock_19 rfl (lv_at hl 2 rfl) ?_
        refine lv_iconst (v := 1) hx hb dX11_isBlock_20 (by decide) ?_
        refine lv_isub hx hb dX11_isBlock_21 ?_
        obtain ⟨r_22, hc_22, h⟩ := bi_el h
        refine is_X11_163 B hR hl.1 (mX11_isIn fu _  hc_22) (Nat.le_of_ble_eq_true rfl) dX11_isBlock_22 (fun H locs hR => ?_)
        refine lv_if_eq (tgt := 38) hx hb dX11_isBlock_25 (by decide) (fun c_25 => ?_) (fun c_25 => ?_)
        · rw [if_pos c_25] at h
          exact wX11_isBlock_j38 B hr hlk  h hR (lv_sub hl [] rfl)
        · rw [if_neg c_25] at h
          refine lv_iload_n hx hb dX11_isBlock_28 rfl (lv_at hl 0 rfl) ?_
          refine lv_iload_n hx hb dX11_isBlock_29 rfl (lv_at hl 1 rfl) ?_
          obtain ⟨hz_30, h⟩ := ifn_el h
          refine lv_irem hx hb dX11_isBlock_30 hz_30 ?_
          refine lv_if_ne (tgt := 38) hx hb dX11_isBlock_31 (by decide) (fun c_31 => ?_) (fun c_31 => ?_)
          · rw [if_neg c_31] at h
            exact wX11_isBlock_j38 B hr hlk  h hR (lv_sub hl [] rfl)
          · rw [if_pos c_31] at h
            refine lv_iconst (v := 1) hx hb dX11_isBlock_34 (by decide) ?_
            refine lv_goto (tgt := 39) hx hb dX11_isBlock_35 (by decide) ?_
            exact wX11_isBlock_j39 B hr hlk  h hR (lv_sub hl [] rfl)
def fX11_readRegister_j169 (fu : Nat) (a0 : Nat) (x1 : Int32) (x2 : Int32) (x3 : Int32) (x4 : Int32) (M : Mm) : Option Mm :=
  if (M.1 a0 14) ≤ 0 then
    bm (fX11_scan fu a0 M) fun M_178 =>
    bw (fX11_kindTold fu a0 M_178) fun r_182 M_182 =>
    if (M_182.1 a0 14) ≤ 0 then
      if (((140 * x1) + 38) + (3 * x2)) < 0 ∨ 280 ≤ ix (((140 * x1) + 38) + (3 * x2)) then none else
      lt (wI M_182 (a0 + 5) (ix (((140 * x1) + 38) + (3 * x2))) x3) fun M_212 =>
      if ((((140 * x1) + 38) + (3 * x2)) + 1) < 0 ∨ 280 ≤ ix ((((140 * x1) + 38) + (3 * x2)) + 1) then none else
      lt (wI M_212 (a0 + 5) (ix ((((140 * x1) + 38) + (3 * x2)) + 1)) x4) fun M_233 =>
      if ((((140 * x1) + 38) + (3 * x2)) + 2) < 0 ∨ 280 ≤ ix ((((140 * x1) + 38) + (3 * x2)) + 2) then none else
      lt (wI M_233 (a0 + 5) (ix ((((140 * x1) + 38) + (3 * x2)) + 2)) r_182) fun M_254 =>
      some M_254
    else
      some M_182
  else
    some M
set_option maxRecDepth 100000 in
set_option maxHeartbeats 4000000 in
theorem wX11_readRegister_j169 {M' : Mm}   {a0 : Nat} {x1 : Int32} {x2 : Int32} {x3 : Int32} {x4 : Int32} {M : Mm} (B : Bx p s m args c cX11_readRegister 6 RX11 E L) (hr : meth.sig.returnType = none) (hlk : meth.locks = false)  (h0 : At L a0 T11) (h : fX11_readRegister_j169 fu a0 x1 x2 x3 x4 M = some M') (hR : Rx s E L M H locs) (hl : lv_has ls 6 [(0, .ref a0), (1, .int x1), (2, .int x2), (3, .int x3), (4, .int x4)]) : W p l e (rmD (d + 4)) s m args below meth c H locs 0 0 (MQ below (QcM E L none M') args s 0 0 E.2.2.2) (F0 m 169 ls []) := by
  have hx := B.1
  have hb := B.2.1
  unfold fX11_readRegister_j169 at h
  refine lv_aload_n hx hb dX11_readRegister_169 rfl (lv_at hl 0 rfl) ?_
  refine gf_X11_157 B hR (h0.at0 rfl) dX11_readRegister_170 ?_
  refine lv_if_le (tgt := 177) hx hb dX11_readRegister_173 (by decide) (fun c_173 => ?_) (fun c_173 => ?_)
  · rw [if_pos c_173] at h
    refine lv_aload_n hx hb dX11_readRegister_177 rfl (lv_at hl 0 rfl) ?_
    obtain ⟨M_178, hc_178, h⟩ := bm_el h
    refine iv_X11_170 B hR (h0.at0 rfl) hl.1 (mX11_scan fu _ h0 hc_178) (Nat.le_of_ble_eq_true rfl) dX11_readRegister_178 (fun H locs hR => ?_)
    refine lv_aload_n hx hb dX11_readRegister_181 rfl (lv_at hl 0 rfl) ?_
    obtain ⟨r_182, M_182, hc_182, h⟩ := bw_el h
    refine iv_X11_200 B hR (h0.at0 rfl) hl.1 (mX11_kindTold fu _ h0 hc_182) (Nat.le_of_ble_eq_true rfl) dX11_readRegister_182 (fun H locs hR => ?_)
    refine lv_istore (lv' := [(5, .int r_182), (0, .ref a0), (1, .int x1), (2, .int x2), (3, .int x3), (4, .int x4)]) hx hb dX11_readRegister_185 hl (by decide) rfl (fun ls hl => ?_)
    refine lv_aload_n hx hb dX11_readRegister_187 rfl (lv_at hl 1 rfl) ?_
    refine gf_X11_157 B hR (h0.at0 rfl) dX11_readRegister_188 ?_
    refine lv_if_le (tgt := 195) hx hb dX11_readRegister_191 (by decide) (fun c_191 => ?_) (fun c_191 => ?_)
    · rw [if_pos c_191] at h
      refine lv_aload_n hx hb dX11_readRegister_195 rfl (lv_at hl 1 rfl) ?_
      refine gf_X11_22 B hR (h0.at0 rfl) dX11_readRegister_196 ?_
      refine lv_sipush (v := 140) hx hb dX11_readRegister_199 (by decide) ?_
      refine lv_iload_n hx hb dX11_readRegister_202 rfl (lv_at hl 2 rfl) ?_
      refine lv_imul hx hb dX11_readRegister_203 ?_
      refine lv_bipush (v := 38) hx hb dX11_readRegister_204 (by decide) ?_
      refine lv_iadd hx hb dX11_readRegister_206 ?_
      refine lv_iconst (v := 3) hx hb dX11_readRegister_207 (by decide) ?_
      refine lv_iload_n hx hb dX11_readRegister_208 rfl (lv_at hl 3 rfl) ?_
      refine lv_imul hx hb dX11_readRegister_209 ?_
      refine lv_iadd hx hb dX11_readRegister_210 ?_
      refine lv_iload_n hx hb dX11_readRegister_211 rfl (lv_at hl 4 rfl) ?_
      obtain ⟨hi_212, h⟩ := ifn_el h
      obtain ⟨M_212, eM_212, h⟩ := lt_el h
      refine r_iast B hR (h0.at 5 rfl) hi_212 dX11_readRegister_212 (fun H locs hR => ?_)
      rw [← eM_212] at hR
      refine lv_aload_n hx hb dX11_readRegister_213 rfl (lv_at hl 1 rfl) ?_
      refine gf_X11_22 B hR (h0.at0 rfl) dX11_readRegister_214 ?_
      refine lv_sipush (v := 140) hx hb dX11_readRegister_217 (by decide) ?_
      refine lv_iload_n hx hb dX11_readRegister_220 rfl (lv_at hl 2 rfl) ?_
      refine lv_imul hx hb dX11_readRegister_221 ?_
      refine lv_bipush (v := 38) hx hb dX11_readRegister_222 (by decide) ?_
      refine lv_iadd hx hb dX11_readRegister_224 ?_
      refine lv_iconst (v := 3) hx hb dX11_readRegister_225 (by decide) ?_
      refine lv_iload_n hx hb dX11_readRegister_226 rfl (lv_at hl 3 rfl) ?_
      refine lv_imul hx hb dX11_readRegister_227 ?_
      refine lv_iadd hx hb dX11_readRegister_228 ?_
      refine lv_iconst (v := 1) hx hb dX11_readRegister_229 (by decide) ?_
      refine lv_iadd hx hb dX11_readRegister_230 ?_
      refine lv_iload hx hb dX11_readRegister_231 (lv_at hl 5 rfl) ?_
      obtain ⟨hi_233, h⟩ := ifn_el h
      obtain ⟨M_233, eM_233, h⟩ := lt_el h
      refine r_iast B hR (h0.at 5 rfl) hi_233 dX11_readRegister_233 (fun H locs hR => ?_)
      rw [← eM_233] at hR
      refine lv_aload_n hx hb dX11_readRegister_234 rfl (lv_at hl 1 rfl) ?_
      refine gf_X11_22 B hR (h0.at0 rfl) dX11_readRegister_235 ?_
      refine lv_sipush (v := 140) hx hb dX11_readRegister_238 (by decide) ?_
      refine lv_iload_n hx hb dX11_readRegister_241 rfl (lv_at hl 2 rfl) ?_
      refine lv_imul hx hb dX11_readRegister_242 ?_
      refine lv_bipush (v := 38) hx hb dX11_readRegister_243 (by decide) ?_
      refine lv_iadd hx hb dX11_readRegister_245 ?_
      refine lv_iconst (v := 3) hx hb dX11_readRegister_246 (by decide) ?_
      refine lv_iload_n hx hb dX11_readRegister_247 rfl (lv_at hl 3 rfl) ?_
      refine lv_imul hx hb dX11_readRegister_248 ?_
      refine lv_iadd hx hb dX11_readRegister_249 ?_
      refine lv_iconst (v := 2) hx hb dX11_readRegister_250 (by decide) ?_
      refine lv_iadd hx hb dX11_readRegister_251 ?_
      refine lv_iload hx hb dX11_readRegister_252 (lv_at hl 0 rfl) ?_
      obtain ⟨hi_254, h⟩ := ifn_el h
      obtain ⟨M_254, eM_254, h⟩ := lt_el h
      refine r_iast B hR (h0.at 5 rfl) hi_254 dX11_readRegister_254 (fun H locs hR => ?_)
      rw [← eM_254] at hR
      exact r_vretW B hR hr hlk h dX11_readRegister_255
    · rw [if_neg c_191] at h
      exact r_vretW B hR hr hlk h dX11_readRegister_194
  · rw [if_neg c_173] at h
    exact r_vretW B hR hr hlk h dX11_readRegister_176
def fX11_readRegister_j163 (fu : Nat) (k93 : Int32 → Mm → Option Mm) (a0 : Nat) (x1 : Int32) (x2 : Int32) (x3 : Int32) (x4 : Int32) (x5 : Int32) (M : Mm) : Option Mm :=
  lt (x5 + 1) fun x5_163 =>
  k93 x5_163 M
set_option maxRecDepth 100000 in
set_option maxHeartbeats 4000000 in
theorem wX11_readRegister_j163 {M' : Mm}  {k93 : Int32 → Mm → Option Mm} {a0 : Nat} {x1 : Int32} {x2 : Int32} {x3 : Int32} {x4 : Int32} {x5 : Int32} {M : Mm} (B : Bx p s m args c cX11_readRegister 6 RX11 E L) (hr : meth.sig.returnType = none) (hlk : meth.locks = false) (ih93 : ∀ (x5 : Int32) (M : Mm), k93 x5 M = some M' → ∀ (H : Heap) (locs : List Loc) (ls : Array Slot), Rx s E L M H locs → lv_has ls 6 [(0, .ref a0), (1, .int x1), (2, .int x2), (3, .int x3), (4, .int x4), (5, .int x5)] → W p l e (rmD (d + 4)) s m args below meth c H locs 0 0 (MQ below (QcM E L none M') args s 0 0 E.2.2.2) (F0 m 93 ls [])) (h0 : At L a0 T11) (h : fX11_readRegister_j163 fu k93 a0 x1 x2 x3 x4 x5 M = some M') (hR : Rx s E L M H locs) (hl : lv_has ls 6 [(0, .ref a0), (1, .int x1), (2, .int x2), (3, .int x3), (4, .int x4), (5, .int x5)]) : W p l e (rmD (d + 4)) s m args below meth c H locs 0 0 (MQ below (QcM E L none M') args s 0 0 E.2.2.2) (F0 m 163 ls []) := by
  have hx := B.1
  have hb := B.2.1
  unfold fX11_readRegister_j163 at h
  obtain ⟨x5_163, ex5_163, h⟩ := lt_el h
  refine lv_iinc (v := x5_163) (lv' := [(5, .int x5_163), (0, .ref a0), (1, .int x1), (2, .int x2), (3, .int x3), (4, .int x4)]) hx hb dX11_readRegister_163 hl (k := 5) rfl (by rw [ex5_163]; rfl) (by decide) rfl (fun ls hl => ?_)
  refine lv_goto (tgt := 93) hx hb dX11_readRegister_166 (by decide) ?_
  exact ih93 x5_163 M h _ _ _ hR (lv_sub hl [1, 2, 3, 4, 5, 0] rfl)
def fX11_readRegister_b93 (fu : Nat) (k93 : Int32 → Mm → Option Mm) (a0 : Nat) (x1 : Int32) (x2 : Int32) (x3 : Int32) (x4 : Int32) (x5 : Int32) (M : Mm) : Option Mm :=
  if x1 < 0 ∨ 2 ≤ ix x1 then none else
  if (M.1 (a0 + 3) (ix x1)) ≤ x5 then
    fX11_readRegister_j169 fu a0 x1 x2 x3 x4 M
  else
    if (M.1 a0 14) = 0 then
      if (((140 * x1) + 38) + (3 * x5)) < 0 ∨ 280 ≤ ix (((140 * x1) + 38) + (3 * x5)) then none else
      if (M.1 (a0 + 5) (ix (((140 * x1) + 38) + (3 * x5)))) = x3 then
        if ((((140 * x1) + 38) + (3 * x5)) + 1) < 0 ∨ 280 ≤ ix ((((140 * x1) + 38) + (3 * x5)) + 1) then none else
        if (M.1 (a0 + 5) (ix ((((140 * x1) + 38) + (3 * x5)) + 1))) = x4 then
          bm (fX11_fail fu a0 3 M) fun M_160 =>
          fX11_readRegister_j163 fu k93 a0 x1 x2 x3 x4 x5 M_160
        else
          fX11_readRegister_j163 fu k93 a0 x1 x2 x3 x4 x5 M
      else
        fX11_readRegister_j163 fu k93 a0 x1 x2 x3 x4 x5 M
    else
      fX11_readRegister_j169 fu a0 x1 x2 x3 x4 M
set_option maxRecDepth 100000 in
set_option maxHeartbeats 4000000 in
theorem wX11_readRegister_b93 {M' : Mm}   {k93 : Int32 → Mm → Option Mm} {a0 : Nat} {x1 : Int32} {x2 : Int32} {x3 : Int32} {x4 : Int32} {x5 : Int32} {M : Mm} (B : Bx p s m args c cX11_readRegister 6 RX11 E L) (hr : meth.sig.returnType = none) (hlk : meth.locks = false)  (ih93 : ∀ (x5 : Int32) (M : Mm), k93 x5 M = some M' → ∀ (H : Heap) (locs : List Loc) (ls : Array Slot), Rx s E L M H locs → lv_has ls 6 [(0, .ref a0), (1, .int x1), (2, .int x2), (3, .int x3), (4, .int x4), (5, .int x5)] → W p l e (rmD (d + 4)) s m args below meth c H locs 0 0 (MQ below (QcM E L none M') args s 0 0 E.2.2.2) (F0 m 93 ls [])) (h0 : At L a0 T11) (h : fX11_readRegister_b93 fu k93 a0 x1 x2 x3 x4 x5 M = some M') (hR : Rx s E L M H locs) (hl : lv_has ls 6 [(0, .ref a0), (1, .int x1), (2, .int x2), (3, .int x3), (4, .int x4), (5, .int x5)]) : W p l e (rmD (d + 4)) s m args below meth c H locs 0 0 (MQ below (QcM E L none M') args s 0 0 E.2.2.2) (F0 m 93 ls []) := by
  have hx := B.1
  have hb := B.2.1
  unfold fX11_readRegister_b93 at h
  refine lv_iload hx hb dX11_readRegister_93 (lv_at hl 5 rfl) ?_
  refine lv_aload_n hx hb dX11_readRegister_95 rfl (lv_at hl 0 rfl) ?_
  refine gf_X11_16 B hR (h0.at0 rfl) dX11_readRegister_96 ?_
  refine lv_iload_n hx hb dX11_readRegister_99 rfl (lv_at hl 1 rfl) ?_
  obtain ⟨hi_100, h⟩ := ifn_el h
  refine r_iald B hR (h0.at 3 rfl) hi_100 dX11_readRegister_100 ?_
  refine lv_icmp_ge (tgt := 169) hx hb dX11_readRegister_101 (by decide) (fun c_101 => ?_) (fun c_101 => ?_)
  · rw [if_pos c_101] at h
    exact wX11_readRegister_j169 B hr hlk h0 h hR (lv_sub hl [0, 1, 2, 3, 4] rfl)
  · rw [if_neg c_101] at h
    refine lv_aload_n hx hb dX11_readRegister_104 rfl (lv_at hl 0 rfl) ?_
    refine gf_X11_157 B hR (h0.at0 rfl) dX11_readRegister_105 ?_
    refine lv_if_ne (tgt := 169) hx hb dX11_readRegister_108 (by decide) (fun c_108 => ?_) (fun c_108 => ?_)
    · rw [if_neg c_108] at h
      exact wX11_readRegister_j169 B hr hlk h0 h hR (lv_sub hl [0, 1, 2, 3, 4] rfl)
    · rw [if_pos c_108] at h
      refine lv_aload_n hx hb dX11_readRegister_111 rfl (lv_at hl 0 rfl) ?_
      refine gf_X11_22 B hR (h0.at0 rfl) dX11_readRegister_112 ?_
      refine lv_sipush (v := 140) hx hb dX11_readRegister_115 (by decide) ?_
      refine lv_iload_n hx hb dX11_readRegister_118 rfl (lv_at hl 1 rfl) ?_
      refine lv_imul hx hb dX11_readRegister_119 ?_
      refine lv_bipush (v := 38) hx hb dX11_readRegister_120 (by decide) ?_
      refine lv_iadd hx hb dX11_readRegister_122 ?_
      refine lv_iconst (v := 3) hx hb dX11_readRegister_123 (by decide) ?_
      refine lv_iload hx hb dX11_readRegister_124 (lv_at hl 5 rfl) ?_
      refine lv_imul hx hb dX11_readRegister_126 ?_
      refine lv_iadd hx hb dX11_readRegister_127 ?_
      obtain ⟨hi_128, h⟩ := ifn_el h
      refine r_iald B hR (h0.at 5 rfl) hi_128 dX11_readRegister_128 ?_
      refine lv_iload_n hx hb dX11_readRegister_129 rfl (lv_at hl 3 rfl) ?_
      refine lv_icmp_ne (tgt := 163) hx hb dX11_readRegister_130 (by decide) (fun c_130 => ?_) (fun c_130 => ?_)
      · rw [if_neg c_130] at h
        exact wX11_readRegister_j163 B hr hlk ih93 h0 h hR hl
      · rw [if_pos c_130] at h
        refine lv_aload_n hx hb dX11_readRegister_133 rfl (lv_at hl 0 rfl) ?_
        refine gf_X11_22 B hR (h0.at0 rfl) dX11_readRegister_134 ?_
        refine lv_sipush (v := 140) hx hb dX11_readRegister_137 (by decide) ?_
        refine lv_iload_n hx hb dX11_readRegister_140 rfl (lv_at hl 1 rfl) ?_
        refine lv_imul hx hb dX11_readRegister_141 ?_
        refine lv_bipush (v := 38) hx hb dX11_readRegister_142 (by decide) ?_
        refine lv_iadd hx hb dX11_readRegister_144 ?_
        refine lv_iconst (v := 3) hx hb dX11_readRegister_145 (by decide) ?_
        refine lv_iload hx hb dX11_readRegister_146 (lv_at hl 5 rfl) ?_
        refine lv_imul hx hb dX11_readRegister_148 ?_
        refine lv_iadd hx hb dX11_readRegister_149 ?_
        refine lv_iconst (v := 1) hx hb dX11_readRegister_150 (by decide) ?_
        refine lv_iadd hx hb dX11_readRegister_151 ?_
        obtain ⟨hi_152, h⟩ := ifn_el h
        refine r_iald B hR (h0.at 5 rfl) hi_152 dX11_readRegister_152 ?_
        refine lv_iload hx hb dX11_readRegister_153 (lv_at hl 4 rfl) ?_
        refine lv_icmp_ne (tgt := 163) hx hb dX11_readRegister_155 (by decide) (fun c_155 => ?_) (fun c_155 => ?_)
        · rw [if_neg c_155] at h
          exact wX11_readRegister_j163 B hr hlk ih93 h0 h hR hl
        · rw [if_pos c_155] at h
          refine lv_aload_n hx hb dX11_readRegister_158 rfl (lv_at hl 0 rfl) ?_
          refine lv_iconst (v := 3) hx hb dX11_readRegister_159 (by decide) ?_
          obtain ⟨M_160, hc_160, h⟩ := bm_el h
          refine iv_X11_167 B hR (h0.at0 rfl) hl.1 (mX11_fail fu _ h0 hc_160) (Nat.le_of_ble_eq_true rfl) dX11_readRegister_160 (fun H locs hR => ?_)
          exact wX11_readRegister_j163 B hr hlk ih93 h0 h hR hl
def fX11_readRegister_l93 (fu : Nat) (a0 : Nat) (x1 : Int32) (x2 : Int32) (x3 : Int32) (x4 : Int32) (x5 : Int32) (M : Mm) : Option Mm := lp (fun (rec : (Int32 × Mm) → Option Mm) (s : Int32 × Mm) => fX11_readRegister_b93 fu  (fun x5 M => rec (x5, M)) a0 x1 x2 x3 x4 s.1 s.2) fu (x5, M)
set_option maxRecDepth 100000 in
set_option maxHeartbeats 4000000 in
theorem wX11_readRegister_l93 {M' : Mm}   {a0 : Nat} {x1 : Int32} {x2 : Int32} {x3 : Int32} {x4 : Int32} {x5 : Int32} {M : Mm} (B : Bx p s m args c cX11_readRegister 6 RX11 E L) (hr : meth.sig.returnType = none) (hlk : meth.locks = false)  (h0 : At L a0 T11) (h : fX11_readRegister_l93 fu a0 x1 x2 x3 x4 x5 M = some M') (hR : Rx s E L M H locs) (hl : lv_has ls 6 [(0, .ref a0), (1, .int x1), (2, .int x2), (3, .int x3), (4, .int x4), (5, .int x5)]) : W p l e (rmD (d + 4)) s m args below meth c H locs 0 0 (MQ below (QcM E L none M') args s 0 0 E.2.2.2) (F0 m 93 ls []) := by
  refine lp_G (G := fun z : Int32 × Mm => ∀ (H : Heap) (locs : List Loc) (ls : Array Slot), Rx s E L z.2 H locs → lv_has ls 6 [(0, .ref a0), (1, .int x1), (2, .int x2), (3, .int x3), (4, .int x4), (5, .int z.1)] → W p l e (rmD (d + 4)) s m args below meth c H locs 0 0 (MQ below (QcM E L none M') args s 0 0 E.2.2.2) (F0 m 93 ls [])) (fun rec ih z h H locs ls hR hl => ?_) fu _ h H locs ls hR hl
  exact wX11_readRegister_b93 B hr hlk  (fun x5 M h => ih (x5, M) h) h0 h hR hl
def fX11_readRegister_j84 (fu : Nat) (a0 : Nat) (x1 : Int32) (x2 : Int32) (x3 : Int32) (M : Mm) : Option Mm :=
  lt ((M.1 a0 12)) fun x4_88 =>
  fX11_readRegister_l93 fu a0 x1 x2 x3 x4_88 0 M
set_option maxRecDepth 100000 in
set_option maxHeartbeats 4000000 in
theorem wX11_readRegister_j84 {M' : Mm}   {a0 : Nat} {x1 : Int32} {x2 : Int32} {x3 : Int32} {M : Mm} (B : Bx p s m args c cX11_readRegister 6 RX11 E L) (hr : meth.sig.returnType = none) (hlk : meth.locks = false)  (h0 : At L a0 T11) (h : fX11_readRegister_j84 fu a0 x1 x2 x3 M = some M') (hR : Rx s E L M H locs) (hl : lv_has ls 6 [(0, .ref a0), (1, .int x1), (2, .int x2), (3, .int x3)]) : W p l e (rmD (d + 4)) s m args below meth c H locs 0 0 (MQ below (QcM E L none M') args s 0 0 E.2.2.2) (F0 m 84 ls []) := by
  have hx := B.1
  have hb := B.2.1
  unfold fX11_readRegister_j84 at h
  refine lv_aload_n hx hb dX11_readRegister_84 rfl (lv_at hl 0 rfl) ?_
  refine gf_X11_153 B hR (h0.at0 rfl) dX11_readRegister_85 ?_
  obtain ⟨x4_88, ex4_88, h⟩ := lt_el h
  refine r_nmI ex4_88 ?_
  refine lv_istore (lv' := [(4, .int x4_88), (0, .ref a0), (1, .int x1), (2, .int x2), (3, .int x3)]) hx hb dX11_readRegister_88 hl (by decide) rfl (fun ls hl => ?_)
  refine lv_iconst (v := 0) hx hb dX11_readRegister_90 (by decide) ?_
  refine lv_istore (lv' := [(5, .int 0), (4, .int x4_88), (0, .ref a0), (1, .int x1), (2, .int x2), (3, .int x3)]) hx hb dX11_readRegister_91 hl (by decide) rfl (fun ls hl => ?_)
  exact wX11_readRegister_l93 B hr hlk h0 h hR (lv_sub hl [2, 3, 4, 5, 1, 0] rfl)
def fX11_readRegister_j63 (fu : Nat) (a0 : Nat) (x1 : Int32) (x2 : Int32) (x3 : Int32) (M : Mm) : Option Mm :=
  bi (fX11_spaceOf fu a0 x1 M) fun r_70 =>
  bi (fX11_isBlock fu x3 (M.1 a0 12) r_70) fun r_73 =>
  if r_73 = 0 then
    bm (fX11_fail fu a0 2 M) fun M_81 =>
    fX11_readRegister_j84 fu a0 x1 x2 x3 M_81
  else
    fX11_readRegister_j84 fu a0 x1 x2 x3 M
set_option maxRecDepth 100000 in
set_option maxHeartbeats 4000000 in
theorem wX11_readRegister_j63 {M' : Mm}   {a0 : Nat} {x1 : Int32} {x2 : Int32} {x3 : Int32} {M : Mm} (B : Bx p s m args c cX11_readRegister 6 RX11 E L) (hr : meth.sig.returnType = none) (hlk : meth.locks = false)  (h0 : At L a0 T11) (h : fX11_readRegister_j63 fu a0 x1 x2 x3 M = some M') (hR : Rx s E L M H locs) (hl : lv_has ls 6 [(0, .ref a0), (1, .int x1), (2, .int x2), (3, .int x3)]) : W p l e (rmD (d + 4)) s m args below meth c H locs 0 0 (MQ below (QcM E L none M') args s 0 0 E.2.2.2) (F0 m 63 ls []) := by
  have hx := B.1
  have hb := B.2.1
  unfold fX11_readRegister_j63 at h
  refine lv_iload_n hx hb dX11_readRegister_63 rfl (lv_at hl 3 rfl) ?_
  refine lv_aload_n hx hb dX11_readRegister_64 rfl (lv_at hl 0 rfl) ?_
  refine gf_X11_153 B hR (h0.at0 rfl) dX11_readRegister_65 ?_
  refine lv_aload_n hx hb dX11_readRegister_68 rfl (lv_at hl 0 rfl) ?_
  refine lv_iload_n hx hb dX11_readRegister_69 rfl (lv_at hl 1 rfl) ?_
  obtain ⟨r_70, hc_70, h⟩ := bi_el h
  refine iv_X11_216 B hR (h0.at0 rfl) hl.1 (mX11_spaceOf fu _ h0 hc_70) (Nat.le_of_ble_eq_true rfl) dX11_readRegister_70 (fun H locs hR => ?_)
  obtain ⟨r_73, hc_73, h⟩ := bi_el h
  refine is_X11_222 B hR hl.1 (mX11_isBlock fu _  hc_73) (Nat.le_of_ble_eq_true rfl) dX11_readRegister_73 (fun H locs hR => ?_)
  refine lv_if_ne (tgt := 84) hx hb dX11_readRegister_76 (by decide) (fun c_76 => ?_) (fun c_76 => ?_)
  · rw [if_neg c_76] at h
    exact wX11_readRegister_j84 B hr hlk h0 h hR hl
  · rw [if_pos c_76] at h
    refine lv_aload_n hx hb dX11_readRegister_79 rfl (lv_at hl 0 rfl) ?_
    refine lv_iconst (v := 2) hx hb dX11_readRegister_80 (by decide) ?_
    obtain ⟨M_81, hc_81, h⟩ := bm_el h
    refine iv_X11_167 B hR (h0.at0 rfl) hl.1 (mX11_fail fu _ h0 hc_81) (Nat.le_of_ble_eq_true rfl) dX11_readRegister_81 (fun H locs hR => ?_)
    exact wX11_readRegister_j84 B hr hlk h0 h hR hl
def fX11_readRegister_j15 (fu : Nat) (a0 : Nat) (x1 : Int32) (x2 : Int32) (M : Mm) : Option Mm :=
  if (M.1 a0 14) ≤ 0 then
    bm (fX11_scan fu a0 M) fun M_24 =>
    bi (fX11_spaceOf fu a0 x1 M_24) fun r_31 =>
    bw (fX11_numeral fu a0 0 (r_31 - 1) M_24) fun r_36 M_36 =>
    if (M_36.1 a0 14) = 0 then
      if (M_36.1 a0 11) = 3 then
        fX11_readRegister_j63 fu a0 x1 x2 r_36 M_36
      else
        bm (fX11_fail fu a0 1 M_36) fun M_57 =>
        fX11_readRegister_j84 fu a0 x1 x2 r_36 M_57
    else
      fX11_readRegister_j63 fu a0 x1 x2 r_36 M_36
  else
    some M
set_option maxRecDepth 100000 in
set_option maxHeartbeats 4000000 in
theorem wX11_readRegister_j15 {M' : Mm}   {a0 : Nat} {x1 : Int32} {x2 : Int32} {M : Mm} (B : Bx p s m args c cX11_readRegister 6 RX11 E L) (hr : meth.sig.returnType = none) (hlk : meth.locks = false)  (h0 : At L a0 T11) (h : fX11_readRegister_j15 fu a0 x1 x2 M = some M') (hR : Rx s E L M H locs) (hl : lv_has ls 6 [(0, .ref a0), (1, .int x1), (2, .int x2)]) : W p l e (rmD (d + 4)) s m args below meth c H locs 0 0 (MQ below (QcM E L none M') args s 0 0 E.2.2.2) (F0 m 15 ls []) := by
  have hx := B.1
  have hb := B.2.1
  unfold fX11_readRegister_j15 at h
  refine lv_aload_n hx hb dX11_readRegister_15 rfl (lv_at hl 0 rfl) ?_
  refine gf_X11_157 B hR (h0.at0 rfl) dX11_readRegister_16 ?_
  refine lv_if_le (tgt := 23) hx hb dX11_readRegister_19 (by decide) (fun c_19 => ?_) (fun c_19 => ?_)
  · rw [if_pos c_19] at h
    refine lv_aload_n hx hb dX11_readRegister_23 rfl (lv_at hl 0 rfl) ?_
    obtain ⟨M_24, hc_24, h⟩ := bm_el h
    refine iv_X11_170 B hR (h0.at0 rfl) hl.1 (mX11_scan fu _ h0 hc_24) (Nat.le_of_ble_eq_true rfl) dX11_readRegister_24 (fun H locs hR => ?_)
    refine lv_aload_n hx hb dX11_readRegister_27 rfl (lv_at hl 0 rfl) ?_
    refine lv_iconst (v := 0) hx hb dX11_readRegister_28 (by decide) ?_
    refine lv_aload_n hx hb dX11_readRegister_29 rfl (lv_at hl 0 rfl) ?_
    refine lv_iload_n hx hb dX11_readRegister_30 rfl (lv_at hl 1 rfl) ?_
    obtain ⟨r_31, hc_31, h⟩ := bi_el h
    refine iv_X11_216 B hR (h0.at0 rfl) hl.1 (mX11_spaceOf fu _ h0 hc_31) (Nat.le_of_ble_eq_true rfl) dX11_readRegister_31 (fun H locs hR => ?_)
    refine lv_iconst (v := 1) hx hb dX11_readRegister_34 (by decide) ?_
    refine lv_isub hx hb dX11_readRegister_35 ?_
    obtain ⟨r_36, M_36, hc_36, h⟩ := bw_el h
    refine iv_X11_196 B hR (h0.at0 rfl) hl.1 (mX11_numeral fu _ h0 hc_36) (Nat.le_of_ble_eq_true rfl) dX11_readRegister_36 (fun H locs hR => ?_)
    refine lv_istore_n (lv' := [(3, .int r_36), (0, .ref a0), (1, .int x1), (2, .int x2)]) hx hb dX11_readRegister_39 rfl hl (by decide) rfl (fun ls hl => ?_)
    refine lv_aload_n hx hb dX11_readRegister_40 rfl (lv_at hl 1 rfl) ?_
    refine gf_X11_157 B hR (h0.at0 rfl) dX11_readRegister_41 ?_
    refine lv_if_ne (tgt := 63) hx hb dX11_readRegister_44 (by decide) (fun c_44 => ?_) (fun c_44 => ?_)
    · rw [if_neg c_44] at h
      exact wX11_readRegister_j63 B hr hlk h0 h hR (lv_sub hl [1, 2, 3, 0] rfl)
    · rw [if_pos c_44] at h
      refine lv_aload_n hx hb dX11_readRegister_47 rfl (lv_at hl 1 rfl) ?_
      refine gf_X11_131 B hR (h0.at0 rfl) dX11_readRegister_48 ?_
      refine lv_iconst (v := 3) hx hb dX11_readRegister_51 (by decide) ?_
      refine lv_icmp_eq (tgt := 63) hx hb dX11_readRegister_52 (by decide) (fun c_52 => ?_) (fun c_52 => ?_)
      · rw [if_pos c_52] at h
        exact wX11_readRegister_j63 B hr hlk h0 h hR (lv_sub hl [1, 2, 3, 0] rfl)
      · rw [if_neg c_52] at h
        refine lv_aload_n hx hb dX11_readRegister_55 rfl (lv_at hl 1 rfl) ?_
        refine lv_iconst (v := 1) hx hb dX11_readRegister_56 (by decide) ?_
        obtain ⟨M_57, hc_57, h⟩ := bm_el h
        refine iv_X11_167 B hR (h0.at0 rfl) hl.1 (mX11_fail fu _ h0 hc_57) (Nat.le_of_ble_eq_true rfl) dX11_readRegister_57 (fun H locs hR => ?_)
        refine lv_goto (tgt := 84) hx hb dX11_readRegister_60 (by decide) ?_
        exact wX11_readRegister_j84 B hr hlk h0 h hR (lv_sub hl [1, 2, 3, 0] rfl)
  · rw [if_neg c_19] at h
    exact r_vretW B hR hr hlk h dX11_readRegister_22
def fX11_readRegister (fu : Nat) (a0 : Nat) (x1 : Int32) (M : Mm) : Option Mm :=
  bi (fX11_emptyIn fu a0 x1 M) fun r_2 =>
  if 0 ≤ r_2 then
    fX11_readRegister_j15 fu a0 x1 r_2 M
  else
    bm (fX11_fail fu a0 4 M) fun M_12 =>
    fX11_readRegister_j15 fu a0 x1 r_2 M_12
set_option maxRecDepth 100000 in
set_option maxHeartbeats 4000000 in
theorem mX11_readRegister {l : Launch} {E : Ge} {L : Lay} (fu d : Nat) {a0 : Nat} {x1 : Int32} {M : Mm} {M' : Mm}  (h0 : At L a0 T11) (h : fX11_readRegister fu a0 x1 M = some M') : Ct l E L yX11_readRegister cX11_readRegister 6 none (d + 4) [.ref a0, .int x1] M none M' := by
  refine Ct.of (by decide) ?_
  intro p e s m below meth c hr hlk B hR
  have B : Bx p s m _ c cX11_readRegister 6 RX11 E L := B
  have hx := B.1
  have hb := B.2.1
  have hl := lv_entry ([.ref a0, .int x1]) (n := 6) (Nat.le_of_ble_eq_true rfl)
  rw [lg_entry_eq]
  generalize (lg_sl ([.ref a0, .int x1]) ++ List.replicate (6 - (lg_sl ([.ref a0, .int x1])).length) Slot.unset).toArray = ls at hl ⊢
  have hl : lv_has ls 6 [(0, .ref a0), (1, .int x1)] := hl
  unfold fX11_readRegister at h
  refine lv_aload_n hx hb dX11_readRegister_0 rfl (lv_at hl 0 rfl) ?_
  refine lv_iload_n hx hb dX11_readRegister_1 rfl (lv_at hl 1 rfl) ?_
  obtain ⟨r_2, hc_2, h⟩ := bi_el h
  refine iv_X11_219 B hR (h0.at0 rfl) hl.1 (mX11_emptyIn fu _ h0 hc_2) (Nat.le_of_ble_eq_true rfl) dX11_readRegister_2 (fun H locs hR => ?_)
  refine lv_istore_n (lv' := [(2, .int r_2), (0, .ref a0), (1, .int x1)]) hx hb dX11_readRegister_5 rfl hl (by decide) rfl (fun ls hl => ?_)
  refine lv_iload_n hx hb dX11_readRegister_6 rfl (lv_at hl 0 rfl) ?_
  refine lv_if_ge (tgt := 15) hx hb dX11_readRegister_7 (by decide) (fun c_7 => ?_) (fun c_7 => ?_)
  · rw [if_pos c_7] at h
    exact wX11_readRegister_j15 B hr hlk h0 h hR (lv_sub hl [1, 2, 0] rfl)
  · rw [if_neg c_7] at h
    refine lv_aload_n hx hb dX11_readRegister_10 rfl (lv_at hl 1 rfl) ?_
    refine lv_iconst (v := 4) hx hb dX11_readRegister_11 (by decide) ?_
    obtain ⟨M_12, hc_12, h⟩ := bm_el h
    refine iv_X11_167 B hR (h0.at0 rfl) hl.1 (mX11_fail fu _ h0 hc_12) (Nat.le_of_ble_eq_true rfl) dX11_readRegister_12 (fun H locs hR => ?_)
    exact wX11_readRegister_j15 B hr hlk h0 h hR (lv_sub hl [1, 2, 0] rfl)
def fX11_readPage_j121 (fu : Nat) (M : Mm) : Option Mm :=
  some M
set_option maxRecDepth 100000 in
set_option maxHeartbeats 4000000 in
theorem wX11_readPage_j121 {M' : Mm}    {M : Mm} (B : Bx p s m args c cX11_readPage 4 RX11 E L) (hr : meth.sig.returnType = none) (hlk : meth.locks = false)   (h : fX11_readPage_j121 fu M = some M') (hR : Rx s E L M H locs) (hl : lv_has ls 4 []) : W p l e (rmD (d + 4)) s m args below meth c H locs 0 0 (MQ below (QcM E L none M') args s 0 0 E.2.2.2) (F0 m 121 ls []) := by
  have hx := B.1
  have hb := B.2.1
  unfold fX11_readPage_j121 at h
  exact r_vretW B hR hr hlk h dX11_readPage_121
def fX11_readPage_j76 (fu : Nat) (a0 : Nat) (x1 : Int32) (M : Mm) : Option Mm :=
  lt ((M.1 a0 12)) fun x2_80 =>
  if (M.1 a0 14) ≤ 0 then
    bm (fX11_scan fu a0 M) fun M_90 =>
    bw (fX11_kindTold fu a0 M_90) fun r_94 M_94 =>
    if (M_94.1 a0 14) = 0 then
      if (((140 * x1) + 76) + x2_80) < 0 ∨ 280 ≤ ix (((140 * x1) + 76) + x2_80) then none else
      lt (wI M_94 (a0 + 5) (ix (((140 * x1) + 76) + x2_80)) r_94) fun M_120 =>
      fX11_readPage_j121 fu M_120
    else
      fX11_readPage_j121 fu M_94
  else
    some M
set_option maxRecDepth 100000 in
set_option maxHeartbeats 4000000 in
theorem wX11_readPage_j76 {M' : Mm}   {a0 : Nat} {x1 : Int32} {M : Mm} (B : Bx p s m args c cX11_readPage 4 RX11 E L) (hr : meth.sig.returnType = none) (hlk : meth.locks = false)  (h0 : At L a0 T11) (h : fX11_readPage_j76 fu a0 x1 M = some M') (hR : Rx s E L M H locs) (hl : lv_has ls 4 [(0, .ref a0), (1, .int x1)]) : W p l e (rmD (d + 4)) s m args below meth c H locs 0 0 (MQ below (QcM E L none M') args s 0 0 E.2.2.2) (F0 m 76 ls []) := by
  have hx := B.1
  have hb := B.2.1
  unfold fX11_readPage_j76 at h
  refine lv_aload_n hx hb dX11_readPage_76 rfl (lv_at hl 0 rfl) ?_
  refine gf_X11_153 B hR (h0.at0 rfl) dX11_readPage_77 ?_
  obtain ⟨x2_80, ex2_80, h⟩ := lt_el h
  refine r_nmI ex2_80 ?_
  refine lv_istore_n (lv' := [(2, .int x2_80), (0, .ref a0), (1, .int x1)]) hx hb dX11_readPage_80 rfl hl (by decide) rfl (fun ls hl => ?_)
  refine lv_aload_n hx hb dX11_readPage_81 rfl (lv_at hl 1 rfl) ?_
  refine gf_X11_157 B hR (h0.at0 rfl) dX11_readPage_82 ?_
  refine lv_if_le (tgt := 89) hx hb dX11_readPage_85 (by decide) (fun c_85 => ?_) (fun c_85 => ?_)
  · rw [if_pos c_85] at h
    refine lv_aload_n hx hb dX11_readPage_89 rfl (lv_at hl 1 rfl) ?_
    obtain ⟨M_90, hc_90, h⟩ := bm_el h
    refine iv_X11_170 B hR (h0.at0 rfl) hl.1 (mX11_scan fu _ h0 hc_90) (Nat.le_of_ble_eq_true rfl) dX11_readPage_90 (fun H locs hR => ?_)
    refine lv_aload_n hx hb dX11_readPage_93 rfl (lv_at hl 1 rfl) ?_
    obtain ⟨r_94, M_94, hc_94, h⟩ := bw_el h
    refine iv_X11_200 B hR (h0.at0 rfl) hl.1 (mX11_kindTold fu _ h0 hc_94) (Nat.le_of_ble_eq_true rfl) dX11_readPage_94 (fun H locs hR => ?_)
    refine lv_istore_n (lv' := [(3, .int r_94), (2, .int x2_80), (0, .ref a0), (1, .int x1)]) hx hb dX11_readPage_97 rfl hl (by decide) rfl (fun ls hl => ?_)
    refine lv_aload_n hx hb dX11_readPage_98 rfl (lv_at hl 2 rfl) ?_
    refine gf_X11_157 B hR (h0.at0 rfl) dX11_readPage_99 ?_
    refine lv_if_ne (tgt := 121) hx hb dX11_readPage_102 (by decide) (fun c_102 => ?_) (fun c_102 => ?_)
    · rw [if_neg c_102] at h
      exact wX11_readPage_j121 B hr hlk  h hR (lv_sub hl [] rfl)
    · rw [if_pos c_102] at h
      refine lv_aload_n hx hb dX11_readPage_105 rfl (lv_at hl 2 rfl) ?_
      refine gf_X11_22 B hR (h0.at0 rfl) dX11_readPage_106 ?_
      refine lv_sipush (v := 140) hx hb dX11_readPage_109 (by decide) ?_
      refine lv_iload_n hx hb dX11_readPage_112 rfl (lv_at hl 3 rfl) ?_
      refine lv_imul hx hb dX11_readPage_113 ?_
      refine lv_bipush (v := 76) hx hb dX11_readPage_114 (by decide) ?_
      refine lv_iadd hx hb dX11_readPage_116 ?_
      refine lv_iload_n hx hb dX11_readPage_117 rfl (lv_at hl 1 rfl) ?_
      refine lv_iadd hx hb dX11_readPage_118 ?_
      refine lv_iload_n hx hb dX11_readPage_119 rfl (lv_at hl 0 rfl) ?_
      obtain ⟨hi_120, h⟩ := ifn_el h
      obtain ⟨M_120, eM_120, h⟩ := lt_el h
      refine r_iast B hR (h0.at 5 rfl) hi_120 dX11_readPage_120 (fun H locs hR => ?_)
      rw [← eM_120] at hR
      exact wX11_readPage_j121 B hr hlk  h hR (lv_sub hl [] rfl)
  · rw [if_neg c_85] at h
    exact r_vretW B hR hr hlk h dX11_readPage_88
def fX11_readPage (fu : Nat) (a0 : Nat) (x1 : Int32) (M : Mm) : Option Mm :=
  bm (fX11_scan fu a0 M) fun M_1 =>
  if (M_1.1 a0 11) = 3 then
    bi (fX11_spaceOf fu a0 x1 M_1) fun r_27 =>
    bi (fX11_isIn fu (M_1.1 a0 12) 0 ((r_27 / 16) - 1)) fun r_35 =>
    if r_35 = 0 then
      bm (fX11_fail fu a0 2 M_1) fun M_43 =>
      fX11_readPage_j76 fu a0 x1 M_43
    else
      if (((140 * x1) + 76) + (M_1.1 a0 12)) < 0 ∨ 280 ≤ ix (((140 * x1) + 76) + (M_1.1 a0 12)) then none else
      if (M_1.1 (a0 + 5) (ix (((140 * x1) + 76) + (M_1.1 a0 12)))) = 5 then
        fX11_readPage_j76 fu a0 x1 M_1
      else
        bm (fX11_fail fu a0 3 M_1) fun M_73 =>
        fX11_readPage_j76 fu a0 x1 M_73
  else
    bm (fX11_fail fu a0 1 M_1) fun M_14 =>
    fX11_readPage_j76 fu a0 x1 M_14
set_option maxRecDepth 100000 in
set_option maxHeartbeats 4000000 in
theorem mX11_readPage {l : Launch} {E : Ge} {L : Lay} (fu d : Nat) {a0 : Nat} {x1 : Int32} {M : Mm} {M' : Mm}  (h0 : At L a0 T11) (h : fX11_readPage fu a0 x1 M = some M') : Ct l E L yX11_readPage cX11_readPage 4 none (d + 4) [.ref a0, .int x1] M none M' := by
  refine Ct.of (by decide) ?_
  intro p e s m below meth c hr hlk B hR
  have B : Bx p s m _ c cX11_readPage 4 RX11 E L := B
  have hx := B.1
  have hb := B.2.1
  have hl := lv_entry ([.ref a0, .int x1]) (n := 4) (Nat.le_of_ble_eq_true rfl)
  rw [lg_entry_eq]
  generalize (lg_sl ([.ref a0, .int x1]) ++ List.replicate (4 - (lg_sl ([.ref a0, .int x1])).length) Slot.unset).toArray = ls at hl ⊢
  have hl : lv_has ls 4 [(0, .ref a0), (1, .int x1)] := hl
  unfold fX11_readPage at h
  refine lv_aload_n hx hb dX11_readPage_0 rfl (lv_at hl 0 rfl) ?_
  obtain ⟨M_1, hc_1, h⟩ := bm_el h
  refine iv_X11_170 B hR (h0.at0 rfl) hl.1 (mX11_scan fu _ h0 hc_1) (Nat.le_of_ble_eq_true rfl) dX11_readPage_1 (fun H locs hR => ?_)
  refine lv_aload_n hx hb dX11_readPage_4 rfl (lv_at hl 0 rfl) ?_
  refine gf_X11_131 B hR (h0.at0 rfl) dX11_readPage_5 ?_
  refine lv_iconst (v := 3) hx hb dX11_readPage_8 (by decide) ?_
  refine lv_icmp_eq (tgt := 20) hx hb dX11_readPage_9 (by decide) (fun c_9 => ?_) (fun c_9 => ?_)
  · rw [if_pos c_9] at h
    refine lv_aload_n hx hb dX11_readPage_20 rfl (lv_at hl 0 rfl) ?_
    refine gf_X11_153 B hR (h0.at0 rfl) dX11_readPage_21 ?_
    refine lv_iconst (v := 0) hx hb dX11_readPage_24 (by decide) ?_
    refine lv_aload_n hx hb dX11_readPage_25 rfl (lv_at hl 0 rfl) ?_
    refine lv_iload_n hx hb dX11_readPage_26 rfl (lv_at hl 1 rfl) ?_
    obtain ⟨r_27, hc_27, h⟩ := bi_el h
    refine iv_X11_216 B hR (h0.at0 rfl) hl.1 (mX11_spaceOf fu _ h0 hc_27) (Nat.le_of_ble_eq_true rfl) dX11_readPage_27 (fun H locs hR => ?_)
    refine lv_bipush (v := 16) hx hb dX11_readPage_30 (by decide) ?_
    refine lv_idiv hx hb dX11_readPage_32 (by decide) ?_
    refine lv_iconst (v := 1) hx hb dX11_readPage_33 (by decide) ?_
    refine lv_isub hx hb dX11_readPage_34 ?_
    obtain ⟨r_35, hc_35, h⟩ := bi_el h
    refine is_X11_163 B hR hl.1 (mX11_isIn fu _  hc_35) (Nat.le_of_ble_eq_true rfl) dX11_readPage_35 (fun H locs hR => ?_)
    refine lv_if_ne (tgt := 49) hx hb dX11_readPage_38 (by decide) (fun c_38 => ?_) (fun c_38 => ?_)
    · rw [if_neg c_38] at h
      refine lv_aload_n hx hb dX11_readPage_49 rfl (lv_at hl 0 rfl) ?_
      refine gf_X11_22 B hR (h0.at0 rfl) dX11_readPage_50 ?_
      refine lv_sipush (v := 140) hx hb dX11_readPage_53 (by decide) ?_
      refine lv_iload_n hx hb dX11_readPage_56 rfl (lv_at hl 1 rfl) ?_
      refine lv_imul hx hb dX11_readPage_57 ?_
      refine lv_bipush (v := 76) hx hb dX11_readPage_58 (by decide) ?_
      refine lv_iadd hx hb dX11_readPage_60 ?_
      refine lv_aload_n hx hb dX11_readPage_61 rfl (lv_at hl 0 rfl) ?_
      refine gf_X11_153 B hR (h0.at0 rfl) dX11_readPage_62 ?_
      refine lv_iadd hx hb dX11_readPage_65 ?_
      obtain ⟨hi_66, h⟩ := ifn_el h
      refine r_iald B hR (h0.at 5 rfl) hi_66 dX11_readPage_66 ?_
      refine lv_iconst (v := 5) hx hb dX11_readPage_67 (by decide) ?_
      refine lv_icmp_eq (tgt := 76) hx hb dX11_readPage_68 (by decide) (fun c_68 => ?_) (fun c_68 => ?_)
      · rw [if_pos c_68] at h
        exact wX11_readPage_j76 B hr hlk h0 h hR hl
      · rw [if_neg c_68] at h
        refine lv_aload_n hx hb dX11_readPage_71 rfl (lv_at hl 0 rfl) ?_
        refine lv_iconst (v := 3) hx hb dX11_readPage_72 (by decide) ?_
        obtain ⟨M_73, hc_73, h⟩ := bm_el h
        refine iv_X11_167 B hR (h0.at0 rfl) hl.1 (mX11_fail fu _ h0 hc_73) (Nat.le_of_ble_eq_true rfl) dX11_readPage_73 (fun H locs hR => ?_)
        exact wX11_readPage_j76 B hr hlk h0 h hR hl
    · rw [if_pos c_38] at h
      refine lv_aload_n hx hb dX11_readPage_41 rfl (lv_at hl 0 rfl) ?_
      refine lv_iconst (v := 2) hx hb dX11_readPage_42 (by decide) ?_
      obtain ⟨M_43, hc_43, h⟩ := bm_el h
      refine iv_X11_167 B hR (h0.at0 rfl) hl.1 (mX11_fail fu _ h0 hc_43) (Nat.le_of_ble_eq_true rfl) dX11_readPage_43 (fun H locs hR => ?_)
      refine lv_goto (tgt := 76) hx hb dX11_readPage_46 (by decide) ?_
      exact wX11_readPage_j76 B hr hlk h0 h hR hl
  · rw [if_neg c_9] at h
    refine lv_aload_n hx hb dX11_readPage_12 rfl (lv_at hl 0 rfl) ?_
    refine lv_iconst (v := 1) hx hb dX11_readPage_13 (by decide) ?_
    obtain ⟨M_14, hc_14, h⟩ := bm_el h
    refine iv_X11_167 B hR (h0.at0 rfl) hl.1 (mX11_fail fu _ h0 hc_14) (Nat.le_of_ble_eq_true rfl) dX11_readPage_14 (fun H locs hR => ?_)
    refine lv_goto (tgt := 76) hx hb dX11_readPage_17 (by decide) ?_
    exact wX11_readPage_j76 B hr hlk h0 h hR hl
def fX11_readLine_j200 (fu : Nat) (M : Mm) : Option Mm :=
  some M
set_option maxRecDepth 100000 in
set_option maxHeartbeats 4000000 in
theorem wX11_readLine_j200 {M' : Mm}    {M : Mm} (B : Bx p s m args c cX11_readLine 2 RX11 E L) (hr : meth.sig.returnType = none) (hlk : meth.locks = false)   (h : fX11_readLine_j200 fu M = some M') (hR : Rx s E L M H locs) (hl : lv_has ls 2 []) : W p l e (rmD (d + 5)) s m args below meth c H locs 0 0 (MQ below (QcM E L none M') args s 0 0 E.2.2.2) (F0 m 200 ls []) := by
  have hx := B.1
  have hb := B.2.1
  unfold fX11_readLine_j200 at h
  exact r_vretW B hR hr hlk h dX11_readLine_200
def fX11_readLine (fu : Nat) (a0 : Nat) (x1 : Int32) (M : Mm) : Option Mm :=
  bi (fX11_isWord fu a0 5 M) fun r_2 =>
  if r_2 = 0 then
    bi (fX11_isWord fu a0 6 M) fun r_35 =>
    if r_35 = 0 then
      bi (fX11_isWord fu a0 7 M) fun r_69 =>
      if r_69 = 0 then
        bi (fX11_isWord fu a0 8 M) fun r_106 =>
        if r_106 = 0 then
          bi (fX11_isWord fu a0 9 M) fun r_132 =>
          if r_132 = 0 then
            bi (fX11_isWord fu a0 10 M) fun r_154 =>
            if r_154 = 0 then
              bi (fX11_isWord fu a0 11 M) fun r_176 =>
              if r_176 = 0 then
                bm (fX11_fail fu a0 1 M) fun M_197 =>
                fX11_readLine_j200 fu M_197
              else
                lt (wI M a0 20 1) fun M_184 =>
                bm (fX11_readPage fu a0 x1 M_184) fun M_189 =>
                fX11_readLine_j200 fu M_189
            else
              lt (wI M a0 20 1) fun M_162 =>
              bm (fX11_readRegister fu a0 x1 M_162) fun M_167 =>
              fX11_readLine_j200 fu M_167
          else
            lt (wI M a0 20 1) fun M_140 =>
            bm (fX11_readSpan fu a0 x1 M_140) fun M_145 =>
            fX11_readLine_j200 fu M_145
        else
          bw (fX11_isOnce fu a0 8 M) fun r_115 M_115 =>
          if r_115 = 0 then
            fX11_readLine_j200 fu M_115
          else
            bm (fX11_readFixed fu a0 x1 M_115) fun M_123 =>
            fX11_readLine_j200 fu M_123
      else
        bw (fX11_isOnce fu a0 7 M) fun r_78 M_78 =>
        if r_78 = 0 then
          fX11_readLine_j200 fu M_78
        else
          bw (fX11_kindTold fu a0 M_78) fun r_96 M_96 =>
          if ((140 * x1) + 0) < 0 ∨ 280 ≤ ix ((140 * x1) + 0) then none else
          lt (wI M_96 (a0 + 5) (ix ((140 * x1) + 0)) r_96) fun M_99 =>
          fX11_readLine_j200 fu M_99
    else
      bw (fX11_isOnce fu a0 6 M) fun r_44 M_44 =>
      if r_44 = 0 then
        fX11_readLine_j200 fu M_44
      else
        bw (fX11_numeral fu a0 1 10 M_44) fun r_59 M_59 =>
        if x1 < 0 ∨ 2 ≤ ix x1 then none else
        lt (wI M_59 (a0 + 3) (ix x1) r_59) fun M_62 =>
        fX11_readLine_j200 fu M_62
  else
    bw (fX11_isOnce fu a0 5 M) fun r_10 M_10 =>
    if r_10 = 0 then
      fX11_readLine_j200 fu M_10
    else
      bw (fX11_numeral fu a0 4 10 M_10) fun r_25 M_25 =>
      if x1 < 0 ∨ 2 ≤ ix x1 then none else
      lt (wI M_25 (a0 + 2) (ix x1) r_25) fun M_28 =>
      fX11_readLine_j200 fu M_28
set_option maxRecDepth 100000 in
set_option maxHeartbeats 4000000 in
theorem mX11_readLine {l : Launch} {E : Ge} {L : Lay} (fu d : Nat) {a0 : Nat} {x1 : Int32} {M : Mm} {M' : Mm}  (h0 : At L a0 T11) (h : fX11_readLine fu a0 x1 M = some M') : Ct l E L yX11_readLine cX11_readLine 2 none (d + 5) [.ref a0, .int x1] M none M' := by
  refine Ct.of (by decide) ?_
  intro p e s m below meth c hr hlk B hR
  have B : Bx p s m _ c cX11_readLine 2 RX11 E L := B
  have hx := B.1
  have hb := B.2.1
  have hl := lv_entry ([.ref a0, .int x1]) (n := 2) (Nat.le_of_ble_eq_true rfl)
  rw [lg_entry_eq]
  generalize (lg_sl ([.ref a0, .int x1]) ++ List.replicate (2 - (lg_sl ([.ref a0, .int x1])).length) Slot.unset).toArray = ls at hl ⊢
  have hl : lv_has ls 2 [(0, .ref a0), (1, .int x1)] := hl
  unfold fX11_readLine at h
  refine lv_aload_n hx hb dX11_readLine_0 rfl (lv_at hl 0 rfl) ?_
  refine lv_iconst (v := 5) hx hb dX11_readLine_1 (by decide) ?_
  obtain ⟨r_2, hc_2, h⟩ := bi_el h
  refine iv_X11_190 B hR (h0.at0 rfl) hl.1 (mX11_isWord fu _ h0 hc_2) (Nat.le_of_ble_eq_true rfl) dX11_readLine_2 (fun H locs hR => ?_)
  refine lv_if_eq (tgt := 32) hx hb dX11_readLine_5 (by decide) (fun c_5 => ?_) (fun c_5 => ?_)
  · rw [if_pos c_5] at h
    refine lv_aload_n hx hb dX11_readLine_32 rfl (lv_at hl 0 rfl) ?_
    refine lv_bipush (v := 6) hx hb dX11_readLine_33 (by decide) ?_
    obtain ⟨r_35, hc_35, h⟩ := bi_el h
    refine iv_X11_190 B hR (h0.at0 rfl) hl.1 (mX11_isWord fu _ h0 hc_35) (Nat.le_of_ble_eq_true rfl) dX11_readLine_35 (fun H locs hR => ?_)
    refine lv_if_eq (tgt := 66) hx hb dX11_readLine_38 (by decide) (fun c_38 => ?_) (fun c_38 => ?_)
    · rw [if_pos c_38] at h
      refine lv_aload_n hx hb dX11_readLine_66 rfl (lv_at hl 0 rfl) ?_
      refine lv_bipush (v := 7) hx hb dX11_readLine_67 (by decide) ?_
      obtain ⟨r_69, hc_69, h⟩ := bi_el h
      refine iv_X11_190 B hR (h0.at0 rfl) hl.1 (mX11_isWord fu _ h0 hc_69) (Nat.le_of_ble_eq_true rfl) dX11_readLine_69 (fun H locs hR => ?_)
      refine lv_if_eq (tgt := 103) hx hb dX11_readLine_72 (by decide) (fun c_72 => ?_) (fun c_72 => ?_)
      · rw [if_pos c_72] at h
        refine lv_aload_n hx hb dX11_readLine_103 rfl (lv_at hl 0 rfl) ?_
        refine lv_bipush (v := 8) hx hb dX11_readLine_104 (by decide) ?_
        obtain ⟨r_106, hc_106, h⟩ := bi_el h
        refine iv_X11_190 B hR (h0.at0 rfl) hl.1 (mX11_isWord fu _ h0 hc_106) (Nat.le_of_ble_eq_true rfl) dX11_readLine_106 (fun H locs hR => ?_)
        refine lv_if_eq (tgt := 129) hx hb dX11_readLine_109 (by decide) (fun c_109 => ?_) (fun c_109 => ?_)
        · rw [if_pos c_109] at h
          refine lv_aload_n hx hb dX11_readLine_129 rfl (lv_at hl 0 rfl) ?_
          refine lv_bipush (v := 9) hx hb dX11_readLine_130 (by decide) ?_
          obtain ⟨r_132, hc_132, h⟩ := bi_el h
          refine iv_X11_190 B hR (h0.at0 rfl) hl.1 (mX11_isWord fu _ h0 hc_132) (Nat.le_of_ble_eq_true rfl) dX11_readLine_132 (fun H locs hR => ?_)
          refine lv_if_eq (tgt := 151) hx hb dX11_readLine_135 (by decide) (fun c_135 => ?_) (fun c_135 => ?_)
          · rw [if_pos c_135] at h
            refine lv_aload_n hx hb dX11_readLine_151 rfl (lv_at hl 0 rfl) ?_
            refine lv_bipush (v := 10) hx hb dX11_readLine_152 (by decide) ?_
            obtain ⟨r_154, hc_154, h⟩ := bi_el h
            refine iv_X11_190 B hR (h0.at0 rfl) hl.1 (mX11_isWord fu _ h0 hc_154) (Nat.le_of_ble_eq_true rfl) dX11_readLine_154 (fun H locs hR => ?_)
            refine lv_if_eq (tgt := 173) hx hb dX11_readLine_157 (by decide) (fun c_157 => ?_) (fun c_157 => ?_)
            · rw [if_pos c_157] at h
              refine lv_aload_n hx hb dX11_readLine_173 rfl (lv_at hl 0 rfl) ?_
              refine lv_bipush (v := 11) hx hb dX11_readLine_174 (by decide) ?_
              obtain ⟨r_176, hc_176, h⟩ := bi_el h
              refine iv_X11_190 B hR (h0.at0 rfl) hl.1 (mX11_isWord fu _ h0 hc_176) (Nat.le_of_ble_eq_true rfl) dX11_readLine_176 (fun H locs hR => ?_)
              refine lv_if_eq (tgt := 195) hx hb dX11_readLine_179 (by decide) (fun c_179 => ?_) (fun c_179 => ?_)
              · rw [if_pos c_179] at h
                refine lv_aload_n hx hb dX11_readLine_195 rfl (lv_at hl 0 rfl) ?_
                refine lv_iconst (v := 1) hx hb dX11_readLine_196 (by decide) ?_
                obtain ⟨M_197, hc_197, h⟩ := bm_el h
                refine iv_X11_167 B hR (h0.at0 rfl) hl.1 (mX11_fail fu _ h0 hc_197) (Nat.le_of_ble_eq_true rfl) dX11_readLine_197 (fun H locs hR => ?_)
                exact wX11_readLine_j200 B hr hlk  h hR (lv_sub hl [] rfl)
              · rw [if_neg c_179] at h
                refine lv_aload_n hx hb dX11_readLine_182 rfl (lv_at hl 0 rfl) ?_
                refine lv_iconst (v := 1) hx hb dX11_readLine_183 (by decide) ?_
                obtain ⟨M_184, eM_184, h⟩ := lt_el h
                refine pz_X11_186 B hR (h0.at0 rfl) (Or.inr rfl) dX11_readLine_184 (fun H locs hR => ?_)
                rw [← eM_184] at hR
                refine lv_aload_n hx hb dX11_readLine_187 rfl (lv_at hl 0 rfl) ?_
                refine lv_iload_n hx hb dX11_readLine_188 rfl (lv_at hl 1 rfl) ?_
                obtain ⟨M_189, hc_189, h⟩ := bm_el h
                refine iv_X11_213 B hR (h0.at0 rfl) hl.1 (mX11_readPage fu _ h0 hc_189) (Nat.le_of_ble_eq_true rfl) dX11_readLine_189 (fun H locs hR => ?_)
                refine lv_goto (tgt := 200) hx hb dX11_readLine_192 (by decide) ?_
                exact wX11_readLine_j200 B hr hlk  h hR (lv_sub hl [] rfl)
            · rw [if_neg c_157] at h
              refine lv_aload_n hx hb dX11_readLine_160 rfl (lv_at hl 0 rfl) ?_
              refine lv_iconst (v := 1) hx hb dX11_readLine_161 (by decide) ?_
              obtain ⟨M_162, eM_162, h⟩ := lt_el h
              refine pz_X11_186 B hR (h0.at0 rfl) (Or.inr rfl) dX11_readLine_162 (fun H locs hR => ?_)
              rw [← eM_162] at hR
              refine lv_aload_n hx hb dX11_readLine_165 rfl (lv_at hl 0 rfl) ?_
              refine lv_iload_n hx hb dX11_readLine_166 rfl (lv_at hl 1 rfl) ?_
              obtain ⟨M_167, hc_167, h⟩ := bm_el h
              refine iv_X11_210 B hR (h0.at0 rfl) hl.1 (mX11_readRegister fu _ h0 hc_167) (Nat.le_of_ble_eq_true rfl) dX11_readLine_167 (fun H locs hR => ?_)
              refine lv_goto (tgt := 200) hx hb dX11_readLine_170 (by decide) ?_
              exact wX11_readLine_j200 B hr hlk  h hR (lv_sub hl [] rfl)
          · rw [if_neg c_135] at h
            refine lv_aload_n hx hb dX11_readLine_138 rfl (lv_at hl 0 rfl) ?_
            refine lv_iconst (v := 1) hx hb dX11_readLine_139 (by decide) ?_
            obtain ⟨M_140, eM_140, h⟩ := lt_el h
            refine pz_X11_186 B hR (h0.at0 rfl) (Or.inr rfl) dX11_readLine_140 (fun H locs hR => ?_)
            rw [← eM_140] at hR
            refine lv_aload_n hx hb dX11_readLine_143 rfl (lv_at hl 0 rfl) ?_
            refine lv_iload_n hx hb dX11_readLine_144 rfl (lv_at hl 1 rfl) ?_
            obtain ⟨M_145, hc_145, h⟩ := bm_el h
            refine iv_X11_207 B hR (h0.at0 rfl) hl.1 (mX11_readSpan fu _ h0 hc_145) (Nat.le_of_ble_eq_true rfl) dX11_readLine_145 (fun H locs hR => ?_)
            refine lv_goto (tgt := 200) hx hb dX11_readLine_148 (by decide) ?_
            exact wX11_readLine_j200 B hr hlk  h hR (lv_sub hl [] rfl)
        · rw [if_neg c_109] at h
          refine lv_aload_n hx hb dX11_readLine_112 rfl (lv_at hl 0 rfl) ?_
          refine lv_bipush (v := 8) hx hb dX11_readLine_113 (by decide) ?_
          obtain ⟨r_115, M_115, hc_115, h⟩ := bw_el h
          refine iv_X11_193 B hR (h0.at0 rfl) hl.1 (mX11_isOnce fu _ h0 hc_115) (Nat.le_of_ble_eq_true rfl) dX11_readLine_115 (fun H locs hR => ?_)
          refine lv_if_eq (tgt := 200) hx hb dX11_readLine_118 (by decide) (fun c_118 => ?_) (fun c_118 => ?_)
          · rw [if_pos c_118] at h
            exact wX11_readLine_j200 B hr hlk  h hR (lv_sub hl [] rfl)
          · rw [if_neg c_118] at h
            refine lv_aload_n hx hb dX11_readLine_121 rfl (lv_at hl 0 rfl) ?_
            refine lv_iload_n hx hb dX11_readLine_122 rfl (lv_at hl 1 rfl) ?_
            obtain ⟨M_123, hc_123, h⟩ := bm_el h
            refine iv_X11_204 B hR (h0.at0 rfl) hl.1 (mX11_readFixed fu _ h0 hc_123) (Nat.le_of_ble_eq_true rfl) dX11_readLine_123 (fun H locs hR => ?_)
            refine lv_goto (tgt := 200) hx hb dX11_readLine_126 (by decide) ?_
            exact wX11_readLine_j200 B hr hlk  h hR (lv_sub hl [] rfl)
      · rw [if_neg c_72] at h
        refine lv_aload_n hx hb dX11_readLine_75 rfl (lv_at hl 0 rfl) ?_
        refine lv_bipush (v := 7) hx hb dX11_readLine_76 (by decide) ?_
        obtain ⟨r_78, M_78, hc_78, h⟩ := bw_el h
        refine iv_X11_193 B hR (h0.at0 rfl) hl.1 (mX11_isOnce fu _ h0 hc_78) (Nat.le_of_ble_eq_true rfl) dX11_readLine_78 (fun H locs hR => ?_)
        refine lv_if_eq (tgt := 200) hx hb dX11_readLine_81 (by decide) (fun c_81 => ?_) (fun c_81 => ?_)
        · rw [if_pos c_81] at h
          exact wX11_readLine_j200 B hr hlk  h hR (lv_sub hl [] rfl)
        · rw [if_neg c_81] at h
          refine lv_aload_n hx hb dX11_readLine_84 rfl (lv_at hl 0 rfl) ?_
          refine gf_X11_22 B hR (h0.at0 rfl) dX11_readLine_85 ?_
          refine lv_sipush (v := 140) hx hb dX11_readLine_88 (by decide) ?_
          refine lv_iload_n hx hb dX11_readLine_91 rfl (lv_at hl 1 rfl) ?_
          refine lv_imul hx hb dX11_readLine_92 ?_
          refine lv_iconst (v := 0) hx hb dX11_readLine_93 (by decide) ?_
          refine lv_iadd hx hb dX11_readLine_94 ?_
          refine lv_aload_n hx hb dX11_readLine_95 rfl (lv_at hl 0 rfl) ?_
          obtain ⟨r_96, M_96, hc_96, h⟩ := bw_el h
          refine iv_X11_200 B hR (h0.at0 rfl) hl.1 (mX11_kindTold fu _ h0 hc_96) (Nat.le_of_ble_eq_true rfl) dX11_readLine_96 (fun H locs hR => ?_)
          obtain ⟨hi_99, h⟩ := ifn_el h
          obtain ⟨M_99, eM_99, h⟩ := lt_el h
          refine r_iast B hR (h0.at 5 rfl) hi_99 dX11_readLine_99 (fun H locs hR => ?_)
          rw [← eM_99] at hR
          refine lv_goto (tgt := 200) hx hb dX11_readLine_100 (by decide) ?_
          exact wX11_readLine_j200 B hr hlk  h hR (lv_sub hl [] rfl)
    · rw [if_neg c_38] at h
      refine lv_aload_n hx hb dX11_readLine_41 rfl (lv_at hl 0 rfl) ?_
      refine lv_bipush (v := 6) hx hb dX11_readLine_42 (by decide) ?_
      obtain ⟨r_44, M_44, hc_44, h⟩ := bw_el h
      refine iv_X11_193 B hR (h0.at0 rfl) hl.1 (mX11_isOnce fu _ h0 hc_44) (Nat.le_of_ble_eq_true rfl) dX11_readLine_44 (fun H locs hR => ?_)
      refine lv_if_eq (tgt := 200) hx hb dX11_readLine_47 (by decide) (fun c_47 => ?_) (fun c_47 => ?_)
      · rw [if_pos c_47] at h
        exact wX11_readLine_j200 B hr hlk  h hR (lv_sub hl [] rfl)
      · rw [if_neg c_47] at h
        refine lv_aload_n hx hb dX11_readLine_50 rfl (lv_at hl 0 rfl) ?_
        refine gf_X11_16 B hR (h0.at0 rfl) dX11_readLine_51 ?_
        refine lv_iload_n hx hb dX11_readLine_54 rfl (lv_at hl 1 rfl) ?_
        refine lv_aload_n hx hb dX11_readLine_55 rfl (lv_at hl 0 rfl) ?_
        refine lv_iconst (v := 1) hx hb dX11_readLine_56 (by decide) ?_
        refine lv_bipush (v := 10) hx hb dX11_readLine_57 (by decide) ?_
        obtain ⟨r_59, M_59, hc_59, h⟩ := bw_el h
        refine iv_X11_196 B hR (h0.at0 rfl) hl.1 (mX11_numeral fu _ h0 hc_59) (Nat.le_of_ble_eq_true rfl) dX11_readLine_59 (fun H locs hR => ?_)
        obtain ⟨hi_62, h⟩ := ifn_el h
        obtain ⟨M_62, eM_62, h⟩ := lt_el h
        refine r_iast B hR (h0.at 3 rfl) hi_62 dX11_readLine_62 (fun H locs hR => ?_)
        rw [← eM_62] at hR
        refine lv_goto (tgt := 200) hx hb dX11_readLine_63 (by decide) ?_
        exact wX11_readLine_j200 B hr hlk  h hR (lv_sub hl [] rfl)
  · rw [if_neg c_5] at h
    refine lv_aload_n hx hb dX11_readLine_8 rfl (lv_at hl 0 rfl) ?_
    refine lv_iconst (v := 5) hx hb dX11_readLine_9 (by decide) ?_
    obtain ⟨r_10, M_10, hc_10, h⟩ := bw_el h
    refine iv_X11_193 B hR (h0.at0 rfl) hl.1 (mX11_isOnce fu _ h0 hc_10) (Nat.le_of_ble_eq_true rfl) dX11_readLine_10 (fun H locs hR => ?_)
    refine lv_if_eq (tgt := 200) hx hb dX11_readLine_13 (by decide) (fun c_13 => ?_) (fun c_13 => ?_)
    · rw [if_pos c_13] at h
      exact wX11_readLine_j200 B hr hlk  h hR (lv_sub hl [] rfl)
    · rw [if_neg c_13] at h
      refine lv_aload_n hx hb dX11_readLine_16 rfl (lv_at hl 0 rfl) ?_
      refine gf_X11_13 B hR (h0.at0 rfl) dX11_readLine_17 ?_
      refine lv_iload_n hx hb dX11_readLine_20 rfl (lv_at hl 1 rfl) ?_
      refine lv_aload_n hx hb dX11_readLine_21 rfl (lv_at hl 0 rfl) ?_
      refine lv_iconst (v := 4) hx hb dX11_readLine_22 (by decide) ?_
      refine lv_bipush (v := 10) hx hb dX11_readLine_23 (by decide) ?_
      obtain ⟨r_25, M_25, hc_25, h⟩ := bw_el h
      refine iv_X11_196 B hR (h0.at0 rfl) hl.1 (mX11_numeral fu _ h0 hc_25) (Nat.le_of_ble_eq_true rfl) dX11_readLine_25 (fun H locs hR => ?_)
      obtain ⟨hi_28, h⟩ := ifn_el h
      obtain ⟨M_28, eM_28, h⟩ := lt_el h
      refine r_iast B hR (h0.at 2 rfl) hi_28 dX11_readLine_28 (fun H locs hR => ?_)
      rw [← eM_28] at hR
      refine lv_goto (tgt := 200) hx hb dX11_readLine_29 (by decide) ?_
      exact wX11_readLine_j200 B hr hlk  h hR (lv_sub hl [] rfl)
def fX11_readAll_j45 (fu : Nat) (M : Mm) : Option Mm :=
  some M
set_option maxRecDepth 100000 in
set_option maxHeartbeats 4000000 in
theorem wX11_readAll_j45 {M' : Mm}    {M : Mm} (B : Bx p s m args c cX11_readAll 2 RX11 E L) (hr : meth.sig.returnType = none) (hlk : meth.locks = false)   (h : fX11_readAll_j45 fu M = some M') (hR : Rx s E L M H locs) (hl : lv_has ls 2 []) : W p l e (rmD (d + 6)) s m args below meth c H locs 0 0 (MQ below (QcM E L none M') args s 0 0 E.2.2.2) (F0 m 45 ls []) := by
  have hx := B.1
  have hb := B.2.1
  unfold fX11_readAll_j45 at h
  exact r_vretW B hR hr hlk h dX11_readAll_45
def fX11_readAll_b4 (fu : Nat) (k4 : Mm → Option Mm) (a0 : Nat) (x1 : Int32) (M : Mm) : Option Mm :=
  if (M.1 a0 14) = 0 then
    if (M.1 a0 11) = 0 then
      fX11_readAll_j45 fu M
    else
      bm (fX11_readLine fu a0 x1 M) fun M_20 =>
      bi (fX11_isStop fu a0 M_20) fun r_24 =>
      if r_24 = 0 then
        bm (fX11_fail fu a0 1 M_20) fun M_39 =>
        k4 M_39
      else
        bm (fX11_scan fu a0 M_20) fun M_31 =>
        k4 M_31
  else
    fX11_readAll_j45 fu M
set_option maxRecDepth 100000 in
set_option maxHeartbeats 4000000 in
theorem wX11_readAll_b4 {M' : Mm}   {k4 : Mm → Option Mm} {a0 : Nat} {x1 : Int32} {M : Mm} (B : Bx p s m args c cX11_readAll 2 RX11 E L) (hr : meth.sig.returnType = none) (hlk : meth.locks = false)  (ih4 : ∀ (M : Mm), k4 M = some M' → ∀ (H : Heap) (locs : List Loc) (ls : Array Slot), Rx s E L M H locs → lv_has ls 2 [(0, .ref a0), (1, .int x1)] → W p l e (rmD (d + 6)) s m args below meth c H locs 0 0 (MQ below (QcM E L none M') args s 0 0 E.2.2.2) (F0 m 4 ls [])) (h0 : At L a0 T11) (h : fX11_readAll_b4 fu k4 a0 x1 M = some M') (hR : Rx s E L M H locs) (hl : lv_has ls 2 [(0, .ref a0), (1, .int x1)]) : W p l e (rmD (d + 6)) s m args below meth c H locs 0 0 (MQ below (QcM E L none M') args s 0 0 E.2.2.2) (F0 m 4 ls []) := by
  have hx := B.1
  have hb := B.2.1
  unfold fX11_readAll_b4 at h
  refine lv_aload_n hx hb dX11_readAll_4 rfl (lv_at hl 0 rfl) ?_
  refine gf_X11_157 B hR (h0.at0 rfl) dX11_readAll_5 ?_
  refine lv_if_ne (tgt := 45) hx hb dX11_readAll_8 (by decide) (fun c_8 => ?_) (fun c_8 => ?_)
  · rw [if_neg c_8] at h
    exact wX11_readAll_j45 B hr hlk  h hR (lv_sub hl [] rfl)
  · rw [if_pos c_8] at h
    refine lv_aload_n hx hb dX11_readAll_11 rfl (lv_at hl 0 rfl) ?_
    refine gf_X11_131 B hR (h0.at0 rfl) dX11_readAll_12 ?_
    refine lv_if_eq (tgt := 45) hx hb dX11_readAll_15 (by decide) (fun c_15 => ?_) (fun c_15 => ?_)
    · rw [if_pos c_15] at h
      exact wX11_readAll_j45 B hr hlk  h hR (lv_sub hl [] rfl)
    · rw [if_neg c_15] at h
      refine lv_aload_n hx hb dX11_readAll_18 rfl (lv_at hl 0 rfl) ?_
      refine lv_iload_n hx hb dX11_readAll_19 rfl (lv_at hl 1 rfl) ?_
      obtain ⟨M_20, hc_20, h⟩ := bm_el h
      refine iv_X11_177 B hR (h0.at0 rfl) hl.1 (mX11_readLine fu _ h0 hc_20) (Nat.le_of_ble_eq_true rfl) dX11_readAll_20 (fun H locs hR => ?_)
      refine lv_aload_n hx hb dX11_readAll_23 rfl (lv_at hl 0 rfl) ?_
      obtain ⟨r_24, hc_24, h⟩ := bi_el h
      refine iv_X11_180 B hR (h0.at0 rfl) hl.1 (mX11_isStop fu _ h0 hc_24) (Nat.le_of_ble_eq_true rfl) dX11_readAll_24 (fun H locs hR => ?_)
      refine lv_if_eq (tgt := 37) hx hb dX11_readAll_27 (by decide) (fun c_27 => ?_) (fun c_27 => ?_)
      · rw [if_pos c_27] at h
        refine lv_aload_n hx hb dX11_readAll_37 rfl (lv_at hl 0 rfl) ?_
        refine lv_iconst (v := 1) hx hb dX11_readAll_38 (by decide) ?_
        obtain ⟨M_39, hc_39, h⟩ := bm_el h
        refine iv_X11_167 B hR (h0.at0 rfl) hl.1 (mX11_fail fu _ h0 hc_39) (Nat.le_of_ble_eq_true rfl) dX11_readAll_39 (fun H locs hR => ?_)
        refine lv_goto (tgt := 4) hx hb dX11_readAll_42 (by decide) ?_
        exact ih4 M_39 h _ _ _ hR hl
      · rw [if_neg c_27] at h
        refine lv_aload_n hx hb dX11_readAll_30 rfl (lv_at hl 0 rfl) ?_
        obtain ⟨M_31, hc_31, h⟩ := bm_el h
        refine iv_X11_170 B hR (h0.at0 rfl) hl.1 (mX11_scan fu _ h0 hc_31) (Nat.le_of_ble_eq_true rfl) dX11_readAll_31 (fun H locs hR => ?_)
        refine lv_goto (tgt := 4) hx hb dX11_readAll_34 (by decide) ?_
        exact ih4 M_31 h _ _ _ hR hl
def fX11_readAll_l4 (fu : Nat) (a0 : Nat) (x1 : Int32) (M : Mm) : Option Mm := lp (fun (rec : Mm → Option Mm) (s : Mm) => fX11_readAll_b4 fu  (fun M => rec (M)) a0 x1 s) fu (M)
set_option maxRecDepth 100000 in
set_option maxHeartbeats 4000000 in
theorem wX11_readAll_l4 {M' : Mm}   {a0 : Nat} {x1 : Int32} {M : Mm} (B : Bx p s m args c cX11_readAll 2 RX11 E L) (hr : meth.sig.returnType = none) (hlk : meth.locks = false)  (h0 : At L a0 T11) (h : fX11_readAll_l4 fu a0 x1 M = some M') (hR : Rx s E L M H locs) (hl : lv_has ls 2 [(0, .ref a0), (1, .int x1)]) : W p l e (rmD (d + 6)) s m args below meth c H locs 0 0 (MQ below (QcM E L none M') args s 0 0 E.2.2.2) (F0 m 4 ls []) := by
  refine lp_G (G := fun z : Mm => ∀ (H : Heap) (locs : List Loc) (ls : Array Slot), Rx s E L z H locs → lv_has ls 2 [(0, .ref a0), (1, .int x1)] → W p l e (rmD (d + 6)) s m args below meth c H locs 0 0 (MQ below (QcM E L none M') args s 0 0 E.2.2.2) (F0 m 4 ls [])) (fun rec ih z h H locs ls hR hl => ?_) fu _ h H locs ls hR hl
  exact wX11_readAll_b4 B hr hlk  (fun M h => ih (M) h) h0 h hR hl
def fX11_readAll (fu : Nat) (a0 : Nat) (x1 : Int32) (M : Mm) : Option Mm :=
  bm (fX11_scan fu a0 M) fun M_1 =>
  fX11_readAll_l4 fu a0 x1 M_1
set_option maxRecDepth 100000 in
set_option maxHeartbeats 4000000 in
theorem mX11_readAll {l : Launch} {E : Ge} {L : Lay} (fu d : Nat) {a0 : Nat} {x1 : Int32} {M : Mm} {M' : Mm}  (h0 : At L a0 T11) (h : fX11_readAll fu a0 x1 M = some M') : Ct l E L yX11_readAll cX11_readAll 2 none (d + 6) [.ref a0, .int x1] M none M' := by
  refine Ct.of (by decide) ?_
  intro p e s m below meth c hr hlk B hR
  have B : Bx p s m _ c cX11_readAll 2 RX11 E L := B
  have hx := B.1
  have hb := B.2.1
  have hl := lv_entry ([.ref a0, .int x1]) (n := 2) (Nat.le_of_ble_eq_true rfl)
  rw [lg_entry_eq]
  generalize (lg_sl ([.ref a0, .int x1]) ++ List.replicate (2 - (lg_sl ([.ref a0, .int x1])).length) Slot.unset).toArray = ls at hl ⊢
  have hl : lv_has ls 2 [(0, .ref a0), (1, .int x1)] := hl
  unfold fX11_readAll at h
  refine lv_aload_n hx hb dX11_readAll_0 rfl (lv_at hl 0 rfl) ?_
  obtain ⟨M_1, hc_1, h⟩ := bm_el h
  refine iv_X11_170 B hR (h0.at0 rfl) hl.1 (mX11_scan fu _ h0 hc_1) (Nat.le_of_ble_eq_true rfl) dX11_readAll_1 (fun H locs hR => ?_)
  exact wX11_readAll_l4 B hr hlk h0 h hR hl
def fX11_startAnew_j66 (fu : Nat) (M : Mm) : Option Mm :=
  some M
set_option maxRecDepth 100000 in
set_option maxHeartbeats 4000000 in
theorem wX11_startAnew_j66 {M' : Mm}    {M : Mm} (B : Bx p s m args c cX11_startAnew 2 RX11 E L) (hr : meth.sig.returnType = none) (hlk : meth.locks = false)   (h : fX11_startAnew_j66 fu M = some M') (hR : Rx s E L M H locs) (hl : lv_has ls 2 []) : W p l e (rmD (d + 0)) s m args below meth c H locs 0 0 (MQ below (QcM E L none M') args s 0 0 E.2.2.2) (F0 m 66 ls []) := by
  have hx := B.1
  have hb := B.2.1
  unfold fX11_startAnew_j66 at h
  exact r_vretW B hR hr hlk h dX11_startAnew_66
def fX11_startAnew_b48 (fu : Nat) (k48 : Int32 → Mm → Option Mm) (a0 : Nat) (x1 : Int32) (M : Mm) : Option Mm :=
  if 2 ≤ x1 then
    fX11_startAnew_j66 fu M
  else
    if x1 < 0 ∨ 2 ≤ ix x1 then none else
    lt (wI M (a0 + 29) (ix x1) (vp_nar .boolean 0)) fun M_59 =>
    lt (x1 + 1) fun x1_60 =>
    k48 x1_60 M_59
set_option maxRecDepth 100000 in
set_option maxHeartbeats 4000000 in
theorem wX11_startAnew_b48 {M' : Mm}   {k48 : Int32 → Mm → Option Mm} {a0 : Nat} {x1 : Int32} {M : Mm} (B : Bx p s m args c cX11_startAnew 2 RX11 E L) (hr : meth.sig.returnType = none) (hlk : meth.locks = false)  (ih48 : ∀ (x1 : Int32) (M : Mm), k48 x1 M = some M' → ∀ (H : Heap) (locs : List Loc) (ls : Array Slot), Rx s E L M H locs → lv_has ls 2 [(0, .ref a0), (1, .int x1)] → W p l e (rmD (d + 0)) s m args below meth c H locs 0 0 (MQ below (QcM E L none M') args s 0 0 E.2.2.2) (F0 m 48 ls [])) (h0 : At L a0 T11) (h : fX11_startAnew_b48 fu k48 a0 x1 M = some M') (hR : Rx s E L M H locs) (hl : lv_has ls 2 [(0, .ref a0), (1, .int x1)]) : W p l e (rmD (d + 0)) s m args below meth c H locs 0 0 (MQ below (QcM E L none M') args s 0 0 E.2.2.2) (F0 m 48 ls []) := by
  have hx := B.1
  have hb := B.2.1
  unfold fX11_startAnew_b48 at h
  refine lv_iload_n hx hb dX11_startAnew_48 rfl (lv_at hl 1 rfl) ?_
  refine lv_iconst (v := 2) hx hb dX11_startAnew_49 (by decide) ?_
  refine lv_icmp_ge (tgt := 66) hx hb dX11_startAnew_50 (by decide) (fun c_50 => ?_) (fun c_50 => ?_)
  · rw [if_pos c_50] at h
    exact wX11_startAnew_j66 B hr hlk  h hR (lv_sub hl [] rfl)
  · rw [if_neg c_50] at h
    refine lv_aload_n hx hb dX11_startAnew_53 rfl (lv_at hl 0 rfl) ?_
    refine gf_X11_101 B hR (h0.at0 rfl) dX11_startAnew_54 ?_
    refine lv_iload_n hx hb dX11_startAnew_57 rfl (lv_at hl 1 rfl) ?_
    refine lv_iconst (v := 0) hx hb dX11_startAnew_58 (by decide) ?_
    obtain ⟨hi_59, h⟩ := ifn_el h
    obtain ⟨M_59, eM_59, h⟩ := lt_el h
    refine r_zast B hR (h0.at 29 rfl) hi_59 dX11_startAnew_59 (fun H locs hR => ?_)
    rw [← eM_59] at hR
    obtain ⟨x1_60, ex1_60, h⟩ := lt_el h
    refine lv_iinc (v := x1_60) (lv' := [(1, .int x1_60), (0, .ref a0)]) hx hb dX11_startAnew_60 hl (k := 1) rfl (by rw [ex1_60]; rfl) (by decide) rfl (fun ls hl => ?_)
    refine lv_goto (tgt := 48) hx hb dX11_startAnew_63 (by decide) ?_
    exact ih48 x1_60 M_59 h _ _ _ hR (lv_sub hl [1, 0] rfl)
def fX11_startAnew_l48 (fu : Nat) (a0 : Nat) (x1 : Int32) (M : Mm) : Option Mm := lp (fun (rec : (Int32 × Mm) → Option Mm) (s : Int32 × Mm) => fX11_startAnew_b48 fu  (fun x1 M => rec (x1, M)) a0 s.1 s.2) fu (x1, M)
set_option maxRecDepth 100000 in
set_option maxHeartbeats 4000000 in
theorem wX11_startAnew_l48 {M' : Mm}   {a0 : Nat} {x1 : Int32} {M : Mm} (B : Bx p s m args c cX11_startAnew 2 RX11 E L) (hr : meth.sig.returnType = none) (hlk : meth.locks = false)  (h0 : At L a0 T11) (h : fX11_startAnew_l48 fu a0 x1 M = some M') (hR : Rx s E L M H locs) (hl : lv_has ls 2 [(0, .ref a0), (1, .int x1)]) : W p l e (rmD (d + 0)) s m args below meth c H locs 0 0 (MQ below (QcM E L none M') args s 0 0 E.2.2.2) (F0 m 48 ls []) := by
  refine lp_G (G := fun z : Int32 × Mm => ∀ (H : Heap) (locs : List Loc) (ls : Array Slot), Rx s E L z.2 H locs → lv_has ls 2 [(0, .ref a0), (1, .int z.1)] → W p l e (rmD (d + 0)) s m args below meth c H locs 0 0 (MQ below (QcM E L none M') args s 0 0 E.2.2.2) (F0 m 48 ls [])) (fun rec ih z h H locs ls hR hl => ?_) fu _ h H locs ls hR hl
  exact wX11_startAnew_b48 B hr hlk  (fun x1 M h => ih (x1, M) h) h0 h hR hl
def fX11_startAnew_j36 (fu : Nat) (a0 : Nat) (M : Mm) : Option Mm :=
  lt (wI M a0 50 0) fun M_38 =>
  lt (wI M_38 a0 51 0) fun M_43 =>
  fX11_startAnew_l48 fu a0 0 M_43
set_option maxRecDepth 100000 in
set_option maxHeartbeats 4000000 in
theorem wX11_startAnew_j36 {M' : Mm}   {a0 : Nat} {M : Mm} (B : Bx p s m args c cX11_startAnew 2 RX11 E L) (hr : meth.sig.returnType = none) (hlk : meth.locks = false)  (h0 : At L a0 T11) (h : fX11_startAnew_j36 fu a0 M = some M') (hR : Rx s E L M H locs) (hl : lv_has ls 2 [(0, .ref a0)]) : W p l e (rmD (d + 0)) s m args below meth c H locs 0 0 (MQ below (QcM E L none M') args s 0 0 E.2.2.2) (F0 m 36 ls []) := by
  have hx := B.1
  have hb := B.2.1
  unfold fX11_startAnew_j36 at h
  refine lv_aload_n hx hb dX11_startAnew_36 rfl (lv_at hl 0 rfl) ?_
  refine lv_iconst (v := 0) hx hb dX11_startAnew_37 (by decide) ?_
  obtain ⟨M_38, eM_38, h⟩ := lt_el h
  refine pf_X11_234 B hR (h0.at0 rfl) dX11_startAnew_38 (fun H locs hR => ?_)
  rw [← eM_38] at hR
  refine lv_aload_n hx hb dX11_startAnew_41 rfl (lv_at hl 0 rfl) ?_
  refine lv_iconst (v := 0) hx hb dX11_startAnew_42 (by decide) ?_
  obtain ⟨M_43, eM_43, h⟩ := lt_el h
  refine pf_X11_237 B hR (h0.at0 rfl) dX11_startAnew_43 (fun H locs hR => ?_)
  rw [← eM_43] at hR
  refine lv_iconst (v := 0) hx hb dX11_startAnew_46 (by decide) ?_
  refine lv_istore_n (lv' := [(1, .int 0), (0, .ref a0)]) hx hb dX11_startAnew_47 rfl hl (by decide) rfl (fun ls hl => ?_)
  exact wX11_startAnew_l48 B hr hlk h0 h hR (lv_sub hl [1, 0] rfl)
def fX11_startAnew_b2 (fu : Nat) (k2 : Int32 → Mm → Option Mm) (a0 : Nat) (x1 : Int32) (M : Mm) : Option Mm :=
  if 140 ≤ x1 then
    fX11_startAnew_j36 fu a0 M
  else
    if ((140 * (M.1 a0 5)) + x1) < 0 ∨ 280 ≤ ix ((140 * (M.1 a0 5)) + x1) then none else
    if x1 < 0 ∨ 140 ≤ ix x1 then none else
    lt (wI M (a0 + 1) (ix x1) (M.1 (a0 + 5) (ix ((140 * (M.1 a0 5)) + x1)))) fun M_29 =>
    lt (x1 + 1) fun x1_30 =>
    k2 x1_30 M_29
set_option maxRecDepth 100000 in
set_option maxHeartbeats 4000000 in
theorem wX11_startAnew_b2 {M' : Mm}   {k2 : Int32 → Mm → Option Mm} {a0 : Nat} {x1 : Int32} {M : Mm} (B : Bx p s m args c cX11_startAnew 2 RX11 E L) (hr : meth.sig.returnType = none) (hlk : meth.locks = false)  (ih2 : ∀ (x1 : Int32) (M : Mm), k2 x1 M = some M' → ∀ (H : Heap) (locs : List Loc) (ls : Array Slot), Rx s E L M H locs → lv_has ls 2 [(0, .ref a0), (1, .int x1)] → W p l e (rmD (d + 0)) s m args below meth c H locs 0 0 (MQ below (QcM E L none M') args s 0 0 E.2.2.2) (F0 m 2 ls [])) (h0 : At L a0 T11) (h : fX11_startAnew_b2 fu k2 a0 x1 M = some M') (hR : Rx s E L M H locs) (hl : lv_has ls 2 [(0, .ref a0), (1, .int x1)]) : W p l e (rmD (d + 0)) s m args below meth c H locs 0 0 (MQ below (QcM E L none M') args s 0 0 E.2.2.2) (F0 m 2 ls []) := by
  have hx := B.1
  have hb := B.2.1
  unfold fX11_startAnew_b2 at h
  refine lv_iload_n hx hb dX11_startAnew_2 rfl (lv_at hl 1 rfl) ?_
  refine lv_sipush (v := 140) hx hb dX11_startAnew_3 (by decide) ?_
  refine lv_icmp_ge (tgt := 36) hx hb dX11_startAnew_6 (by decide) (fun c_6 => ?_) (fun c_6 => ?_)
  · rw [if_pos c_6] at h
    exact wX11_startAnew_j36 B hr hlk h0 h hR (lv_sub hl [0] rfl)
  · rw [if_neg c_6] at h
    refine lv_aload_n hx hb dX11_startAnew_9 rfl (lv_at hl 0 rfl) ?_
    refine gf_X11_7 B hR (h0.at0 rfl) dX11_startAnew_10 ?_
    refine lv_iload_n hx hb dX11_startAnew_13 rfl (lv_at hl 1 rfl) ?_
    refine lv_aload_n hx hb dX11_startAnew_14 rfl (lv_at hl 0 rfl) ?_
    refine gf_X11_22 B hR (h0.at0 rfl) dX11_startAnew_15 ?_
    refine lv_sipush (v := 140) hx hb dX11_startAnew_18 (by decide) ?_
    refine lv_aload_n hx hb dX11_startAnew_21 rfl (lv_at hl 0 rfl) ?_
    refine gf_X11_225 B hR (h0.at0 rfl) dX11_startAnew_22 ?_
    refine lv_imul hx hb dX11_startAnew_25 ?_
    refine lv_iload_n hx hb dX11_startAnew_26 rfl (lv_at hl 1 rfl) ?_
    refine lv_iadd hx hb dX11_startAnew_27 ?_
    obtain ⟨hi_28, h⟩ := ifn_el h
    refine r_iald B hR (h0.at 5 rfl) hi_28 dX11_startAnew_28 ?_
    obtain ⟨hi_29, h⟩ := ifn_el h
    obtain ⟨M_29, eM_29, h⟩ := lt_el h
    refine r_iast B hR (h0.at 1 rfl) hi_29 dX11_startAnew_29 (fun H locs hR => ?_)
    rw [← eM_29] at hR
    obtain ⟨x1_30, ex1_30, h⟩ := lt_el h
    refine lv_iinc (v := x1_30) (lv' := [(1, .int x1_30), (0, .ref a0)]) hx hb dX11_startAnew_30 hl (k := 1) rfl (by rw [ex1_30]; rfl) (by decide) rfl (fun ls hl => ?_)
    refine lv_goto (tgt := 2) hx hb dX11_startAnew_33 (by decide) ?_
    exact ih2 x1_30 M_29 h _ _ _ hR (lv_sub hl [1, 0] rfl)
def fX11_startAnew_l2 (fu : Nat) (a0 : Nat) (x1 : Int32) (M : Mm) : Option Mm := lp (fun (rec : (Int32 × Mm) → Option Mm) (s : Int32 × Mm) => fX11_startAnew_b2 fu  (fun x1 M => rec (x1, M)) a0 s.1 s.2) fu (x1, M)
set_option maxRecDepth 100000 in
set_option maxHeartbeats 4000000 in
theorem wX11_startAnew_l2 {M' : Mm}   {a0 : Nat} {x1 : Int32} {M : Mm} (B : Bx p s m args c cX11_startAnew 2 RX11 E L) (hr : meth.sig.returnType = none) (hlk : meth.locks = false)  (h0 : At L a0 T11) (h : fX11_startAnew_l2 fu a0 x1 M = some M') (hR : Rx s E L M H locs) (hl : lv_has ls 2 [(0, .ref a0), (1, .int x1)]) : W p l e (rmD (d + 0)) s m args below meth c H locs 0 0 (MQ below (QcM E L none M') args s 0 0 E.2.2.2) (F0 m 2 ls []) := by
  refine lp_G (G := fun z : Int32 × Mm => ∀ (H : Heap) (locs : List Loc) (ls : Array Slot), Rx s E L z.2 H locs → lv_has ls 2 [(0, .ref a0), (1, .int z.1)] → W p l e (rmD (d + 0)) s m args below meth c H locs 0 0 (MQ below (QcM E L none M') args s 0 0 E.2.2.2) (F0 m 2 ls [])) (fun rec ih z h H locs ls hR hl => ?_) fu _ h H locs ls hR hl
  exact wX11_startAnew_b2 B hr hlk  (fun x1 M h => ih (x1, M) h) h0 h hR hl
def fX11_startAnew (fu : Nat) (a0 : Nat) (M : Mm) : Option Mm :=
  fX11_startAnew_l2 fu a0 0 M
set_option maxRecDepth 100000 in
set_option maxHeartbeats 4000000 in
theorem mX11_startAnew {l : Launch} {E : Ge} {L : Lay} (fu d : Nat) {a0 : Nat} {M : Mm} {M' : Mm}  (h0 : At L a0 T11) (h : fX11_startAnew fu a0 M = some M') : Ct l E L yX11_startAnew cX11_startAnew 2 none (d + 0) [.ref a0] M none M' := by
  refine Ct.of (by decide) ?_
  intro p e s m below meth c hr hlk B hR
  have B : Bx p s m _ c cX11_startAnew 2 RX11 E L := B
  have hx := B.1
  have hb := B.2.1
  have hl := lv_entry ([.ref a0]) (n := 2) (Nat.le_of_ble_eq_true rfl)
  rw [lg_entry_eq]
  generalize (lg_sl ([.ref a0]) ++ List.replicate (2 - (lg_sl ([.ref a0])).length) Slot.unset).toArray = ls at hl ⊢
  have hl : lv_has ls 2 [(0, .ref a0)] := hl
  unfold fX11_startAnew at h
  refine lv_iconst (v := 0) hx hb dX11_startAnew_0 (by decide) ?_
  refine lv_istore_n (lv' := [(1, .int 0), (0, .ref a0)]) hx hb dX11_startAnew_1 rfl hl (by decide) rfl (fun ls hl => ?_)
  exact wX11_startAnew_l2 B hr hlk h0 h hR (lv_sub hl [1, 0] rfl)
end G21_model0_lean_txt
