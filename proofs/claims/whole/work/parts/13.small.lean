theorem dX0_add_0 : decode cX0_add 0 = .ok (.aload_n 0, 1) := by decide +kernel
theorem dX0_add_1 : decode cX0_add 1 = .ok (.getfield 21, 3) := by decide +kernel
theorem dX0_add_4 : decode cX0_add 4 = .ok (.aload_n 0, 1) := by decide +kernel
theorem dX0_add_5 : decode cX0_add 5 = .ok (.getfield 9, 3) := by decide +kernel
theorem dX0_add_8 : decode cX0_add 8 = .ok (.arraylength, 1) := by decide +kernel
theorem dX0_add_9 : decode cX0_add 9 = .ok (.if_icmp .ge 43, 3) := by decide +kernel
theorem dX0_add_12 : decode cX0_add 12 = .ok (.aload_n 0, 1) := by decide +kernel
theorem dX0_add_13 : decode cX0_add 13 = .ok (.getfield 9, 3) := by decide +kernel
theorem dX0_add_16 : decode cX0_add 16 = .ok (.aload_n 0, 1) := by decide +kernel
theorem dX0_add_17 : decode cX0_add 17 = .ok (.getfield 21, 3) := by decide +kernel
theorem dX0_add_20 : decode cX0_add 20 = .ok (.iload_n 1, 1) := by decide +kernel
theorem dX0_add_21 : decode cX0_add 21 = .ok (.iastore, 1) := by decide +kernel
theorem dX0_add_22 : decode cX0_add 22 = .ok (.aload_n 0, 1) := by decide +kernel
theorem dX0_add_23 : decode cX0_add 23 = .ok (.getfield 15, 3) := by decide +kernel
theorem dX0_add_26 : decode cX0_add 26 = .ok (.aload_n 0, 1) := by decide +kernel
theorem dX0_add_27 : decode cX0_add 27 = .ok (.getfield 21, 3) := by decide +kernel
theorem dX0_add_30 : decode cX0_add 30 = .ok (.iload_n 2, 1) := by decide +kernel
theorem dX0_add_31 : decode cX0_add 31 = .ok (.iastore, 1) := by decide +kernel
theorem dX0_add_32 : decode cX0_add 32 = .ok (.aload_n 0, 1) := by decide +kernel
theorem dX0_add_33 : decode cX0_add 33 = .ok (.getfield 18, 3) := by decide +kernel
theorem dX0_add_36 : decode cX0_add 36 = .ok (.aload_n 0, 1) := by decide +kernel
theorem dX0_add_37 : decode cX0_add 37 = .ok (.getfield 21, 3) := by decide +kernel
theorem dX0_add_40 : decode cX0_add 40 = .ok (.iload_n 3, 1) := by decide +kernel
theorem dX0_add_41 : decode cX0_add 41 = .ok (.iastore, 1) := by decide +kernel
theorem dX0_add_42 : decode cX0_add 42 = .ok (.aload_n 0, 1) := by decide +kernel
theorem dX0_add_43 : decode cX0_add 43 = .ok (.dup, 1) := by decide +kernel
theorem dX0_add_44 : decode cX0_add 44 = .ok (.getfield 21, 3) := by decide +kernel
theorem dX0_add_47 : decode cX0_add 47 = .ok (.iconst 1, 1) := by decide +kernel
theorem dX0_add_48 : decode cX0_add 48 = .ok (.iadd, 1) := by decide +kernel
theorem dX0_add_49 : decode cX0_add 49 = .ok (.putfield 21, 3) := by decide +kernel
theorem dX0_add_52 : decode cX0_add 52 = .ok (.return_, 1) := by decide +kernel
theorem dX0_tell_0 : decode cX0_tell 0 = .ok (.iload_n 1, 1) := by decide +kernel
theorem dX0_tell_1 : decode cX0_tell 1 = .ok (.iconst (-1), 1) := by decide +kernel
theorem dX0_tell_2 : decode cX0_tell 2 = .ok (.if_icmp .ne 8, 3) := by decide +kernel
theorem dX0_tell_5 : decode cX0_tell 5 = .ok (.aload_n 0, 1) := by decide +kernel
theorem dX0_tell_6 : decode cX0_tell 6 = .ok (.getfield 21, 3) := by decide +kernel
theorem dX0_tell_9 : decode cX0_tell 9 = .ok (.ireturn, 1) := by decide +kernel
theorem dX0_tell_10 : decode cX0_tell 10 = .ok (.iload_n 1, 1) := by decide +kernel
theorem dX0_tell_11 : decode cX0_tell 11 = .ok (.ifCond .lt 11, 3) := by decide +kernel
theorem dX0_tell_14 : decode cX0_tell 14 = .ok (.iload_n 1, 1) := by decide +kernel
theorem dX0_tell_15 : decode cX0_tell 15 = .ok (.aload_n 0, 1) := by decide +kernel
theorem dX0_tell_16 : decode cX0_tell 16 = .ok (.getfield 21, 3) := by decide +kernel
theorem dX0_tell_19 : decode cX0_tell 19 = .ok (.if_icmp .lt 7, 3) := by decide +kernel
theorem dX0_tell_22 : decode cX0_tell 22 = .ok (.iconst (-1), 1) := by decide +kernel
theorem dX0_tell_23 : decode cX0_tell 23 = .ok (.goto 25, 3) := by decide +kernel
theorem dX0_tell_26 : decode cX0_tell 26 = .ok (.iload_n 2, 1) := by decide +kernel
theorem dX0_tell_27 : decode cX0_tell 27 = .ok (.aload_n 0, 1) := by decide +kernel
theorem dX0_tell_28 : decode cX0_tell 28 = .ok (.getfield 9, 3) := by decide +kernel
theorem dX0_tell_31 : decode cX0_tell 31 = .ok (.iload_n 1, 1) := by decide +kernel
theorem dX0_tell_32 : decode cX0_tell 32 = .ok (.iaload, 1) := by decide +kernel
theorem dX0_tell_33 : decode cX0_tell 33 = .ok (.aload_n 0, 1) := by decide +kernel
theorem dX0_tell_34 : decode cX0_tell 34 = .ok (.getfield 15, 3) := by decide +kernel
theorem dX0_tell_37 : decode cX0_tell 37 = .ok (.iload_n 1, 1) := by decide +kernel
theorem dX0_tell_38 : decode cX0_tell 38 = .ok (.iaload, 1) := by decide +kernel
theorem dX0_tell_39 : decode cX0_tell 39 = .ok (.aload_n 0, 1) := by decide +kernel
theorem dX0_tell_40 : decode cX0_tell 40 = .ok (.getfield 18, 3) := by decide +kernel
theorem dX0_tell_43 : decode cX0_tell 43 = .ok (.iload_n 1, 1) := by decide +kernel
theorem dX0_tell_44 : decode cX0_tell 44 = .ok (.iaload, 1) := by decide +kernel
theorem dX0_tell_45 : decode cX0_tell 45 = .ok (.invokestatic 25, 3) := by decide +kernel
theorem dX0_tell_48 : decode cX0_tell 48 = .ok (.ireturn, 1) := by decide +kernel
theorem dX2_begin_0 : decode cX2_begin 0 = .ok (.aload_n 0, 1) := by decide +kernel
theorem dX2_begin_1 : decode cX2_begin 1 = .ok (.getfield 9, 3) := by decide +kernel
theorem dX2_begin_4 : decode cX2_begin 4 = .ok (.iconst 0, 1) := by decide +kernel
theorem dX2_begin_5 : decode cX2_begin 5 = .ok (.iconst 0, 1) := by decide +kernel
theorem dX2_begin_6 : decode cX2_begin 6 = .ok (.iastore, 1) := by decide +kernel
theorem dX2_begin_7 : decode cX2_begin 7 = .ok (.aload_n 0, 1) := by decide +kernel
theorem dX2_begin_8 : decode cX2_begin 8 = .ok (.getfield 9, 3) := by decide +kernel
theorem dX2_begin_11 : decode cX2_begin 11 = .ok (.iconst 1, 1) := by decide +kernel
theorem dX2_begin_12 : decode cX2_begin 12 = .ok (.iload_n 1, 1) := by decide +kernel
theorem dX2_begin_13 : decode cX2_begin 13 = .ok (.iastore, 1) := by decide +kernel
theorem dX2_begin_14 : decode cX2_begin 14 = .ok (.aload_n 0, 1) := by decide +kernel
theorem dX2_begin_15 : decode cX2_begin 15 = .ok (.iconst 2, 1) := by decide +kernel
theorem dX2_begin_16 : decode cX2_begin 16 = .ok (.putfield 15, 3) := by decide +kernel
theorem dX2_begin_19 : decode cX2_begin 19 = .ok (.return_, 1) := by decide +kernel
theorem dX2_cut_0 : decode cX2_cut 0 = .ok (.aload_n 0, 1) := by decide +kernel
theorem dX2_cut_1 : decode cX2_cut 1 = .ok (.getfield 15, 3) := by decide +kernel
theorem dX2_cut_4 : decode cX2_cut 4 = .ok (.aload_n 0, 1) := by decide +kernel
theorem dX2_cut_5 : decode cX2_cut 5 = .ok (.getfield 9, 3) := by decide +kernel
theorem dX2_cut_8 : decode cX2_cut 8 = .ok (.arraylength, 1) := by decide +kernel
theorem dX2_cut_9 : decode cX2_cut 9 = .ok (.if_icmp .ge 22, 3) := by decide +kernel
theorem dX2_cut_12 : decode cX2_cut 12 = .ok (.iload_n 1, 1) := by decide +kernel
theorem dX2_cut_13 : decode cX2_cut 13 = .ok (.ifCond .le 18, 3) := by decide +kernel
theorem dX2_cut_16 : decode cX2_cut 16 = .ok (.iload_n 1, 1) := by decide +kernel
theorem dX2_cut_17 : decode cX2_cut 17 = .ok (.aload_n 0, 1) := by decide +kernel
theorem dX2_cut_18 : decode cX2_cut 18 = .ok (.getfield 9, 3) := by decide +kernel
theorem dX2_cut_21 : decode cX2_cut 21 = .ok (.aload_n 0, 1) := by decide +kernel
theorem dX2_cut_22 : decode cX2_cut 22 = .ok (.getfield 15, 3) := by decide +kernel
theorem dX2_cut_25 : decode cX2_cut 25 = .ok (.iconst 1, 1) := by decide +kernel
theorem dX2_cut_26 : decode cX2_cut 26 = .ok (.isub, 1) := by decide +kernel
theorem dX2_cut_27 : decode cX2_cut 27 = .ok (.iaload, 1) := by decide +kernel
theorem dX2_cut_28 : decode cX2_cut 28 = .ok (.if_icmp .lt 4, 3) := by decide +kernel
theorem dX2_cut_31 : decode cX2_cut 31 = .ok (.return_, 1) := by decide +kernel
theorem dX2_cut_32 : decode cX2_cut 32 = .ok (.aload_n 0, 1) := by decide +kernel
theorem dX2_cut_33 : decode cX2_cut 33 = .ok (.getfield 15, 3) := by decide +kernel
theorem dX2_cut_36 : decode cX2_cut 36 = .ok (.iconst 1, 1) := by decide +kernel
theorem dX2_cut_37 : decode cX2_cut 37 = .ok (.isub, 1) := by decide +kernel
theorem dX2_cut_38 : decode cX2_cut 38 = .ok (.istore_n 2, 1) := by decide +kernel
theorem dX2_cut_39 : decode cX2_cut 39 = .ok (.iload_n 2, 1) := by decide +kernel
theorem dX2_cut_40 : decode cX2_cut 40 = .ok (.ifCond .le 21, 3) := by decide +kernel
theorem dX2_cut_43 : decode cX2_cut 43 = .ok (.aload_n 0, 1) := by decide +kernel
theorem dX2_cut_44 : decode cX2_cut 44 = .ok (.getfield 9, 3) := by decide +kernel
theorem dX2_cut_47 : decode cX2_cut 47 = .ok (.iload_n 2, 1) := by decide +kernel
theorem dX2_cut_48 : decode cX2_cut 48 = .ok (.iconst 1, 1) := by decide +kernel
theorem dX2_cut_49 : decode cX2_cut 49 = .ok (.isub, 1) := by decide +kernel
theorem dX2_cut_50 : decode cX2_cut 50 = .ok (.iaload, 1) := by decide +kernel
theorem dX2_cut_51 : decode cX2_cut 51 = .ok (.iload_n 1, 1) := by decide +kernel
theorem dX2_cut_52 : decode cX2_cut 52 = .ok (.if_icmp .lt 9, 3) := by decide +kernel
theorem dX2_cut_55 : decode cX2_cut 55 = .ok (.iinc 2 (-1), 3) := by decide +kernel
theorem dX2_cut_58 : decode cX2_cut 58 = .ok (.goto (-19), 3) := by decide +kernel
theorem dX2_cut_61 : decode cX2_cut 61 = .ok (.aload_n 0, 1) := by decide +kernel
theorem dX2_cut_62 : decode cX2_cut 62 = .ok (.getfield 9, 3) := by decide +kernel
theorem dX2_cut_65 : decode cX2_cut 65 = .ok (.iload_n 2, 1) := by decide +kernel
theorem dX2_cut_66 : decode cX2_cut 66 = .ok (.iaload, 1) := by decide +kernel
theorem dX2_cut_67 : decode cX2_cut 67 = .ok (.iload_n 1, 1) := by decide +kernel
theorem dX2_cut_68 : decode cX2_cut 68 = .ok (.if_icmp .ne 4, 3) := by decide +kernel
theorem dX2_cut_71 : decode cX2_cut 71 = .ok (.return_, 1) := by decide +kernel
theorem dX2_cut_72 : decode cX2_cut 72 = .ok (.aload_n 0, 1) := by decide +kernel
theorem dX2_cut_73 : decode cX2_cut 73 = .ok (.getfield 15, 3) := by decide +kernel
theorem dX2_cut_76 : decode cX2_cut 76 = .ok (.istore_n 3, 1) := by decide +kernel
theorem dX2_cut_77 : decode cX2_cut 77 = .ok (.iload_n 3, 1) := by decide +kernel
theorem dX2_cut_78 : decode cX2_cut 78 = .ok (.iload_n 2, 1) := by decide +kernel
theorem dX2_cut_79 : decode cX2_cut 79 = .ok (.if_icmp .le 23, 3) := by decide +kernel
theorem dX2_cut_82 : decode cX2_cut 82 = .ok (.aload_n 0, 1) := by decide +kernel
theorem dX2_cut_83 : decode cX2_cut 83 = .ok (.getfield 9, 3) := by decide +kernel
theorem dX2_cut_86 : decode cX2_cut 86 = .ok (.iload_n 3, 1) := by decide +kernel
theorem dX2_cut_87 : decode cX2_cut 87 = .ok (.aload_n 0, 1) := by decide +kernel
theorem dX2_cut_88 : decode cX2_cut 88 = .ok (.getfield 9, 3) := by decide +kernel
theorem dX2_cut_91 : decode cX2_cut 91 = .ok (.iload_n 3, 1) := by decide +kernel
theorem dX2_cut_92 : decode cX2_cut 92 = .ok (.iconst 1, 1) := by decide +kernel
theorem dX2_cut_93 : decode cX2_cut 93 = .ok (.isub, 1) := by decide +kernel
theorem dX2_cut_94 : decode cX2_cut 94 = .ok (.iaload, 1) := by decide +kernel
theorem dX2_cut_95 : decode cX2_cut 95 = .ok (.iastore, 1) := by decide +kernel
theorem dX2_cut_96 : decode cX2_cut 96 = .ok (.iinc 3 (-1), 3) := by decide +kernel
theorem dX2_cut_99 : decode cX2_cut 99 = .ok (.goto (-22), 3) := by decide +kernel
theorem dX2_cut_102 : decode cX2_cut 102 = .ok (.aload_n 0, 1) := by decide +kernel
theorem dX2_cut_103 : decode cX2_cut 103 = .ok (.getfield 9, 3) := by decide +kernel
theorem dX2_cut_106 : decode cX2_cut 106 = .ok (.iload_n 2, 1) := by decide +kernel
theorem dX2_cut_107 : decode cX2_cut 107 = .ok (.iload_n 1, 1) := by decide +kernel
theorem dX2_cut_108 : decode cX2_cut 108 = .ok (.iastore, 1) := by decide +kernel
theorem dX2_cut_109 : decode cX2_cut 109 = .ok (.aload_n 0, 1) := by decide +kernel
theorem dX2_cut_110 : decode cX2_cut 110 = .ok (.dup, 1) := by decide +kernel
theorem dX2_cut_111 : decode cX2_cut 111 = .ok (.getfield 15, 3) := by decide +kernel
theorem dX2_cut_114 : decode cX2_cut 114 = .ok (.iconst 1, 1) := by decide +kernel
theorem dX2_cut_115 : decode cX2_cut 115 = .ok (.iadd, 1) := by decide +kernel
theorem dX2_cut_116 : decode cX2_cut 116 = .ok (.putfield 15, 3) := by decide +kernel
theorem dX2_cut_119 : decode cX2_cut 119 = .ok (.return_, 1) := by decide +kernel
theorem dX2_cutSpans_0 : decode cX2_cutSpans 0 = .ok (.iconst 0, 1) := by decide +kernel
theorem dX2_cutSpans_1 : decode cX2_cutSpans 1 = .ok (.istore_n 2, 1) := by decide +kernel
theorem dX2_cutSpans_2 : decode cX2_cutSpans 2 = .ok (.iload_n 2, 1) := by decide +kernel
theorem dX2_cutSpans_3 : decode cX2_cutSpans 3 = .ok (.aload_n 1, 1) := by decide +kernel
theorem dX2_cutSpans_4 : decode cX2_cutSpans 4 = .ok (.getfield 19, 3) := by decide +kernel
theorem dX2_cutSpans_7 : decode cX2_cutSpans 7 = .ok (.if_icmp .ge 31, 3) := by decide +kernel
theorem dX2_cutSpans_10 : decode cX2_cutSpans 10 = .ok (.aload_n 0, 1) := by decide +kernel
theorem dX2_cutSpans_11 : decode cX2_cutSpans 11 = .ok (.aload_n 1, 1) := by decide +kernel
theorem dX2_cutSpans_12 : decode cX2_cutSpans 12 = .ok (.getfield 24, 3) := by decide +kernel
theorem dX2_cutSpans_15 : decode cX2_cutSpans 15 = .ok (.iload_n 2, 1) := by decide +kernel
theorem dX2_cutSpans_16 : decode cX2_cutSpans 16 = .ok (.iaload, 1) := by decide +kernel
theorem dX2_cutSpans_17 : decode cX2_cutSpans 17 = .ok (.invokevirtual 27, 3) := by decide +kernel
theorem dX2_cutSpans_20 : decode cX2_cutSpans 20 = .ok (.aload_n 0, 1) := by decide +kernel
theorem dX2_cutSpans_21 : decode cX2_cutSpans 21 = .ok (.aload_n 1, 1) := by decide +kernel
theorem dX2_cutSpans_22 : decode cX2_cutSpans 22 = .ok (.getfield 31, 3) := by decide +kernel
theorem dX2_cutSpans_25 : decode cX2_cutSpans 25 = .ok (.iload_n 2, 1) := by decide +kernel
theorem dX2_cutSpans_26 : decode cX2_cutSpans 26 = .ok (.iaload, 1) := by decide +kernel
theorem dX2_cutSpans_27 : decode cX2_cutSpans 27 = .ok (.iconst 1, 1) := by decide +kernel
theorem dX2_cutSpans_28 : decode cX2_cutSpans 28 = .ok (.iadd, 1) := by decide +kernel
theorem dX2_cutSpans_29 : decode cX2_cutSpans 29 = .ok (.invokevirtual 27, 3) := by decide +kernel
theorem dX2_cutSpans_32 : decode cX2_cutSpans 32 = .ok (.iinc 2 1, 3) := by decide +kernel
theorem dX2_cutSpans_35 : decode cX2_cutSpans 35 = .ok (.goto (-33), 3) := by decide +kernel
theorem dX2_cutSpans_38 : decode cX2_cutSpans 38 = .ok (.return_, 1) := by decide +kernel
theorem dX2_cutRegisters_0 : decode cX2_cutRegisters 0 = .ok (.iconst 0, 1) := by decide +kernel
theorem dX2_cutRegisters_1 : decode cX2_cutRegisters 1 = .ok (.istore_n 2, 1) := by decide +kernel
theorem dX2_cutRegisters_2 : decode cX2_cutRegisters 2 = .ok (.iload_n 2, 1) := by decide +kernel
theorem dX2_cutRegisters_3 : decode cX2_cutRegisters 3 = .ok (.aload_n 1, 1) := by decide +kernel
theorem dX2_cutRegisters_4 : decode cX2_cutRegisters 4 = .ok (.getfield 34, 3) := by decide +kernel
theorem dX2_cutRegisters_7 : decode cX2_cutRegisters 7 = .ok (.if_icmp .ge 36, 3) := by decide +kernel
theorem dX2_cutRegisters_10 : decode cX2_cutRegisters 10 = .ok (.aload_n 0, 1) := by decide +kernel
theorem dX2_cutRegisters_11 : decode cX2_cutRegisters 11 = .ok (.aload_n 1, 1) := by decide +kernel
theorem dX2_cutRegisters_12 : decode cX2_cutRegisters 12 = .ok (.getfield 37, 3) := by decide +kernel
theorem dX2_cutRegisters_15 : decode cX2_cutRegisters 15 = .ok (.iload_n 2, 1) := by decide +kernel
theorem dX2_cutRegisters_16 : decode cX2_cutRegisters 16 = .ok (.iaload, 1) := by decide +kernel
theorem dX2_cutRegisters_17 : decode cX2_cutRegisters 17 = .ok (.invokevirtual 27, 3) := by decide +kernel
theorem dX2_cutRegisters_20 : decode cX2_cutRegisters 20 = .ok (.aload_n 0, 1) := by decide +kernel
theorem dX2_cutRegisters_21 : decode cX2_cutRegisters 21 = .ok (.aload_n 1, 1) := by decide +kernel
theorem dX2_cutRegisters_22 : decode cX2_cutRegisters 22 = .ok (.getfield 37, 3) := by decide +kernel
theorem dX2_cutRegisters_25 : decode cX2_cutRegisters 25 = .ok (.iload_n 2, 1) := by decide +kernel
theorem dX2_cutRegisters_26 : decode cX2_cutRegisters 26 = .ok (.iaload, 1) := by decide +kernel
theorem dX2_cutRegisters_27 : decode cX2_cutRegisters 27 = .ok (.aload_n 1, 1) := by decide +kernel
theorem dX2_cutRegisters_28 : decode cX2_cutRegisters 28 = .ok (.getfield 40, 3) := by decide +kernel
theorem dX2_cutRegisters_31 : decode cX2_cutRegisters 31 = .ok (.iload_n 2, 1) := by decide +kernel
theorem dX2_cutRegisters_32 : decode cX2_cutRegisters 32 = .ok (.iaload, 1) := by decide +kernel
theorem dX2_cutRegisters_33 : decode cX2_cutRegisters 33 = .ok (.iadd, 1) := by decide +kernel
theorem dX2_cutRegisters_34 : decode cX2_cutRegisters 34 = .ok (.invokevirtual 27, 3) := by decide +kernel
theorem dX2_cutRegisters_37 : decode cX2_cutRegisters 37 = .ok (.iinc 2 1, 3) := by decide +kernel
theorem dX2_cutRegisters_40 : decode cX2_cutRegisters 40 = .ok (.goto (-38), 3) := by decide +kernel
theorem dX2_cutRegisters_43 : decode cX2_cutRegisters 43 = .ok (.return_, 1) := by decide +kernel
theorem dX2_cutParts_0 : decode cX2_cutParts 0 = .ok (.iconst 1, 1) := by decide +kernel
theorem dX2_cutParts_1 : decode cX2_cutParts 1 = .ok (.istore_n 2, 1) := by decide +kernel
theorem dX2_cutParts_2 : decode cX2_cutParts 2 = .ok (.iload_n 2, 1) := by decide +kernel
theorem dX2_cutParts_3 : decode cX2_cutParts 3 = .ok (.bipush 8, 2) := by decide +kernel
theorem dX2_cutParts_5 : decode cX2_cutParts 5 = .ok (.if_icmp .gt 22, 3) := by decide +kernel
theorem dX2_cutParts_8 : decode cX2_cutParts 8 = .ok (.aload_n 0, 1) := by decide +kernel
theorem dX2_cutParts_9 : decode cX2_cutParts 9 = .ok (.aload_n 1, 1) := by decide +kernel
theorem dX2_cutParts_10 : decode cX2_cutParts 10 = .ok (.getfield 43, 3) := by decide +kernel
theorem dX2_cutParts_13 : decode cX2_cutParts 13 = .ok (.bipush 8, 2) := by decide +kernel
theorem dX2_cutParts_15 : decode cX2_cutParts 15 = .ok (.idiv, 1) := by decide +kernel
theorem dX2_cutParts_16 : decode cX2_cutParts 16 = .ok (.iload_n 2, 1) := by decide +kernel
theorem dX2_cutParts_17 : decode cX2_cutParts 17 = .ok (.imul, 1) := by decide +kernel
theorem dX2_cutParts_18 : decode cX2_cutParts 18 = .ok (.invokevirtual 27, 3) := by decide +kernel
theorem dX2_cutParts_21 : decode cX2_cutParts 21 = .ok (.iinc 2 1, 3) := by decide +kernel
theorem dX2_cutParts_24 : decode cX2_cutParts 24 = .ok (.goto (-22), 3) := by decide +kernel
theorem dX2_cutParts_27 : decode cX2_cutParts 27 = .ok (.return_, 1) := by decide +kernel
theorem dX2_cutPages_0 : decode cX2_cutPages 0 = .ok (.iconst 1, 1) := by decide +kernel
theorem dX2_cutPages_1 : decode cX2_cutPages 1 = .ok (.istore_n 2, 1) := by decide +kernel
theorem dX2_cutPages_2 : decode cX2_cutPages 2 = .ok (.iload_n 2, 1) := by decide +kernel
theorem dX2_cutPages_3 : decode cX2_cutPages 3 = .ok (.aload_n 1, 1) := by decide +kernel
theorem dX2_cutPages_4 : decode cX2_cutPages 4 = .ok (.invokevirtual 46, 3) := by decide +kernel
theorem dX2_cutPages_7 : decode cX2_cutPages 7 = .ok (.if_icmp .ge 17, 3) := by decide +kernel
theorem dX2_cutPages_10 : decode cX2_cutPages 10 = .ok (.aload_n 0, 1) := by decide +kernel
theorem dX2_cutPages_11 : decode cX2_cutPages 11 = .ok (.iload_n 2, 1) := by decide +kernel
theorem dX2_cutPages_12 : decode cX2_cutPages 12 = .ok (.bipush 16, 2) := by decide +kernel
theorem dX2_cutPages_14 : decode cX2_cutPages 14 = .ok (.imul, 1) := by decide +kernel
theorem dX2_cutPages_15 : decode cX2_cutPages 15 = .ok (.invokevirtual 27, 3) := by decide +kernel
theorem dX2_cutPages_18 : decode cX2_cutPages 18 = .ok (.iinc 2 1, 3) := by decide +kernel
theorem dX2_cutPages_21 : decode cX2_cutPages 21 = .ok (.goto (-19), 3) := by decide +kernel
theorem dX2_cutPages_24 : decode cX2_cutPages 24 = .ok (.return_, 1) := by decide +kernel
theorem dX4_current_0 : decode cX4_current 0 = .ok (.aload_n 0, 1) := by decide +kernel
theorem dX4_current_1 : decode cX4_current 1 = .ok (.getfield 11, 3) := by decide +kernel
theorem dX4_current_4 : decode cX4_current 4 = .ok (.aload_n 0, 1) := by decide +kernel
theorem dX4_current_5 : decode cX4_current 5 = .ok (.getfield 33, 3) := by decide +kernel
theorem dX4_current_8 : decode cX4_current 8 = .ok (.aload_n 0, 1) := by decide +kernel
theorem dX4_current_9 : decode cX4_current 9 = .ok (.getfield 18, 3) := by decide +kernel
theorem dX4_current_12 : decode cX4_current 12 = .ok (.iadd, 1) := by decide +kernel
theorem dX4_current_13 : decode cX4_current 13 = .ok (.bipush 17, 2) := by decide +kernel
theorem dX4_current_15 : decode cX4_current 15 = .ok (.irem, 1) := by decide +kernel
theorem dX4_current_16 : decode cX4_current 16 = .ok (.aaload, 1) := by decide +kernel
theorem dX4_current_17 : decode cX4_current 17 = .ok (.areturn, 1) := by decide +kernel
theorem dX4_begin_0 : decode cX4_begin 0 = .ok (.aload_n 0, 1) := by decide +kernel
theorem dX4_begin_1 : decode cX4_begin 1 = .ok (.iconst 0, 1) := by decide +kernel
theorem dX4_begin_2 : decode cX4_begin 2 = .ok (.putfield 18, 3) := by decide +kernel
theorem dX4_begin_5 : decode cX4_begin 5 = .ok (.aload_n 0, 1) := by decide +kernel
theorem dX4_begin_6 : decode cX4_begin 6 = .ok (.iconst 0, 1) := by decide +kernel
theorem dX4_begin_7 : decode cX4_begin 7 = .ok (.putfield 22, 3) := by decide +kernel
theorem dX4_begin_10 : decode cX4_begin 10 = .ok (.aload_n 0, 1) := by decide +kernel
theorem dX4_begin_11 : decode cX4_begin 11 = .ok (.invokevirtual 25, 3) := by decide +kernel
theorem dX4_begin_14 : decode cX4_begin 14 = .ok (.aload_n 1, 1) := by decide +kernel
theorem dX4_begin_15 : decode cX4_begin 15 = .ok (.invokevirtual 29, 3) := by decide +kernel
theorem dX4_begin_18 : decode cX4_begin 18 = .ok (.return_, 1) := by decide +kernel
theorem dX4_note_0 : decode cX4_note 0 = .ok (.aload_n 0, 1) := by decide +kernel
theorem dX4_note_1 : decode cX4_note 1 = .ok (.iconst 0, 1) := by decide +kernel
theorem dX4_note_2 : decode cX4_note 2 = .ok (.putfield 22, 3) := by decide +kernel
theorem dX4_note_5 : decode cX4_note 5 = .ok (.aload_n 0, 1) := by decide +kernel
theorem dX4_note_6 : decode cX4_note 6 = .ok (.getfield 18, 3) := by decide +kernel
theorem dX4_note_9 : decode cX4_note 9 = .ok (.bipush 16, 2) := by decide +kernel
theorem dX4_note_11 : decode cX4_note 11 = .ok (.if_icmp .ge 16, 3) := by decide +kernel
theorem dX4_note_14 : decode cX4_note 14 = .ok (.aload_n 0, 1) := by decide +kernel
theorem dX4_note_15 : decode cX4_note 15 = .ok (.dup, 1) := by decide +kernel
theorem dX4_note_16 : decode cX4_note 16 = .ok (.getfield 18, 3) := by decide +kernel
theorem dX4_note_19 : decode cX4_note 19 = .ok (.iconst 1, 1) := by decide +kernel
theorem dX4_note_20 : decode cX4_note 20 = .ok (.iadd, 1) := by decide +kernel
theorem dX4_note_21 : decode cX4_note 21 = .ok (.putfield 18, 3) := by decide +kernel
theorem dX4_note_24 : decode cX4_note 24 = .ok (.goto 16, 3) := by decide +kernel
theorem dX4_note_27 : decode cX4_note 27 = .ok (.aload_n 0, 1) := by decide +kernel
theorem dX4_note_28 : decode cX4_note 28 = .ok (.aload_n 0, 1) := by decide +kernel
theorem dX4_note_29 : decode cX4_note 29 = .ok (.getfield 33, 3) := by decide +kernel
theorem dX4_note_32 : decode cX4_note 32 = .ok (.iconst 1, 1) := by decide +kernel
theorem dX4_note_33 : decode cX4_note 33 = .ok (.iadd, 1) := by decide +kernel
theorem dX4_note_34 : decode cX4_note 34 = .ok (.bipush 17, 2) := by decide +kernel
theorem dX4_note_36 : decode cX4_note 36 = .ok (.irem, 1) := by decide +kernel
theorem dX4_note_37 : decode cX4_note 37 = .ok (.putfield 33, 3) := by decide +kernel
theorem dX4_note_40 : decode cX4_note 40 = .ok (.aload_n 0, 1) := by decide +kernel
theorem dX4_note_41 : decode cX4_note 41 = .ok (.invokevirtual 25, 3) := by decide +kernel
theorem dX4_note_44 : decode cX4_note 44 = .ok (.aload_n 1, 1) := by decide +kernel
theorem dX4_note_45 : decode cX4_note 45 = .ok (.invokevirtual 29, 3) := by decide +kernel
theorem dX4_note_48 : decode cX4_note 48 = .ok (.return_, 1) := by decide +kernel
theorem dX4_goBack_0 : decode cX4_goBack 0 = .ok (.aload_n 0, 1) := by decide +kernel
theorem dX4_goBack_1 : decode cX4_goBack 1 = .ok (.getfield 18, 3) := by decide +kernel
theorem dX4_goBack_4 : decode cX4_goBack 4 = .ok (.ifCond .ne 5, 3) := by decide +kernel
theorem dX4_goBack_7 : decode cX4_goBack 7 = .ok (.iconst 0, 1) := by decide +kernel
theorem dX4_goBack_8 : decode cX4_goBack 8 = .ok (.ireturn, 1) := by decide +kernel
theorem dX4_goBack_9 : decode cX4_goBack 9 = .ok (.aload_n 0, 1) := by decide +kernel
theorem dX4_goBack_10 : decode cX4_goBack 10 = .ok (.dup, 1) := by decide +kernel
theorem dX4_goBack_11 : decode cX4_goBack 11 = .ok (.getfield 18, 3) := by decide +kernel
theorem dX4_goBack_14 : decode cX4_goBack 14 = .ok (.iconst 1, 1) := by decide +kernel
theorem dX4_goBack_15 : decode cX4_goBack 15 = .ok (.isub, 1) := by decide +kernel
theorem dX4_goBack_16 : decode cX4_goBack 16 = .ok (.putfield 18, 3) := by decide +kernel
theorem dX4_goBack_19 : decode cX4_goBack 19 = .ok (.aload_n 0, 1) := by decide +kernel
theorem dX4_goBack_20 : decode cX4_goBack 20 = .ok (.dup, 1) := by decide +kernel
theorem dX4_goBack_21 : decode cX4_goBack 21 = .ok (.getfield 22, 3) := by decide +kernel
theorem dX4_goBack_24 : decode cX4_goBack 24 = .ok (.iconst 1, 1) := by decide +kernel
theorem dX4_goBack_25 : decode cX4_goBack 25 = .ok (.iadd, 1) := by decide +kernel
theorem dX4_goBack_26 : decode cX4_goBack 26 = .ok (.putfield 22, 3) := by decide +kernel
theorem dX4_goBack_29 : decode cX4_goBack 29 = .ok (.aload_n 1, 1) := by decide +kernel
theorem dX4_goBack_30 : decode cX4_goBack 30 = .ok (.aload_n 0, 1) := by decide +kernel
theorem dX4_goBack_31 : decode cX4_goBack 31 = .ok (.invokevirtual 25, 3) := by decide +kernel
theorem dX4_goBack_34 : decode cX4_goBack 34 = .ok (.invokevirtual 29, 3) := by decide +kernel
theorem dX4_goBack_37 : decode cX4_goBack 37 = .ok (.iconst 1, 1) := by decide +kernel
theorem dX4_goBack_38 : decode cX4_goBack 38 = .ok (.ireturn, 1) := by decide +kernel
theorem dX4_goOn_0 : decode cX4_goOn 0 = .ok (.aload_n 0, 1) := by decide +kernel
theorem dX4_goOn_1 : decode cX4_goOn 1 = .ok (.getfield 22, 3) := by decide +kernel
theorem dX4_goOn_4 : decode cX4_goOn 4 = .ok (.ifCond .ne 5, 3) := by decide +kernel
theorem dX4_goOn_7 : decode cX4_goOn 7 = .ok (.iconst 0, 1) := by decide +kernel
theorem dX4_goOn_8 : decode cX4_goOn 8 = .ok (.ireturn, 1) := by decide +kernel
theorem dX4_goOn_9 : decode cX4_goOn 9 = .ok (.aload_n 0, 1) := by decide +kernel
theorem dX4_goOn_10 : decode cX4_goOn 10 = .ok (.dup, 1) := by decide +kernel
theorem dX4_goOn_11 : decode cX4_goOn 11 = .ok (.getfield 18, 3) := by decide +kernel
theorem dX4_goOn_14 : decode cX4_goOn 14 = .ok (.iconst 1, 1) := by decide +kernel
theorem dX4_goOn_15 : decode cX4_goOn 15 = .ok (.iadd, 1) := by decide +kernel
theorem dX4_goOn_16 : decode cX4_goOn 16 = .ok (.putfield 18, 3) := by decide +kernel
theorem dX4_goOn_19 : decode cX4_goOn 19 = .ok (.aload_n 0, 1) := by decide +kernel
theorem dX4_goOn_20 : decode cX4_goOn 20 = .ok (.dup, 1) := by decide +kernel
theorem dX4_goOn_21 : decode cX4_goOn 21 = .ok (.getfield 22, 3) := by decide +kernel
theorem dX4_goOn_24 : decode cX4_goOn 24 = .ok (.iconst 1, 1) := by decide +kernel
theorem dX4_goOn_25 : decode cX4_goOn 25 = .ok (.isub, 1) := by decide +kernel
theorem dX4_goOn_26 : decode cX4_goOn 26 = .ok (.putfield 22, 3) := by decide +kernel
theorem dX4_goOn_29 : decode cX4_goOn 29 = .ok (.aload_n 1, 1) := by decide +kernel
theorem dX4_goOn_30 : decode cX4_goOn 30 = .ok (.aload_n 0, 1) := by decide +kernel
theorem dX4_goOn_31 : decode cX4_goOn 31 = .ok (.invokevirtual 25, 3) := by decide +kernel
theorem dX4_goOn_34 : decode cX4_goOn 34 = .ok (.invokevirtual 29, 3) := by decide +kernel
theorem dX4_goOn_37 : decode cX4_goOn 37 = .ok (.iconst 1, 1) := by decide +kernel
theorem dX4_goOn_38 : decode cX4_goOn 38 = .ok (.ireturn, 1) := by decide +kernel
section G13_small_lean_txt
variable {p : Program} {l : Launch} {e : Env} {s : State} {m : MethodId} {args : Array Value} {below : List Frame} {meth : Method} {c : Code} {H : Heap} {locs : List Loc} {ls : Array Slot} {E : Ge} {L : Lay} {fu d : Nat}
def fX0_add_j52 (fu : Nat) (M : Mm) : Option Mm :=
  some M
set_option maxRecDepth 100000 in
set_option maxHeartbeats 4000000 in
theorem wX0_add_j52 {M' : Mm}    {M : Mm} (B : Bx p s m args c cX0_add 4 RX0 E L) (hr : meth.sig.returnType = none) (hlk : meth.locks = false)   (h : fX0_add_j52 fu M = some M') (hR : Rx s E L M H locs) (hl : lv_has ls 4 []) : W p l e (rmD (d + 0)) s m args below meth c H locs 0 0 (MQ below (QcM E L none M') args s 0 0 E.2.2.2) (F0 m 52 ls []) := by
  have hx := B.1
  have hb := B.2.1
  unfold fX0_add_j52 at h
  exact r_vretW B hR hr hlk h dX0_add_52
def fX0_add (fu : Nat) (n0 : Nat) (a0 : Nat) (x1 : Int32) (x2 : Int32) (x3 : Int32) (M : Mm) : Option Mm :=
  if (Int32.ofNat n0) ≤ (M.1 a0 3) then
    fX0_add_j52 fu M
  else
    if (M.1 a0 3) < 0 ∨ n0 ≤ ix (M.1 a0 3) then none else
    lt (wI M (a0 + 1) (ix (M.1 a0 3)) x1) fun M_21 =>
    if (M_21.1 a0 3) < 0 ∨ n0 ≤ ix (M_21.1 a0 3) then none else
    lt (wI M_21 (a0 + 2) (ix (M_21.1 a0 3)) x2) fun M_31 =>
    if (M_31.1 a0 3) < 0 ∨ n0 ≤ ix (M_31.1 a0 3) then none else
    lt (wI M_31 (a0 + 3) (ix (M_31.1 a0 3)) x3) fun M_41 =>
    lt (wI M_41 a0 3 ((M_41.1 a0 3) + 1)) fun M_49 =>
    fX0_add_j52 fu M_49
set_option maxRecDepth 100000 in
set_option maxHeartbeats 4000000 in
theorem mX0_add {l : Launch} {E : Ge} {L : Lay} (fu d : Nat) {n0 : Nat} {a0 : Nat} {x1 : Int32} {x2 : Int32} {x3 : Int32} {M : Mm} {M' : Mm}  (h0 : At L a0 (T0 n0)) (h : fX0_add fu n0 a0 x1 x2 x3 M = some M') : Ct l E L yX0_add cX0_add 4 none (d + 0) [.ref a0, .int x1, .int x2, .int x3] M none M' := by
  refine Ct.of (by decide) ?_
  intro p e s m below meth c hr hlk B hR
  have B : Bx p s m _ c cX0_add 4 RX0 E L := B
  have hx := B.1
  have hb := B.2.1
  have hl := lv_entry ([.ref a0, .int x1, .int x2, .int x3]) (n := 4) (Nat.le_of_ble_eq_true rfl)
  rw [lg_entry_eq]
  generalize (lg_sl ([.ref a0, .int x1, .int x2, .int x3]) ++ List.replicate (4 - (lg_sl ([.ref a0, .int x1, .int x2, .int x3])).length) Slot.unset).toArray = ls at hl ⊢
  have hl : lv_has ls 4 [(0, .ref a0), (1, .int x1), (2, .int x2), (3, .int x3)] := hl
  unfold fX0_add at h
  refine lv_aload_n hx hb dX0_add_0 rfl (lv_at hl 0 rfl) ?_
  refine gf_X0_21 B hR (h0.at0 rfl) dX0_add_1 ?_
  refine lv_aload_n hx hb dX0_add_4 rfl (lv_at hl 0 rfl) ?_
  refine gf_X0_9 B hR (h0.at0 rfl) dX0_add_5 ?_
  refine r_alenI B hR (v := (Int32.ofNat n0)) (h0.at 1 rfl) rfl dX0_add_8 ?_
  refine lv_icmp_ge (tgt := 52) hx hb dX0_add_9 (by decide) (fun c_9 => ?_) (fun c_9 => ?_)
  · rw [if_pos c_9] at h
    exact wX0_add_j52 B hr hlk  h hR (lv_sub hl [] rfl)
  · rw [if_neg c_9] at h
    refine lv_aload_n hx hb dX0_add_12 rfl (lv_at hl 0 rfl) ?_
    refine gf_X0_9 B hR (h0.at0 rfl) dX0_add_13 ?_
    refine lv_aload_n hx hb dX0_add_16 rfl (lv_at hl 0 rfl) ?_
    refine gf_X0_21 B hR (h0.at0 rfl) dX0_add_17 ?_
    refine lv_iload_n hx hb dX0_add_20 rfl (lv_at hl 1 rfl) ?_
    obtain ⟨hi_21, h⟩ := ifn_el h
    obtain ⟨M_21, eM_21, h⟩ := lt_el h
    refine r_iast B hR (h0.at 1 rfl) hi_21 dX0_add_21 (fun H locs hR => ?_)
    rw [← eM_21] at hR
    refine lv_aload_n hx hb dX0_add_22 rfl (lv_at hl 0 rfl) ?_
    refine gf_X0_15 B hR (h0.at0 rfl) dX0_add_23 ?_
    refine lv_aload_n hx hb dX0_add_26 rfl (lv_at hl 0 rfl) ?_
    refine gf_X0_21 B hR (h0.at0 rfl) dX0_add_27 ?_
    refine lv_iload_n hx hb dX0_add_30 rfl (lv_at hl 2 rfl) ?_
    obtain ⟨hi_31, h⟩ := ifn_el h
    obtain ⟨M_31, eM_31, h⟩ := lt_el h
    refine r_iast B hR (h0.at 2 rfl) hi_31 dX0_add_31 (fun H locs hR => ?_)
    rw [← eM_31] at hR
    refine lv_aload_n hx hb dX0_add_32 rfl (lv_at hl 0 rfl) ?_
    refine gf_X0_18 B hR (h0.at0 rfl) dX0_add_33 ?_
    refine lv_aload_n hx hb dX0_add_36 rfl (lv_at hl 0 rfl) ?_
    refine gf_X0_21 B hR (h0.at0 rfl) dX0_add_37 ?_
    refine lv_iload_n hx hb dX0_add_40 rfl (lv_at hl 3 rfl) ?_
    obtain ⟨hi_41, h⟩ := ifn_el h
    obtain ⟨M_41, eM_41, h⟩ := lt_el h
    refine r_iast B hR (h0.at 3 rfl) hi_41 dX0_add_41 (fun H locs hR => ?_)
    rw [← eM_41] at hR
    refine lv_aload_n hx hb dX0_add_42 rfl (lv_at hl 0 rfl) ?_
    refine lv_dup hx hb dX0_add_43 rfl ?_
    refine gf_X0_21 B hR (h0.at0 rfl) dX0_add_44 ?_
    refine lv_iconst (v := 1) hx hb dX0_add_47 (by decide) ?_
    refine lv_iadd hx hb dX0_add_48 ?_
    obtain ⟨M_49, eM_49, h⟩ := lt_el h
    refine pf_X0_21 B hR (h0.at0 rfl) dX0_add_49 (fun H locs hR => ?_)
    rw [← eM_49] at hR
    exact wX0_add_j52 B hr hlk  h hR (lv_sub hl [] rfl)
def fX0_tell_j48 (fu : Nat) (t0 : Int32) (M : Mm) : Option Int32 :=
  some t0
set_option maxRecDepth 100000 in
set_option maxHeartbeats 4000000 in
theorem wX0_tell_j48 {r : Int32}   {t0 : Int32} {M : Mm} (B : Bx p s m args c cX0_tell 3 RX0 E L) (hr : meth.sig.returnType = (some .int)) (hlk : meth.locks = false)   (h : fX0_tell_j48 fu t0 M = some r) (hR : Rx s E L M H locs) (hl : lv_has ls 3 []) : W p l e (rmD (d + 1)) s m args below meth c H locs 0 0 (MQ below (QcM E L (some (.int r)) M) args s 0 0 E.2.2.2) (F0 m 48 ls [.int t0]) := by
  have hx := B.1
  have hb := B.2.1
  unfold fX0_tell_j48 at h
  exact r_iretP B hR hr hlk h dX0_tell_48
def fX0_tell_j22 (fu : Nat) (M : Mm) : Option Int32 :=
  fX0_tell_j48 fu (-1) M
set_option maxRecDepth 100000 in
set_option maxHeartbeats 4000000 in
theorem wX0_tell_j22 {r : Int32}    {M : Mm} (B : Bx p s m args c cX0_tell 3 RX0 E L) (hr : meth.sig.returnType = (some .int)) (hlk : meth.locks = false)   (h : fX0_tell_j22 fu M = some r) (hR : Rx s E L M H locs) (hl : lv_has ls 3 []) : W p l e (rmD (d + 1)) s m args below meth c H locs 0 0 (MQ below (QcM E L (some (.int r)) M) args s 0 0 E.2.2.2) (F0 m 22 ls []) := by
  have hx := B.1
  have hb := B.2.1
  unfold fX0_tell_j22 at h
  refine lv_iconst (v := (-1)) hx hb dX0_tell_22 (by decide) ?_
  refine lv_goto (tgt := 48) hx hb dX0_tell_23 (by decide) ?_
  exact wX0_tell_j48 B hr hlk  h hR hl
def fX0_tell (fu : Nat) (n0 : Nat) (a0 : Nat) (x1 : Int32) (x2 : Int32) (M : Mm) : Option Int32 :=
  if x1 = (-1) then
    some (M.1 a0 3)
  else
    if x1 < 0 then
      fX0_tell_j22 fu M
    else
      if x1 < (M.1 a0 3) then
        if x1 < 0 ∨ n0 ≤ ix x1 then none else
        bi (fX10_pick fu x2 (M.1 (a0 + 1) (ix x1)) (M.1 (a0 + 2) (ix x1)) (M.1 (a0 + 3) (ix x1))) fun r_45 =>
        fX0_tell_j48 fu r_45 M
      else
        fX0_tell_j22 fu M
set_option maxRecDepth 100000 in
set_option maxHeartbeats 4000000 in
theorem mX0_tell {l : Launch} {E : Ge} {L : Lay} (fu d : Nat) {n0 : Nat} {a0 : Nat} {x1 : Int32} {x2 : Int32} {M : Mm} {r : Int32}  (h0 : At L a0 (T0 n0)) (h : fX0_tell fu n0 a0 x1 x2 M = some r) : Ct l E L yX0_tell cX0_tell 3 (some .int) (d + 1) [.ref a0, .int x1, .int x2] M (some (.int r)) M := by
  refine Ct.of (by decide) ?_
  intro p e s m below meth c hr hlk B hR
  have B : Bx p s m _ c cX0_tell 3 RX0 E L := B
  have hx := B.1
  have hb := B.2.1
  have hl := lv_entry ([.ref a0, .int x1, .int x2]) (n := 3) (Nat.le_of_ble_eq_true rfl)
  rw [lg_entry_eq]
  generalize (lg_sl ([.ref a0, .int x1, .int x2]) ++ List.replicate (3 - (lg_sl ([.ref a0, .int x1, .int x2])).length) Slot.unset).toArray = ls at hl ⊢
  have hl : lv_has ls 3 [(0, .ref a0), (1, .int x1), (2, .int x2)] := hl
  unfold fX0_tell at h
  refine lv_iload_n hx hb dX0_tell_0 rfl (lv_at hl 1 rfl) ?_
  refine lv_iconst (v := (-1)) hx hb dX0_tell_1 (by decide) ?_
  refine lv_icmp_ne (tgt := 10) hx hb dX0_tell_2 (by decide) (fun c_2 => ?_) (fun c_2 => ?_)
  · rw [if_neg c_2] at h
    refine lv_iload_n hx hb dX0_tell_10 rfl (lv_at hl 1 rfl) ?_
    refine lv_if_lt (tgt := 22) hx hb dX0_tell_11 (by decide) (fun c_11 => ?_) (fun c_11 => ?_)
    · rw [if_pos c_11] at h
      exact wX0_tell_j22 B hr hlk  h hR (lv_sub hl [] rfl)
    · rw [if_neg c_11] at h
      refine lv_iload_n hx hb dX0_tell_14 rfl (lv_at hl 1 rfl) ?_
      refine lv_aload_n hx hb dX0_tell_15 rfl (lv_at hl 0 rfl) ?_
      refine gf_X0_21 B hR (h0.at0 rfl) dX0_tell_16 ?_
      refine lv_icmp_lt (tgt := 26) hx hb dX0_tell_19 (by decide) (fun c_19 => ?_) (fun c_19 => ?_)
      · rw [if_pos c_19] at h
        refine lv_iload_n hx hb dX0_tell_26 rfl (lv_at hl 2 rfl) ?_
        refine lv_aload_n hx hb dX0_tell_27 rfl (lv_at hl 0 rfl) ?_
        refine gf_X0_9 B hR (h0.at0 rfl) dX0_tell_28 ?_
        refine lv_iload_n hx hb dX0_tell_31 rfl (lv_at hl 1 rfl) ?_
        obtain ⟨hi_32, h⟩ := ifn_el h
        refine r_iald B hR (h0.at 1 rfl) hi_32 dX0_tell_32 ?_
        refine lv_aload_n hx hb dX0_tell_33 rfl (lv_at hl 0 rfl) ?_
        refine gf_X0_15 B hR (h0.at0 rfl) dX0_tell_34 ?_
        refine lv_iload_n hx hb dX0_tell_37 rfl (lv_at hl 1 rfl) ?_
        refine r_iald B hR (h0.at 2 rfl) hi_32 dX0_tell_38 ?_
        refine lv_aload_n hx hb dX0_tell_39 rfl (lv_at hl 0 rfl) ?_
        refine gf_X0_18 B hR (h0.at0 rfl) dX0_tell_40 ?_
        refine lv_iload_n hx hb dX0_tell_43 rfl (lv_at hl 1 rfl) ?_
        refine r_iald B hR (h0.at 3 rfl) hi_32 dX0_tell_44 ?_
        obtain ⟨r_45, hc_45, h⟩ := bi_el h
        refine is_X0_25 B hR hl.1 (mX10_pick fu _  hc_45) (Nat.le_of_ble_eq_true rfl) dX0_tell_45 (fun H locs hR => ?_)
        exact wX0_tell_j48 B hr hlk  h hR (lv_sub hl [] rfl)
      · rw [if_neg c_19] at h
        exact wX0_tell_j22 B hr hlk  h hR (lv_sub hl [] rfl)
  · rw [if_pos c_2] at h
    refine lv_aload_n hx hb dX0_tell_5 rfl (lv_at hl 0 rfl) ?_
    refine gf_X0_21 B hR (h0.at0 rfl) dX0_tell_6 ?_
    exact r_iretP B hR hr hlk h dX0_tell_9
def fX2_begin (fu : Nat) (n0 : Nat) (a0 : Nat) (x1 : Int32) (M : Mm) : Option Mm :=
  if (0 : Int32) < 0 ∨ n0 ≤ ix 0 then none else
  lt (wI M (a0 + 1) (ix 0) 0) fun M_6 =>
  if (1 : Int32) < 0 ∨ n0 ≤ ix 1 then none else
  lt (wI M_6 (a0 + 1) (ix 1) x1) fun M_13 =>
  lt (wI M_13 a0 1 2) fun M_16 =>
  some M_16
set_option maxRecDepth 100000 in
set_option maxHeartbeats 4000000 in
theorem mX2_begin {l : Launch} {E : Ge} {L : Lay} (fu d : Nat) {n0 : Nat} {a0 : Nat} {x1 : Int32} {M : Mm} {M' : Mm}  (h0 : At L a0 (T2 n0)) (h : fX2_begin fu n0 a0 x1 M = some M') : Ct l E L yX2_begin cX2_begin 2 none (d + 0) [.ref a0, .int x1] M none M' := by
  refine Ct.of (by decide) ?_
  intro p e s m below meth c hr hlk B hR
  have B : Bx p s m _ c cX2_begin 2 RX2 E L := B
  have hx := B.1
  have hb := B.2.1
  have hl := lv_entry ([.ref a0, .int x1]) (n := 2) (Nat.le_of_ble_eq_true rfl)
  rw [lg_entry_eq]
  generalize (lg_sl ([.ref a0, .int x1]) ++ List.replicate (2 - (lg_sl ([.ref a0, .int x1])).length) Slot.unset).toArray = ls at hl ⊢
  have hl : lv_has ls 2 [(0, .ref a0), (1, .int x1)] := hl
  unfold fX2_begin at h
  refine lv_aload_n hx hb dX2_begin_0 rfl (lv_at hl 0 rfl) ?_
  refine gf_X2_9 B hR (h0.at0 rfl) dX2_begin_1 ?_
  refine lv_iconst (v := 0) hx hb dX2_begin_4 (by decide) ?_
  refine lv_iconst (v := 0) hx hb dX2_begin_5 (by decide) ?_
  obtain ⟨hi_6, h⟩ := ifn_el h
  obtain ⟨M_6, eM_6, h⟩ := lt_el h
  refine r_iast B hR (h0.at 1 rfl) hi_6 dX2_begin_6 (fun H locs hR => ?_)
  rw [← eM_6] at hR
  refine lv_aload_n hx hb dX2_begin_7 rfl (lv_at hl 0 rfl) ?_
  refine gf_X2_9 B hR (h0.at0 rfl) dX2_begin_8 ?_
  refine lv_iconst (v := 1) hx hb dX2_begin_11 (by decide) ?_
  refine lv_iload_n hx hb dX2_begin_12 rfl (lv_at hl 1 rfl) ?_
  obtain ⟨hi_13, h⟩ := ifn_el h
  obtain ⟨M_13, eM_13, h⟩ := lt_el h
  refine r_iast B hR (h0.at 1 rfl) hi_13 dX2_begin_13 (fun H locs hR => ?_)
  rw [← eM_13] at hR
  refine lv_aload_n hx hb dX2_begin_14 rfl (lv_at hl 0 rfl) ?_
  refine lv_iconst (v := 2) hx hb dX2_begin_15 (by decide) ?_
  obtain ⟨M_16, eM_16, h⟩ := lt_el h
  refine pf_X2_15 B hR (h0.at0 rfl) dX2_begin_16 (fun H locs hR => ?_)
  rw [← eM_16] at hR
  exact r_vretW B hR hr hlk h dX2_begin_19
def fX2_cut_j31 (fu : Nat) (M : Mm) : Option Mm :=
  some M
set_option maxRecDepth 100000 in
set_option maxHeartbeats 4000000 in
theorem wX2_cut_j31 {M' : Mm}    {M : Mm} (B : Bx p s m args c cX2_cut 4 RX2 E L) (hr : meth.sig.returnType = none) (hlk : meth.locks = false)   (h : fX2_cut_j31 fu M = some M') (hR : Rx s E L M H locs) (hl : lv_has ls 4 []) : W p l e (rmD (d + 0)) s m args below meth c H locs 0 0 (MQ below (QcM E L none M') args s 0 0 E.2.2.2) (F0 m 31 ls []) := by
  have hx := B.1
  have hb := B.2.1
  unfold fX2_cut_j31 at h
  exact r_vretW B hR hr hlk h dX2_cut_31
def fX2_cut_j102 (fu : Nat) (n0 : Nat) (a0 : Nat) (x1 : Int32) (x2 : Int32) (M : Mm) : Option Mm :=
  if x2 < 0 ∨ n0 ≤ ix x2 then none else
  lt (wI M (a0 + 1) (ix x2) x1) fun M_108 =>
  lt (wI M_108 a0 1 ((M_108.1 a0 1) + 1)) fun M_116 =>
  some M_116
set_option maxRecDepth 100000 in
set_option maxHeartbeats 4000000 in
theorem wX2_cut_j102 {M' : Mm}   {n0 : Nat} {a0 : Nat} {x1 : Int32} {x2 : Int32} {M : Mm} (B : Bx p s m args c cX2_cut 4 RX2 E L) (hr : meth.sig.returnType = none) (hlk : meth.locks = false)  (h0 : At L a0 (T2 n0)) (h : fX2_cut_j102 fu n0 a0 x1 x2 M = some M') (hR : Rx s E L M H locs) (hl : lv_has ls 4 [(0, .ref a0), (1, .int x1), (2, .int x2)]) : W p l e (rmD (d + 0)) s m args below meth c H locs 0 0 (MQ below (QcM E L none M') args s 0 0 E.2.2.2) (F0 m 102 ls []) := by
  have hx := B.1
  have hb := B.2.1
  unfold fX2_cut_j102 at h
  refine lv_aload_n hx hb dX2_cut_102 rfl (lv_at hl 0 rfl) ?_
  refine gf_X2_9 B hR (h0.at0 rfl) dX2_cut_103 ?_
  refine lv_iload_n hx hb dX2_cut_106 rfl (lv_at hl 2 rfl) ?_
  refine lv_iload_n hx hb dX2_cut_107 rfl (lv_at hl 1 rfl) ?_
  obtain ⟨hi_108, h⟩ := ifn_el h
  obtain ⟨M_108, eM_108, h⟩ := lt_el h
  refine r_iast B hR (h0.at 1 rfl) hi_108 dX2_cut_108 (fun H locs hR => ?_)
  rw [← eM_108] at hR
  refine lv_aload_n hx hb dX2_cut_109 rfl (lv_at hl 0 rfl) ?_
  refine lv_dup hx hb dX2_cut_110 rfl ?_
  refine gf_X2_15 B hR (h0.at0 rfl) dX2_cut_111 ?_
  refine lv_iconst (v := 1) hx hb dX2_cut_114 (by decide) ?_
  refine lv_iadd hx hb dX2_cut_115 ?_
  obtain ⟨M_116, eM_116, h⟩ := lt_el h
  refine pf_X2_15 B hR (h0.at0 rfl) dX2_cut_116 (fun H locs hR => ?_)
  rw [← eM_116] at hR
  exact r_vretW B hR hr hlk h dX2_cut_119
def fX2_cut_b77 (fu : Nat) (k77 : Int32 → Mm → Option Mm) (n0 : Nat) (a0 : Nat) (x1 : Int32) (x2 : Int32) (x3 : Int32) (M : Mm) : Option Mm :=
  if x3 ≤ x2 then
    fX2_cut_j102 fu n0 a0 x1 x2 M
  else
    if (x3 - 1) < 0 ∨ n0 ≤ ix (x3 - 1) then none else
    if x3 < 0 ∨ n0 ≤ ix x3 then none else
    lt (wI M (a0 + 1) (ix x3) (M.1 (a0 + 1) (ix (x3 - 1)))) fun M_95 =>
    lt (x3 + (-1)) fun x3_96 =>
    k77 x3_96 M_95
set_option maxRecDepth 100000 in
set_option maxHeartbeats 4000000 in
theorem wX2_cut_b77 {M' : Mm}   {k77 : Int32 → Mm → Option Mm} {n0 : Nat} {a0 : Nat} {x1 : Int32} {x2 : Int32} {x3 : Int32} {M : Mm} (B : Bx p s m args c cX2_cut 4 RX2 E L) (hr : meth.sig.returnType = none) (hlk : meth.locks = false)  (ih77 : ∀ (x3 : Int32) (M : Mm), k77 x3 M = some M' → ∀ (H : Heap) (locs : List Loc) (ls : Array Slot), Rx s E L M H locs → lv_has ls 4 [(0, .ref a0), (1, .int x1), (2, .int x2), (3, .int x3)] → W p l e (rmD (d + 0)) s m args below meth c H locs 0 0 (MQ below (QcM E L none M') args s 0 0 E.2.2.2) (F0 m 77 ls [])) (h0 : At L a0 (T2 n0)) (h : fX2_cut_b77 fu k77 n0 a0 x1 x2 x3 M = some M') (hR : Rx s E L M H locs) (hl : lv_has ls 4 [(0, .ref a0), (1, .int x1), (2, .int x2), (3, .int x3)]) : W p l e (rmD (d + 0)) s m args below meth c H locs 0 0 (MQ below (QcM E L none M') args s 0 0 E.2.2.2) (F0 m 77 ls []) := by
  have hx := B.1
  have hb := B.2.1
  unfold fX2_cut_b77 at h
  refine lv_iload_n hx hb dX2_cut_77 rfl (lv_at hl 3 rfl) ?_
  refine lv_iload_n hx hb dX2_cut_78 rfl (lv_at hl 2 rfl) ?_
  refine lv_icmp_le (tgt := 102) hx hb dX2_cut_79 (by decide) (fun c_79 => ?_) (fun c_79 => ?_)
  · rw [if_pos c_79] at h
    exact wX2_cut_j102 B hr hlk h0 h hR (lv_sub hl [0, 1, 2] rfl)
  · rw [if_neg c_79] at h
    refine lv_aload_n hx hb dX2_cut_82 rfl (lv_at hl 0 rfl) ?_
    refine gf_X2_9 B hR (h0.at0 rfl) dX2_cut_83 ?_
    refine lv_iload_n hx hb dX2_cut_86 rfl (lv_at hl 3 rfl) ?_
    refine lv_aload_n hx hb dX2_cut_87 rfl (lv_at hl 0 rfl) ?_
    refine gf_X2_9 B hR (h0.at0 rfl) dX2_cut_88 ?_
    refine lv_iload_n hx hb dX2_cut_91 rfl (lv_at hl 3 rfl) ?_
    refine lv_iconst (v := 1) hx hb dX2_cut_92 (by decide) ?_
    refine lv_isub hx hb dX2_cut_93 ?_
    obtain ⟨hi_94, h⟩ := ifn_el h
    refine r_iald B hR (h0.at 1 rfl) hi_94 dX2_cut_94 ?_
    obtain ⟨hi_95, h⟩ := ifn_el h
    obtain ⟨M_95, eM_95, h⟩ := lt_el h
    refine r_iast B hR (h0.at 1 rfl) hi_95 dX2_cut_95 (fun H locs hR => ?_)
    rw [← eM_95] at hR
    obtain ⟨x3_96, ex3_96, h⟩ := lt_el h
    refine lv_iinc (v := x3_96) (lv' := [(3, .int x3_96), (0, .ref a0), (1, .int x1), (2, .int x2)]) hx hb dX2_cut_96 hl (k := 3) rfl (by rw [ex3_96]; rfl) (by decide) rfl (fun ls hl => ?_)
    refine lv_goto (tgt := 77) hx hb dX2_cut_99 (by decide) ?_
    exact ih77 x3_96 M_95 h _ _ _ hR (lv_sub hl [1, 2, 3, 0] rfl)
def fX2_cut_l77 (fu : Nat) (n0 : Nat) (a0 : Nat) (x1 : Int32) (x2 : Int32) (x3 : Int32) (M : Mm) : Option Mm := lp (fun (rec : (Int32 × Mm) → Option Mm) (s : Int32 × Mm) => fX2_cut_b77 fu  (fun x3 M => rec (x3, M)) n0 a0 x1 x2 s.1 s.2) fu (x3, M)
set_option maxRecDepth 100000 in
set_option maxHeartbeats 4000000 in
theorem wX2_cut_l77 {M' : Mm}   {n0 : Nat} {a0 : Nat} {x1 : Int32} {x2 : Int32} {x3 : Int32} {M : Mm} (B : Bx p s m args c cX2_cut 4 RX2 E L) (hr : meth.sig.returnType = none) (hlk : meth.locks = false)  (h0 : At L a0 (T2 n0)) (h : fX2_cut_l77 fu n0 a0 x1 x2 x3 M = some M') (hR : Rx s E L M H locs) (hl : lv_has ls 4 [(0, .ref a0), (1, .int x1), (2, .int x2), (3, .int x3)]) : W p l e (rmD (d + 0)) s m args below meth c H locs 0 0 (MQ below (QcM E L none M') args s 0 0 E.2.2.2) (F0 m 77 ls []) := by
  refine lp_G (G := fun z : Int32 × Mm => ∀ (H : Heap) (locs : List Loc) (ls : Array Slot), Rx s E L z.2 H locs → lv_has ls 4 [(0, .ref a0), (1, .int x1), (2, .int x2), (3, .int z.1)] → W p l e (rmD (d + 0)) s m args below meth c H locs 0 0 (MQ below (QcM E L none M') args s 0 0 E.2.2.2) (F0 m 77 ls [])) (fun rec ih z h H locs ls hR hl => ?_) fu _ h H locs ls hR hl
  exact wX2_cut_b77 B hr hlk  (fun x3 M h => ih (x3, M) h) h0 h hR hl
def fX2_cut_j61 (fu : Nat) (n0 : Nat) (a0 : Nat) (x1 : Int32) (x2 : Int32) (M : Mm) : Option Mm :=
  if x2 < 0 ∨ n0 ≤ ix x2 then none else
  if (M.1 (a0 + 1) (ix x2)) = x1 then
    some M
  else
    lt ((M.1 a0 1)) fun x3_76 =>
    fX2_cut_l77 fu n0 a0 x1 x2 x3_76 M
set_option maxRecDepth 100000 in
set_option maxHeartbeats 4000000 in
theorem wX2_cut_j61 {M' : Mm}   {n0 : Nat} {a0 : Nat} {x1 : Int32} {x2 : Int32} {M : Mm} (B : Bx p s m args c cX2_cut 4 RX2 E L) (hr : meth.sig.returnType = none) (hlk : meth.locks = false)  (h0 : At L a0 (T2 n0)) (h : fX2_cut_j61 fu n0 a0 x1 x2 M = some M') (hR : Rx s E L M H locs) (hl : lv_has ls 4 [(0, .ref a0), (1, .int x1), (2, .int x2)]) : W p l e (rmD (d + 0)) s m args below meth c H locs 0 0 (MQ below (QcM E L none M') args s 0 0 E.2.2.2) (F0 m 61 ls []) := by
  have hx := B.1
  have hb := B.2.1
  unfold fX2_cut_j61 at h
  refine lv_aload_n hx hb dX2_cut_61 rfl (lv_at hl 0 rfl) ?_
  refine gf_X2_9 B hR (h0.at0 rfl) dX2_cut_62 ?_
  refine lv_iload_n hx hb dX2_cut_65 rfl (lv_at hl 2 rfl) ?_
  obtain ⟨hi_66, h⟩ := ifn_el h
  refine r_iald B hR (h0.at 1 rfl) hi_66 dX2_cut_66 ?_
  refine lv_iload_n hx hb dX2_cut_67 rfl (lv_at hl 1 rfl) ?_
  refine lv_icmp_ne (tgt := 72) hx hb dX2_cut_68 (by decide) (fun c_68 => ?_) (fun c_68 => ?_)
  · rw [if_neg c_68] at h
    refine lv_aload_n hx hb dX2_cut_72 rfl (lv_at hl 0 rfl) ?_
    refine gf_X2_15 B hR (h0.at0 rfl) dX2_cut_73 ?_
    obtain ⟨x3_76, ex3_76, h⟩ := lt_el h
    refine r_nmI ex3_76 ?_
    refine lv_istore_n (lv' := [(3, .int x3_76), (0, .ref a0), (1, .int x1), (2, .int x2)]) hx hb dX2_cut_76 rfl hl (by decide) rfl (fun ls hl => ?_)
    exact wX2_cut_l77 B hr hlk h0 h hR (lv_sub hl [1, 2, 3, 0] rfl)
  · rw [if_pos c_68] at h
    exact r_vretW B hR hr hlk h dX2_cut_71
def fX2_cut_b39 (fu : Nat) (k39 : Int32 → Option Mm) (n0 : Nat) (a0 : Nat) (x1 : Int32) (x2 : Int32) (M : Mm) : Option Mm :=
  if x2 ≤ 0 then
    fX2_cut_j61 fu n0 a0 x1 x2 M
  else
    if (x2 - 1) < 0 ∨ n0 ≤ ix (x2 - 1) then none else
    if (M.1 (a0 + 1) (ix (x2 - 1))) < x1 then
      fX2_cut_j61 fu n0 a0 x1 x2 M
    else
      lt (x2 + (-1)) fun x2_55 =>
      k39 x2_55
set_option maxRecDepth 100000 in
set_option maxHeartbeats 4000000 in
theorem wX2_cut_b39 {M' : Mm}   {k39 : Int32 → Option Mm} {n0 : Nat} {a0 : Nat} {x1 : Int32} {x2 : Int32} {M : Mm} (B : Bx p s m args c cX2_cut 4 RX2 E L) (hr : meth.sig.returnType = none) (hlk : meth.locks = false)  (ih39 : ∀ (x2 : Int32), k39 x2 = some M' → ∀ (H : Heap) (locs : List Loc) (ls : Array Slot), Rx s E L M H locs → lv_has ls 4 [(0, .ref a0), (1, .int x1), (2, .int x2)] → W p l e (rmD (d + 0)) s m args below meth c H locs 0 0 (MQ below (QcM E L none M') args s 0 0 E.2.2.2) (F0 m 39 ls [])) (h0 : At L a0 (T2 n0)) (h : fX2_cut_b39 fu k39 n0 a0 x1 x2 M = some M') (hR : Rx s E L M H locs) (hl : lv_has ls 4 [(0, .ref a0), (1, .int x1), (2, .int x2)]) : W p l e (rmD (d + 0)) s m args below meth c H locs 0 0 (MQ below (QcM E L none M') args s 0 0 E.2.2.2) (F0 m 39 ls []) := by
  have hx := B.1
  have hb := B.2.1
  unfold fX2_cut_b39 at h
  refine lv_iload_n hx hb dX2_cut_39 rfl (lv_at hl 2 rfl) ?_
  refine lv_if_le (tgt := 61) hx hb dX2_cut_40 (by decide) (fun c_40 => ?_) (fun c_40 => ?_)
  · rw [if_pos c_40] at h
    exact wX2_cut_j61 B hr hlk h0 h hR hl
  · rw [if_neg c_40] at h
    refine lv_aload_n hx hb dX2_cut_43 rfl (lv_at hl 0 rfl) ?_
    refine gf_X2_9 B hR (h0.at0 rfl) dX2_cut_44 ?_
    refine lv_iload_n hx hb dX2_cut_47 rfl (lv_at hl 2 rfl) ?_
    refine lv_iconst (v := 1) hx hb dX2_cut_48 (by decide) ?_
    refine lv_isub hx hb dX2_cut_49 ?_
    obtain ⟨hi_50, h⟩ := ifn_el h
    refine r_iald B hR (h0.at 1 rfl) hi_50 dX2_cut_50 ?_
    refine lv_iload_n hx hb dX2_cut_51 rfl (lv_at hl 1 rfl) ?_
    refine lv_icmp_lt (tgt := 61) hx hb dX2_cut_52 (by decide) (fun c_52 => ?_) (fun c_52 => ?_)
    · rw [if_pos c_52] at h
      exact wX2_cut_j61 B hr hlk h0 h hR hl
    · rw [if_neg c_52] at h
      obtain ⟨x2_55, ex2_55, h⟩ := lt_el h
      refine lv_iinc (v := x2_55) (lv' := [(2, .int x2_55), (0, .ref a0), (1, .int x1)]) hx hb dX2_cut_55 hl (k := 2) rfl (by rw [ex2_55]; rfl) (by decide) rfl (fun ls hl => ?_)
      refine lv_goto (tgt := 39) hx hb dX2_cut_58 (by decide) ?_
      exact ih39 x2_55 h _ _ _ hR (lv_sub hl [1, 2, 0] rfl)
def fX2_cut_l39 (fu : Nat) (n0 : Nat) (a0 : Nat) (x1 : Int32) (M : Mm) (x2 : Int32) : Option Mm := lp (fun (rec : Int32 → Option Mm) (s : Int32) => fX2_cut_b39 fu  (fun x2 => rec (x2)) n0 a0 x1 s M) fu (x2)
set_option maxRecDepth 100000 in
set_option maxHeartbeats 4000000 in
theorem wX2_cut_l39 {M' : Mm}   {n0 : Nat} {a0 : Nat} {x1 : Int32} {x2 : Int32} {M : Mm} (B : Bx p s m args c cX2_cut 4 RX2 E L) (hr : meth.sig.returnType = none) (hlk : meth.locks = false)  (h0 : At L a0 (T2 n0)) (h : fX2_cut_l39 fu n0 a0 x1 M x2 = some M') (hR : Rx s E L M H locs) (hl : lv_has ls 4 [(0, .ref a0), (1, .int x1), (2, .int x2)]) : W p l e (rmD (d + 0)) s m args below meth c H locs 0 0 (MQ below (QcM E L none M') args s 0 0 E.2.2.2) (F0 m 39 ls []) := by
  refine lp_G (G := fun z : Int32 => ∀ (H : Heap) (locs : List Loc) (ls : Array Slot), Rx s E L M H locs → lv_has ls 4 [(0, .ref a0), (1, .int x1), (2, .int z)] → W p l e (rmD (d + 0)) s m args below meth c H locs 0 0 (MQ below (QcM E L none M') args s 0 0 E.2.2.2) (F0 m 39 ls [])) (fun rec ih z h H locs ls hR hl => ?_) fu _ h H locs ls hR hl
  exact wX2_cut_b39 B hr hlk  (fun x2 h => ih (x2) h) h0 h hR hl
def fX2_cut (fu : Nat) (n0 : Nat) (a0 : Nat) (x1 : Int32) (M : Mm) : Option Mm :=
  if (Int32.ofNat n0) ≤ (M.1 a0 1) then
    fX2_cut_j31 fu M
  else
    if x1 ≤ 0 then
      fX2_cut_j31 fu M
    else
      if ((M.1 a0 1) - 1) < 0 ∨ n0 ≤ ix ((M.1 a0 1) - 1) then none else
      if x1 < (M.1 (a0 + 1) (ix ((M.1 a0 1) - 1))) then
        lt (((M.1 a0 1) - 1)) fun x2_38 =>
        fX2_cut_l39 fu n0 a0 x1 M x2_38
      else
        fX2_cut_j31 fu M
set_option maxRecDepth 100000 in
set_option maxHeartbeats 4000000 in
theorem mX2_cut {l : Launch} {E : Ge} {L : Lay} (fu d : Nat) {n0 : Nat} {a0 : Nat} {x1 : Int32} {M : Mm} {M' : Mm}  (h0 : At L a0 (T2 n0)) (h : fX2_cut fu n0 a0 x1 M = some M') : Ct l E L yX2_cut cX2_cut 4 none (d + 0) [.ref a0, .int x1] M none M' := by
  refine Ct.of (by decide) ?_
  intro p e s m below meth c hr hlk B hR
  have B : Bx p s m _ c cX2_cut 4 RX2 E L := B
  have hx := B.1
  have hb := B.2.1
  have hl := lv_entry ([.ref a0, .int x1]) (n := 4) (Nat.le_of_ble_eq_true rfl)
  rw [lg_entry_eq]
  generalize (lg_sl ([.ref a0, .int x1]) ++ List.replicate (4 - (lg_sl ([.ref a0, .int x1])).length) Slot.unset).toArray = ls at hl ⊢
  have hl : lv_has ls 4 [(0, .ref a0), (1, .int x1)] := hl
  unfold fX2_cut at h
  refine lv_aload_n hx hb dX2_cut_0 rfl (lv_at hl 0 rfl) ?_
  refine gf_X2_15 B hR (h0.at0 rfl) dX2_cut_1 ?_
  refine lv_aload_n hx hb dX2_cut_4 rfl (lv_at hl 0 rfl) ?_
  refine gf_X2_9 B hR (h0.at0 rfl) dX2_cut_5 ?_
  refine r_alenI B hR (v := (Int32.ofNat n0)) (h0.at 1 rfl) rfl dX2_cut_8 ?_
  refine lv_icmp_ge (tgt := 31) hx hb dX2_cut_9 (by decide) (fun c_9 => ?_) (fun c_9 => ?_)
  · rw [if_pos c_9] at h
    exact wX2_cut_j31 B hr hlk  h hR (lv_sub hl [] rfl)
  · rw [if_neg c_9] at h
    refine lv_iload_n hx hb dX2_cut_12 rfl (lv_at hl 1 rfl) ?_
    refine lv_if_le (tgt := 31) hx hb dX2_cut_13 (by decide) (fun c_13 => ?_) (fun c_13 => ?_)
    · rw [if_pos c_13] at h
      exact wX2_cut_j31 B hr hlk  h hR (lv_sub hl [] rfl)
    · rw [if_neg c_13] at h
      refine lv_iload_n hx hb dX2_cut_16 rfl (lv_at hl 1 rfl) ?_
      refine lv_aload_n hx hb dX2_cut_17 rfl (lv_at hl 0 rfl) ?_
      refine gf_X2_9 B hR (h0.at0 rfl) dX2_cut_18 ?_
      refine lv_aload_n hx hb dX2_cut_21 rfl (lv_at hl 0 rfl) ?_
      refine gf_X2_15 B hR (h0.at0 rfl) dX2_cut_22 ?_
      refine lv_iconst (v := 1) hx hb dX2_cut_25 (by decide) ?_
      refine lv_isub hx hb dX2_cut_26 ?_
      obtain ⟨hi_27, h⟩ := ifn_el h
      refine r_iald B hR (h0.at 1 rfl) hi_27 dX2_cut_27 ?_
      refine lv_icmp_lt (tgt := 32) hx hb dX2_cut_28 (by decide) (fun c_28 => ?_) (fun c_28 => ?_)
      · rw [if_pos c_28] at h
        refine lv_aload_n hx hb dX2_cut_32 rfl (lv_at hl 0 rfl) ?_
        refine gf_X2_15 B hR (h0.at0 rfl) dX2_cut_33 ?_
        refine lv_iconst (v := 1) hx hb dX2_cut_36 (by decide) ?_
        refine lv_isub hx hb dX2_cut_37 ?_
        obtain ⟨x2_38, ex2_38, h⟩ := lt_el h
        refine r_nmI ex2_38 ?_
        refine lv_istore_n (lv' := [(2, .int x2_38), (0, .ref a0), (1, .int x1)]) hx hb dX2_cut_38 rfl hl (by decide) rfl (fun ls hl => ?_)
        exact wX2_cut_l39 B hr hlk h0 h hR (lv_sub hl [1, 2, 0] rfl)
      · rw [if_neg c_28] at h
        exact wX2_cut_j31 B hr hlk  h hR (lv_sub hl [] rfl)
def fX2_cutSpans_j38 (fu : Nat) (M : Mm) : Option Mm :=
  some M
set_option maxRecDepth 100000 in
set_option maxHeartbeats 4000000 in
theorem wX2_cutSpans_j38 {M' : Mm}    {M : Mm} (B : Bx p s m args c cX2_cutSpans 3 RX2 E L) (hr : meth.sig.returnType = none) (hlk : meth.locks = false)   (h : fX2_cutSpans_j38 fu M = some M') (hR : Rx s E L M H locs) (hl : lv_has ls 3 []) : W p l e (rmD (d + 1)) s m args below meth c H locs 0 0 (MQ below (QcM E L none M') args s 0 0 E.2.2.2) (F0 m 38 ls []) := by
  have hx := B.1
  have hb := B.2.1
  unfold fX2_cutSpans_j38 at h
  exact r_vretW B hR hr hlk h dX2_cutSpans_38
def fX2_cutSpans_b2 (fu : Nat) (k2 : Int32 → Mm → Option Mm) (n0 : Nat) (a0 : Nat) (a1 : Nat) (x2 : Int32) (M : Mm) : Option Mm :=
  if (M.1 a1 3) ≤ x2 then
    fX2_cutSpans_j38 fu M
  else
    if x2 < 0 ∨ 12 ≤ ix x2 then none else
    bm (fX2_cut fu n0 a0 (M.1 (a1 + 1) (ix x2)) M) fun M_17 =>
    bm (fX2_cut fu n0 a0 ((M_17.1 (a1 + 2) (ix x2)) + 1) M_17) fun M_29 =>
    lt (x2 + 1) fun x2_32 =>
    k2 x2_32 M_29
set_option maxRecDepth 100000 in
set_option maxHeartbeats 4000000 in
theorem wX2_cutSpans_b2 {M' : Mm}   {k2 : Int32 → Mm → Option Mm} {n0 : Nat} {a0 : Nat} {a1 : Nat} {x2 : Int32} {M : Mm} (B : Bx p s m args c cX2_cutSpans 3 RX2 E L) (hr : meth.sig.returnType = none) (hlk : meth.locks = false)  (ih2 : ∀ (x2 : Int32) (M : Mm), k2 x2 M = some M' → ∀ (H : Heap) (locs : List Loc) (ls : Array Slot), Rx s E L M H locs → lv_has ls 3 [(0, .ref a0), (1, .ref a1), (2, .int x2)] → W p l e (rmD (d + 1)) s m args below meth c H locs 0 0 (MQ below (QcM E L none M') args s 0 0 E.2.2.2) (F0 m 2 ls [])) (h0 : At L a0 (T2 n0)) (h1 : At L a1 T8) (h : fX2_cutSpans_b2 fu k2 n0 a0 a1 x2 M = some M') (hR : Rx s E L M H locs) (hl : lv_has ls 3 [(0, .ref a0), (1, .ref a1), (2, .int x2)]) : W p l e (rmD (d + 1)) s m args below meth c H locs 0 0 (MQ below (QcM E L none M') args s 0 0 E.2.2.2) (F0 m 2 ls []) := by
  have hx := B.1
  have hb := B.2.1
  unfold fX2_cutSpans_b2 at h
  refine lv_iload_n hx hb dX2_cutSpans_2 rfl (lv_at hl 2 rfl) ?_
  refine lv_aload_n hx hb dX2_cutSpans_3 rfl (lv_at hl 1 rfl) ?_
  refine gf_X2_19 B hR (h1.at0 rfl) dX2_cutSpans_4 ?_
  refine lv_icmp_ge (tgt := 38) hx hb dX2_cutSpans_7 (by decide) (fun c_7 => ?_) (fun c_7 => ?_)
  · rw [if_pos c_7] at h
    exact wX2_cutSpans_j38 B hr hlk  h hR (lv_sub hl [] rfl)
  · rw [if_neg c_7] at h
    refine lv_aload_n hx hb dX2_cutSpans_10 rfl (lv_at hl 0 rfl) ?_
    refine lv_aload_n hx hb dX2_cutSpans_11 rfl (lv_at hl 1 rfl) ?_
    refine gf_X2_24 B hR (h1.at0 rfl) dX2_cutSpans_12 ?_
    refine lv_iload_n hx hb dX2_cutSpans_15 rfl (lv_at hl 2 rfl) ?_
    obtain ⟨hi_16, h⟩ := ifn_el h
    refine r_iald B hR (h1.at 1 rfl) hi_16 dX2_cutSpans_16 ?_
    obtain ⟨M_17, hc_17, h⟩ := bm_el h
    refine iv_X2_27 B hR (h0.at0 rfl) hl.1 (mX2_cut fu _ h0 hc_17) (Nat.le_of_ble_eq_true rfl) dX2_cutSpans_17 (fun H locs hR => ?_)
    refine lv_aload_n hx hb dX2_cutSpans_20 rfl (lv_at hl 0 rfl) ?_
    refine lv_aload_n hx hb dX2_cutSpans_21 rfl (lv_at hl 1 rfl) ?_
    refine gf_X2_31 B hR (h1.at0 rfl) dX2_cutSpans_22 ?_
    refine lv_iload_n hx hb dX2_cutSpans_25 rfl (lv_at hl 2 rfl) ?_
    refine r_iald B hR (h1.at 2 rfl) hi_16 dX2_cutSpans_26 ?_
    refine lv_iconst (v := 1) hx hb dX2_cutSpans_27 (by decide) ?_
    refine lv_iadd hx hb dX2_cutSpans_28 ?_
    obtain ⟨M_29, hc_29, h⟩ := bm_el h
    refine iv_X2_27 B hR (h0.at0 rfl) hl.1 (mX2_cut fu _ h0 hc_29) (Nat.le_of_ble_eq_true rfl) dX2_cutSpans_29 (fun H locs hR => ?_)
    obtain ⟨x2_32, ex2_32, h⟩ := lt_el h
    refine lv_iinc (v := x2_32) (lv' := [(2, .int x2_32), (0, .ref a0), (1, .ref a1)]) hx hb dX2_cutSpans_32 hl (k := 2) rfl (by rw [ex2_32]; rfl) (by decide) rfl (fun ls hl => ?_)
    refine lv_goto (tgt := 2) hx hb dX2_cutSpans_35 (by decide) ?_
    exact ih2 x2_32 M_29 h _ _ _ hR (lv_sub hl [1, 2, 0] rfl)
def fX2_cutSpans_l2 (fu : Nat) (n0 : Nat) (a0 : Nat) (a1 : Nat) (x2 : Int32) (M : Mm) : Option Mm := lp (fun (rec : (Int32 × Mm) → Option Mm) (s : Int32 × Mm) => fX2_cutSpans_b2 fu  (fun x2 M => rec (x2, M)) n0 a0 a1 s.1 s.2) fu (x2, M)
set_option maxRecDepth 100000 in
set_option maxHeartbeats 4000000 in
theorem wX2_cutSpans_l2 {M' : Mm}   {n0 : Nat} {a0 : Nat} {a1 : Nat} {x2 : Int32} {M : Mm} (B : Bx p s m args c cX2_cutSpans 3 RX2 E L) (hr : meth.sig.returnType = none) (hlk : meth.locks = false)  (h0 : At L a0 (T2 n0)) (h1 : At L a1 T8) (h : fX2_cutSpans_l2 fu n0 a0 a1 x2 M = some M') (hR : Rx s E L M H locs) (hl : lv_has ls 3 [(0, .ref a0), (1, .ref a1), (2, .int x2)]) : W p l e (rmD (d + 1)) s m args below meth c H locs 0 0 (MQ below (QcM E L none M') args s 0 0 E.2.2.2) (F0 m 2 ls []) := by
  refine lp_G (G := fun z : Int32 × Mm => ∀ (H : Heap) (locs : List Loc) (ls : Array Slot), Rx s E L z.2 H locs → lv_has ls 3 [(0, .ref a0), (1, .ref a1), (2, .int z.1)] → W p l e (rmD (d + 1)) s m args below meth c H locs 0 0 (MQ below (QcM E L none M') args s 0 0 E.2.2.2) (F0 m 2 ls [])) (fun rec ih z h H locs ls hR hl => ?_) fu _ h H locs ls hR hl
  exact wX2_cutSpans_b2 B hr hlk  (fun x2 M h => ih (x2, M) h) h0 h1 h hR hl
def fX2_cutSpans (fu : Nat) (n0 : Nat) (a0 : Nat) (a1 : Nat) (M : Mm) : Option Mm :=
  fX2_cutSpans_l2 fu n0 a0 a1 0 M
set_option maxRecDepth 100000 in
set_option maxHeartbeats 4000000 in
theorem mX2_cutSpans {l : Launch} {E : Ge} {L : Lay} (fu d : Nat) {n0 : Nat} {a0 : Nat} {a1 : Nat} {M : Mm} {M' : Mm}  (h0 : At L a0 (T2 n0)) (h1 : At L a1 T8) (h : fX2_cutSpans fu n0 a0 a1 M = some M') : Ct l E L yX2_cutSpans cX2_cutSpans 3 none (d + 1) [.ref a0, .ref a1] M none M' := by
  refine Ct.of (by decide) ?_
  intro p e s m below meth c hr hlk B hR
  have B : Bx p s m _ c cX2_cutSpans 3 RX2 E L := B
  have hx := B.1
  have hb := B.2.1
  have hl := lv_entry ([.ref a0, .ref a1]) (n := 3) (Nat.le_of_ble_eq_true rfl)
  rw [lg_entry_eq]
  generalize (lg_sl ([.ref a0, .ref a1]) ++ List.replicate (3 - (lg_sl ([.ref a0, .ref a1])).length) Slot.unset).toArray = ls at hl ⊢
  have hl : lv_has ls 3 [(0, .ref a0), (1, .ref a1)] := hl
  unfold fX2_cutSpans at h
  refine lv_iconst (v := 0) hx hb dX2_cutSpans_0 (by decide) ?_
  refine lv_istore_n (lv' := [(2, .int 0), (0, .ref a0), (1, .ref a1)]) hx hb dX2_cutSpans_1 rfl hl (by decide) rfl (fun ls hl => ?_)
  exact wX2_cutSpans_l2 B hr hlk h0 h1 h hR (lv_sub hl [1, 2, 0] rfl)
def fX2_cutRegisters_j43 (fu : Nat) (M : Mm) : Option Mm :=
  some M
set_option maxRecDepth 100000 in
set_option maxHeartbeats 4000000 in
theorem wX2_cutRegisters_j43 {M' : Mm}    {M : Mm} (B : Bx p s m args c cX2_cutRegisters 3 RX2 E L) (hr : meth.sig.returnType = none) (hlk : meth.locks = false)   (h : fX2_cutRegisters_j43 fu M = some M') (hR : Rx s E L M H locs) (hl : lv_has ls 3 []) : W p l e (rmD (d + 1)) s m args below meth c H locs 0 0 (MQ below (QcM E L none M') args s 0 0 E.2.2.2) (F0 m 43 ls []) := by
  have hx := B.1
  have hb := B.2.1
  unfold fX2_cutRegisters_j43 at h
  exact r_vretW B hR hr hlk h dX2_cutRegisters_43
def fX2_cutRegisters_b2 (fu : Nat) (k2 : Int32 → Mm → Option Mm) (n0 : Nat) (a0 : Nat) (a1 : Nat) (x2 : Int32) (M : Mm) : Option Mm :=
  if (M.1 a1 1) ≤ x2 then
    fX2_cutRegisters_j43 fu M
  else
    if x2 < 0 ∨ 10 ≤ ix x2 then none else
    bm (fX2_cut fu n0 a0 (M.1 (a1 + 5) (ix x2)) M) fun M_17 =>
    bm (fX2_cut fu n0 a0 ((M_17.1 (a1 + 5) (ix x2)) + (M_17.1 (a1 + 6) (ix x2))) M_17) fun M_34 =>
    lt (x2 + 1) fun x2_37 =>
    k2 x2_37 M_34
set_option maxRecDepth 100000 in
set_option maxHeartbeats 4000000 in
theorem wX2_cutRegisters_b2 {M' : Mm}   {k2 : Int32 → Mm → Option Mm} {n0 : Nat} {a0 : Nat} {a1 : Nat} {x2 : Int32} {M : Mm} (B : Bx p s m args c cX2_cutRegisters 3 RX2 E L) (hr : meth.sig.returnType = none) (hlk : meth.locks = false)  (ih2 : ∀ (x2 : Int32) (M : Mm), k2 x2 M = some M' → ∀ (H : Heap) (locs : List Loc) (ls : Array Slot), Rx s E L M H locs → lv_has ls 3 [(0, .ref a0), (1, .ref a1), (2, .int x2)] → W p l e (rmD (d + 1)) s m args below meth c H locs 0 0 (MQ below (QcM E L none M') args s 0 0 E.2.2.2) (F0 m 2 ls [])) (h0 : At L a0 (T2 n0)) (h1 : At L a1 T8) (h : fX2_cutRegisters_b2 fu k2 n0 a0 a1 x2 M = some M') (hR : Rx s E L M H locs) (hl : lv_has ls 3 [(0, .ref a0), (1, .ref a1), (2, .int x2)]) : W p l e (rmD (d + 1)) s m args below meth c H locs 0 0 (MQ below (QcM E L none M') args s 0 0 E.2.2.2) (F0 m 2 ls []) := by
  have hx := B.1
  have hb := B.2.1
  unfold fX2_cutRegisters_b2 at h
  refine lv_iload_n hx hb dX2_cutRegisters_2 rfl (lv_at hl 2 rfl) ?_
  refine lv_aload_n hx hb dX2_cutRegisters_3 rfl (lv_at hl 1 rfl) ?_
  refine gf_X2_34 B hR (h1.at0 rfl) dX2_cutRegisters_4 ?_
  refine lv_icmp_ge (tgt := 43) hx hb dX2_cutRegisters_7 (by decide) (fun c_7 => ?_) (fun c_7 => ?_)
  · rw [if_pos c_7] at h
    exact wX2_cutRegisters_j43 B hr hlk  h hR (lv_sub hl [] rfl)
  · rw [if_neg c_7] at h
    refine lv_aload_n hx hb dX2_cutRegisters_10 rfl (lv_at hl 0 rfl) ?_
    refine lv_aload_n hx hb dX2_cutRegisters_11 rfl (lv_at hl 1 rfl) ?_
    refine gf_X2_37 B hR (h1.at0 rfl) dX2_cutRegisters_12 ?_
    refine lv_iload_n hx hb dX2_cutRegisters_15 rfl (lv_at hl 2 rfl) ?_
    obtain ⟨hi_16, h⟩ := ifn_el h
    refine r_iald B hR (h1.at 5 rfl) hi_16 dX2_cutRegisters_16 ?_
    obtain ⟨M_17, hc_17, h⟩ := bm_el h
    refine iv_X2_27 B hR (h0.at0 rfl) hl.1 (mX2_cut fu _ h0 hc_17) (Nat.le_of_ble_eq_true rfl) dX2_cutRegisters_17 (fun H locs hR => ?_)
    refine lv_aload_n hx hb dX2_cutRegisters_20 rfl (lv_at hl 0 rfl) ?_
    refine lv_aload_n hx hb dX2_cutRegisters_21 rfl (lv_at hl 1 rfl) ?_
    refine gf_X2_37 B hR (h1.at0 rfl) dX2_cutRegisters_22 ?_
    refine lv_iload_n hx hb dX2_cutRegisters_25 rfl (lv_at hl 2 rfl) ?_
    refine r_iald B hR (h1.at 5 rfl) hi_16 dX2_cutRegisters_26 ?_
    refine lv_aload_n hx hb dX2_cutRegisters_27 rfl (lv_at hl 1 rfl) ?_
    refine gf_X2_40 B hR (h1.at0 rfl) dX2_cutRegisters_28 ?_
    refine lv_iload_n hx hb dX2_cutRegisters_31 rfl (lv_at hl 2 rfl) ?_
    refine r_iald B hR (h1.at 6 rfl) hi_16 dX2_cutRegisters_32 ?_
    refine lv_iadd hx hb dX2_cutRegisters_33 ?_
    obtain ⟨M_34, hc_34, h⟩ := bm_el h
    refine iv_X2_27 B hR (h0.at0 rfl) hl.1 (mX2_cut fu _ h0 hc_34) (Nat.le_of_ble_eq_true rfl) dX2_cutRegisters_34 (fun H locs hR => ?_)
    obtain ⟨x2_37, ex2_37, h⟩ := lt_el h
    refine lv_iinc (v := x2_37) (lv' := [(2, .int x2_37), (0, .ref a0), (1, .ref a1)]) hx hb dX2_cutRegisters_37 hl (k := 2) rfl (by rw [ex2_37]; rfl) (by decide) rfl (fun ls hl => ?_)
    refine lv_goto (tgt := 2) hx hb dX2_cutRegisters_40 (by decide) ?_
    exact ih2 x2_37 M_34 h _ _ _ hR (lv_sub hl [1, 2, 0] rfl)
def fX2_cutRegisters_l2 (fu : Nat) (n0 : Nat) (a0 : Nat) (a1 : Nat) (x2 : Int32) (M : Mm) : Option Mm := lp (fun (rec : (Int32 × Mm) → Option Mm) (s : Int32 × Mm) => fX2_cutRegisters_b2 fu  (fun x2 M => rec (x2, M)) n0 a0 a1 s.1 s.2) fu (x2, M)
set_option maxRecDepth 100000 in
set_option maxHeartbeats 4000000 in
theorem wX2_cutRegisters_l2 {M' : Mm}   {n0 : Nat} {a0 : Nat} {a1 : Nat} {x2 : Int32} {M : Mm} (B : Bx p s m args c cX2_cutRegisters 3 RX2 E L) (hr : meth.sig.returnType = none) (hlk : meth.locks = false)  (h0 : At L a0 (T2 n0)) (h1 : At L a1 T8) (h : fX2_cutRegisters_l2 fu n0 a0 a1 x2 M = some M') (hR : Rx s E L M H locs) (hl : lv_has ls 3 [(0, .ref a0), (1, .ref a1), (2, .int x2)]) : W p l e (rmD (d + 1)) s m args below meth c H locs 0 0 (MQ below (QcM E L none M') args s 0 0 E.2.2.2) (F0 m 2 ls []) := by
  refine lp_G (G := fun z : Int32 × Mm => ∀ (H : Heap) (locs : List Loc) (ls : Array Slot), Rx s E L z.2 H locs → lv_has ls 3 [(0, .ref a0), (1, .ref a1), (2, .int z.1)] → W p l e (rmD (d + 1)) s m args below meth c H locs 0 0 (MQ below (QcM E L none M') args s 0 0 E.2.2.2) (F0 m 2 ls [])) (fun rec ih z h H locs ls hR hl => ?_) fu _ h H locs ls hR hl
  exact wX2_cutRegisters_b2 B hr hlk  (fun x2 M h => ih (x2, M) h) h0 h1 h hR hl
def fX2_cutRegisters (fu : Nat) (n0 : Nat) (a0 : Nat) (a1 : Nat) (M : Mm) : Option Mm :=
  fX2_cutRegisters_l2 fu n0 a0 a1 0 M
set_option maxRecDepth 100000 in
set_option maxHeartbeats 4000000 in
theorem mX2_cutRegisters {l : Launch} {E : Ge} {L : Lay} (fu d : Nat) {n0 : Nat} {a0 : Nat} {a1 : Nat} {M : Mm} {M' : Mm}  (h0 : At L a0 (T2 n0)) (h1 : At L a1 T8) (h : fX2_cutRegisters fu n0 a0 a1 M = some M') : Ct l E L yX2_cutRegisters cX2_cutRegisters 3 none (d + 1) [.ref a0, .ref a1] M none M' := by
  refine Ct.of (by decide) ?_
  intro p e s m below meth c hr hlk B hR
  have B : Bx p s m _ c cX2_cutRegisters 3 RX2 E L := B
  have hx := B.1
  have hb := B.2.1
  have hl := lv_entry ([.ref a0, .ref a1]) (n := 3) (Nat.le_of_ble_eq_true rfl)
  rw [lg_entry_eq]
  generalize (lg_sl ([.ref a0, .ref a1]) ++ List.replicate (3 - (lg_sl ([.ref a0, .ref a1])).length) Slot.unset).toArray = ls at hl ⊢
  have hl : lv_has ls 3 [(0, .ref a0), (1, .ref a1)] := hl
  unfold fX2_cutRegisters at h
  refine lv_iconst (v := 0) hx hb dX2_cutRegisters_0 (by decide) ?_
  refine lv_istore_n (lv' := [(2, .int 0), (0, .ref a0), (1, .ref a1)]) hx hb dX2_cutRegisters_1 rfl hl (by decide) rfl (fun ls hl => ?_)
  exact wX2_cutRegisters_l2 B hr hlk h0 h1 h hR (lv_sub hl [1, 2, 0] rfl)
def fX2_cutParts_j27 (fu : Nat) (M : Mm) : Option Mm :=
  some M
set_option maxRecDepth 100000 in
set_option maxHeartbeats 4000000 in
theorem wX2_cutParts_j27 {M' : Mm}    {M : Mm} (B : Bx p s m args c cX2_cutParts 3 RX2 E L) (hr : meth.sig.returnType = none) (hlk : meth.locks = false)   (h : fX2_cutParts_j27 fu M = some M') (hR : Rx s E L M H locs) (hl : lv_has ls 3 []) : W p l e (rmD (d + 1)) s m args below meth c H locs 0 0 (MQ below (QcM E L none M') args s 0 0 E.2.2.2) (F0 m 27 ls []) := by
  have hx := B.1
  have hb := B.2.1
  unfold fX2_cutParts_j27 at h
  exact r_vretW B hR hr hlk h dX2_cutParts_27
def fX2_cutParts_b2 (fu : Nat) (k2 : Int32 → Mm → Option Mm) (n0 : Nat) (a0 : Nat) (a1 : Nat) (x2 : Int32) (M : Mm) : Option Mm :=
  if 8 < x2 then
    fX2_cutParts_j27 fu M
  else
    bm (fX2_cut fu n0 a0 (((M.1 a1 4) / 8) * x2) M) fun M_18 =>
    lt (x2 + 1) fun x2_21 =>
    k2 x2_21 M_18
set_option maxRecDepth 100000 in
set_option maxHeartbeats 4000000 in
theorem wX2_cutParts_b2 {M' : Mm}   {k2 : Int32 → Mm → Option Mm} {n0 : Nat} {a0 : Nat} {a1 : Nat} {x2 : Int32} {M : Mm} (B : Bx p s m args c cX2_cutParts 3 RX2 E L) (hr : meth.sig.returnType = none) (hlk : meth.locks = false)  (ih2 : ∀ (x2 : Int32) (M : Mm), k2 x2 M = some M' → ∀ (H : Heap) (locs : List Loc) (ls : Array Slot), Rx s E L M H locs → lv_has ls 3 [(0, .ref a0), (1, .ref a1), (2, .int x2)] → W p l e (rmD (d + 1)) s m args below meth c H locs 0 0 (MQ below (QcM E L none M') args s 0 0 E.2.2.2) (F0 m 2 ls [])) (h0 : At L a0 (T2 n0)) (h1 : At L a1 T8) (h : fX2_cutParts_b2 fu k2 n0 a0 a1 x2 M = some M') (hR : Rx s E L M H locs) (hl : lv_has ls 3 [(0, .ref a0), (1, .ref a1), (2, .int x2)]) : W p l e (rmD (d + 1)) s m args below meth c H locs 0 0 (MQ below (QcM E L none M') args s 0 0 E.2.2.2) (F0 m 2 ls []) := by
  have hx := B.1
  have hb := B.2.1
  unfold fX2_cutParts_b2 at h
  refine lv_iload_n hx hb dX2_cutParts_2 rfl (lv_at hl 2 rfl) ?_
  refine lv_bipush (v := 8) hx hb dX2_cutParts_3 (by decide) ?_
  refine lv_icmp_gt (tgt := 27) hx hb dX2_cutParts_5 (by decide) (fun c_5 => ?_) (fun c_5 => ?_)
  · rw [if_pos c_5] at h
    exact wX2_cutParts_j27 B hr hlk  h hR (lv_sub hl [] rfl)
  · rw [if_neg c_5] at h
    refine lv_aload_n hx hb dX2_cutParts_8 rfl (lv_at hl 0 rfl) ?_
    refine lv_aload_n hx hb dX2_cutParts_9 rfl (lv_at hl 1 rfl) ?_
    refine gf_X2_43 B hR (h1.at0 rfl) dX2_cutParts_10 ?_
    refine lv_bipush (v := 8) hx hb dX2_cutParts_13 (by decide) ?_
    refine lv_idiv hx hb dX2_cutParts_15 (by decide) ?_
    refine lv_iload_n hx hb dX2_cutParts_16 rfl (lv_at hl 2 rfl) ?_
    refine lv_imul hx hb dX2_cutParts_17 ?_
    obtain ⟨M_18, hc_18, h⟩ := bm_el h
    refine iv_X2_27 B hR (h0.at0 rfl) hl.1 (mX2_cut fu _ h0 hc_18) (Nat.le_of_ble_eq_true rfl) dX2_cutParts_18 (fun H locs hR => ?_)
    obtain ⟨x2_21, ex2_21, h⟩ := lt_el h
    refine lv_iinc (v := x2_21) (lv' := [(2, .int x2_21), (0, .ref a0), (1, .ref a1)]) hx hb dX2_cutParts_21 hl (k := 2) rfl (by rw [ex2_21]; rfl) (by decide) rfl (fun ls hl => ?_)
    refine lv_goto (tgt := 2) hx hb dX2_cutParts_24 (by decide) ?_
    exact ih2 x2_21 M_18 h _ _ _ hR (lv_sub hl [1, 2, 0] rfl)
def fX2_cutParts_l2 (fu : Nat) (n0 : Nat) (a0 : Nat) (a1 : Nat) (x2 : Int32) (M : Mm) : Option Mm := lp (fun (rec : (Int32 × Mm) → Option Mm) (s : Int32 × Mm) => fX2_cutParts_b2 fu  (fun x2 M => rec (x2, M)) n0 a0 a1 s.1 s.2) fu (x2, M)
set_option maxRecDepth 100000 in
set_option maxHeartbeats 4000000 in
theorem wX2_cutParts_l2 {M' : Mm}   {n0 : Nat} {a0 : Nat} {a1 : Nat} {x2 : Int32} {M : Mm} (B : Bx p s m args c cX2_cutParts 3 RX2 E L) (hr : meth.sig.returnType = none) (hlk : meth.locks = false)  (h0 : At L a0 (T2 n0)) (h1 : At L a1 T8) (h : fX2_cutParts_l2 fu n0 a0 a1 x2 M = some M') (hR : Rx s E L M H locs) (hl : lv_has ls 3 [(0, .ref a0), (1, .ref a1), (2, .int x2)]) : W p l e (rmD (d + 1)) s m args below meth c H locs 0 0 (MQ below (QcM E L none M') args s 0 0 E.2.2.2) (F0 m 2 ls []) := by
  refine lp_G (G := fun z : Int32 × Mm => ∀ (H : Heap) (locs : List Loc) (ls : Array Slot), Rx s E L z.2 H locs → lv_has ls 3 [(0, .ref a0), (1, .ref a1), (2, .int z.1)] → W p l e (rmD (d + 1)) s m args below meth c H locs 0 0 (MQ below (QcM E L none M') args s 0 0 E.2.2.2) (F0 m 2 ls [])) (fun rec ih z h H locs ls hR hl => ?_) fu _ h H locs ls hR hl
  exact wX2_cutParts_b2 B hr hlk  (fun x2 M h => ih (x2, M) h) h0 h1 h hR hl
def fX2_cutParts (fu : Nat) (n0 : Nat) (a0 : Nat) (a1 : Nat) (M : Mm) : Option Mm :=
  fX2_cutParts_l2 fu n0 a0 a1 1 M
set_option maxRecDepth 100000 in
set_option maxHeartbeats 4000000 in
theorem mX2_cutParts {l : Launch} {E : Ge} {L : Lay} (fu d : Nat) {n0 : Nat} {a0 : Nat} {a1 : Nat} {M : Mm} {M' : Mm}  (h0 : At L a0 (T2 n0)) (h1 : At L a1 T8) (h : fX2_cutParts fu n0 a0 a1 M = some M') : Ct l E L yX2_cutParts cX2_cutParts 3 none (d + 1) [.ref a0, .ref a1] M none M' := by
  refine Ct.of (by decide) ?_
  intro p e s m below meth c hr hlk B hR
  have B : Bx p s m _ c cX2_cutParts 3 RX2 E L := B
  have hx := B.1
  have hb := B.2.1
  have hl := lv_entry ([.ref a0, .ref a1]) (n := 3) (Nat.le_of_ble_eq_true rfl)
  rw [lg_entry_eq]
  generalize (lg_sl ([.ref a0, .ref a1]) ++ List.replicate (3 - (lg_sl ([.ref a0, .ref a1])).length) Slot.unset).toArray = ls at hl ⊢
  have hl : lv_has ls 3 [(0, .ref a0), (1, .ref a1)] := hl
  unfold fX2_cutParts at h
  refine lv_iconst (v := 1) hx hb dX2_cutParts_0 (by decide) ?_
  refine lv_istore_n (lv' := [(2, .int 1), (0, .ref a0), (1, .ref a1)]) hx hb dX2_cutParts_1 rfl hl (by decide) rfl (fun ls hl => ?_)
  exact wX2_cutParts_l2 B hr hlk h0 h1 h hR (lv_sub hl [1, 2, 0] rfl)
def fX2_cutPages_j24 (fu : Nat) (M : Mm) : Option Mm :=
  some M
set_option maxRecDepth 100000 in
set_option maxHeartbeats 4000000 in
theorem wX2_cutPages_j24 {M' : Mm}    {M : Mm} (B : Bx p s m args c cX2_cutPages 3 RX2 E L) (hr : meth.sig.returnType = none) (hlk : meth.locks = false)   (h : fX2_cutPages_j24 fu M = some M') (hR : Rx s E L M H locs) (hl : lv_has ls 3 []) : W p l e (rmD (d + 1)) s m args below meth c H locs 0 0 (MQ below (QcM E L none M') args s 0 0 E.2.2.2) (F0 m 24 ls []) := by
  have hx := B.1
  have hb := B.2.1
  unfold fX2_cutPages_j24 at h
  exact r_vretW B hR hr hlk h dX2_cutPages_24
def fX2_cutPages_b2 (fu : Nat) (k2 : Int32 → Mm → Option Mm) (n0 : Nat) (a0 : Nat) (a1 : Nat) (x2 : Int32) (M : Mm) : Option Mm :=
  bi (fX8_pages fu a1 M) fun r_4 =>
  if r_4 ≤ x2 then
    fX2_cutPages_j24 fu M
  else
    bm (fX2_cut fu n0 a0 (x2 * 16) M) fun M_15 =>
    lt (x2 + 1) fun x2_18 =>
    k2 x2_18 M_15
set_option maxRecDepth 100000 in
set_option maxHeartbeats 4000000 in
theorem wX2_cutPages_b2 {M' : Mm}   {k2 : Int32 → Mm → Option Mm} {n0 : Nat} {a0 : Nat} {a1 : Nat} {x2 : Int32} {M : Mm} (B : Bx p s m args c cX2_cutPages 3 RX2 E L) (hr : meth.sig.returnType = none) (hlk : meth.locks = false)  (ih2 : ∀ (x2 : Int32) (M : Mm), k2 x2 M = some M' → ∀ (H : Heap) (locs : List Loc) (ls : Array Slot), Rx s E L M H locs → lv_has ls 3 [(0, .ref a0), (1, .ref a1), (2, .int x2)] → W p l e (rmD (d + 1)) s m args below meth c H locs 0 0 (MQ below (QcM E L none M') args s 0 0 E.2.2.2) (F0 m 2 ls [])) (h0 : At L a0 (T2 n0)) (h1 : At L a1 T8) (h : fX2_cutPages_b2 fu k2 n0 a0 a1 x2 M = some M') (hR : Rx s E L M H locs) (hl : lv_has ls 3 [(0, .ref a0), (1, .ref a1), (2, .int x2)]) : W p l e (rmD (d + 1)) s m args below meth c H locs 0 0 (MQ below (QcM E L none M') args s 0 0 E.2.2.2) (F0 m 2 ls []) := by
  have hx := B.1
  have hb := B.2.1
  unfold fX2_cutPages_b2 at h
  refine lv_iload_n hx hb dX2_cutPages_2 rfl (lv_at hl 2 rfl) ?_
  refine lv_aload_n hx hb dX2_cutPages_3 rfl (lv_at hl 1 rfl) ?_
  obtain ⟨r_4, hc_4, h⟩ := bi_el h
  refine iv_X2_46 B hR (h1.at0 rfl) hl.1 (mX8_pages fu _ h1 hc_4) (Nat.le_of_ble_eq_true rfl) dX2_cutPages_4 (fun H locs hR => ?_)
  refine lv_icmp_ge (tgt := 24) hx hb dX2_cutPages_7 (by decide) (fun c_7 => ?_) (fun c_7 => ?_)
  · rw [if_pos c_7] at h
    exact wX2_cutPages_j24 B hr hlk  h hR (lv_sub hl [] rfl)
  · rw [if_neg c_7] at h
    refine lv_aload_n hx hb dX2_cutPages_10 rfl (lv_at hl 0 rfl) ?_
    refine lv_iload_n hx hb dX2_cutPages_11 rfl (lv_at hl 2 rfl) ?_
    refine lv_bipush (v := 16) hx hb dX2_cutPages_12 (by decide) ?_
    refine lv_imul hx hb dX2_cutPages_14 ?_
    obtain ⟨M_15, hc_15, h⟩ := bm_el h
    refine iv_X2_27 B hR (h0.at0 rfl) hl.1 (mX2_cut fu _ h0 hc_15) (Nat.le_of_ble_eq_true rfl) dX2_cutPages_15 (fun H locs hR => ?_)
    obtain ⟨x2_18, ex2_18, h⟩ := lt_el h
    refine lv_iinc (v := x2_18) (lv' := [(2, .int x2_18), (0, .ref a0), (1, .ref a1)]) hx hb dX2_cutPages_18 hl (k := 2) rfl (by rw [ex2_18]; rfl) (by decide) rfl (fun ls hl => ?_)
    refine lv_goto (tgt := 2) hx hb dX2_cutPages_21 (by decide) ?_
    exact ih2 x2_18 M_15 h _ _ _ hR (lv_sub hl [1, 2, 0] rfl)
def fX2_cutPages_l2 (fu : Nat) (n0 : Nat) (a0 : Nat) (a1 : Nat) (x2 : Int32) (M : Mm) : Option Mm := lp (fun (rec : (Int32 × Mm) → Option Mm) (s : Int32 × Mm) => fX2_cutPages_b2 fu  (fun x2 M => rec (x2, M)) n0 a0 a1 s.1 s.2) fu (x2, M)
set_option maxRecDepth 100000 in
set_option maxHeartbeats 4000000 in
theorem wX2_cutPages_l2 {M' : Mm}   {n0 : Nat} {a0 : Nat} {a1 : Nat} {x2 : Int32} {M : Mm} (B : Bx p s m args c cX2_cutPages 3 RX2 E L) (hr : meth.sig.returnType = none) (hlk : meth.locks = false)  (h0 : At L a0 (T2 n0)) (h1 : At L a1 T8) (h : fX2_cutPages_l2 fu n0 a0 a1 x2 M = some M') (hR : Rx s E L M H locs) (hl : lv_has ls 3 [(0, .ref a0), (1, .ref a1), (2, .int x2)]) : W p l e (rmD (d + 1)) s m args below meth c H locs 0 0 (MQ below (QcM E L none M') args s 0 0 E.2.2.2) (F0 m 2 ls []) := by
  refine lp_G (G := fun z : Int32 × Mm => ∀ (H : Heap) (locs : List Loc) (ls : Array Slot), Rx s E L z.2 H locs → lv_has ls 3 [(0, .ref a0), (1, .ref a1), (2, .int z.1)] → W p l e (rmD (d + 1)) s m args below meth c H locs 0 0 (MQ below (QcM E L none M') args s 0 0 E.2.2.2) (F0 m 2 ls [])) (fun rec ih z h H locs ls hR hl => ?_) fu _ h H locs ls hR hl
  exact wX2_cutPages_b2 B hr hlk  (fun x2 M h => ih (x2, M) h) h0 h1 h hR hl
def fX2_cutPages (fu : Nat) (n0 : Nat) (a0 : Nat) (a1 : Nat) (M : Mm) : Option Mm :=
  fX2_cutPages_l2 fu n0 a0 a1 1 M
set_option maxRecDepth 100000 in
set_option maxHeartbeats 4000000 in
theorem mX2_cutPages {l : Launch} {E : Ge} {L : Lay} (fu d : Nat) {n0 : Nat} {a0 : Nat} {a1 : Nat} {M : Mm} {M' : Mm}  (h0 : At L a0 (T2 n0)) (h1 : At L a1 T8) (h : fX2_cutPages fu n0 a0 a1 M = some M') : Ct l E L yX2_cutPages cX2_cutPages 3 none (d + 1) [.ref a0, .ref a1] M none M' := by
  refine Ct.of (by decide) ?_
  intro p e s m below meth c hr hlk B hR
  have B : Bx p s m _ c cX2_cutPages 3 RX2 E L := B
  have hx := B.1
  have hb := B.2.1
  have hl := lv_entry ([.ref a0, .ref a1]) (n := 3) (Nat.le_of_ble_eq_true rfl)
  rw [lg_entry_eq]
  generalize (lg_sl ([.ref a0, .ref a1]) ++ List.replicate (3 - (lg_sl ([.ref a0, .ref a1])).length) Slot.unset).toArray = ls at hl ⊢
  have hl : lv_has ls 3 [(0, .ref a0), (1, .ref a1)] := hl
  unfold fX2_cutPages at h
  refine lv_iconst (v := 1) hx hb dX2_cutPages_0 (by decide) ?_
  refine lv_istore_n (lv' := [(2, .int 1), (0, .ref a0), (1, .ref a1)]) hx hb dX2_cutPages_1 rfl hl (by decide) rfl (fun ls hl => ?_)
  exact wX2_cutPages_l2 B hr hlk h0 h1 h hR (lv_sub hl [1, 2, 0] rfl)
def fX4_current (fu : Nat) (a0 : Nat) (M : Mm) : Option Nat :=
  if (((M.1 a0 1) + (M.1 a0 2)) - ((M.1 a0 1) + (M.1 a0 2)) / 17 * 17) < 0 ∨ 17 ≤ ix (((M.1 a0 1) + (M.1 a0 2)) - ((M.1 a0 1) + (M.1 a0 2)) / 17 * 17) then none else
  some ((a0 + 1) + 1 + 9 * ix (((M.1 a0 1) + (M.1 a0 2)) - ((M.1 a0 1) + (M.1 a0 2)) / 17 * 17))
set_option maxRecDepth 100000 in
set_option maxHeartbeats 4000000 in
theorem mX4_current {l : Launch} {E : Ge} {L : Lay} (fu d : Nat) {a0 : Nat} {M : Mm} {r : Nat}  (h0 : At L a0 T4) (h : fX4_current fu a0 M = some r) : Ct l E L yX4_current cX4_current 1 (some (.object "SpanKinds$Store")) (d + 0) [.ref a0] M (some (.ref r)) M := by
  refine Ct.of (by decide) ?_
  intro p e s m below meth c hr hlk B hR
  have B : Bx p s m _ c cX4_current 1 RX4 E L := B
  have hx := B.1
  have hb := B.2.1
  have hl := lv_entry ([.ref a0]) (n := 1) (Nat.le_of_ble_eq_true rfl)
  rw [lg_entry_eq]
  generalize (lg_sl ([.ref a0]) ++ List.replicate (1 - (lg_sl ([.ref a0])).length) Slot.unset).toArray = ls at hl ⊢
  have hl : lv_has ls 1 [(0, .ref a0)] := hl
  unfold fX4_current at h
  refine lv_aload_n hx hb dX4_current_0 rfl (lv_at hl 0 rfl) ?_
  refine gf_X4_11 B hR (h0.at0 rfl) dX4_current_1 ?_
  refine lv_aload_n hx hb dX4_current_4 rfl (lv_at hl 0 rfl) ?_
  refine gf_X4_33 B hR (h0.at0 rfl) dX4_current_5 ?_
  refine lv_aload_n hx hb dX4_current_8 rfl (lv_at hl 0 rfl) ?_
  refine gf_X4_18 B hR (h0.at0 rfl) dX4_current_9 ?_
  refine lv_iadd hx hb dX4_current_12 ?_
  refine lv_bipush (v := 17) hx hb dX4_current_13 (by decide) ?_
  refine lv_irem hx hb dX4_current_15 (by decide) ?_
  obtain ⟨hi_16, h⟩ := ifn_el h
  refine r_aald B hR (h0.at 1 rfl) hi_16 dX4_current_16 ?_
  exact r_aretP B hR hr hlk h dX4_current_17
theorem at_current {fu a0 r : Nat} {L : Lay} {M : Mm} (h0 : At L a0 T4) (h : fX4_current fu a0 M = some r) : At L r T8 := by
  unfold fX4_current at h
  obtain ⟨hi, h⟩ := ifn_el h
  cases h
  exact rg_17 h0 hi
def fX4_begin (fu : Nat) (a0 : Nat) (a1 : Nat) (M : Mm) : Option Mm :=
  lt (wI M a0 2 0) fun M_2 =>
  lt (wI M_2 a0 3 0) fun M_7 =>
  bl (fX4_current fu a0 M_7) fun r_11 =>
  bm (fX8_copyFrom fu r_11 a1 M_7) fun M_15 =>
  some M_15
set_option maxRecDepth 100000 in
set_option maxHeartbeats 4000000 in
theorem mX4_begin {l : Launch} {E : Ge} {L : Lay} (fu d : Nat) {a0 : Nat} {a1 : Nat} {M : Mm} {M' : Mm}  (h0 : At L a0 T4) (h1 : At L a1 T8) (h : fX4_begin fu a0 a1 M = some M') : Ct l E L yX4_begin cX4_begin 2 none (d + 2) [.ref a0, .ref a1] M none M' := by
  refine Ct.of (by decide) ?_
  intro p e s m below meth c hr hlk B hR
  have B : Bx p s m _ c cX4_begin 2 RX4 E L := B
  have hx := B.1
  have hb := B.2.1
  have hl := lv_entry ([.ref a0, .ref a1]) (n := 2) (Nat.le_of_ble_eq_true rfl)
  rw [lg_entry_eq]
  generalize (lg_sl ([.ref a0, .ref a1]) ++ List.replicate (2 - (lg_sl ([.ref a0, .ref a1])).length) Slot.unset).toArray = ls at hl ⊢
  have hl : lv_has ls 2 [(0, .ref a0), (1, .ref a1)] := hl
  unfold fX4_begin at h
  refine lv_aload_n hx hb dX4_begin_0 rfl (lv_at hl 0 rfl) ?_
  refine lv_iconst (v := 0) hx hb dX4_begin_1 (by decide) ?_
  obtain ⟨M_2, eM_2, h⟩ := lt_el h
  refine pf_X4_18 B hR (h0.at0 rfl) dX4_begin_2 (fun H locs hR => ?_)
  rw [← eM_2] at hR
  refine lv_aload_n hx hb dX4_begin_5 rfl (lv_at hl 0 rfl) ?_
  refine lv_iconst (v := 0) hx hb dX4_begin_6 (by decide) ?_
  obtain ⟨M_7, eM_7, h⟩ := lt_el h
  refine pf_X4_22 B hR (h0.at0 rfl) dX4_begin_7 (fun H locs hR => ?_)
  rw [← eM_7] at hR
  refine lv_aload_n hx hb dX4_begin_10 rfl (lv_at hl 0 rfl) ?_
  obtain ⟨r_11, hc_11, h⟩ := bl_el h
  refine iv_X4_25 B hR (h0.at0 rfl) hl.1 (mX4_current fu _ h0 hc_11) (Nat.le_of_ble_eq_true rfl) dX4_begin_11 (fun H locs hR => ?_)
  refine lv_aload_n hx hb dX4_begin_14 rfl (lv_at hl 1 rfl) ?_
  obtain ⟨M_15, hc_15, h⟩ := bm_el h
  refine iv_X4_29 B hR ((at_current h0 hc_11).at0 rfl) hl.1 (mX8_copyFrom fu _ (at_current h0 hc_11) h1 hc_15) (Nat.le_of_ble_eq_true rfl) dX4_begin_15 (fun H locs hR => ?_)
  exact r_vretW B hR hr hlk h dX4_begin_18
def fX4_note_j40 (fu : Nat) (a0 : Nat) (a1 : Nat) (M : Mm) : Option Mm :=
  bl (fX4_current fu a0 M) fun r_41 =>
  bm (fX8_copyFrom fu r_41 a1 M) fun M_45 =>
  some M_45
set_option maxRecDepth 100000 in
set_option maxHeartbeats 4000000 in
theorem wX4_note_j40 {M' : Mm}   {a0 : Nat} {a1 : Nat} {M : Mm} (B : Bx p s m args c cX4_note 2 RX4 E L) (hr : meth.sig.returnType = none) (hlk : meth.locks = false)  (h0 : At L a0 T4) (h1 : At L a1 T8) (h : fX4_note_j40 fu a0 a1 M = some M') (hR : Rx s E L M H locs) (hl : lv_has ls 2 [(0, .ref a0), (1, .ref a1)]) : W p l e (rmD (d + 2)) s m args below meth c H locs 0 0 (MQ below (QcM E L none M') args s 0 0 E.2.2.2) (F0 m 40 ls []) := by
  have hx := B.1
  have hb := B.2.1
  unfold fX4_note_j40 at h
  refine lv_aload_n hx hb dX4_note_40 rfl (lv_at hl 0 rfl) ?_
  obtain ⟨r_41, hc_41, h⟩ := bl_el h
  refine iv_X4_25 B hR (h0.at0 rfl) hl.1 (mX4_current fu _ h0 hc_41) (Nat.le_of_ble_eq_true rfl) dX4_note_41 (fun H locs hR => ?_)
  refine lv_aload_n hx hb dX4_note_44 rfl (lv_at hl 1 rfl) ?_
  obtain ⟨M_45, hc_45, h⟩ := bm_el h
  refine iv_X4_29 B hR ((at_current h0 hc_41).at0 rfl) hl.1 (mX8_copyFrom fu _ (at_current h0 hc_41) h1 hc_45) (Nat.le_of_ble_eq_true rfl) dX4_note_45 (fun H locs hR => ?_)
  exact r_vretW B hR hr hlk h dX4_note_48
def fX4_note (fu : Nat) (a0 : Nat) (a1 : Nat) (M : Mm) : Option Mm :=
  lt (wI M a0 3 0) fun M_2 =>
  if 16 ≤ (M_2.1 a0 2) then
    lt (wI M_2 a0 1 (((M_2.1 a0 1) + 1) - ((M_2.1 a0 1) + 1) / 17 * 17)) fun M_37 =>
    fX4_note_j40 fu a0 a1 M_37
  else
    lt (wI M_2 a0 2 ((M_2.1 a0 2) + 1)) fun M_21 =>
    fX4_note_j40 fu a0 a1 M_21
set_option maxRecDepth 100000 in
set_option maxHeartbeats 4000000 in
theorem mX4_note {l : Launch} {E : Ge} {L : Lay} (fu d : Nat) {a0 : Nat} {a1 : Nat} {M : Mm} {M' : Mm}  (h0 : At L a0 T4) (h1 : At L a1 T8) (h : fX4_note fu a0 a1 M = some M') : Ct l E L yX4_note cX4_note 2 none (d + 2) [.ref a0, .ref a1] M none M' := by
  refine Ct.of (by decide) ?_
  intro p e s m below meth c hr hlk B hR
  have B : Bx p s m _ c cX4_note 2 RX4 E L := B
  have hx := B.1
  have hb := B.2.1
  have hl := lv_entry ([.ref a0, .ref a1]) (n := 2) (Nat.le_of_ble_eq_true rfl)
  rw [lg_entry_eq]
  generalize (lg_sl ([.ref a0, .ref a1]) ++ List.replicate (2 - (lg_sl ([.ref a0, .ref a1])).length) Slot.unset).toArray = ls at hl ⊢
  have hl : lv_has ls 2 [(0, .ref a0), (1, .ref a1)] := hl
  unfold fX4_note at h
  refine lv_aload_n hx hb dX4_note_0 rfl (lv_at hl 0 rfl) ?_
  refine lv_iconst (v := 0) hx hb dX4_note_1 (by decide) ?_
  obtain ⟨M_2, eM_2, h⟩ := lt_el h
  refine pf_X4_22 B hR (h0.at0 rfl) dX4_note_2 (fun H locs hR => ?_)
  rw [← eM_2] at hR
  refine lv_aload_n hx hb dX4_note_5 rfl (lv_at hl 0 rfl) ?_
  refine gf_X4_18 B hR (h0.at0 rfl) dX4_note_6 ?_
  refine lv_bipush (v := 16) hx hb dX4_note_9 (by decide) ?_
  refine lv_icmp_ge (tgt := 27) hx hb dX4_note_11 (by decide) (fun c_11 => ?_) (fun c_11 => ?_)
  · rw [if_pos c_11] at h
    refine lv_aload_n hx hb dX4_note_27 rfl (lv_at hl 0 rfl) ?_
    refine lv_aload_n hx hb dX4_note_28 rfl (lv_at hl 0 rfl) ?_
    refine gf_X4_33 B hR (h0.at0 rfl) dX4_note_29 ?_
    refine lv_iconst (v := 1) hx hb dX4_note_32 (by decide) ?_
    refine lv_iadd hx hb dX4_note_33 ?_
    refine lv_bipush (v := 17) hx hb dX4_note_34 (by decide) ?_
    refine lv_irem hx hb dX4_note_36 (by decide) ?_
    obtain ⟨M_37, eM_37, h⟩ := lt_el h
    refine pf_X4_33 B hR (h0.at0 rfl) dX4_note_37 (fun H locs hR => ?_)
    rw [← eM_37] at hR
    exact wX4_note_j40 B hr hlk h0 h1 h hR hl
  · rw [if_neg c_11] at h
    refine lv_aload_n hx hb dX4_note_14 rfl (lv_at hl 0 rfl) ?_
    refine lv_dup hx hb dX4_note_15 rfl ?_
    refine gf_X4_18 B hR (h0.at0 rfl) dX4_note_16 ?_
    refine lv_iconst (v := 1) hx hb dX4_note_19 (by decide) ?_
    refine lv_iadd hx hb dX4_note_20 ?_
    obtain ⟨M_21, eM_21, h⟩ := lt_el h
    refine pf_X4_18 B hR (h0.at0 rfl) dX4_note_21 (fun H locs hR => ?_)
    rw [← eM_21] at hR
    refine lv_goto (tgt := 40) hx hb dX4_note_24 (by decide) ?_
    exact wX4_note_j40 B hr hlk h0 h1 h hR hl
def fX4_goBack (fu : Nat) (a0 : Nat) (a1 : Nat) (M : Mm) : Option (Int32 × Mm) :=
  if (M.1 a0 2) = 0 then
    some (0, M)
  else
    lt (wI M a0 2 ((M.1 a0 2) - 1)) fun M_16 =>
    lt (wI M_16 a0 3 ((M_16.1 a0 3) + 1)) fun M_26 =>
    bl (fX4_current fu a0 M_26) fun r_31 =>
    bm (fX8_copyFrom fu a1 r_31 M_26) fun M_34 =>
    some (1, M_34)
set_option maxRecDepth 100000 in
set_option maxHeartbeats 4000000 in
theorem mX4_goBack {l : Launch} {E : Ge} {L : Lay} (fu d : Nat) {a0 : Nat} {a1 : Nat} {M : Mm} {r : Int32} {M' : Mm}  (h0 : At L a0 T4) (h1 : At L a1 T8) (h : fX4_goBack fu a0 a1 M = some (r, M')) : Ct l E L yX4_goBack cX4_goBack 2 (some .boolean) (d + 2) [.ref a0, .ref a1] M (some (.int r)) M' := by
  refine Ct.of (by decide) ?_
  intro p e s m below meth c hr hlk B hR
  have B : Bx p s m _ c cX4_goBack 2 RX4 E L := B
  have hx := B.1
  have hb := B.2.1
  have hl := lv_entry ([.ref a0, .ref a1]) (n := 2) (Nat.le_of_ble_eq_true rfl)
  rw [lg_entry_eq]
  generalize (lg_sl ([.ref a0, .ref a1]) ++ List.replicate (2 - (lg_sl ([.ref a0, .ref a1])).length) Slot.unset).toArray = ls at hl ⊢
  have hl : lv_has ls 2 [(0, .ref a0), (1, .ref a1)] := hl
  unfold fX4_goBack at h
  refine lv_aload_n hx hb dX4_goBack_0 rfl (lv_at hl 0 rfl) ?_
  refine gf_X4_18 B hR (h0.at0 rfl) dX4_goBack_1 ?_
  refine lv_if_ne (tgt := 9) hx hb dX4_goBack_4 (by decide) (fun c_4 => ?_) (fun c_4 => ?_)
  · rw [if_neg c_4] at h
    refine lv_aload_n hx hb dX4_goBack_9 rfl (lv_at hl 0 rfl) ?_
    refine lv_dup hx hb dX4_goBack_10 rfl ?_
    refine gf_X4_18 B hR (h0.at0 rfl) dX4_goBack_11 ?_
    refine lv_iconst (v := 1) hx hb dX4_goBack_14 (by decide) ?_
    refine lv_isub hx hb dX4_goBack_15 ?_
    obtain ⟨M_16, eM_16, h⟩ := lt_el h
    refine pf_X4_18 B hR (h0.at0 rfl) dX4_goBack_16 (fun H locs hR => ?_)
    rw [← eM_16] at hR
    refine lv_aload_n hx hb dX4_goBack_19 rfl (lv_at hl 0 rfl) ?_
    refine lv_dup hx hb dX4_goBack_20 rfl ?_
    refine gf_X4_22 B hR (h0.at0 rfl) dX4_goBack_21 ?_
    refine lv_iconst (v := 1) hx hb dX4_goBack_24 (by decide) ?_
    refine lv_iadd hx hb dX4_goBack_25 ?_
    obtain ⟨M_26, eM_26, h⟩ := lt_el h
    refine pf_X4_22 B hR (h0.at0 rfl) dX4_goBack_26 (fun H locs hR => ?_)
    rw [← eM_26] at hR
    refine lv_aload_n hx hb dX4_goBack_29 rfl (lv_at hl 1 rfl) ?_
    refine lv_aload_n hx hb dX4_goBack_30 rfl (lv_at hl 0 rfl) ?_
    obtain ⟨r_31, hc_31, h⟩ := bl_el h
    refine iv_X4_25 B hR (h0.at0 rfl) hl.1 (mX4_current fu _ h0 hc_31) (Nat.le_of_ble_eq_true rfl) dX4_goBack_31 (fun H locs hR => ?_)
    obtain ⟨M_34, hc_34, h⟩ := bm_el h
    refine iv_X4_29 B hR (h1.at0 rfl) hl.1 (mX8_copyFrom fu _ h1 (at_current h0 hc_31) hc_34) (Nat.le_of_ble_eq_true rfl) dX4_goBack_34 (fun H locs hR => ?_)
    refine lv_iconst (v := 1) hx hb dX4_goBack_37 (by decide) ?_
    exact r_zretW B hR hr hlk (Or.inr rfl) h dX4_goBack_38
  · rw [if_pos c_4] at h
    refine lv_iconst (v := 0) hx hb dX4_goBack_7 (by decide) ?_
    exact r_zretW B hR hr hlk (Or.inl rfl) h dX4_goBack_8
def fX4_goOn (fu : Nat) (a0 : Nat) (a1 : Nat) (M : Mm) : Option (Int32 × Mm) :=
  if (M.1 a0 3) = 0 then
    some (0, M)
  else
    lt (wI M a0 2 ((M.1 a0 2) + 1)) fun M_16 =>
    lt (wI M_16 a0 3 ((M_16.1 a0 3) - 1)) fun M_26 =>
    bl (fX4_current fu a0 M_26) fun r_31 =>
    bm (fX8_copyFrom fu a1 r_31 M_26) fun M_34 =>
    some (1, M_34)
set_option maxRecDepth 100000 in
set_option maxHeartbeats 4000000 in
theorem mX4_goOn {l : Launch} {E : Ge} {L : Lay} (fu d : Nat) {a0 : Nat} {a1 : Nat} {M : Mm} {r : Int32} {M' : Mm}  (h0 : At L a0 T4) (h1 : At L a1 T8) (h : fX4_goOn fu a0 a1 M = some (r, M')) : Ct l E L yX4_goOn cX4_goOn 2 (some .boolean) (d + 2) [.ref a0, .ref a1] M (some (.int r)) M' := by
  refine Ct.of (by decide) ?_
  intro p e s m below meth c hr hlk B hR
  have B : Bx p s m _ c cX4_goOn 2 RX4 E L := B
  have hx := B.1
  have hb := B.2.1
  have hl := lv_entry ([.ref a0, .ref a1]) (n := 2) (Nat.le_of_ble_eq_true rfl)
  rw [lg_entry_eq]
  generalize (lg_sl ([.ref a0, .ref a1]) ++ List.replicate (2 - (lg_sl ([.ref a0, .ref a1])).length) Slot.unset).toArray = ls at hl ⊢
  have hl : lv_has ls 2 [(0, .ref a0), (1, .ref a1)] := hl
  unfold fX4_goOn at h
  refine lv_aload_n hx hb dX4_goOn_0 rfl (lv_at hl 0 rfl) ?_
  refine gf_X4_22 B hR (h0.at0 rfl) dX4_goOn_1 ?_
  refine lv_if_ne (tgt := 9) hx hb dX4_goOn_4 (by decide) (fun c_4 => ?_) (fun c_4 => ?_)
  · rw [if_neg c_4] at h
    refine lv_aload_n hx hb dX4_goOn_9 rfl (lv_at hl 0 rfl) ?_
    refine lv_dup hx hb dX4_goOn_10 rfl ?_
    refine gf_X4_18 B hR (h0.at0 rfl) dX4_goOn_11 ?_
    refine lv_iconst (v := 1) hx hb dX4_goOn_14 (by decide) ?_
    refine lv_iadd hx hb dX4_goOn_15 ?_
    obtain ⟨M_16, eM_16, h⟩ := lt_el h
    refine pf_X4_18 B hR (h0.at0 rfl) dX4_goOn_16 (fun H locs hR => ?_)
    rw [← eM_16] at hR
    refine lv_aload_n hx hb dX4_goOn_19 rfl (lv_at hl 0 rfl) ?_
    refine lv_dup hx hb dX4_goOn_20 rfl ?_
    refine gf_X4_22 B hR (h0.at0 rfl) dX4_goOn_21 ?_
    refine lv_iconst (v := 1) hx hb dX4_goOn_24 (by decide) ?_
    refine lv_isub hx hb dX4_goOn_25 ?_
    obtain ⟨M_26, eM_26, h⟩ := lt_el h
    refine pf_X4_22 B hR (h0.at0 rfl) dX4_goOn_26 (fun H locs hR => ?_)
    rw [← eM_26] at hR
    refine lv_aload_n hx hb dX4_goOn_29 rfl (lv_at hl 1 rfl) ?_
    refine lv_aload_n hx hb dX4_goOn_30 rfl (lv_at hl 0 rfl) ?_
    obtain ⟨r_31, hc_31, h⟩ := bl_el h
    refine iv_X4_25 B hR (h0.at0 rfl) hl.1 (mX4_current fu _ h0 hc_31) (Nat.le_of_ble_eq_true rfl) dX4_goOn_31 (fun H locs hR => ?_)
    obtain ⟨M_34, hc_34, h⟩ := bm_el h
    refine iv_X4_29 B hR (h1.at0 rfl) hl.1 (mX8_copyFrom fu _ h1 (at_current h0 hc_31) hc_34) (Nat.le_of_ble_eq_true rfl) dX4_goOn_34 (fun H locs hR => ?_)
    refine lv_iconst (v := 1) hx hb dX4_goOn_37 (by decide) ?_
    exact r_zretW B hR hr hlk (Or.inr rfl) h dX4_goOn_38
  · rw [if_pos c_4] at h
    refine lv_iconst (v := 0) hx hb dX4_goOn_7 (by decide) ?_
    exact r_zretW B hR hr hlk (Or.inl rfl) h dX4_goOn_8
end G13_small_lean_txt
