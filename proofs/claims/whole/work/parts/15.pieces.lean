theorem dX5_joinRuns_0 : decode cX5_joinRuns 0 = .ok (.aload_n 0, 1) := by decide +kernel
theorem dX5_joinRuns_1 : decode cX5_joinRuns 1 = .ok (.iconst 0, 1) := by decide +kernel
theorem dX5_joinRuns_2 : decode cX5_joinRuns 2 = .ok (.putfield 82, 3) := by decide +kernel
theorem dX5_joinRuns_5 : decode cX5_joinRuns 5 = .ok (.iconst 0, 1) := by decide +kernel
theorem dX5_joinRuns_6 : decode cX5_joinRuns 6 = .ok (.istore_n 1, 1) := by decide +kernel
theorem dX5_joinRuns_7 : decode cX5_joinRuns 7 = .ok (.iload_n 1, 1) := by decide +kernel
theorem dX5_joinRuns_8 : decode cX5_joinRuns 8 = .ok (.aload_n 0, 1) := by decide +kernel
theorem dX5_joinRuns_9 : decode cX5_joinRuns 9 = .ok (.getfield 65, 3) := by decide +kernel
theorem dX5_joinRuns_12 : decode cX5_joinRuns 12 = .ok (.if_icmp .ge 97, 3) := by decide +kernel
theorem dX5_joinRuns_15 : decode cX5_joinRuns 15 = .ok (.iload_n 1, 1) := by decide +kernel
theorem dX5_joinRuns_16 : decode cX5_joinRuns 16 = .ok (.ifCond .eq 20, 3) := by decide +kernel
theorem dX5_joinRuns_19 : decode cX5_joinRuns 19 = .ok (.aload_n 0, 1) := by decide +kernel
theorem dX5_joinRuns_20 : decode cX5_joinRuns 20 = .ok (.getfield 20, 3) := by decide +kernel
theorem dX5_joinRuns_23 : decode cX5_joinRuns 23 = .ok (.iload_n 1, 1) := by decide +kernel
theorem dX5_joinRuns_24 : decode cX5_joinRuns 24 = .ok (.iaload, 1) := by decide +kernel
theorem dX5_joinRuns_25 : decode cX5_joinRuns 25 = .ok (.aload_n 0, 1) := by decide +kernel
theorem dX5_joinRuns_26 : decode cX5_joinRuns 26 = .ok (.getfield 20, 3) := by decide +kernel
theorem dX5_joinRuns_29 : decode cX5_joinRuns 29 = .ok (.iload_n 1, 1) := by decide +kernel
theorem dX5_joinRuns_30 : decode cX5_joinRuns 30 = .ok (.iconst 1, 1) := by decide +kernel
theorem dX5_joinRuns_31 : decode cX5_joinRuns 31 = .ok (.isub, 1) := by decide +kernel
theorem dX5_joinRuns_32 : decode cX5_joinRuns 32 = .ok (.iaload, 1) := by decide +kernel
theorem dX5_joinRuns_33 : decode cX5_joinRuns 33 = .ok (.if_icmp .eq 7, 3) := by decide +kernel
theorem dX5_joinRuns_36 : decode cX5_joinRuns 36 = .ok (.iconst 1, 1) := by decide +kernel
theorem dX5_joinRuns_37 : decode cX5_joinRuns 37 = .ok (.goto 4, 3) := by decide +kernel
theorem dX5_joinRuns_40 : decode cX5_joinRuns 40 = .ok (.iconst 0, 1) := by decide +kernel
theorem dX5_joinRuns_41 : decode cX5_joinRuns 41 = .ok (.istore_n 2, 1) := by decide +kernel
theorem dX5_joinRuns_42 : decode cX5_joinRuns 42 = .ok (.iload_n 2, 1) := by decide +kernel
theorem dX5_joinRuns_43 : decode cX5_joinRuns 43 = .ok (.ifCond .eq 60, 3) := by decide +kernel
theorem dX5_joinRuns_46 : decode cX5_joinRuns 46 = .ok (.aload_n 0, 1) := by decide +kernel
theorem dX5_joinRuns_47 : decode cX5_joinRuns 47 = .ok (.getfield 82, 3) := by decide +kernel
theorem dX5_joinRuns_50 : decode cX5_joinRuns 50 = .ok (.aload_n 0, 1) := by decide +kernel
theorem dX5_joinRuns_51 : decode cX5_joinRuns 51 = .ok (.getfield 33, 3) := by decide +kernel
theorem dX5_joinRuns_54 : decode cX5_joinRuns 54 = .ok (.arraylength, 1) := by decide +kernel
theorem dX5_joinRuns_55 : decode cX5_joinRuns 55 = .ok (.iconst 1, 1) := by decide +kernel
theorem dX5_joinRuns_56 : decode cX5_joinRuns 56 = .ok (.isub, 1) := by decide +kernel
theorem dX5_joinRuns_57 : decode cX5_joinRuns 57 = .ok (.if_icmp .ge 46, 3) := by decide +kernel
theorem dX5_joinRuns_60 : decode cX5_joinRuns 60 = .ok (.aload_n 0, 1) := by decide +kernel
theorem dX5_joinRuns_61 : decode cX5_joinRuns 61 = .ok (.getfield 30, 3) := by decide +kernel
theorem dX5_joinRuns_64 : decode cX5_joinRuns 64 = .ok (.aload_n 0, 1) := by decide +kernel
theorem dX5_joinRuns_65 : decode cX5_joinRuns 65 = .ok (.getfield 82, 3) := by decide +kernel
theorem dX5_joinRuns_68 : decode cX5_joinRuns 68 = .ok (.aload_n 0, 1) := by decide +kernel
theorem dX5_joinRuns_69 : decode cX5_joinRuns 69 = .ok (.getfield 14, 3) := by decide +kernel
theorem dX5_joinRuns_72 : decode cX5_joinRuns 72 = .ok (.getfield 66, 3) := by decide +kernel
theorem dX5_joinRuns_75 : decode cX5_joinRuns 75 = .ok (.iload_n 1, 1) := by decide +kernel
theorem dX5_joinRuns_76 : decode cX5_joinRuns 76 = .ok (.iaload, 1) := by decide +kernel
theorem dX5_joinRuns_77 : decode cX5_joinRuns 77 = .ok (.iastore, 1) := by decide +kernel
theorem dX5_joinRuns_78 : decode cX5_joinRuns 78 = .ok (.aload_n 0, 1) := by decide +kernel
theorem dX5_joinRuns_79 : decode cX5_joinRuns 79 = .ok (.getfield 33, 3) := by decide +kernel
theorem dX5_joinRuns_82 : decode cX5_joinRuns 82 = .ok (.aload_n 0, 1) := by decide +kernel
theorem dX5_joinRuns_83 : decode cX5_joinRuns 83 = .ok (.getfield 82, 3) := by decide +kernel
theorem dX5_joinRuns_86 : decode cX5_joinRuns 86 = .ok (.aload_n 0, 1) := by decide +kernel
theorem dX5_joinRuns_87 : decode cX5_joinRuns 87 = .ok (.getfield 20, 3) := by decide +kernel
theorem dX5_joinRuns_90 : decode cX5_joinRuns 90 = .ok (.iload_n 1, 1) := by decide +kernel
theorem dX5_joinRuns_91 : decode cX5_joinRuns 91 = .ok (.iaload, 1) := by decide +kernel
theorem dX5_joinRuns_92 : decode cX5_joinRuns 92 = .ok (.iastore, 1) := by decide +kernel
theorem dX5_joinRuns_93 : decode cX5_joinRuns 93 = .ok (.aload_n 0, 1) := by decide +kernel
theorem dX5_joinRuns_94 : decode cX5_joinRuns 94 = .ok (.dup, 1) := by decide +kernel
theorem dX5_joinRuns_95 : decode cX5_joinRuns 95 = .ok (.getfield 82, 3) := by decide +kernel
theorem dX5_joinRuns_98 : decode cX5_joinRuns 98 = .ok (.iconst 1, 1) := by decide +kernel
theorem dX5_joinRuns_99 : decode cX5_joinRuns 99 = .ok (.iadd, 1) := by decide +kernel
theorem dX5_joinRuns_100 : decode cX5_joinRuns 100 = .ok (.putfield 82, 3) := by decide +kernel
theorem dX5_joinRuns_103 : decode cX5_joinRuns 103 = .ok (.iinc 1 1, 3) := by decide +kernel
theorem dX5_joinRuns_106 : decode cX5_joinRuns 106 = .ok (.goto (-99), 3) := by decide +kernel
theorem dX5_joinRuns_109 : decode cX5_joinRuns 109 = .ok (.aload_n 0, 1) := by decide +kernel
theorem dX5_joinRuns_110 : decode cX5_joinRuns 110 = .ok (.getfield 30, 3) := by decide +kernel
theorem dX5_joinRuns_113 : decode cX5_joinRuns 113 = .ok (.aload_n 0, 1) := by decide +kernel
theorem dX5_joinRuns_114 : decode cX5_joinRuns 114 = .ok (.getfield 82, 3) := by decide +kernel
theorem dX5_joinRuns_117 : decode cX5_joinRuns 117 = .ok (.aload_n 0, 1) := by decide +kernel
theorem dX5_joinRuns_118 : decode cX5_joinRuns 118 = .ok (.getfield 14, 3) := by decide +kernel
theorem dX5_joinRuns_121 : decode cX5_joinRuns 121 = .ok (.getfield 66, 3) := by decide +kernel
theorem dX5_joinRuns_124 : decode cX5_joinRuns 124 = .ok (.aload_n 0, 1) := by decide +kernel
theorem dX5_joinRuns_125 : decode cX5_joinRuns 125 = .ok (.getfield 65, 3) := by decide +kernel
theorem dX5_joinRuns_128 : decode cX5_joinRuns 128 = .ok (.iaload, 1) := by decide +kernel
theorem dX5_joinRuns_129 : decode cX5_joinRuns 129 = .ok (.iastore, 1) := by decide +kernel
theorem dX5_joinRuns_130 : decode cX5_joinRuns 130 = .ok (.return_, 1) := by decide +kernel
theorem dX5_make_0 : decode cX5_make 0 = .ok (.aload_n 0, 1) := by decide +kernel
theorem dX5_make_1 : decode cX5_make 1 = .ok (.getfield 14, 3) := by decide +kernel
theorem dX5_make_4 : decode cX5_make 4 = .ok (.aload_n 1, 1) := by decide +kernel
theorem dX5_make_5 : decode cX5_make 5 = .ok (.getfield 36, 3) := by decide +kernel
theorem dX5_make_8 : decode cX5_make 8 = .ok (.invokevirtual 42, 3) := by decide +kernel
theorem dX5_make_11 : decode cX5_make 11 = .ok (.aload_n 0, 1) := by decide +kernel
theorem dX5_make_12 : decode cX5_make 12 = .ok (.getfield 14, 3) := by decide +kernel
theorem dX5_make_15 : decode cX5_make 15 = .ok (.aload_n 1, 1) := by decide +kernel
theorem dX5_make_16 : decode cX5_make 16 = .ok (.invokevirtual 45, 3) := by decide +kernel
theorem dX5_make_19 : decode cX5_make 19 = .ok (.aload_n 0, 1) := by decide +kernel
theorem dX5_make_20 : decode cX5_make 20 = .ok (.getfield 14, 3) := by decide +kernel
theorem dX5_make_23 : decode cX5_make 23 = .ok (.aload_n 1, 1) := by decide +kernel
theorem dX5_make_24 : decode cX5_make 24 = .ok (.invokevirtual 49, 3) := by decide +kernel
theorem dX5_make_27 : decode cX5_make 27 = .ok (.aload_n 0, 1) := by decide +kernel
theorem dX5_make_28 : decode cX5_make 28 = .ok (.getfield 14, 3) := by decide +kernel
theorem dX5_make_31 : decode cX5_make 31 = .ok (.aload_n 1, 1) := by decide +kernel
theorem dX5_make_32 : decode cX5_make 32 = .ok (.invokevirtual 52, 3) := by decide +kernel
theorem dX5_make_35 : decode cX5_make 35 = .ok (.aload_n 0, 1) := by decide +kernel
theorem dX5_make_36 : decode cX5_make 36 = .ok (.getfield 14, 3) := by decide +kernel
theorem dX5_make_39 : decode cX5_make 39 = .ok (.aload_n 1, 1) := by decide +kernel
theorem dX5_make_40 : decode cX5_make 40 = .ok (.invokevirtual 55, 3) := by decide +kernel
theorem dX5_make_43 : decode cX5_make 43 = .ok (.aload_n 0, 1) := by decide +kernel
theorem dX5_make_44 : decode cX5_make 44 = .ok (.aload_n 1, 1) := by decide +kernel
theorem dX5_make_45 : decode cX5_make 45 = .ok (.getfield 58, 3) := by decide +kernel
theorem dX5_make_48 : decode cX5_make 48 = .ok (.putfield 61, 3) := by decide +kernel
theorem dX5_make_51 : decode cX5_make 51 = .ok (.aload_n 0, 1) := by decide +kernel
theorem dX5_make_52 : decode cX5_make 52 = .ok (.aload_n 0, 1) := by decide +kernel
theorem dX5_make_53 : decode cX5_make 53 = .ok (.getfield 14, 3) := by decide +kernel
theorem dX5_make_56 : decode cX5_make 56 = .ok (.getfield 62, 3) := by decide +kernel
theorem dX5_make_59 : decode cX5_make 59 = .ok (.iconst 1, 1) := by decide +kernel
theorem dX5_make_60 : decode cX5_make 60 = .ok (.isub, 1) := by decide +kernel
theorem dX5_make_61 : decode cX5_make 61 = .ok (.putfield 65, 3) := by decide +kernel
theorem dX5_make_64 : decode cX5_make 64 = .ok (.iconst 0, 1) := by decide +kernel
theorem dX5_make_65 : decode cX5_make 65 = .ok (.istore_n 2, 1) := by decide +kernel
theorem dX5_make_66 : decode cX5_make 66 = .ok (.iload_n 2, 1) := by decide +kernel
theorem dX5_make_67 : decode cX5_make 67 = .ok (.aload_n 0, 1) := by decide +kernel
theorem dX5_make_68 : decode cX5_make 68 = .ok (.getfield 65, 3) := by decide +kernel
theorem dX5_make_71 : decode cX5_make 71 = .ok (.if_icmp .ge 52, 3) := by decide +kernel
theorem dX5_make_74 : decode cX5_make 74 = .ok (.aload_n 0, 1) := by decide +kernel
theorem dX5_make_75 : decode cX5_make 75 = .ok (.getfield 20, 3) := by decide +kernel
theorem dX5_make_78 : decode cX5_make 78 = .ok (.iload_n 2, 1) := by decide +kernel
theorem dX5_make_79 : decode cX5_make 79 = .ok (.aload_n 1, 1) := by decide +kernel
theorem dX5_make_80 : decode cX5_make 80 = .ok (.aload_n 0, 1) := by decide +kernel
theorem dX5_make_81 : decode cX5_make 81 = .ok (.getfield 14, 3) := by decide +kernel
theorem dX5_make_84 : decode cX5_make 84 = .ok (.getfield 66, 3) := by decide +kernel
theorem dX5_make_87 : decode cX5_make 87 = .ok (.iload_n 2, 1) := by decide +kernel
theorem dX5_make_88 : decode cX5_make 88 = .ok (.iaload, 1) := by decide +kernel
theorem dX5_make_89 : decode cX5_make 89 = .ok (.aload_n 1, 1) := by decide +kernel
theorem dX5_make_90 : decode cX5_make 90 = .ok (.getfield 69, 3) := by decide +kernel
theorem dX5_make_93 : decode cX5_make 93 = .ok (.invokevirtual 72, 3) := by decide +kernel
theorem dX5_make_96 : decode cX5_make 96 = .ok (.iastore, 1) := by decide +kernel
theorem dX5_make_97 : decode cX5_make 97 = .ok (.aload_n 0, 1) := by decide +kernel
theorem dX5_make_98 : decode cX5_make 98 = .ok (.getfield 24, 3) := by decide +kernel
theorem dX5_make_101 : decode cX5_make 101 = .ok (.iload_n 2, 1) := by decide +kernel
theorem dX5_make_102 : decode cX5_make 102 = .ok (.aload_n 1, 1) := by decide +kernel
theorem dX5_make_103 : decode cX5_make 103 = .ok (.aload_n 0, 1) := by decide +kernel
theorem dX5_make_104 : decode cX5_make 104 = .ok (.getfield 14, 3) := by decide +kernel
theorem dX5_make_107 : decode cX5_make 107 = .ok (.getfield 66, 3) := by decide +kernel
theorem dX5_make_110 : decode cX5_make 110 = .ok (.iload_n 2, 1) := by decide +kernel
theorem dX5_make_111 : decode cX5_make 111 = .ok (.iaload, 1) := by decide +kernel
theorem dX5_make_112 : decode cX5_make 112 = .ok (.iconst (-1), 1) := by decide +kernel
theorem dX5_make_113 : decode cX5_make 113 = .ok (.invokevirtual 76, 3) := by decide +kernel
theorem dX5_make_116 : decode cX5_make 116 = .ok (.iastore, 1) := by decide +kernel
theorem dX5_make_117 : decode cX5_make 117 = .ok (.iinc 2 1, 3) := by decide +kernel
theorem dX5_make_120 : decode cX5_make 120 = .ok (.goto (-54), 3) := by decide +kernel
theorem dX5_make_123 : decode cX5_make 123 = .ok (.aload_n 0, 1) := by decide +kernel
theorem dX5_make_124 : decode cX5_make 124 = .ok (.invokevirtual 79, 3) := by decide +kernel
theorem dX5_make_127 : decode cX5_make 127 = .ok (.return_, 1) := by decide +kernel
theorem dX5_startOf_0 : decode cX5_startOf 0 = .ok (.aload_n 0, 1) := by decide +kernel
theorem dX5_startOf_1 : decode cX5_startOf 1 = .ok (.getfield 14, 3) := by decide +kernel
theorem dX5_startOf_4 : decode cX5_startOf 4 = .ok (.getfield 66, 3) := by decide +kernel
theorem dX5_startOf_7 : decode cX5_startOf 7 = .ok (.iload_n 1, 1) := by decide +kernel
theorem dX5_startOf_8 : decode cX5_startOf 8 = .ok (.iaload, 1) := by decide +kernel
theorem dX5_startOf_9 : decode cX5_startOf 9 = .ok (.ireturn, 1) := by decide +kernel
theorem dX5_lengthOf_0 : decode cX5_lengthOf 0 = .ok (.aload_n 0, 1) := by decide +kernel
theorem dX5_lengthOf_1 : decode cX5_lengthOf 1 = .ok (.getfield 14, 3) := by decide +kernel
theorem dX5_lengthOf_4 : decode cX5_lengthOf 4 = .ok (.getfield 66, 3) := by decide +kernel
theorem dX5_lengthOf_7 : decode cX5_lengthOf 7 = .ok (.iload_n 1, 1) := by decide +kernel
theorem dX5_lengthOf_8 : decode cX5_lengthOf 8 = .ok (.iconst 1, 1) := by decide +kernel
theorem dX5_lengthOf_9 : decode cX5_lengthOf 9 = .ok (.iadd, 1) := by decide +kernel
theorem dX5_lengthOf_10 : decode cX5_lengthOf 10 = .ok (.iaload, 1) := by decide +kernel
theorem dX5_lengthOf_11 : decode cX5_lengthOf 11 = .ok (.aload_n 0, 1) := by decide +kernel
theorem dX5_lengthOf_12 : decode cX5_lengthOf 12 = .ok (.getfield 14, 3) := by decide +kernel
theorem dX5_lengthOf_15 : decode cX5_lengthOf 15 = .ok (.getfield 66, 3) := by decide +kernel
theorem dX5_lengthOf_18 : decode cX5_lengthOf 18 = .ok (.iload_n 1, 1) := by decide +kernel
theorem dX5_lengthOf_19 : decode cX5_lengthOf 19 = .ok (.iaload, 1) := by decide +kernel
theorem dX5_lengthOf_20 : decode cX5_lengthOf 20 = .ok (.isub, 1) := by decide +kernel
theorem dX5_lengthOf_21 : decode cX5_lengthOf 21 = .ok (.ireturn, 1) := by decide +kernel
theorem dX5_pieceFrom_0 : decode cX5_pieceFrom 0 = .ok (.iload_n 1, 1) := by decide +kernel
theorem dX5_pieceFrom_1 : decode cX5_pieceFrom 1 = .ok (.istore_n 3, 1) := by decide +kernel
theorem dX5_pieceFrom_2 : decode cX5_pieceFrom 2 = .ok (.iload_n 3, 1) := by decide +kernel
theorem dX5_pieceFrom_3 : decode cX5_pieceFrom 3 = .ok (.iconst 1, 1) := by decide +kernel
theorem dX5_pieceFrom_4 : decode cX5_pieceFrom 4 = .ok (.iadd, 1) := by decide +kernel
theorem dX5_pieceFrom_5 : decode cX5_pieceFrom 5 = .ok (.aload_n 0, 1) := by decide +kernel
theorem dX5_pieceFrom_6 : decode cX5_pieceFrom 6 = .ok (.getfield 65, 3) := by decide +kernel
theorem dX5_pieceFrom_9 : decode cX5_pieceFrom 9 = .ok (.if_icmp .ge 24, 3) := by decide +kernel
theorem dX5_pieceFrom_12 : decode cX5_pieceFrom 12 = .ok (.aload_n 0, 1) := by decide +kernel
theorem dX5_pieceFrom_13 : decode cX5_pieceFrom 13 = .ok (.getfield 14, 3) := by decide +kernel
theorem dX5_pieceFrom_16 : decode cX5_pieceFrom 16 = .ok (.getfield 66, 3) := by decide +kernel
theorem dX5_pieceFrom_19 : decode cX5_pieceFrom 19 = .ok (.iload_n 3, 1) := by decide +kernel
theorem dX5_pieceFrom_20 : decode cX5_pieceFrom 20 = .ok (.iconst 1, 1) := by decide +kernel
theorem dX5_pieceFrom_21 : decode cX5_pieceFrom 21 = .ok (.iadd, 1) := by decide +kernel
theorem dX5_pieceFrom_22 : decode cX5_pieceFrom 22 = .ok (.iaload, 1) := by decide +kernel
theorem dX5_pieceFrom_23 : decode cX5_pieceFrom 23 = .ok (.iload_n 2, 1) := by decide +kernel
theorem dX5_pieceFrom_24 : decode cX5_pieceFrom 24 = .ok (.if_icmp .gt 9, 3) := by decide +kernel
theorem dX5_pieceFrom_27 : decode cX5_pieceFrom 27 = .ok (.iinc 3 1, 3) := by decide +kernel
theorem dX5_pieceFrom_30 : decode cX5_pieceFrom 30 = .ok (.goto (-28), 3) := by decide +kernel
theorem dX5_pieceFrom_33 : decode cX5_pieceFrom 33 = .ok (.iload_n 3, 1) := by decide +kernel
theorem dX5_pieceFrom_34 : decode cX5_pieceFrom 34 = .ok (.ireturn, 1) := by decide +kernel
theorem dX5_wrongOnes_0 : decode cX5_wrongOnes 0 = .ok (.iconst 0, 1) := by decide +kernel
theorem dX5_wrongOnes_1 : decode cX5_wrongOnes 1 = .ok (.istore_n 3, 1) := by decide +kernel
theorem dX5_wrongOnes_2 : decode cX5_wrongOnes 2 = .ok (.iconst 0, 1) := by decide +kernel
theorem dX5_wrongOnes_3 : decode cX5_wrongOnes 3 = .ok (.istore 4, 2) := by decide +kernel
theorem dX5_wrongOnes_5 : decode cX5_wrongOnes 5 = .ok (.iload 4, 2) := by decide +kernel
theorem dX5_wrongOnes_7 : decode cX5_wrongOnes 7 = .ok (.aload_n 0, 1) := by decide +kernel
theorem dX5_wrongOnes_8 : decode cX5_wrongOnes 8 = .ok (.getfield 65, 3) := by decide +kernel
theorem dX5_wrongOnes_11 : decode cX5_wrongOnes 11 = .ok (.if_icmp .ge 63, 3) := by decide +kernel
theorem dX5_wrongOnes_14 : decode cX5_wrongOnes 14 = .ok (.aload_n 0, 1) := by decide +kernel
theorem dX5_wrongOnes_15 : decode cX5_wrongOnes 15 = .ok (.getfield 14, 3) := by decide +kernel
theorem dX5_wrongOnes_18 : decode cX5_wrongOnes 18 = .ok (.getfield 66, 3) := by decide +kernel
theorem dX5_wrongOnes_21 : decode cX5_wrongOnes 21 = .ok (.iload 4, 2) := by decide +kernel
theorem dX5_wrongOnes_23 : decode cX5_wrongOnes 23 = .ok (.iaload, 1) := by decide +kernel
theorem dX5_wrongOnes_24 : decode cX5_wrongOnes 24 = .ok (.iload_n 1, 1) := by decide +kernel
theorem dX5_wrongOnes_25 : decode cX5_wrongOnes 25 = .ok (.if_icmp .lt 43, 3) := by decide +kernel
theorem dX5_wrongOnes_28 : decode cX5_wrongOnes 28 = .ok (.aload_n 0, 1) := by decide +kernel
theorem dX5_wrongOnes_29 : decode cX5_wrongOnes 29 = .ok (.getfield 14, 3) := by decide +kernel
theorem dX5_wrongOnes_32 : decode cX5_wrongOnes 32 = .ok (.getfield 66, 3) := by decide +kernel
theorem dX5_wrongOnes_35 : decode cX5_wrongOnes 35 = .ok (.iload 4, 2) := by decide +kernel
theorem dX5_wrongOnes_37 : decode cX5_wrongOnes 37 = .ok (.iaload, 1) := by decide +kernel
theorem dX5_wrongOnes_38 : decode cX5_wrongOnes 38 = .ok (.iload_n 2, 1) := by decide +kernel
theorem dX5_wrongOnes_39 : decode cX5_wrongOnes 39 = .ok (.if_icmp .ge 29, 3) := by decide +kernel
theorem dX5_wrongOnes_42 : decode cX5_wrongOnes 42 = .ok (.aload_n 0, 1) := by decide +kernel
theorem dX5_wrongOnes_43 : decode cX5_wrongOnes 43 = .ok (.getfield 24, 3) := by decide +kernel
theorem dX5_wrongOnes_46 : decode cX5_wrongOnes 46 = .ok (.iload 4, 2) := by decide +kernel
theorem dX5_wrongOnes_48 : decode cX5_wrongOnes 48 = .ok (.iaload, 1) := by decide +kernel
theorem dX5_wrongOnes_49 : decode cX5_wrongOnes 49 = .ok (.aload_n 0, 1) := by decide +kernel
theorem dX5_wrongOnes_50 : decode cX5_wrongOnes 50 = .ok (.getfield 20, 3) := by decide +kernel
theorem dX5_wrongOnes_53 : decode cX5_wrongOnes 53 = .ok (.iload 4, 2) := by decide +kernel
theorem dX5_wrongOnes_55 : decode cX5_wrongOnes 55 = .ok (.iaload, 1) := by decide +kernel
theorem dX5_wrongOnes_56 : decode cX5_wrongOnes 56 = .ok (.if_icmp .eq 12, 3) := by decide +kernel
theorem dX5_wrongOnes_59 : decode cX5_wrongOnes 59 = .ok (.iload_n 3, 1) := by decide +kernel
theorem dX5_wrongOnes_60 : decode cX5_wrongOnes 60 = .ok (.aload_n 0, 1) := by decide +kernel
theorem dX5_wrongOnes_61 : decode cX5_wrongOnes 61 = .ok (.iload 4, 2) := by decide +kernel
theorem dX5_wrongOnes_63 : decode cX5_wrongOnes 63 = .ok (.invokevirtual 85, 3) := by decide +kernel
theorem dX5_wrongOnes_66 : decode cX5_wrongOnes 66 = .ok (.iadd, 1) := by decide +kernel
theorem dX5_wrongOnes_67 : decode cX5_wrongOnes 67 = .ok (.istore_n 3, 1) := by decide +kernel
theorem dX5_wrongOnes_68 : decode cX5_wrongOnes 68 = .ok (.iinc 4 1, 3) := by decide +kernel
theorem dX5_wrongOnes_71 : decode cX5_wrongOnes 71 = .ok (.goto (-66), 3) := by decide +kernel
theorem dX5_wrongOnes_74 : decode cX5_wrongOnes 74 = .ok (.iload_n 3, 1) := by decide +kernel
theorem dX5_wrongOnes_75 : decode cX5_wrongOnes 75 = .ok (.ireturn, 1) := by decide +kernel
theorem dX5_firstWrong_0 : decode cX5_firstWrong 0 = .ok (.iconst 0, 1) := by decide +kernel
theorem dX5_firstWrong_1 : decode cX5_firstWrong 1 = .ok (.istore_n 2, 1) := by decide +kernel
theorem dX5_firstWrong_2 : decode cX5_firstWrong 2 = .ok (.iload_n 2, 1) := by decide +kernel
theorem dX5_firstWrong_3 : decode cX5_firstWrong 3 = .ok (.aload_n 0, 1) := by decide +kernel
theorem dX5_firstWrong_4 : decode cX5_firstWrong 4 = .ok (.getfield 65, 3) := by decide +kernel
theorem dX5_firstWrong_7 : decode cX5_firstWrong 7 = .ok (.if_icmp .ge 47, 3) := by decide +kernel
theorem dX5_firstWrong_10 : decode cX5_firstWrong 10 = .ok (.aload_n 0, 1) := by decide +kernel
theorem dX5_firstWrong_11 : decode cX5_firstWrong 11 = .ok (.getfield 14, 3) := by decide +kernel
theorem dX5_firstWrong_14 : decode cX5_firstWrong 14 = .ok (.getfield 66, 3) := by decide +kernel
theorem dX5_firstWrong_17 : decode cX5_firstWrong 17 = .ok (.iload_n 2, 1) := by decide +kernel
theorem dX5_firstWrong_18 : decode cX5_firstWrong 18 = .ok (.iaload, 1) := by decide +kernel
theorem dX5_firstWrong_19 : decode cX5_firstWrong 19 = .ok (.iload_n 1, 1) := by decide +kernel
theorem dX5_firstWrong_20 : decode cX5_firstWrong 20 = .ok (.if_icmp .lt 28, 3) := by decide +kernel
theorem dX5_firstWrong_23 : decode cX5_firstWrong 23 = .ok (.aload_n 0, 1) := by decide +kernel
theorem dX5_firstWrong_24 : decode cX5_firstWrong 24 = .ok (.getfield 24, 3) := by decide +kernel
theorem dX5_firstWrong_27 : decode cX5_firstWrong 27 = .ok (.iload_n 2, 1) := by decide +kernel
theorem dX5_firstWrong_28 : decode cX5_firstWrong 28 = .ok (.iaload, 1) := by decide +kernel
theorem dX5_firstWrong_29 : decode cX5_firstWrong 29 = .ok (.aload_n 0, 1) := by decide +kernel
theorem dX5_firstWrong_30 : decode cX5_firstWrong 30 = .ok (.getfield 20, 3) := by decide +kernel
theorem dX5_firstWrong_33 : decode cX5_firstWrong 33 = .ok (.iload_n 2, 1) := by decide +kernel
theorem dX5_firstWrong_34 : decode cX5_firstWrong 34 = .ok (.iaload, 1) := by decide +kernel
theorem dX5_firstWrong_35 : decode cX5_firstWrong 35 = .ok (.if_icmp .eq 13, 3) := by decide +kernel
theorem dX5_firstWrong_38 : decode cX5_firstWrong 38 = .ok (.aload_n 0, 1) := by decide +kernel
theorem dX5_firstWrong_39 : decode cX5_firstWrong 39 = .ok (.getfield 14, 3) := by decide +kernel
theorem dX5_firstWrong_42 : decode cX5_firstWrong 42 = .ok (.getfield 66, 3) := by decide +kernel
theorem dX5_firstWrong_45 : decode cX5_firstWrong 45 = .ok (.iload_n 2, 1) := by decide +kernel
theorem dX5_firstWrong_46 : decode cX5_firstWrong 46 = .ok (.iaload, 1) := by decide +kernel
theorem dX5_firstWrong_47 : decode cX5_firstWrong 47 = .ok (.ireturn, 1) := by decide +kernel
theorem dX5_firstWrong_48 : decode cX5_firstWrong 48 = .ok (.iinc 2 1, 3) := by decide +kernel
theorem dX5_firstWrong_51 : decode cX5_firstWrong 51 = .ok (.goto (-49), 3) := by decide +kernel
theorem dX5_firstWrong_54 : decode cX5_firstWrong 54 = .ok (.iconst (-1), 1) := by decide +kernel
theorem dX5_firstWrong_55 : decode cX5_firstWrong 55 = .ok (.ireturn, 1) := by decide +kernel
theorem dX5_clashing_0 : decode cX5_clashing 0 = .ok (.iconst 0, 1) := by decide +kernel
theorem dX5_clashing_1 : decode cX5_clashing 1 = .ok (.istore_n 1, 1) := by decide +kernel
theorem dX5_clashing_2 : decode cX5_clashing 2 = .ok (.iconst 0, 1) := by decide +kernel
theorem dX5_clashing_3 : decode cX5_clashing 3 = .ok (.istore_n 2, 1) := by decide +kernel
theorem dX5_clashing_4 : decode cX5_clashing 4 = .ok (.iload_n 2, 1) := by decide +kernel
theorem dX5_clashing_5 : decode cX5_clashing 5 = .ok (.aload_n 0, 1) := by decide +kernel
theorem dX5_clashing_6 : decode cX5_clashing 6 = .ok (.getfield 65, 3) := by decide +kernel
theorem dX5_clashing_9 : decode cX5_clashing 9 = .ok (.if_icmp .ge 31, 3) := by decide +kernel
theorem dX5_clashing_12 : decode cX5_clashing 12 = .ok (.iload_n 1, 1) := by decide +kernel
theorem dX5_clashing_13 : decode cX5_clashing 13 = .ok (.aload_n 0, 1) := by decide +kernel
theorem dX5_clashing_14 : decode cX5_clashing 14 = .ok (.getfield 24, 3) := by decide +kernel
theorem dX5_clashing_17 : decode cX5_clashing 17 = .ok (.iload_n 2, 1) := by decide +kernel
theorem dX5_clashing_18 : decode cX5_clashing 18 = .ok (.iaload, 1) := by decide +kernel
theorem dX5_clashing_19 : decode cX5_clashing 19 = .ok (.iconst 5, 1) := by decide +kernel
theorem dX5_clashing_20 : decode cX5_clashing 20 = .ok (.if_icmp .ne 11, 3) := by decide +kernel
theorem dX5_clashing_23 : decode cX5_clashing 23 = .ok (.aload_n 0, 1) := by decide +kernel
theorem dX5_clashing_24 : decode cX5_clashing 24 = .ok (.iload_n 2, 1) := by decide +kernel
theorem dX5_clashing_25 : decode cX5_clashing 25 = .ok (.invokevirtual 85, 3) := by decide +kernel
theorem dX5_clashing_28 : decode cX5_clashing 28 = .ok (.goto 4, 3) := by decide +kernel
theorem dX5_clashing_31 : decode cX5_clashing 31 = .ok (.iconst 0, 1) := by decide +kernel
theorem dX5_clashing_32 : decode cX5_clashing 32 = .ok (.iadd, 1) := by decide +kernel
theorem dX5_clashing_33 : decode cX5_clashing 33 = .ok (.istore_n 1, 1) := by decide +kernel
theorem dX5_clashing_34 : decode cX5_clashing 34 = .ok (.iinc 2 1, 3) := by decide +kernel
theorem dX5_clashing_37 : decode cX5_clashing 37 = .ok (.goto (-33), 3) := by decide +kernel
theorem dX5_clashing_40 : decode cX5_clashing 40 = .ok (.iload_n 1, 1) := by decide +kernel
theorem dX5_clashing_41 : decode cX5_clashing 41 = .ok (.ireturn, 1) := by decide +kernel
theorem dX5_mends_0 : decode cX5_mends 0 = .ok (.iload_n 1, 1) := by decide +kernel
theorem dX5_mends_1 : decode cX5_mends 1 = .ok (.istore 4, 2) := by decide +kernel
theorem dX5_mends_3 : decode cX5_mends 3 = .ok (.iload 4, 2) := by decide +kernel
theorem dX5_mends_5 : decode cX5_mends 5 = .ok (.aload_n 0, 1) := by decide +kernel
theorem dX5_mends_6 : decode cX5_mends 6 = .ok (.getfield 65, 3) := by decide +kernel
theorem dX5_mends_9 : decode cX5_mends 9 = .ok (.if_icmp .ge 68, 3) := by decide +kernel
theorem dX5_mends_12 : decode cX5_mends 12 = .ok (.aload_n 0, 1) := by decide +kernel
theorem dX5_mends_13 : decode cX5_mends 13 = .ok (.getfield 14, 3) := by decide +kernel
theorem dX5_mends_16 : decode cX5_mends 16 = .ok (.getfield 66, 3) := by decide +kernel
theorem dX5_mends_19 : decode cX5_mends 19 = .ok (.iload 4, 2) := by decide +kernel
theorem dX5_mends_21 : decode cX5_mends 21 = .ok (.iaload, 1) := by decide +kernel
theorem dX5_mends_22 : decode cX5_mends 22 = .ok (.iload_n 2, 1) := by decide +kernel
theorem dX5_mends_23 : decode cX5_mends 23 = .ok (.if_icmp .ge 54, 3) := by decide +kernel
theorem dX5_mends_26 : decode cX5_mends 26 = .ok (.aload_n 0, 1) := by decide +kernel
theorem dX5_mends_27 : decode cX5_mends 27 = .ok (.getfield 14, 3) := by decide +kernel
theorem dX5_mends_30 : decode cX5_mends 30 = .ok (.getfield 66, 3) := by decide +kernel
theorem dX5_mends_33 : decode cX5_mends 33 = .ok (.iload 4, 2) := by decide +kernel
theorem dX5_mends_35 : decode cX5_mends 35 = .ok (.iaload, 1) := by decide +kernel
theorem dX5_mends_36 : decode cX5_mends 36 = .ok (.aload_n 0, 1) := by decide +kernel
theorem dX5_mends_37 : decode cX5_mends 37 = .ok (.getfield 61, 3) := by decide +kernel
theorem dX5_mends_40 : decode cX5_mends 40 = .ok (.if_icmp .lt 31, 3) := by decide +kernel
theorem dX5_mends_43 : decode cX5_mends 43 = .ok (.getstatic 99, 3) := by decide +kernel
theorem dX5_mends_46 : decode cX5_mends 46 = .ok (.iload_n 3, 1) := by decide +kernel
theorem dX5_mends_47 : decode cX5_mends 47 = .ok (.bipush 6, 2) := by decide +kernel
theorem dX5_mends_49 : decode cX5_mends 49 = .ok (.imul, 1) := by decide +kernel
theorem dX5_mends_50 : decode cX5_mends 50 = .ok (.aload_n 0, 1) := by decide +kernel
theorem dX5_mends_51 : decode cX5_mends 51 = .ok (.getfield 24, 3) := by decide +kernel
theorem dX5_mends_54 : decode cX5_mends 54 = .ok (.iload 4, 2) := by decide +kernel
theorem dX5_mends_56 : decode cX5_mends 56 = .ok (.iaload, 1) := by decide +kernel
theorem dX5_mends_57 : decode cX5_mends 57 = .ok (.iadd, 1) := by decide +kernel
theorem dX5_mends_58 : decode cX5_mends 58 = .ok (.iaload, 1) := by decide +kernel
theorem dX5_mends_59 : decode cX5_mends 59 = .ok (.aload_n 0, 1) := by decide +kernel
theorem dX5_mends_60 : decode cX5_mends 60 = .ok (.getfield 20, 3) := by decide +kernel
theorem dX5_mends_63 : decode cX5_mends 63 = .ok (.iload 4, 2) := by decide +kernel
theorem dX5_mends_65 : decode cX5_mends 65 = .ok (.iaload, 1) := by decide +kernel
theorem dX5_mends_66 : decode cX5_mends 66 = .ok (.if_icmp .eq 5, 3) := by decide +kernel
theorem dX5_mends_69 : decode cX5_mends 69 = .ok (.iconst 0, 1) := by decide +kernel
theorem dX5_mends_70 : decode cX5_mends 70 = .ok (.ireturn, 1) := by decide +kernel
theorem dX5_mends_71 : decode cX5_mends 71 = .ok (.iinc 4 1, 3) := by decide +kernel
theorem dX5_mends_74 : decode cX5_mends 74 = .ok (.goto (-71), 3) := by decide +kernel
theorem dX5_mends_77 : decode cX5_mends 77 = .ok (.iconst 1, 1) := by decide +kernel
theorem dX5_mends_78 : decode cX5_mends 78 = .ok (.ireturn, 1) := by decide +kernel
theorem dX5_mendingKind_0 : decode cX5_mendingKind 0 = .ok (.aload_n 0, 1) := by decide +kernel
theorem dX5_mendingKind_1 : decode cX5_mendingKind 1 = .ok (.iconst 0, 1) := by decide +kernel
theorem dX5_mendingKind_2 : decode cX5_mendingKind 2 = .ok (.iload_n 1, 1) := by decide +kernel
theorem dX5_mendingKind_3 : decode cX5_mendingKind 3 = .ok (.bipush 16, 2) := by decide +kernel
theorem dX5_mendingKind_5 : decode cX5_mendingKind 5 = .ok (.imul, 1) := by decide +kernel
theorem dX5_mendingKind_6 : decode cX5_mendingKind 6 = .ok (.invokevirtual 89, 3) := by decide +kernel
theorem dX5_mendingKind_9 : decode cX5_mendingKind 9 = .ok (.istore_n 2, 1) := by decide +kernel
theorem dX5_mendingKind_10 : decode cX5_mendingKind 10 = .ok (.iconst 0, 1) := by decide +kernel
theorem dX5_mendingKind_11 : decode cX5_mendingKind 11 = .ok (.istore_n 3, 1) := by decide +kernel
theorem dX5_mendingKind_12 : decode cX5_mendingKind 12 = .ok (.iload_n 3, 1) := by decide +kernel
theorem dX5_mendingKind_13 : decode cX5_mendingKind 13 = .ok (.bipush 6, 2) := by decide +kernel
theorem dX5_mendingKind_15 : decode cX5_mendingKind 15 = .ok (.if_icmp .ge 33, 3) := by decide +kernel
theorem dX5_mendingKind_18 : decode cX5_mendingKind 18 = .ok (.aload_n 0, 1) := by decide +kernel
theorem dX5_mendingKind_19 : decode cX5_mendingKind 19 = .ok (.iload_n 2, 1) := by decide +kernel
theorem dX5_mendingKind_20 : decode cX5_mendingKind 20 = .ok (.iload_n 1, 1) := by decide +kernel
theorem dX5_mendingKind_21 : decode cX5_mendingKind 21 = .ok (.bipush 16, 2) := by decide +kernel
theorem dX5_mendingKind_23 : decode cX5_mendingKind 23 = .ok (.imul, 1) := by decide +kernel
theorem dX5_mendingKind_24 : decode cX5_mendingKind 24 = .ok (.bipush 16, 2) := by decide +kernel
theorem dX5_mendingKind_26 : decode cX5_mendingKind 26 = .ok (.iadd, 1) := by decide +kernel
theorem dX5_mendingKind_27 : decode cX5_mendingKind 27 = .ok (.iload_n 3, 1) := by decide +kernel
theorem dX5_mendingKind_28 : decode cX5_mendingKind 28 = .ok (.invokestatic 92, 3) := by decide +kernel
theorem dX5_mendingKind_31 : decode cX5_mendingKind 31 = .ok (.invokevirtual 95, 3) := by decide +kernel
theorem dX5_mendingKind_34 : decode cX5_mendingKind 34 = .ok (.ifCond .eq 8, 3) := by decide +kernel
theorem dX5_mendingKind_37 : decode cX5_mendingKind 37 = .ok (.iload_n 3, 1) := by decide +kernel
theorem dX5_mendingKind_38 : decode cX5_mendingKind 38 = .ok (.invokestatic 92, 3) := by decide +kernel
theorem dX5_mendingKind_41 : decode cX5_mendingKind 41 = .ok (.ireturn, 1) := by decide +kernel
theorem dX5_mendingKind_42 : decode cX5_mendingKind 42 = .ok (.iinc 3 1, 3) := by decide +kernel
theorem dX5_mendingKind_45 : decode cX5_mendingKind 45 = .ok (.goto (-33), 3) := by decide +kernel
theorem dX5_mendingKind_48 : decode cX5_mendingKind 48 = .ok (.iconst (-1), 1) := by decide +kernel
theorem dX5_mendingKind_49 : decode cX5_mendingKind 49 = .ok (.ireturn, 1) := by decide +kernel
theorem dX5_idleWithout_0 : decode cX5_idleWithout 0 = .ok (.aload_n 1, 1) := by decide +kernel
theorem dX5_idleWithout_1 : decode cX5_idleWithout 1 = .ok (.getfield 102, 3) := by decide +kernel
theorem dX5_idleWithout_4 : decode cX5_idleWithout 4 = .ok (.iload_n 2, 1) := by decide +kernel
theorem dX5_idleWithout_5 : decode cX5_idleWithout 5 = .ok (.iaload, 1) := by decide +kernel
theorem dX5_idleWithout_6 : decode cX5_idleWithout 6 = .ok (.aload_n 1, 1) := by decide +kernel
theorem dX5_idleWithout_7 : decode cX5_idleWithout 7 = .ok (.getfield 105, 3) := by decide +kernel
theorem dX5_idleWithout_10 : decode cX5_idleWithout 10 = .ok (.iload_n 2, 1) := by decide +kernel
theorem dX5_idleWithout_11 : decode cX5_idleWithout 11 = .ok (.iaload, 1) := by decide +kernel
theorem dX5_idleWithout_12 : decode cX5_idleWithout 12 = .ok (.iadd, 1) := by decide +kernel
theorem dX5_idleWithout_13 : decode cX5_idleWithout 13 = .ok (.istore_n 3, 1) := by decide +kernel
theorem dX5_idleWithout_14 : decode cX5_idleWithout 14 = .ok (.aload_n 0, 1) := by decide +kernel
theorem dX5_idleWithout_15 : decode cX5_idleWithout 15 = .ok (.iconst 0, 1) := by decide +kernel
theorem dX5_idleWithout_16 : decode cX5_idleWithout 16 = .ok (.aload_n 1, 1) := by decide +kernel
theorem dX5_idleWithout_17 : decode cX5_idleWithout 17 = .ok (.getfield 102, 3) := by decide +kernel
theorem dX5_idleWithout_20 : decode cX5_idleWithout 20 = .ok (.iload_n 2, 1) := by decide +kernel
theorem dX5_idleWithout_21 : decode cX5_idleWithout 21 = .ok (.iaload, 1) := by decide +kernel
theorem dX5_idleWithout_22 : decode cX5_idleWithout 22 = .ok (.invokevirtual 89, 3) := by decide +kernel
theorem dX5_idleWithout_25 : decode cX5_idleWithout 25 = .ok (.istore 4, 2) := by decide +kernel
theorem dX5_idleWithout_27 : decode cX5_idleWithout 27 = .ok (.iload 4, 2) := by decide +kernel
theorem dX5_idleWithout_29 : decode cX5_idleWithout 29 = .ok (.aload_n 0, 1) := by decide +kernel
theorem dX5_idleWithout_30 : decode cX5_idleWithout 30 = .ok (.getfield 65, 3) := by decide +kernel
theorem dX5_idleWithout_33 : decode cX5_idleWithout 33 = .ok (.if_icmp .ge 50, 3) := by decide +kernel
theorem dX5_idleWithout_36 : decode cX5_idleWithout 36 = .ok (.aload_n 0, 1) := by decide +kernel
theorem dX5_idleWithout_37 : decode cX5_idleWithout 37 = .ok (.getfield 14, 3) := by decide +kernel
theorem dX5_idleWithout_40 : decode cX5_idleWithout 40 = .ok (.getfield 66, 3) := by decide +kernel
theorem dX5_idleWithout_43 : decode cX5_idleWithout 43 = .ok (.iload 4, 2) := by decide +kernel
theorem dX5_idleWithout_45 : decode cX5_idleWithout 45 = .ok (.iaload, 1) := by decide +kernel
theorem dX5_idleWithout_46 : decode cX5_idleWithout 46 = .ok (.iload_n 3, 1) := by decide +kernel
theorem dX5_idleWithout_47 : decode cX5_idleWithout 47 = .ok (.if_icmp .ge 36, 3) := by decide +kernel
theorem dX5_idleWithout_50 : decode cX5_idleWithout 50 = .ok (.aload_n 1, 1) := by decide +kernel
theorem dX5_idleWithout_51 : decode cX5_idleWithout 51 = .ok (.aload_n 0, 1) := by decide +kernel
theorem dX5_idleWithout_52 : decode cX5_idleWithout 52 = .ok (.getfield 14, 3) := by decide +kernel
theorem dX5_idleWithout_55 : decode cX5_idleWithout 55 = .ok (.getfield 66, 3) := by decide +kernel
theorem dX5_idleWithout_58 : decode cX5_idleWithout 58 = .ok (.iload 4, 2) := by decide +kernel
theorem dX5_idleWithout_60 : decode cX5_idleWithout 60 = .ok (.iaload, 1) := by decide +kernel
theorem dX5_idleWithout_61 : decode cX5_idleWithout 61 = .ok (.iload_n 2, 1) := by decide +kernel
theorem dX5_idleWithout_62 : decode cX5_idleWithout 62 = .ok (.invokevirtual 76, 3) := by decide +kernel
theorem dX5_idleWithout_65 : decode cX5_idleWithout 65 = .ok (.aload_n 0, 1) := by decide +kernel
theorem dX5_idleWithout_66 : decode cX5_idleWithout 66 = .ok (.getfield 24, 3) := by decide +kernel
theorem dX5_idleWithout_69 : decode cX5_idleWithout 69 = .ok (.iload 4, 2) := by decide +kernel
theorem dX5_idleWithout_71 : decode cX5_idleWithout 71 = .ok (.iaload, 1) := by decide +kernel
theorem dX5_idleWithout_72 : decode cX5_idleWithout 72 = .ok (.if_icmp .eq 5, 3) := by decide +kernel
theorem dX5_idleWithout_75 : decode cX5_idleWithout 75 = .ok (.iconst 0, 1) := by decide +kernel
theorem dX5_idleWithout_76 : decode cX5_idleWithout 76 = .ok (.ireturn, 1) := by decide +kernel
theorem dX5_idleWithout_77 : decode cX5_idleWithout 77 = .ok (.iinc 4 1, 3) := by decide +kernel
theorem dX5_idleWithout_80 : decode cX5_idleWithout 80 = .ok (.goto (-53), 3) := by decide +kernel
theorem dX5_idleWithout_83 : decode cX5_idleWithout 83 = .ok (.iconst 1, 1) := by decide +kernel
theorem dX5_idleWithout_84 : decode cX5_idleWithout 84 = .ok (.ireturn, 1) := by decide +kernel
theorem dX5_gained_0 : decode cX5_gained 0 = .ok (.iload_n 2, 1) := by decide +kernel
theorem dX5_gained_1 : decode cX5_gained 1 = .ok (.aload_n 0, 1) := by decide +kernel
theorem dX5_gained_2 : decode cX5_gained 2 = .ok (.getfield 20, 3) := by decide +kernel
theorem dX5_gained_5 : decode cX5_gained 5 = .ok (.iload_n 1, 1) := by decide +kernel
theorem dX5_gained_6 : decode cX5_gained 6 = .ok (.iaload, 1) := by decide +kernel
theorem dX5_gained_7 : decode cX5_gained 7 = .ok (.if_icmp .ne 7, 3) := by decide +kernel
theorem dX5_gained_10 : decode cX5_gained 10 = .ok (.iconst 1, 1) := by decide +kernel
theorem dX5_gained_11 : decode cX5_gained 11 = .ok (.goto 4, 3) := by decide +kernel
theorem dX5_gained_14 : decode cX5_gained 14 = .ok (.iconst 0, 1) := by decide +kernel
theorem dX5_gained_15 : decode cX5_gained 15 = .ok (.aload_n 0, 1) := by decide +kernel
theorem dX5_gained_16 : decode cX5_gained 16 = .ok (.getfield 24, 3) := by decide +kernel
theorem dX5_gained_19 : decode cX5_gained 19 = .ok (.iload_n 1, 1) := by decide +kernel
theorem dX5_gained_20 : decode cX5_gained 20 = .ok (.iaload, 1) := by decide +kernel
theorem dX5_gained_21 : decode cX5_gained 21 = .ok (.aload_n 0, 1) := by decide +kernel
theorem dX5_gained_22 : decode cX5_gained 22 = .ok (.getfield 20, 3) := by decide +kernel
theorem dX5_gained_25 : decode cX5_gained 25 = .ok (.iload_n 1, 1) := by decide +kernel
theorem dX5_gained_26 : decode cX5_gained 26 = .ok (.iaload, 1) := by decide +kernel
theorem dX5_gained_27 : decode cX5_gained 27 = .ok (.if_icmp .ne 7, 3) := by decide +kernel
theorem dX5_gained_30 : decode cX5_gained 30 = .ok (.iconst 1, 1) := by decide +kernel
theorem dX5_gained_31 : decode cX5_gained 31 = .ok (.goto 4, 3) := by decide +kernel
theorem dX5_gained_34 : decode cX5_gained 34 = .ok (.iconst 0, 1) := by decide +kernel
theorem dX5_gained_35 : decode cX5_gained 35 = .ok (.isub, 1) := by decide +kernel
theorem dX5_gained_36 : decode cX5_gained 36 = .ok (.ireturn, 1) := by decide +kernel
theorem dX5_gainWithout_0 : decode cX5_gainWithout 0 = .ok (.aload_n 1, 1) := by decide +kernel
theorem dX5_gainWithout_1 : decode cX5_gainWithout 1 = .ok (.getfield 102, 3) := by decide +kernel
theorem dX5_gainWithout_4 : decode cX5_gainWithout 4 = .ok (.iload_n 2, 1) := by decide +kernel
theorem dX5_gainWithout_5 : decode cX5_gainWithout 5 = .ok (.iaload, 1) := by decide +kernel
theorem dX5_gainWithout_6 : decode cX5_gainWithout 6 = .ok (.aload_n 1, 1) := by decide +kernel
theorem dX5_gainWithout_7 : decode cX5_gainWithout 7 = .ok (.getfield 105, 3) := by decide +kernel
theorem dX5_gainWithout_10 : decode cX5_gainWithout 10 = .ok (.iload_n 2, 1) := by decide +kernel
theorem dX5_gainWithout_11 : decode cX5_gainWithout 11 = .ok (.iaload, 1) := by decide +kernel
theorem dX5_gainWithout_12 : decode cX5_gainWithout 12 = .ok (.iadd, 1) := by decide +kernel
theorem dX5_gainWithout_13 : decode cX5_gainWithout 13 = .ok (.istore_n 3, 1) := by decide +kernel
theorem dX5_gainWithout_14 : decode cX5_gainWithout 14 = .ok (.iconst 0, 1) := by decide +kernel
theorem dX5_gainWithout_15 : decode cX5_gainWithout 15 = .ok (.istore 4, 2) := by decide +kernel
theorem dX5_gainWithout_17 : decode cX5_gainWithout 17 = .ok (.aload_n 0, 1) := by decide +kernel
theorem dX5_gainWithout_18 : decode cX5_gainWithout 18 = .ok (.iconst 0, 1) := by decide +kernel
theorem dX5_gainWithout_19 : decode cX5_gainWithout 19 = .ok (.aload_n 1, 1) := by decide +kernel
theorem dX5_gainWithout_20 : decode cX5_gainWithout 20 = .ok (.getfield 102, 3) := by decide +kernel
theorem dX5_gainWithout_23 : decode cX5_gainWithout 23 = .ok (.iload_n 2, 1) := by decide +kernel
theorem dX5_gainWithout_24 : decode cX5_gainWithout 24 = .ok (.iaload, 1) := by decide +kernel
theorem dX5_gainWithout_25 : decode cX5_gainWithout 25 = .ok (.invokevirtual 89, 3) := by decide +kernel
theorem dX5_gainWithout_28 : decode cX5_gainWithout 28 = .ok (.istore 5, 2) := by decide +kernel
theorem dX5_gainWithout_30 : decode cX5_gainWithout 30 = .ok (.iload 5, 2) := by decide +kernel
theorem dX5_gainWithout_32 : decode cX5_gainWithout 32 = .ok (.aload_n 0, 1) := by decide +kernel
theorem dX5_gainWithout_33 : decode cX5_gainWithout 33 = .ok (.getfield 65, 3) := by decide +kernel
theorem dX5_gainWithout_36 : decode cX5_gainWithout 36 = .ok (.if_icmp .ge 56, 3) := by decide +kernel
theorem dX5_gainWithout_39 : decode cX5_gainWithout 39 = .ok (.aload_n 0, 1) := by decide +kernel
theorem dX5_gainWithout_40 : decode cX5_gainWithout 40 = .ok (.getfield 14, 3) := by decide +kernel
theorem dX5_gainWithout_43 : decode cX5_gainWithout 43 = .ok (.getfield 66, 3) := by decide +kernel
theorem dX5_gainWithout_46 : decode cX5_gainWithout 46 = .ok (.iload 5, 2) := by decide +kernel
theorem dX5_gainWithout_48 : decode cX5_gainWithout 48 = .ok (.iaload, 1) := by decide +kernel
theorem dX5_gainWithout_49 : decode cX5_gainWithout 49 = .ok (.iload_n 3, 1) := by decide +kernel
theorem dX5_gainWithout_50 : decode cX5_gainWithout 50 = .ok (.if_icmp .ge 42, 3) := by decide +kernel
theorem dX5_gainWithout_53 : decode cX5_gainWithout 53 = .ok (.iload 4, 2) := by decide +kernel
theorem dX5_gainWithout_55 : decode cX5_gainWithout 55 = .ok (.aload_n 0, 1) := by decide +kernel
theorem dX5_gainWithout_56 : decode cX5_gainWithout 56 = .ok (.iload 5, 2) := by decide +kernel
theorem dX5_gainWithout_58 : decode cX5_gainWithout 58 = .ok (.aload_n 1, 1) := by decide +kernel
theorem dX5_gainWithout_59 : decode cX5_gainWithout 59 = .ok (.aload_n 0, 1) := by decide +kernel
theorem dX5_gainWithout_60 : decode cX5_gainWithout 60 = .ok (.getfield 14, 3) := by decide +kernel
theorem dX5_gainWithout_63 : decode cX5_gainWithout 63 = .ok (.getfield 66, 3) := by decide +kernel
theorem dX5_gainWithout_66 : decode cX5_gainWithout 66 = .ok (.iload 5, 2) := by decide +kernel
theorem dX5_gainWithout_68 : decode cX5_gainWithout 68 = .ok (.iaload, 1) := by decide +kernel
theorem dX5_gainWithout_69 : decode cX5_gainWithout 69 = .ok (.iload_n 2, 1) := by decide +kernel
theorem dX5_gainWithout_70 : decode cX5_gainWithout 70 = .ok (.invokevirtual 76, 3) := by decide +kernel
theorem dX5_gainWithout_73 : decode cX5_gainWithout 73 = .ok (.invokevirtual 108, 3) := by decide +kernel
theorem dX5_gainWithout_76 : decode cX5_gainWithout 76 = .ok (.aload_n 0, 1) := by decide +kernel
theorem dX5_gainWithout_77 : decode cX5_gainWithout 77 = .ok (.iload 5, 2) := by decide +kernel
theorem dX5_gainWithout_79 : decode cX5_gainWithout 79 = .ok (.invokevirtual 85, 3) := by decide +kernel
theorem dX5_gainWithout_82 : decode cX5_gainWithout 82 = .ok (.imul, 1) := by decide +kernel
theorem dX5_gainWithout_83 : decode cX5_gainWithout 83 = .ok (.iadd, 1) := by decide +kernel
theorem dX5_gainWithout_84 : decode cX5_gainWithout 84 = .ok (.istore 4, 2) := by decide +kernel
theorem dX5_gainWithout_86 : decode cX5_gainWithout 86 = .ok (.iinc 5 1, 3) := by decide +kernel
theorem dX5_gainWithout_89 : decode cX5_gainWithout 89 = .ok (.goto (-59), 3) := by decide +kernel
theorem dX5_gainWithout_92 : decode cX5_gainWithout 92 = .ok (.iload 4, 2) := by decide +kernel
theorem dX5_gainWithout_94 : decode cX5_gainWithout 94 = .ok (.ireturn, 1) := by decide +kernel
theorem dX5_weighBesides_0 : decode cX5_weighBesides 0 = .ok (.iconst 0, 1) := by decide +kernel
theorem dX5_weighBesides_1 : decode cX5_weighBesides 1 = .ok (.istore_n 3, 1) := by decide +kernel
theorem dX5_weighBesides_2 : decode cX5_weighBesides 2 = .ok (.iload_n 3, 1) := by decide +kernel
theorem dX5_weighBesides_3 : decode cX5_weighBesides 3 = .ok (.aload_n 0, 1) := by decide +kernel
theorem dX5_weighBesides_4 : decode cX5_weighBesides 4 = .ok (.getfield 65, 3) := by decide +kernel
theorem dX5_weighBesides_7 : decode cX5_weighBesides 7 = .ok (.if_icmp .ge 69, 3) := by decide +kernel
theorem dX5_weighBesides_10 : decode cX5_weighBesides 10 = .ok (.aload_n 1, 1) := by decide +kernel
theorem dX5_weighBesides_11 : decode cX5_weighBesides 11 = .ok (.aload_n 0, 1) := by decide +kernel
theorem dX5_weighBesides_12 : decode cX5_weighBesides 12 = .ok (.getfield 14, 3) := by decide +kernel
theorem dX5_weighBesides_15 : decode cX5_weighBesides 15 = .ok (.getfield 66, 3) := by decide +kernel
theorem dX5_weighBesides_18 : decode cX5_weighBesides 18 = .ok (.iload_n 3, 1) := by decide +kernel
theorem dX5_weighBesides_19 : decode cX5_weighBesides 19 = .ok (.iaload, 1) := by decide +kernel
theorem dX5_weighBesides_20 : decode cX5_weighBesides 20 = .ok (.iconst (-1), 1) := by decide +kernel
theorem dX5_weighBesides_21 : decode cX5_weighBesides 21 = .ok (.invokevirtual 111, 3) := by decide +kernel
theorem dX5_weighBesides_24 : decode cX5_weighBesides 24 = .ok (.iconst 1, 1) := by decide +kernel
theorem dX5_weighBesides_25 : decode cX5_weighBesides 25 = .ok (.iload_n 2, 1) := by decide +kernel
theorem dX5_weighBesides_26 : decode cX5_weighBesides 26 = .ok (.ishl, 1) := by decide +kernel
theorem dX5_weighBesides_27 : decode cX5_weighBesides 27 = .ok (.ior, 1) := by decide +kernel
theorem dX5_weighBesides_28 : decode cX5_weighBesides 28 = .ok (.istore 4, 2) := by decide +kernel
theorem dX5_weighBesides_30 : decode cX5_weighBesides 30 = .ok (.aload_n 0, 1) := by decide +kernel
theorem dX5_weighBesides_31 : decode cX5_weighBesides 31 = .ok (.getfield 27, 3) := by decide +kernel
theorem dX5_weighBesides_34 : decode cX5_weighBesides 34 = .ok (.iload_n 3, 1) := by decide +kernel
theorem dX5_weighBesides_35 : decode cX5_weighBesides 35 = .ok (.aload_n 0, 1) := by decide +kernel
theorem dX5_weighBesides_36 : decode cX5_weighBesides 36 = .ok (.getfield 14, 3) := by decide +kernel
theorem dX5_weighBesides_39 : decode cX5_weighBesides 39 = .ok (.getfield 66, 3) := by decide +kernel
theorem dX5_weighBesides_42 : decode cX5_weighBesides 42 = .ok (.iload_n 3, 1) := by decide +kernel
theorem dX5_weighBesides_43 : decode cX5_weighBesides 43 = .ok (.iaload, 1) := by decide +kernel
theorem dX5_weighBesides_44 : decode cX5_weighBesides 44 = .ok (.aload_n 0, 1) := by decide +kernel
theorem dX5_weighBesides_45 : decode cX5_weighBesides 45 = .ok (.getfield 61, 3) := by decide +kernel
theorem dX5_weighBesides_48 : decode cX5_weighBesides 48 = .ok (.if_icmp .ge 7, 3) := by decide +kernel
theorem dX5_weighBesides_51 : decode cX5_weighBesides 51 = .ok (.iconst 0, 1) := by decide +kernel
theorem dX5_weighBesides_52 : decode cX5_weighBesides 52 = .ok (.goto 17, 3) := by decide +kernel
theorem dX5_weighBesides_55 : decode cX5_weighBesides 55 = .ok (.aload_n 0, 1) := by decide +kernel
theorem dX5_weighBesides_56 : decode cX5_weighBesides 56 = .ok (.iload_n 3, 1) := by decide +kernel
theorem dX5_weighBesides_57 : decode cX5_weighBesides 57 = .ok (.iload 4, 2) := by decide +kernel
theorem dX5_weighBesides_59 : decode cX5_weighBesides 59 = .ok (.aload_n 1, 1) := by decide +kernel
theorem dX5_weighBesides_60 : decode cX5_weighBesides 60 = .ok (.getfield 69, 3) := by decide +kernel
theorem dX5_weighBesides_63 : decode cX5_weighBesides 63 = .ok (.invokestatic 114, 3) := by decide +kernel
theorem dX5_weighBesides_66 : decode cX5_weighBesides 66 = .ok (.invokevirtual 108, 3) := by decide +kernel
theorem dX5_weighBesides_69 : decode cX5_weighBesides 69 = .ok (.iastore, 1) := by decide +kernel
theorem dX5_weighBesides_70 : decode cX5_weighBesides 70 = .ok (.iinc 3 1, 3) := by decide +kernel
theorem dX5_weighBesides_73 : decode cX5_weighBesides 73 = .ok (.goto (-71), 3) := by decide +kernel
theorem dX5_weighBesides_76 : decode cX5_weighBesides 76 = .ok (.return_, 1) := by decide +kernel
theorem dX5_gainWithin_0 : decode cX5_gainWithin 0 = .ok (.iconst 0, 1) := by decide +kernel
theorem dX5_gainWithin_1 : decode cX5_gainWithin 1 = .ok (.istore 4, 2) := by decide +kernel
theorem dX5_gainWithin_3 : decode cX5_gainWithin 3 = .ok (.iload_n 1, 1) := by decide +kernel
theorem dX5_gainWithin_4 : decode cX5_gainWithin 4 = .ok (.istore 5, 2) := by decide +kernel
theorem dX5_gainWithin_6 : decode cX5_gainWithin 6 = .ok (.iload 5, 2) := by decide +kernel
theorem dX5_gainWithin_8 : decode cX5_gainWithin 8 = .ok (.aload_n 0, 1) := by decide +kernel
theorem dX5_gainWithin_9 : decode cX5_gainWithin 9 = .ok (.getfield 65, 3) := by decide +kernel
theorem dX5_gainWithin_12 : decode cX5_gainWithin 12 = .ok (.if_icmp .ge 67, 3) := by decide +kernel
theorem dX5_gainWithin_15 : decode cX5_gainWithin 15 = .ok (.aload_n 0, 1) := by decide +kernel
theorem dX5_gainWithin_16 : decode cX5_gainWithin 16 = .ok (.getfield 14, 3) := by decide +kernel
theorem dX5_gainWithin_19 : decode cX5_gainWithin 19 = .ok (.getfield 66, 3) := by decide +kernel
theorem dX5_gainWithin_22 : decode cX5_gainWithin 22 = .ok (.iload 5, 2) := by decide +kernel
theorem dX5_gainWithin_24 : decode cX5_gainWithin 24 = .ok (.iaload, 1) := by decide +kernel
theorem dX5_gainWithin_25 : decode cX5_gainWithin 25 = .ok (.iload_n 3, 1) := by decide +kernel
theorem dX5_gainWithin_26 : decode cX5_gainWithin 26 = .ok (.if_icmp .ge 53, 3) := by decide +kernel
theorem dX5_gainWithin_29 : decode cX5_gainWithin 29 = .ok (.iload 4, 2) := by decide +kernel
theorem dX5_gainWithin_31 : decode cX5_gainWithin 31 = .ok (.aload_n 0, 1) := by decide +kernel
theorem dX5_gainWithin_32 : decode cX5_gainWithin 32 = .ok (.getfield 27, 3) := by decide +kernel
theorem dX5_gainWithin_35 : decode cX5_gainWithin 35 = .ok (.iload 5, 2) := by decide +kernel
theorem dX5_gainWithin_37 : decode cX5_gainWithin 37 = .ok (.iaload, 1) := by decide +kernel
theorem dX5_gainWithin_38 : decode cX5_gainWithin 38 = .ok (.iload_n 3, 1) := by decide +kernel
theorem dX5_gainWithin_39 : decode cX5_gainWithin 39 = .ok (.aload_n 0, 1) := by decide +kernel
theorem dX5_gainWithin_40 : decode cX5_gainWithin 40 = .ok (.getfield 14, 3) := by decide +kernel
theorem dX5_gainWithin_43 : decode cX5_gainWithin 43 = .ok (.getfield 66, 3) := by decide +kernel
theorem dX5_gainWithin_46 : decode cX5_gainWithin 46 = .ok (.iload 5, 2) := by decide +kernel
theorem dX5_gainWithin_48 : decode cX5_gainWithin 48 = .ok (.iconst 1, 1) := by decide +kernel
theorem dX5_gainWithin_49 : decode cX5_gainWithin 49 = .ok (.iadd, 1) := by decide +kernel
theorem dX5_gainWithin_50 : decode cX5_gainWithin 50 = .ok (.iaload, 1) := by decide +kernel
theorem dX5_gainWithin_51 : decode cX5_gainWithin 51 = .ok (.invokestatic 117, 3) := by decide +kernel
theorem dX5_gainWithin_54 : decode cX5_gainWithin 54 = .ok (.iload_n 2, 1) := by decide +kernel
theorem dX5_gainWithin_55 : decode cX5_gainWithin 55 = .ok (.aload_n 0, 1) := by decide +kernel
theorem dX5_gainWithin_56 : decode cX5_gainWithin 56 = .ok (.getfield 14, 3) := by decide +kernel
theorem dX5_gainWithin_59 : decode cX5_gainWithin 59 = .ok (.getfield 66, 3) := by decide +kernel
theorem dX5_gainWithin_62 : decode cX5_gainWithin 62 = .ok (.iload 5, 2) := by decide +kernel
theorem dX5_gainWithin_64 : decode cX5_gainWithin 64 = .ok (.iaload, 1) := by decide +kernel
theorem dX5_gainWithin_65 : decode cX5_gainWithin 65 = .ok (.invokestatic 122, 3) := by decide +kernel
theorem dX5_gainWithin_68 : decode cX5_gainWithin 68 = .ok (.isub, 1) := by decide +kernel
theorem dX5_gainWithin_69 : decode cX5_gainWithin 69 = .ok (.imul, 1) := by decide +kernel
theorem dX5_gainWithin_70 : decode cX5_gainWithin 70 = .ok (.iadd, 1) := by decide +kernel
theorem dX5_gainWithin_71 : decode cX5_gainWithin 71 = .ok (.istore 4, 2) := by decide +kernel
theorem dX5_gainWithin_73 : decode cX5_gainWithin 73 = .ok (.iinc 5 1, 3) := by decide +kernel
theorem dX5_gainWithin_76 : decode cX5_gainWithin 76 = .ok (.goto (-70), 3) := by decide +kernel
theorem dX5_gainWithin_79 : decode cX5_gainWithin 79 = .ok (.iload 4, 2) := by decide +kernel
theorem dX5_gainWithin_81 : decode cX5_gainWithin 81 = .ok (.ireturn, 1) := by decide +kernel
theorem dX5_firstBlock_0 : decode cX5_firstBlock 0 = .ok (.iconst 0, 1) := by decide +kernel
theorem dX5_firstBlock_1 : decode cX5_firstBlock 1 = .ok (.istore_n 3, 1) := by decide +kernel
theorem dX5_firstBlock_2 : decode cX5_firstBlock 2 = .ok (.iload_n 3, 1) := by decide +kernel
theorem dX5_firstBlock_3 : decode cX5_firstBlock 3 = .ok (.aload_n 0, 1) := by decide +kernel
theorem dX5_firstBlock_4 : decode cX5_firstBlock 4 = .ok (.getfield 82, 3) := by decide +kernel
theorem dX5_firstBlock_7 : decode cX5_firstBlock 7 = .ok (.if_icmp .ge 53, 3) := by decide +kernel
theorem dX5_firstBlock_10 : decode cX5_firstBlock 10 = .ok (.aload_n 0, 1) := by decide +kernel
theorem dX5_firstBlock_11 : decode cX5_firstBlock 11 = .ok (.getfield 30, 3) := by decide +kernel
theorem dX5_firstBlock_14 : decode cX5_firstBlock 14 = .ok (.iload_n 3, 1) := by decide +kernel
theorem dX5_firstBlock_15 : decode cX5_firstBlock 15 = .ok (.iaload, 1) := by decide +kernel
theorem dX5_firstBlock_16 : decode cX5_firstBlock 16 = .ok (.iload_n 2, 1) := by decide +kernel
theorem dX5_firstBlock_17 : decode cX5_firstBlock 17 = .ok (.iadd, 1) := by decide +kernel
theorem dX5_firstBlock_18 : decode cX5_firstBlock 18 = .ok (.iconst 1, 1) := by decide +kernel
theorem dX5_firstBlock_19 : decode cX5_firstBlock 19 = .ok (.isub, 1) := by decide +kernel
theorem dX5_firstBlock_20 : decode cX5_firstBlock 20 = .ok (.iload_n 2, 1) := by decide +kernel
theorem dX5_firstBlock_21 : decode cX5_firstBlock 21 = .ok (.idiv, 1) := by decide +kernel
theorem dX5_firstBlock_22 : decode cX5_firstBlock 22 = .ok (.iload_n 2, 1) := by decide +kernel
theorem dX5_firstBlock_23 : decode cX5_firstBlock 23 = .ok (.imul, 1) := by decide +kernel
theorem dX5_firstBlock_24 : decode cX5_firstBlock 24 = .ok (.istore 4, 2) := by decide +kernel
theorem dX5_firstBlock_26 : decode cX5_firstBlock 26 = .ok (.aload_n 0, 1) := by decide +kernel
theorem dX5_firstBlock_27 : decode cX5_firstBlock 27 = .ok (.getfield 33, 3) := by decide +kernel
theorem dX5_firstBlock_30 : decode cX5_firstBlock 30 = .ok (.iload_n 3, 1) := by decide +kernel
theorem dX5_firstBlock_31 : decode cX5_firstBlock 31 = .ok (.iaload, 1) := by decide +kernel
theorem dX5_firstBlock_32 : decode cX5_firstBlock 32 = .ok (.iload_n 1, 1) := by decide +kernel
theorem dX5_firstBlock_33 : decode cX5_firstBlock 33 = .ok (.if_icmp .ne 21, 3) := by decide +kernel
theorem dX5_firstBlock_36 : decode cX5_firstBlock 36 = .ok (.iload 4, 2) := by decide +kernel
theorem dX5_firstBlock_38 : decode cX5_firstBlock 38 = .ok (.iload_n 2, 1) := by decide +kernel
theorem dX5_firstBlock_39 : decode cX5_firstBlock 39 = .ok (.iadd, 1) := by decide +kernel
theorem dX5_firstBlock_40 : decode cX5_firstBlock 40 = .ok (.aload_n 0, 1) := by decide +kernel
theorem dX5_firstBlock_41 : decode cX5_firstBlock 41 = .ok (.getfield 30, 3) := by decide +kernel
theorem dX5_firstBlock_44 : decode cX5_firstBlock 44 = .ok (.iload_n 3, 1) := by decide +kernel
theorem dX5_firstBlock_45 : decode cX5_firstBlock 45 = .ok (.iconst 1, 1) := by decide +kernel
theorem dX5_firstBlock_46 : decode cX5_firstBlock 46 = .ok (.iadd, 1) := by decide +kernel
theorem dX5_firstBlock_47 : decode cX5_firstBlock 47 = .ok (.iaload, 1) := by decide +kernel
theorem dX5_firstBlock_48 : decode cX5_firstBlock 48 = .ok (.if_icmp .gt 6, 3) := by decide +kernel
theorem dX5_firstBlock_51 : decode cX5_firstBlock 51 = .ok (.iload 4, 2) := by decide +kernel
theorem dX5_firstBlock_53 : decode cX5_firstBlock 53 = .ok (.ireturn, 1) := by decide +kernel
theorem dX5_firstBlock_54 : decode cX5_firstBlock 54 = .ok (.iinc 3 1, 3) := by decide +kernel
theorem dX5_firstBlock_57 : decode cX5_firstBlock 57 = .ok (.goto (-55), 3) := by decide +kernel
theorem dX5_firstBlock_60 : decode cX5_firstBlock 60 = .ok (.iconst (-1), 1) := by decide +kernel
theorem dX5_firstBlock_61 : decode cX5_firstBlock 61 = .ok (.ireturn, 1) := by decide +kernel
section G15_pieces_lean_txt
variable {p : Program} {l : Launch} {e : Env} {s : State} {m : MethodId} {args : Array Value} {below : List Frame} {meth : Method} {c : Code} {H : Heap} {locs : List Loc} {ls : Array Slot} {E : Ge} {L : Lay} {fu d : Nat}
def fX5_joinRuns_j109 (fu : Nat) (a0 : Nat) (M : Mm) : Option Mm :=
  if (M.1 a0 6) < 0 ∨ 128 ≤ ix (M.1 a0 6) then none else
  if (M.1 a0 7) < 0 ∨ 26 ≤ ix (M.1 a0 7) then none else
  lt (wI M (a0 + 6) (ix (M.1 a0 7)) (M.1 ((a0 + 1) + 1) (ix (M.1 a0 6)))) fun M_129 =>
  some M_129
set_option maxRecDepth 100000 in
set_option maxHeartbeats 4000000 in
theorem wX5_joinRuns_j109 {M' : Mm}   {a0 : Nat} {M : Mm} (B : Bx p s m args c cX5_joinRuns 3 RX5 E L) (hr : meth.sig.returnType = none) (hlk : meth.locks = false)  (h0 : At L a0 T5) (h : fX5_joinRuns_j109 fu a0 M = some M') (hR : Rx s E L M H locs) (hl : lv_has ls 3 [(0, .ref a0)]) : W p l e (rmD (d + 0)) s m args below meth c H locs 0 0 (MQ below (QcM E L none M') args s 0 0 E.2.2.2) (F0 m 109 ls []) := by
  have hx := B.1
  have hb := B.2.1
  unfold fX5_joinRuns_j109 at h
  refine lv_aload_n hx hb dX5_joinRuns_109 rfl (lv_at hl 0 rfl) ?_
  refine gf_X5_30 B hR (h0.at0 rfl) dX5_joinRuns_110 ?_
  refine lv_aload_n hx hb dX5_joinRuns_113 rfl (lv_at hl 0 rfl) ?_
  refine gf_X5_82 B hR (h0.at0 rfl) dX5_joinRuns_114 ?_
  refine lv_aload_n hx hb dX5_joinRuns_117 rfl (lv_at hl 0 rfl) ?_
  refine gf_X5_14 B hR (h0.at0 rfl) dX5_joinRuns_118 ?_
  refine gf_X5_66 B hR ((sb_5_0 h0).at0 rfl) dX5_joinRuns_121 ?_
  refine lv_aload_n hx hb dX5_joinRuns_124 rfl (lv_at hl 0 rfl) ?_
  refine gf_X5_65 B hR (h0.at0 rfl) dX5_joinRuns_125 ?_
  obtain ⟨hi_128, h⟩ := ifn_el h
  refine r_iald B hR ((sb_5_0 h0).at 1 rfl) hi_128 dX5_joinRuns_128 ?_
  obtain ⟨hi_129, h⟩ := ifn_el h
  obtain ⟨M_129, eM_129, h⟩ := lt_el h
  refine r_iast B hR (h0.at 6 rfl) hi_129 dX5_joinRuns_129 (fun H locs hR => ?_)
  rw [← eM_129] at hR
  exact r_vretW B hR hr hlk h dX5_joinRuns_130
def fX5_joinRuns_j103 (fu : Nat) (k7 : Int32 → Mm → Option Mm) (a0 : Nat) (x1 : Int32) (M : Mm) : Option Mm :=
  lt (x1 + 1) fun x1_103 =>
  k7 x1_103 M
set_option maxRecDepth 100000 in
set_option maxHeartbeats 4000000 in
theorem wX5_joinRuns_j103 {M' : Mm}  {k7 : Int32 → Mm → Option Mm} {a0 : Nat} {x1 : Int32} {M : Mm} (B : Bx p s m args c cX5_joinRuns 3 RX5 E L) (hr : meth.sig.returnType = none) (hlk : meth.locks = false) (ih7 : ∀ (x1 : Int32) (M : Mm), k7 x1 M = some M' → ∀ (H : Heap) (locs : List Loc) (ls : Array Slot), Rx s E L M H locs → lv_has ls 3 [(0, .ref a0), (1, .int x1)] → W p l e (rmD (d + 0)) s m args below meth c H locs 0 0 (MQ below (QcM E L none M') args s 0 0 E.2.2.2) (F0 m 7 ls [])) (h0 : At L a0 T5) (h : fX5_joinRuns_j103 fu k7 a0 x1 M = some M') (hR : Rx s E L M H locs) (hl : lv_has ls 3 [(0, .ref a0), (1, .int x1)]) : W p l e (rmD (d + 0)) s m args below meth c H locs 0 0 (MQ below (QcM E L none M') args s 0 0 E.2.2.2) (F0 m 103 ls []) := by
  have hx := B.1
  have hb := B.2.1
  unfold fX5_joinRuns_j103 at h
  obtain ⟨x1_103, ex1_103, h⟩ := lt_el h
  refine lv_iinc (v := x1_103) (lv' := [(1, .int x1_103), (0, .ref a0)]) hx hb dX5_joinRuns_103 hl (k := 1) rfl (by rw [ex1_103]; rfl) (by decide) rfl (fun ls hl => ?_)
  refine lv_goto (tgt := 7) hx hb dX5_joinRuns_106 (by decide) ?_
  exact ih7 x1_103 M h _ _ _ hR (lv_sub hl [1, 0] rfl)
def fX5_joinRuns_j41 (fu : Nat) (k7 : Int32 → Mm → Option Mm) (a0 : Nat) (x1 : Int32) (t0 : Int32) (M : Mm) : Option Mm :=
  if t0 = 0 then
    fX5_joinRuns_j103 fu k7 a0 x1 M
  else
    if (26 - 1) ≤ (M.1 a0 7) then
      fX5_joinRuns_j103 fu k7 a0 x1 M
    else
      if x1 < 0 ∨ 128 ≤ ix x1 then none else
      if (M.1 a0 7) < 0 ∨ 26 ≤ ix (M.1 a0 7) then none else
      lt (wI M (a0 + 6) (ix (M.1 a0 7)) (M.1 ((a0 + 1) + 1) (ix x1))) fun M_77 =>
      if (M_77.1 a0 7) < 0 ∨ 26 ≤ ix (M_77.1 a0 7) then none else
      lt (wI M_77 (a0 + 7) (ix (M_77.1 a0 7)) (M_77.1 (a0 + 3) (ix x1))) fun M_92 =>
      lt (wI M_92 a0 7 ((M_92.1 a0 7) + 1)) fun M_100 =>
      fX5_joinRuns_j103 fu k7 a0 x1 M_100
set_option maxRecDepth 100000 in
set_option maxHeartbeats 4000000 in
theorem wX5_joinRuns_j41 {M' : Mm}  {k7 : Int32 → Mm → Option Mm} {a0 : Nat} {x1 : Int32} {t0 : Int32} {M : Mm} (B : Bx p s m args c cX5_joinRuns 3 RX5 E L) (hr : meth.sig.returnType = none) (hlk : meth.locks = false) (ih7 : ∀ (x1 : Int32) (M : Mm), k7 x1 M = some M' → ∀ (H : Heap) (locs : List Loc) (ls : Array Slot), Rx s E L M H locs → lv_has ls 3 [(0, .ref a0), (1, .int x1)] → W p l e (rmD (d + 0)) s m args below meth c H locs 0 0 (MQ below (QcM E L none M') args s 0 0 E.2.2.2) (F0 m 7 ls [])) (h0 : At L a0 T5) (h : fX5_joinRuns_j41 fu k7 a0 x1 t0 M = some M') (hR : Rx s E L M H locs) (hl : lv_has ls 3 [(0, .ref a0), (1, .int x1)]) : W p l e (rmD (d + 0)) s m args below meth c H locs 0 0 (MQ below (QcM E L none M') args s 0 0 E.2.2.2) (F0 m 41 ls [.int t0]) := by
  have hx := B.1
  have hb := B.2.1
  unfold fX5_joinRuns_j41 at h
  refine lv_istore_n (lv' := [(2, .int t0), (0, .ref a0), (1, .int x1)]) hx hb dX5_joinRuns_41 rfl hl (by decide) rfl (fun ls hl => ?_)
  refine lv_iload_n hx hb dX5_joinRuns_42 rfl (lv_at hl 0 rfl) ?_
  refine lv_if_eq (tgt := 103) hx hb dX5_joinRuns_43 (by decide) (fun c_43 => ?_) (fun c_43 => ?_)
  · rw [if_pos c_43] at h
    exact wX5_joinRuns_j103 B hr hlk ih7 h0 h hR (lv_sub hl [1, 2] rfl)
  · rw [if_neg c_43] at h
    refine lv_aload_n hx hb dX5_joinRuns_46 rfl (lv_at hl 1 rfl) ?_
    refine gf_X5_82 B hR (h0.at0 rfl) dX5_joinRuns_47 ?_
    refine lv_aload_n hx hb dX5_joinRuns_50 rfl (lv_at hl 1 rfl) ?_
    refine gf_X5_33 B hR (h0.at0 rfl) dX5_joinRuns_51 ?_
    refine r_alenI B hR (v := 26) (h0.at 7 rfl) (by decide) dX5_joinRuns_54 ?_
    refine lv_iconst (v := 1) hx hb dX5_joinRuns_55 (by decide) ?_
    refine lv_isub hx hb dX5_joinRuns_56 ?_
    refine lv_icmp_ge (tgt := 103) hx hb dX5_joinRuns_57 (by decide) (fun c_57 => ?_) (fun c_57 => ?_)
    · rw [if_pos c_57] at h
      exact wX5_joinRuns_j103 B hr hlk ih7 h0 h hR (lv_sub hl [1, 2] rfl)
    · rw [if_neg c_57] at h
      refine lv_aload_n hx hb dX5_joinRuns_60 rfl (lv_at hl 1 rfl) ?_
      refine gf_X5_30 B hR (h0.at0 rfl) dX5_joinRuns_61 ?_
      refine lv_aload_n hx hb dX5_joinRuns_64 rfl (lv_at hl 1 rfl) ?_
      refine gf_X5_82 B hR (h0.at0 rfl) dX5_joinRuns_65 ?_
      refine lv_aload_n hx hb dX5_joinRuns_68 rfl (lv_at hl 1 rfl) ?_
      refine gf_X5_14 B hR (h0.at0 rfl) dX5_joinRuns_69 ?_
      refine gf_X5_66 B hR ((sb_5_0 h0).at0 rfl) dX5_joinRuns_72 ?_
      refine lv_iload_n hx hb dX5_joinRuns_75 rfl (lv_at hl 2 rfl) ?_
      obtain ⟨hi_76, h⟩ := ifn_el h
      refine r_iald B hR ((sb_5_0 h0).at 1 rfl) hi_76 dX5_joinRuns_76 ?_
      obtain ⟨hi_77, h⟩ := ifn_el h
      obtain ⟨M_77, eM_77, h⟩ := lt_el h
      refine r_iast B hR (h0.at 6 rfl) hi_77 dX5_joinRuns_77 (fun H locs hR => ?_)
      rw [← eM_77] at hR
      refine lv_aload_n hx hb dX5_joinRuns_78 rfl (lv_at hl 1 rfl) ?_
      refine gf_X5_33 B hR (h0.at0 rfl) dX5_joinRuns_79 ?_
      refine lv_aload_n hx hb dX5_joinRuns_82 rfl (lv_at hl 1 rfl) ?_
      refine gf_X5_82 B hR (h0.at0 rfl) dX5_joinRuns_83 ?_
      refine lv_aload_n hx hb dX5_joinRuns_86 rfl (lv_at hl 1 rfl) ?_
      refine gf_X5_20 B hR (h0.at0 rfl) dX5_joinRuns_87 ?_
      refine lv_iload_n hx hb dX5_joinRuns_90 rfl (lv_at hl 2 rfl) ?_
      refine r_iald B hR (h0.at 3 rfl) hi_76 dX5_joinRuns_91 ?_
      obtain ⟨hi_92, h⟩ := ifn_el h
      obtain ⟨M_92, eM_92, h⟩ := lt_el h
      refine r_iast B hR (h0.at 7 rfl) hi_92 dX5_joinRuns_92 (fun H locs hR => ?_)
      rw [← eM_92] at hR
      refine lv_aload_n hx hb dX5_joinRuns_93 rfl (lv_at hl 1 rfl) ?_
      refine lv_dup hx hb dX5_joinRuns_94 rfl ?_
      refine gf_X5_82 B hR (h0.at0 rfl) dX5_joinRuns_95 ?_
      refine lv_iconst (v := 1) hx hb dX5_joinRuns_98 (by decide) ?_
      refine lv_iadd hx hb dX5_joinRuns_99 ?_
      obtain ⟨M_100, eM_100, h⟩ := lt_el h
      refine pf_X5_82 B hR (h0.at0 rfl) dX5_joinRuns_100 (fun H locs hR => ?_)
      rw [← eM_100] at hR
      exact wX5_joinRuns_j103 B hr hlk ih7 h0 h hR (lv_sub hl [1, 2] rfl)
def fX5_joinRuns_j36 (fu : Nat) (k7 : Int32 → Mm → Option Mm) (a0 : Nat) (x1 : Int32) (M : Mm) : Option Mm :=
  fX5_joinRuns_j41 fu k7 a0 x1 1 M
set_option maxRecDepth 100000 in
set_option maxHeartbeats 4000000 in
theorem wX5_joinRuns_j36 {M' : Mm}  {k7 : Int32 → Mm → Option Mm} {a0 : Nat} {x1 : Int32} {M : Mm} (B : Bx p s m args c cX5_joinRuns 3 RX5 E L) (hr : meth.sig.returnType = none) (hlk : meth.locks = false) (ih7 : ∀ (x1 : Int32) (M : Mm), k7 x1 M = some M' → ∀ (H : Heap) (locs : List Loc) (ls : Array Slot), Rx s E L M H locs → lv_has ls 3 [(0, .ref a0), (1, .int x1)] → W p l e (rmD (d + 0)) s m args below meth c H locs 0 0 (MQ below (QcM E L none M') args s 0 0 E.2.2.2) (F0 m 7 ls [])) (h0 : At L a0 T5) (h : fX5_joinRuns_j36 fu k7 a0 x1 M = some M') (hR : Rx s E L M H locs) (hl : lv_has ls 3 [(0, .ref a0), (1, .int x1)]) : W p l e (rmD (d + 0)) s m args below meth c H locs 0 0 (MQ below (QcM E L none M') args s 0 0 E.2.2.2) (F0 m 36 ls []) := by
  have hx := B.1
  have hb := B.2.1
  unfold fX5_joinRuns_j36 at h
  refine lv_iconst (v := 1) hx hb dX5_joinRuns_36 (by decide) ?_
  refine lv_goto (tgt := 41) hx hb dX5_joinRuns_37 (by decide) ?_
  exact wX5_joinRuns_j41 B hr hlk ih7 h0 h hR hl
def fX5_joinRuns_b7 (fu : Nat) (k7 : Int32 → Mm → Option Mm) (a0 : Nat) (x1 : Int32) (M : Mm) : Option Mm :=
  if (M.1 a0 6) ≤ x1 then
    fX5_joinRuns_j109 fu a0 M
  else
    if x1 = 0 then
      fX5_joinRuns_j36 fu k7 a0 x1 M
    else
      if x1 < 0 ∨ 128 ≤ ix x1 then none else
      if (x1 - 1) < 0 ∨ 128 ≤ ix (x1 - 1) then none else
      if (M.1 (a0 + 3) (ix x1)) = (M.1 (a0 + 3) (ix (x1 - 1))) then
        fX5_joinRuns_j41 fu k7 a0 x1 0 M
      else
        fX5_joinRuns_j36 fu k7 a0 x1 M
set_option maxRecDepth 100000 in
set_option maxHeartbeats 4000000 in
theorem wX5_joinRuns_b7 {M' : Mm}   {k7 : Int32 → Mm → Option Mm} {a0 : Nat} {x1 : Int32} {M : Mm} (B : Bx p s m args c cX5_joinRuns 3 RX5 E L) (hr : meth.sig.returnType = none) (hlk : meth.locks = false)  (ih7 : ∀ (x1 : Int32) (M : Mm), k7 x1 M = some M' → ∀ (H : Heap) (locs : List Loc) (ls : Array Slot), Rx s E L M H locs → lv_has ls 3 [(0, .ref a0), (1, .int x1)] → W p l e (rmD (d + 0)) s m args below meth c H locs 0 0 (MQ below (QcM E L none M') args s 0 0 E.2.2.2) (F0 m 7 ls [])) (h0 : At L a0 T5) (h : fX5_joinRuns_b7 fu k7 a0 x1 M = some M') (hR : Rx s E L M H locs) (hl : lv_has ls 3 [(0, .ref a0), (1, .int x1)]) : W p l e (rmD (d + 0)) s m args below meth c H locs 0 0 (MQ below (QcM E L none M') args s 0 0 E.2.2.2) (F0 m 7 ls []) := by
  have hx := B.1
  have hb := B.2.1
  unfold fX5_joinRuns_b7 at h
  refine lv_iload_n hx hb dX5_joinRuns_7 rfl (lv_at hl 1 rfl) ?_
  refine lv_aload_n hx hb dX5_joinRuns_8 rfl (lv_at hl 0 rfl) ?_
  refine gf_X5_65 B hR (h0.at0 rfl) dX5_joinRuns_9 ?_
  refine lv_icmp_ge (tgt := 109) hx hb dX5_joinRuns_12 (by decide) (fun c_12 => ?_) (fun c_12 => ?_)
  · rw [if_pos c_12] at h
    exact wX5_joinRuns_j109 B hr hlk h0 h hR (lv_sub hl [0] rfl)
  · rw [if_neg c_12] at h
    refine lv_iload_n hx hb dX5_joinRuns_15 rfl (lv_at hl 1 rfl) ?_
    refine lv_if_eq (tgt := 36) hx hb dX5_joinRuns_16 (by decide) (fun c_16 => ?_) (fun c_16 => ?_)
    · rw [if_pos c_16] at h
      exact wX5_joinRuns_j36 B hr hlk ih7 h0 h hR hl
    · rw [if_neg c_16] at h
      refine lv_aload_n hx hb dX5_joinRuns_19 rfl (lv_at hl 0 rfl) ?_
      refine gf_X5_20 B hR (h0.at0 rfl) dX5_joinRuns_20 ?_
      refine lv_iload_n hx hb dX5_joinRuns_23 rfl (lv_at hl 1 rfl) ?_
      obtain ⟨hi_24, h⟩ := ifn_el h
      refine r_iald B hR (h0.at 3 rfl) hi_24 dX5_joinRuns_24 ?_
      refine lv_aload_n hx hb dX5_joinRuns_25 rfl (lv_at hl 0 rfl) ?_
      refine gf_X5_20 B hR (h0.at0 rfl) dX5_joinRuns_26 ?_
      refine lv_iload_n hx hb dX5_joinRuns_29 rfl (lv_at hl 1 rfl) ?_
      refine lv_iconst (v := 1) hx hb dX5_joinRuns_30 (by decide) ?_
      refine lv_isub hx hb dX5_joinRuns_31 ?_
      obtain ⟨hi_32, h⟩ := ifn_el h
      refine r_iald B hR (h0.at 3 rfl) hi_32 dX5_joinRuns_32 ?_
      refine lv_icmp_eq (tgt := 40) hx hb dX5_joinRuns_33 (by decide) (fun c_33 => ?_) (fun c_33 => ?_)
      · rw [if_pos c_33] at h
        refine lv_iconst (v := 0) hx hb dX5_joinRuns_40 (by decide) ?_
        exact wX5_joinRuns_j41 B hr hlk ih7 h0 h hR hl
      · rw [if_neg c_33] at h
        exact wX5_joinRuns_j36 B hr hlk ih7 h0 h hR hl
def fX5_joinRuns_l7 (fu : Nat) (a0 : Nat) (x1 : Int32) (M : Mm) : Option Mm := lp (fun (rec : (Int32 × Mm) → Option Mm) (s : Int32 × Mm) => fX5_joinRuns_b7 fu  (fun x1 M => rec (x1, M)) a0 s.1 s.2) fu (x1, M)
set_option maxRecDepth 100000 in
set_option maxHeartbeats 4000000 in
theorem wX5_joinRuns_l7 {M' : Mm}   {a0 : Nat} {x1 : Int32} {M : Mm} (B : Bx p s m args c cX5_joinRuns 3 RX5 E L) (hr : meth.sig.returnType = none) (hlk : meth.locks = false)  (h0 : At L a0 T5) (h : fX5_joinRuns_l7 fu a0 x1 M = some M') (hR : Rx s E L M H locs) (hl : lv_has ls 3 [(0, .ref a0), (1, .int x1)]) : W p l e (rmD (d + 0)) s m args below meth c H locs 0 0 (MQ below (QcM E L none M') args s 0 0 E.2.2.2) (F0 m 7 ls []) := by
  refine lp_G (G := fun z : Int32 × Mm => ∀ (H : Heap) (locs : List Loc) (ls : Array Slot), Rx s E L z.2 H locs → lv_has ls 3 [(0, .ref a0), (1, .int z.1)] → W p l e (rmD (d + 0)) s m args below meth c H locs 0 0 (MQ below (QcM E L none M') args s 0 0 E.2.2.2) (F0 m 7 ls [])) (fun rec ih z h H locs ls hR hl => ?_) fu _ h H locs ls hR hl
  exact wX5_joinRuns_b7 B hr hlk  (fun x1 M h => ih (x1, M) h) h0 h hR hl
def fX5_joinRuns (fu : Nat) (a0 : Nat) (M : Mm) : Option Mm :=
  lt (wI M a0 7 0) fun M_2 =>
  fX5_joinRuns_l7 fu a0 0 M_2
set_option maxRecDepth 100000 in
set_option maxHeartbeats 4000000 in
theorem mX5_joinRuns {l : Launch} {E : Ge} {L : Lay} (fu d : Nat) {a0 : Nat} {M : Mm} {M' : Mm}  (h0 : At L a0 T5) (h : fX5_joinRuns fu a0 M = some M') : Ct l E L yX5_joinRuns cX5_joinRuns 3 none (d + 0) [.ref a0] M none M' := by
  refine Ct.of (by decide) ?_
  intro p e s m below meth c hr hlk B hR
  have B : Bx p s m _ c cX5_joinRuns 3 RX5 E L := B
  have hx := B.1
  have hb := B.2.1
  have hl := lv_entry ([.ref a0]) (n := 3) (Nat.le_of_ble_eq_true rfl)
  rw [lg_entry_eq]
  generalize (lg_sl ([.ref a0]) ++ List.replicate (3 - (lg_sl ([.ref a0])).length) Slot.unset).toArray = ls at hl ⊢
  have hl : lv_has ls 3 [(0, .ref a0)] := hl
  unfold fX5_joinRuns at h
  refine lv_aload_n hx hb dX5_joinRuns_0 rfl (lv_at hl 0 rfl) ?_
  refine lv_iconst (v := 0) hx hb dX5_joinRuns_1 (by decide) ?_
  obtain ⟨M_2, eM_2, h⟩ := lt_el h
  refine pf_X5_82 B hR (h0.at0 rfl) dX5_joinRuns_2 (fun H locs hR => ?_)
  rw [← eM_2] at hR
  refine lv_iconst (v := 0) hx hb dX5_joinRuns_5 (by decide) ?_
  refine lv_istore_n (lv' := [(1, .int 0), (0, .ref a0)]) hx hb dX5_joinRuns_6 rfl hl (by decide) rfl (fun ls hl => ?_)
  exact wX5_joinRuns_l7 B hr hlk h0 h hR (lv_sub hl [1, 0] rfl)
def fX5_make_j123 (fu : Nat) (a0 : Nat) (M : Mm) : Option Mm :=
  bm (fX5_joinRuns fu a0 M) fun M_124 =>
  some M_124
set_option maxRecDepth 100000 in
set_option maxHeartbeats 4000000 in
theorem wX5_make_j123 {M' : Mm}   {a0 : Nat} {M : Mm} (B : Bx p s m args c cX5_make 3 RX5 E L) (hr : meth.sig.returnType = none) (hlk : meth.locks = false)  (h0 : At L a0 T5) (h : fX5_make_j123 fu a0 M = some M') (hR : Rx s E L M H locs) (hl : lv_has ls 3 [(0, .ref a0)]) : W p l e (rmD (d + 3)) s m args below meth c H locs 0 0 (MQ below (QcM E L none M') args s 0 0 E.2.2.2) (F0 m 123 ls []) := by
  have hx := B.1
  have hb := B.2.1
  unfold fX5_make_j123 at h
  refine lv_aload_n hx hb dX5_make_123 rfl (lv_at hl 0 rfl) ?_
  obtain ⟨M_124, hc_124, h⟩ := bm_el h
  refine iv_X5_79 B hR (h0.at0 rfl) hl.1 (mX5_joinRuns fu _ h0 hc_124) (Nat.le_of_ble_eq_true rfl) dX5_make_124 (fun H locs hR => ?_)
  exact r_vretW B hR hr hlk h dX5_make_127
def fX5_make_b66 (fu : Nat) (k66 : Int32 → Mm → Option Mm) (a0 : Nat) (a1 : Nat) (x2 : Int32) (M : Mm) : Option Mm :=
  if (M.1 a0 6) ≤ x2 then
    fX5_make_j123 fu a0 M
  else
    if x2 < 0 ∨ 128 ≤ ix x2 then none else
    bi (fX8_wantedAt fu a1 (M.1 ((a0 + 1) + 1) (ix x2)) (M.1 a1 2) M) fun r_93 =>
    lt (wI M (a0 + 3) (ix x2) r_93) fun M_96 =>
    bi (fX8_kindAt fu a1 (M_96.1 ((a0 + 1) + 1) (ix x2)) (-1) M_96) fun r_113 =>
    lt (wI M_96 (a0 + 4) (ix x2) r_113) fun M_116 =>
    lt (x2 + 1) fun x2_117 =>
    k66 x2_117 M_116
set_option maxRecDepth 100000 in
set_option maxHeartbeats 4000000 in
theorem wX5_make_b66 {M' : Mm}   {k66 : Int32 → Mm → Option Mm} {a0 : Nat} {a1 : Nat} {x2 : Int32} {M : Mm} (B : Bx p s m args c cX5_make 3 RX5 E L) (hr : meth.sig.returnType = none) (hlk : meth.locks = false)  (ih66 : ∀ (x2 : Int32) (M : Mm), k66 x2 M = some M' → ∀ (H : Heap) (locs : List Loc) (ls : Array Slot), Rx s E L M H locs → lv_has ls 3 [(0, .ref a0), (1, .ref a1), (2, .int x2)] → W p l e (rmD (d + 3)) s m args below meth c H locs 0 0 (MQ below (QcM E L none M') args s 0 0 E.2.2.2) (F0 m 66 ls [])) (h0 : At L a0 T5) (h1 : At L a1 T8) (h : fX5_make_b66 fu k66 a0 a1 x2 M = some M') (hR : Rx s E L M H locs) (hl : lv_has ls 3 [(0, .ref a0), (1, .ref a1), (2, .int x2)]) : W p l e (rmD (d + 3)) s m args below meth c H locs 0 0 (MQ below (QcM E L none M') args s 0 0 E.2.2.2) (F0 m 66 ls []) := by
  have hx := B.1
  have hb := B.2.1
  unfold fX5_make_b66 at h
  refine lv_iload_n hx hb dX5_make_66 rfl (lv_at hl 2 rfl) ?_
  refine lv_aload_n hx hb dX5_make_67 rfl (lv_at hl 0 rfl) ?_
  refine gf_X5_65 B hR (h0.at0 rfl) dX5_make_68 ?_
  refine lv_icmp_ge (tgt := 123) hx hb dX5_make_71 (by decide) (fun c_71 => ?_) (fun c_71 => ?_)
  · rw [if_pos c_71] at h
    exact wX5_make_j123 B hr hlk h0 h hR (lv_sub hl [0] rfl)
  · rw [if_neg c_71] at h
    refine lv_aload_n hx hb dX5_make_74 rfl (lv_at hl 0 rfl) ?_
    refine gf_X5_20 B hR (h0.at0 rfl) dX5_make_75 ?_
    refine lv_iload_n hx hb dX5_make_78 rfl (lv_at hl 2 rfl) ?_
    refine lv_aload_n hx hb dX5_make_79 rfl (lv_at hl 1 rfl) ?_
    refine lv_aload_n hx hb dX5_make_80 rfl (lv_at hl 0 rfl) ?_
    refine gf_X5_14 B hR (h0.at0 rfl) dX5_make_81 ?_
    refine gf_X5_66 B hR ((sb_5_0 h0).at0 rfl) dX5_make_84 ?_
    refine lv_iload_n hx hb dX5_make_87 rfl (lv_at hl 2 rfl) ?_
    obtain ⟨hi_88, h⟩ := ifn_el h
    refine r_iald B hR ((sb_5_0 h0).at 1 rfl) hi_88 dX5_make_88 ?_
    refine lv_aload_n hx hb dX5_make_89 rfl (lv_at hl 1 rfl) ?_
    refine gf_X5_69 B hR (h1.at0 rfl) dX5_make_90 ?_
    obtain ⟨r_93, hc_93, h⟩ := bi_el h
    refine iv_X5_72 B hR (h1.at0 rfl) hl.1 (mX8_wantedAt fu _ h1 hc_93) (Nat.le_of_ble_eq_true rfl) dX5_make_93 (fun H locs hR => ?_)
    obtain ⟨M_96, eM_96, h⟩ := lt_el h
    refine r_iast B hR (h0.at 3 rfl) hi_88 dX5_make_96 (fun H locs hR => ?_)
    rw [← eM_96] at hR
    refine lv_aload_n hx hb dX5_make_97 rfl (lv_at hl 0 rfl) ?_
    refine gf_X5_24 B hR (h0.at0 rfl) dX5_make_98 ?_
    refine lv_iload_n hx hb dX5_make_101 rfl (lv_at hl 2 rfl) ?_
    refine lv_aload_n hx hb dX5_make_102 rfl (lv_at hl 1 rfl) ?_
    refine lv_aload_n hx hb dX5_make_103 rfl (lv_at hl 0 rfl) ?_
    refine gf_X5_14 B hR (h0.at0 rfl) dX5_make_104 ?_
    refine gf_X5_66 B hR ((sb_5_0 h0).at0 rfl) dX5_make_107 ?_
    refine lv_iload_n hx hb dX5_make_110 rfl (lv_at hl 2 rfl) ?_
    refine r_iald B hR ((sb_5_0 h0).at 1 rfl) hi_88 dX5_make_111 ?_
    refine lv_iconst (v := (-1)) hx hb dX5_make_112 (by decide) ?_
    obtain ⟨r_113, hc_113, h⟩ := bi_el h
    refine iv_X5_76 B hR (h1.at0 rfl) hl.1 (mX8_kindAt fu _ h1 hc_113) (Nat.le_of_ble_eq_true rfl) dX5_make_113 (fun H locs hR => ?_)
    obtain ⟨M_116, eM_116, h⟩ := lt_el h
    refine r_iast B hR (h0.at 4 rfl) hi_88 dX5_make_116 (fun H locs hR => ?_)
    rw [← eM_116] at hR
    obtain ⟨x2_117, ex2_117, h⟩ := lt_el h
    refine lv_iinc (v := x2_117) (lv' := [(2, .int x2_117), (0, .ref a0), (1, .ref a1)]) hx hb dX5_make_117 hl (k := 2) rfl (by rw [ex2_117]; rfl) (by decide) rfl (fun ls hl => ?_)
    refine lv_goto (tgt := 66) hx hb dX5_make_120 (by decide) ?_
    exact ih66 x2_117 M_116 h _ _ _ hR (lv_sub hl [1, 2, 0] rfl)
def fX5_make_l66 (fu : Nat) (a0 : Nat) (a1 : Nat) (x2 : Int32) (M : Mm) : Option Mm := lp (fun (rec : (Int32 × Mm) → Option Mm) (s : Int32 × Mm) => fX5_make_b66 fu  (fun x2 M => rec (x2, M)) a0 a1 s.1 s.2) fu (x2, M)
set_option maxRecDepth 100000 in
set_option maxHeartbeats 4000000 in
theorem wX5_make_l66 {M' : Mm}   {a0 : Nat} {a1 : Nat} {x2 : Int32} {M : Mm} (B : Bx p s m args c cX5_make 3 RX5 E L) (hr : meth.sig.returnType = none) (hlk : meth.locks = false)  (h0 : At L a0 T5) (h1 : At L a1 T8) (h : fX5_make_l66 fu a0 a1 x2 M = some M') (hR : Rx s E L M H locs) (hl : lv_has ls 3 [(0, .ref a0), (1, .ref a1), (2, .int x2)]) : W p l e (rmD (d + 3)) s m args below meth c H locs 0 0 (MQ below (QcM E L none M') args s 0 0 E.2.2.2) (F0 m 66 ls []) := by
  refine lp_G (G := fun z : Int32 × Mm => ∀ (H : Heap) (locs : List Loc) (ls : Array Slot), Rx s E L z.2 H locs → lv_has ls 3 [(0, .ref a0), (1, .ref a1), (2, .int z.1)] → W p l e (rmD (d + 3)) s m args below meth c H locs 0 0 (MQ below (QcM E L none M') args s 0 0 E.2.2.2) (F0 m 66 ls [])) (fun rec ih z h H locs ls hR hl => ?_) fu _ h H locs ls hR hl
  exact wX5_make_b66 B hr hlk  (fun x2 M h => ih (x2, M) h) h0 h1 h hR hl
def fX5_make (fu : Nat) (a0 : Nat) (a1 : Nat) (M : Mm) : Option Mm :=
  bm (fX2_begin fu 128 (a0 + 1) (M.1 a1 0) M) fun M_8 =>
  bm (fX2_cutPages fu 128 (a0 + 1) a1 M_8) fun M_16 =>
  bm (fX2_cutParts fu 128 (a0 + 1) a1 M_16) fun M_24 =>
  bm (fX2_cutSpans fu 128 (a0 + 1) a1 M_24) fun M_32 =>
  bm (fX2_cutRegisters fu 128 (a0 + 1) a1 M_32) fun M_40 =>
  lt (wI M_40 a0 8 (M_40.1 a1 4)) fun M_48 =>
  lt (wI M_48 a0 6 ((M_48.1 (a0 + 1) 1) - 1)) fun M_61 =>
  fX5_make_l66 fu a0 a1 0 M_61
set_option maxRecDepth 100000 in
set_option maxHeartbeats 4000000 in
theorem mX5_make {l : Launch} {E : Ge} {L : Lay} (fu d : Nat) {a0 : Nat} {a1 : Nat} {M : Mm} {M' : Mm}  (h0 : At L a0 T5) (h1 : At L a1 T8) (h : fX5_make fu a0 a1 M = some M') : Ct l E L yX5_make cX5_make 3 none (d + 3) [.ref a0, .ref a1] M none M' := by
  refine Ct.of (by decide) ?_
  intro p e s m below meth c hr hlk B hR
  have B : Bx p s m _ c cX5_make 3 RX5 E L := B
  have hx := B.1
  have hb := B.2.1
  have hl := lv_entry ([.ref a0, .ref a1]) (n := 3) (Nat.le_of_ble_eq_true rfl)
  rw [lg_entry_eq]
  generalize (lg_sl ([.ref a0, .ref a1]) ++ List.replicate (3 - (lg_sl ([.ref a0, .ref a1])).length) Slot.unset).toArray = ls at hl ⊢
  have hl : lv_has ls 3 [(0, .ref a0), (1, .ref a1)] := hl
  unfold fX5_make at h
  refine lv_aload_n hx hb dX5_make_0 rfl (lv_at hl 0 rfl) ?_
  refine gf_X5_14 B hR (h0.at0 rfl) dX5_make_1 ?_
  refine lv_aload_n hx hb dX5_make_4 rfl (lv_at hl 1 rfl) ?_
  refine gf_X5_36 B hR (h1.at0 rfl) dX5_make_5 ?_
  obtain ⟨M_8, hc_8, h⟩ := bm_el h
  refine iv_X5_42 B hR ((sb_5_0 h0).at0 rfl) hl.1 (mX2_begin fu _ (sb_5_0 h0) hc_8) (Nat.le_of_ble_eq_true rfl) dX5_make_8 (fun H locs hR => ?_)
  refine lv_aload_n hx hb dX5_make_11 rfl (lv_at hl 0 rfl) ?_
  refine gf_X5_14 B hR (h0.at0 rfl) dX5_make_12 ?_
  refine lv_aload_n hx hb dX5_make_15 rfl (lv_at hl 1 rfl) ?_
  obtain ⟨M_16, hc_16, h⟩ := bm_el h
  refine iv_X5_45 B hR ((sb_5_0 h0).at0 rfl) hl.1 (mX2_cutPages fu _ (sb_5_0 h0) h1 hc_16) (Nat.le_of_ble_eq_true rfl) dX5_make_16 (fun H locs hR => ?_)
  refine lv_aload_n hx hb dX5_make_19 rfl (lv_at hl 0 rfl) ?_
  refine gf_X5_14 B hR (h0.at0 rfl) dX5_make_20 ?_
  refine lv_aload_n hx hb dX5_make_23 rfl (lv_at hl 1 rfl) ?_
  obtain ⟨M_24, hc_24, h⟩ := bm_el h
  refine iv_X5_49 B hR ((sb_5_0 h0).at0 rfl) hl.1 (mX2_cutParts fu _ (sb_5_0 h0) h1 hc_24) (Nat.le_of_ble_eq_true rfl) dX5_make_24 (fun H locs hR => ?_)
  refine lv_aload_n hx hb dX5_make_27 rfl (lv_at hl 0 rfl) ?_
  refine gf_X5_14 B hR (h0.at0 rfl) dX5_make_28 ?_
  refine lv_aload_n hx hb dX5_make_31 rfl (lv_at hl 1 rfl) ?_
  obtain ⟨M_32, hc_32, h⟩ := bm_el h
  refine iv_X5_52 B hR ((sb_5_0 h0).at0 rfl) hl.1 (mX2_cutSpans fu _ (sb_5_0 h0) h1 hc_32) (Nat.le_of_ble_eq_true rfl) dX5_make_32 (fun H locs hR => ?_)
  refine lv_aload_n hx hb dX5_make_35 rfl (lv_at hl 0 rfl) ?_
  refine gf_X5_14 B hR (h0.at0 rfl) dX5_make_36 ?_
  refine lv_aload_n hx hb dX5_make_39 rfl (lv_at hl 1 rfl) ?_
  obtain ⟨M_40, hc_40, h⟩ := bm_el h
  refine iv_X5_55 B hR ((sb_5_0 h0).at0 rfl) hl.1 (mX2_cutRegisters fu _ (sb_5_0 h0) h1 hc_40) (Nat.le_of_ble_eq_true rfl) dX5_make_40 (fun H locs hR => ?_)
  refine lv_aload_n hx hb dX5_make_43 rfl (lv_at hl 0 rfl) ?_
  refine lv_aload_n hx hb dX5_make_44 rfl (lv_at hl 1 rfl) ?_
  refine gf_X5_58 B hR (h1.at0 rfl) dX5_make_45 ?_
  obtain ⟨M_48, eM_48, h⟩ := lt_el h
  refine pf_X5_61 B hR (h0.at0 rfl) dX5_make_48 (fun H locs hR => ?_)
  rw [← eM_48] at hR
  refine lv_aload_n hx hb dX5_make_51 rfl (lv_at hl 0 rfl) ?_
  refine lv_aload_n hx hb dX5_make_52 rfl (lv_at hl 0 rfl) ?_
  refine gf_X5_14 B hR (h0.at0 rfl) dX5_make_53 ?_
  refine gf_X5_62 B hR ((sb_5_0 h0).at0 rfl) dX5_make_56 ?_
  refine lv_iconst (v := 1) hx hb dX5_make_59 (by decide) ?_
  refine lv_isub hx hb dX5_make_60 ?_
  obtain ⟨M_61, eM_61, h⟩ := lt_el h
  refine pf_X5_65 B hR (h0.at0 rfl) dX5_make_61 (fun H locs hR => ?_)
  rw [← eM_61] at hR
  refine lv_iconst (v := 0) hx hb dX5_make_64 (by decide) ?_
  refine lv_istore_n (lv' := [(2, .int 0), (0, .ref a0), (1, .ref a1)]) hx hb dX5_make_65 rfl hl (by decide) rfl (fun ls hl => ?_)
  exact wX5_make_l66 B hr hlk h0 h1 h hR (lv_sub hl [1, 2, 0] rfl)
def fX5_startOf (fu : Nat) (a0 : Nat) (x1 : Int32) (M : Mm) : Option Int32 :=
  if x1 < 0 ∨ 128 ≤ ix x1 then none else
  some (M.1 ((a0 + 1) + 1) (ix x1))
set_option maxRecDepth 100000 in
set_option maxHeartbeats 4000000 in
theorem mX5_startOf {l : Launch} {E : Ge} {L : Lay} (fu d : Nat) {a0 : Nat} {x1 : Int32} {M : Mm} {r : Int32}  (h0 : At L a0 T5) (h : fX5_startOf fu a0 x1 M = some r) : Ct l E L yX5_startOf cX5_startOf 2 (some .int) (d + 0) [.ref a0, .int x1] M (some (.int r)) M := by
  refine Ct.of (by decide) ?_
  intro p e s m below meth c hr hlk B hR
  have B : Bx p s m _ c cX5_startOf 2 RX5 E L := B
  have hx := B.1
  have hb := B.2.1
  have hl := lv_entry ([.ref a0, .int x1]) (n := 2) (Nat.le_of_ble_eq_true rfl)
  rw [lg_entry_eq]
  generalize (lg_sl ([.ref a0, .int x1]) ++ List.replicate (2 - (lg_sl ([.ref a0, .int x1])).length) Slot.unset).toArray = ls at hl ⊢
  have hl : lv_has ls 2 [(0, .ref a0), (1, .int x1)] := hl
  unfold fX5_startOf at h
  refine lv_aload_n hx hb dX5_startOf_0 rfl (lv_at hl 0 rfl) ?_
  refine gf_X5_14 B hR (h0.at0 rfl) dX5_startOf_1 ?_
  refine gf_X5_66 B hR ((sb_5_0 h0).at0 rfl) dX5_startOf_4 ?_
  refine lv_iload_n hx hb dX5_startOf_7 rfl (lv_at hl 1 rfl) ?_
  obtain ⟨hi_8, h⟩ := ifn_el h
  refine r_iald B hR ((sb_5_0 h0).at 1 rfl) hi_8 dX5_startOf_8 ?_
  exact r_iretP B hR hr hlk h dX5_startOf_9
def fX5_lengthOf (fu : Nat) (a0 : Nat) (x1 : Int32) (M : Mm) : Option Int32 :=
  if (x1 + 1) < 0 ∨ 128 ≤ ix (x1 + 1) then none else
  if x1 < 0 ∨ 128 ≤ ix x1 then none else
  some ((M.1 ((a0 + 1) + 1) (ix (x1 + 1))) - (M.1 ((a0 + 1) + 1) (ix x1)))
set_option maxRecDepth 100000 in
set_option maxHeartbeats 4000000 in
theorem mX5_lengthOf {l : Launch} {E : Ge} {L : Lay} (fu d : Nat) {a0 : Nat} {x1 : Int32} {M : Mm} {r : Int32}  (h0 : At L a0 T5) (h : fX5_lengthOf fu a0 x1 M = some r) : Ct l E L yX5_lengthOf cX5_lengthOf 2 (some .int) (d + 0) [.ref a0, .int x1] M (some (.int r)) M := by
  refine Ct.of (by decide) ?_
  intro p e s m below meth c hr hlk B hR
  have B : Bx p s m _ c cX5_lengthOf 2 RX5 E L := B
  have hx := B.1
  have hb := B.2.1
  have hl := lv_entry ([.ref a0, .int x1]) (n := 2) (Nat.le_of_ble_eq_true rfl)
  rw [lg_entry_eq]
  generalize (lg_sl ([.ref a0, .int x1]) ++ List.replicate (2 - (lg_sl ([.ref a0, .int x1])).length) Slot.unset).toArray = ls at hl ⊢
  have hl : lv_has ls 2 [(0, .ref a0), (1, .int x1)] := hl
  unfold fX5_lengthOf at h
  refine lv_aload_n hx hb dX5_lengthOf_0 rfl (lv_at hl 0 rfl) ?_
  refine gf_X5_14 B hR (h0.at0 rfl) dX5_lengthOf_1 ?_
  refine gf_X5_66 B hR ((sb_5_0 h0).at0 rfl) dX5_lengthOf_4 ?_
  refine lv_iload_n hx hb dX5_lengthOf_7 rfl (lv_at hl 1 rfl) ?_
  refine lv_iconst (v := 1) hx hb dX5_lengthOf_8 (by decide) ?_
  refine lv_iadd hx hb dX5_lengthOf_9 ?_
  obtain ⟨hi_10, h⟩ := ifn_el h
  refine r_iald B hR ((sb_5_0 h0).at 1 rfl) hi_10 dX5_lengthOf_10 ?_
  refine lv_aload_n hx hb dX5_lengthOf_11 rfl (lv_at hl 0 rfl) ?_
  refine gf_X5_14 B hR (h0.at0 rfl) dX5_lengthOf_12 ?_
  refine gf_X5_66 B hR ((sb_5_0 h0).at0 rfl) dX5_lengthOf_15 ?_
  refine lv_iload_n hx hb dX5_lengthOf_18 rfl (lv_at hl 1 rfl) ?_
  obtain ⟨hi_19, h⟩ := ifn_el h
  refine r_iald B hR ((sb_5_0 h0).at 1 rfl) hi_19 dX5_lengthOf_19 ?_
  refine lv_isub hx hb dX5_lengthOf_20 ?_
  exact r_iretP B hR hr hlk h dX5_lengthOf_21
def fX5_pieceFrom_j33 (fu : Nat) (x3 : Int32) (M : Mm) : Option Int32 :=
  some x3
set_option maxRecDepth 100000 in
set_option maxHeartbeats 4000000 in
theorem wX5_pieceFrom_j33 {r : Int32}   {x3 : Int32} {M : Mm} (B : Bx p s m args c cX5_pieceFrom 4 RX5 E L) (hr : meth.sig.returnType = (some .int)) (hlk : meth.locks = false)   (h : fX5_pieceFrom_j33 fu x3 M = some r) (hR : Rx s E L M H locs) (hl : lv_has ls 4 [(3, .int x3)]) : W p l e (rmD (d + 0)) s m args below meth c H locs 0 0 (MQ below (QcM E L (some (.int r)) M) args s 0 0 E.2.2.2) (F0 m 33 ls []) := by
  have hx := B.1
  have hb := B.2.1
  unfold fX5_pieceFrom_j33 at h
  refine lv_iload_n hx hb dX5_pieceFrom_33 rfl (lv_at hl 0 rfl) ?_
  exact r_iretP B hR hr hlk h dX5_pieceFrom_34
def fX5_pieceFrom_b2 (fu : Nat) (k2 : Int32 → Option Int32) (a0 : Nat) (x2 : Int32) (x3 : Int32) (M : Mm) : Option Int32 :=
  if (M.1 a0 6) ≤ (x3 + 1) then
    fX5_pieceFrom_j33 fu x3 M
  else
    if (x3 + 1) < 0 ∨ 128 ≤ ix (x3 + 1) then none else
    if x2 < (M.1 ((a0 + 1) + 1) (ix (x3 + 1))) then
      fX5_pieceFrom_j33 fu x3 M
    else
      lt (x3 + 1) fun x3_27 =>
      k2 x3_27
set_option maxRecDepth 100000 in
set_option maxHeartbeats 4000000 in
theorem wX5_pieceFrom_b2 {r : Int32}   {k2 : Int32 → Option Int32} {a0 : Nat} {x2 : Int32} {x3 : Int32} {M : Mm} (B : Bx p s m args c cX5_pieceFrom 4 RX5 E L) (hr : meth.sig.returnType = (some .int)) (hlk : meth.locks = false)  (ih2 : ∀ (x3 : Int32), k2 x3 = some r → ∀ (H : Heap) (locs : List Loc) (ls : Array Slot), Rx s E L M H locs → lv_has ls 4 [(0, .ref a0), (2, .int x2), (3, .int x3)] → W p l e (rmD (d + 0)) s m args below meth c H locs 0 0 (MQ below (QcM E L (some (.int r)) M) args s 0 0 E.2.2.2) (F0 m 2 ls [])) (h0 : At L a0 T5) (h : fX5_pieceFrom_b2 fu k2 a0 x2 x3 M = some r) (hR : Rx s E L M H locs) (hl : lv_has ls 4 [(0, .ref a0), (2, .int x2), (3, .int x3)]) : W p l e (rmD (d + 0)) s m args below meth c H locs 0 0 (MQ below (QcM E L (some (.int r)) M) args s 0 0 E.2.2.2) (F0 m 2 ls []) := by
  have hx := B.1
  have hb := B.2.1
  unfold fX5_pieceFrom_b2 at h
  refine lv_iload_n hx hb dX5_pieceFrom_2 rfl (lv_at hl 2 rfl) ?_
  refine lv_iconst (v := 1) hx hb dX5_pieceFrom_3 (by decide) ?_
  refine lv_iadd hx hb dX5_pieceFrom_4 ?_
  refine lv_aload_n hx hb dX5_pieceFrom_5 rfl (lv_at hl 0 rfl) ?_
  refine gf_X5_65 B hR (h0.at0 rfl) dX5_pieceFrom_6 ?_
  refine lv_icmp_ge (tgt := 33) hx hb dX5_pieceFrom_9 (by decide) (fun c_9 => ?_) (fun c_9 => ?_)
  · rw [if_pos c_9] at h
    exact wX5_pieceFrom_j33 B hr hlk  h hR (lv_sub hl [2] rfl)
  · rw [if_neg c_9] at h
    refine lv_aload_n hx hb dX5_pieceFrom_12 rfl (lv_at hl 0 rfl) ?_
    refine gf_X5_14 B hR (h0.at0 rfl) dX5_pieceFrom_13 ?_
    refine gf_X5_66 B hR ((sb_5_0 h0).at0 rfl) dX5_pieceFrom_16 ?_
    refine lv_iload_n hx hb dX5_pieceFrom_19 rfl (lv_at hl 2 rfl) ?_
    refine lv_iconst (v := 1) hx hb dX5_pieceFrom_20 (by decide) ?_
    refine lv_iadd hx hb dX5_pieceFrom_21 ?_
    obtain ⟨hi_22, h⟩ := ifn_el h
    refine r_iald B hR ((sb_5_0 h0).at 1 rfl) hi_22 dX5_pieceFrom_22 ?_
    refine lv_iload_n hx hb dX5_pieceFrom_23 rfl (lv_at hl 1 rfl) ?_
    refine lv_icmp_gt (tgt := 33) hx hb dX5_pieceFrom_24 (by decide) (fun c_24 => ?_) (fun c_24 => ?_)
    · rw [if_pos c_24] at h
      exact wX5_pieceFrom_j33 B hr hlk  h hR (lv_sub hl [2] rfl)
    · rw [if_neg c_24] at h
      obtain ⟨x3_27, ex3_27, h⟩ := lt_el h
      refine lv_iinc (v := x3_27) (lv' := [(3, .int x3_27), (0, .ref a0), (2, .int x2)]) hx hb dX5_pieceFrom_27 hl (k := 2) rfl (by rw [ex3_27]; rfl) (by decide) rfl (fun ls hl => ?_)
      refine lv_goto (tgt := 2) hx hb dX5_pieceFrom_30 (by decide) ?_
      exact ih2 x3_27 h _ _ _ hR (lv_sub hl [1, 2, 0] rfl)
def fX5_pieceFrom_l2 (fu : Nat) (a0 : Nat) (x2 : Int32) (M : Mm) (x3 : Int32) : Option Int32 := lp (fun (rec : Int32 → Option Int32) (s : Int32) => fX5_pieceFrom_b2 fu  (fun x3 => rec (x3)) a0 x2 s M) fu (x3)
set_option maxRecDepth 100000 in
set_option maxHeartbeats 4000000 in
theorem wX5_pieceFrom_l2 {r : Int32}   {a0 : Nat} {x2 : Int32} {x3 : Int32} {M : Mm} (B : Bx p s m args c cX5_pieceFrom 4 RX5 E L) (hr : meth.sig.returnType = (some .int)) (hlk : meth.locks = false)  (h0 : At L a0 T5) (h : fX5_pieceFrom_l2 fu a0 x2 M x3 = some r) (hR : Rx s E L M H locs) (hl : lv_has ls 4 [(0, .ref a0), (2, .int x2), (3, .int x3)]) : W p l e (rmD (d + 0)) s m args below meth c H locs 0 0 (MQ below (QcM E L (some (.int r)) M) args s 0 0 E.2.2.2) (F0 m 2 ls []) := by
  refine lp_G (G := fun z : Int32 => ∀ (H : Heap) (locs : List Loc) (ls : Array Slot), Rx s E L M H locs → lv_has ls 4 [(0, .ref a0), (2, .int x2), (3, .int z)] → W p l e (rmD (d + 0)) s m args below meth c H locs 0 0 (MQ below (QcM E L (some (.int r)) M) args s 0 0 E.2.2.2) (F0 m 2 ls [])) (fun rec ih z h H locs ls hR hl => ?_) fu _ h H locs ls hR hl
  exact wX5_pieceFrom_b2 B hr hlk  (fun x3 h => ih (x3) h) h0 h hR hl
def fX5_pieceFrom (fu : Nat) (a0 : Nat) (x1 : Int32) (x2 : Int32) (M : Mm) : Option Int32 :=
  fX5_pieceFrom_l2 fu a0 x2 M x1
set_option maxRecDepth 100000 in
set_option maxHeartbeats 4000000 in
theorem mX5_pieceFrom {l : Launch} {E : Ge} {L : Lay} (fu d : Nat) {a0 : Nat} {x1 : Int32} {x2 : Int32} {M : Mm} {r : Int32}  (h0 : At L a0 T5) (h : fX5_pieceFrom fu a0 x1 x2 M = some r) : Ct l E L yX5_pieceFrom cX5_pieceFrom 4 (some .int) (d + 0) [.ref a0, .int x1, .int x2] M (some (.int r)) M := by
  refine Ct.of (by decide) ?_
  intro p e s m below meth c hr hlk B hR
  have B : Bx p s m _ c cX5_pieceFrom 4 RX5 E L := B
  have hx := B.1
  have hb := B.2.1
  have hl := lv_entry ([.ref a0, .int x1, .int x2]) (n := 4) (Nat.le_of_ble_eq_true rfl)
  rw [lg_entry_eq]
  generalize (lg_sl ([.ref a0, .int x1, .int x2]) ++ List.replicate (4 - (lg_sl ([.ref a0, .int x1, .int x2])).length) Slot.unset).toArray = ls at hl ⊢
  have hl : lv_has ls 4 [(0, .ref a0), (1, .int x1), (2, .int x2)] := hl
  unfold fX5_pieceFrom at h
  refine lv_iload_n hx hb dX5_pieceFrom_0 rfl (lv_at hl 1 rfl) ?_
  refine lv_istore_n (lv' := [(3, .int x1), (0, .ref a0), (1, .int x1), (2, .int x2)]) hx hb dX5_pieceFrom_1 rfl hl (by decide) rfl (fun ls hl => ?_)
  exact wX5_pieceFrom_l2 B hr hlk h0 h hR (lv_sub hl [1, 3, 0] rfl)
def fX5_wrongOnes_j74 (fu : Nat) (x3 : Int32) (M : Mm) : Option Int32 :=
  some x3
set_option maxRecDepth 100000 in
set_option maxHeartbeats 4000000 in
theorem wX5_wrongOnes_j74 {r : Int32}   {x3 : Int32} {M : Mm} (B : Bx p s m args c cX5_wrongOnes 5 RX5 E L) (hr : meth.sig.returnType = (some .int)) (hlk : meth.locks = false)   (h : fX5_wrongOnes_j74 fu x3 M = some r) (hR : Rx s E L M H locs) (hl : lv_has ls 5 [(3, .int x3)]) : W p l e (rmD (d + 1)) s m args below meth c H locs 0 0 (MQ below (QcM E L (some (.int r)) M) args s 0 0 E.2.2.2) (F0 m 74 ls []) := by
  have hx := B.1
  have hb := B.2.1
  unfold fX5_wrongOnes_j74 at h
  refine lv_iload_n hx hb dX5_wrongOnes_74 rfl (lv_at hl 0 rfl) ?_
  exact r_iretP B hR hr hlk h dX5_wrongOnes_75
def fX5_wrongOnes_j68 (fu : Nat) (k5 : Int32 → Int32 → Option Int32) (a0 : Nat) (x1 : Int32) (x2 : Int32) (x3 : Int32) (x4 : Int32) (M : Mm) : Option Int32 :=
  lt (x4 + 1) fun x4_68 =>
  k5 x3 x4_68
set_option maxRecDepth 100000 in
set_option maxHeartbeats 4000000 in
theorem wX5_wrongOnes_j68 {r : Int32}  {k5 : Int32 → Int32 → Option Int32} {a0 : Nat} {x1 : Int32} {x2 : Int32} {x3 : Int32} {x4 : Int32} {M : Mm} (B : Bx p s m args c cX5_wrongOnes 5 RX5 E L) (hr : meth.sig.returnType = (some .int)) (hlk : meth.locks = false) (ih5 : ∀ (x3 : Int32) (x4 : Int32), k5 x3 x4 = some r → ∀ (H : Heap) (locs : List Loc) (ls : Array Slot), Rx s E L M H locs → lv_has ls 5 [(0, .ref a0), (1, .int x1), (2, .int x2), (3, .int x3), (4, .int x4)] → W p l e (rmD (d + 1)) s m args below meth c H locs 0 0 (MQ below (QcM E L (some (.int r)) M) args s 0 0 E.2.2.2) (F0 m 5 ls [])) (h0 : At L a0 T5) (h : fX5_wrongOnes_j68 fu k5 a0 x1 x2 x3 x4 M = some r) (hR : Rx s E L M H locs) (hl : lv_has ls 5 [(0, .ref a0), (1, .int x1), (2, .int x2), (3, .int x3), (4, .int x4)]) : W p l e (rmD (d + 1)) s m args below meth c H locs 0 0 (MQ below (QcM E L (some (.int r)) M) args s 0 0 E.2.2.2) (F0 m 68 ls []) := by
  have hx := B.1
  have hb := B.2.1
  unfold fX5_wrongOnes_j68 at h
  obtain ⟨x4_68, ex4_68, h⟩ := lt_el h
  refine lv_iinc (v := x4_68) (lv' := [(4, .int x4_68), (0, .ref a0), (1, .int x1), (2, .int x2), (3, .int x3)]) hx hb dX5_wrongOnes_68 hl (k := 4) rfl (by rw [ex4_68]; rfl) (by decide) rfl (fun ls hl => ?_)
  refine lv_goto (tgt := 5) hx hb dX5_wrongOnes_71 (by decide) ?_
  exact ih5 x3 x4_68 h _ _ _ hR (lv_sub hl [1, 2, 3, 4, 0] rfl)
def fX5_wrongOnes_b5 (fu : Nat) (k5 : Int32 → Int32 → Option Int32) (a0 : Nat) (x1 : Int32) (x2 : Int32) (x3 : Int32) (x4 : Int32) (M : Mm) : Option Int32 :=
  if (M.1 a0 6) ≤ x4 then
    fX5_wrongOnes_j74 fu x3 M
  else
    if x4 < 0 ∨ 128 ≤ ix x4 then none else
    if (M.1 ((a0 + 1) + 1) (ix x4)) < x1 then
      fX5_wrongOnes_j68 fu k5 a0 x1 x2 x3 x4 M
    else
      if x2 ≤ (M.1 ((a0 + 1) + 1) (ix x4)) then
        fX5_wrongOnes_j68 fu k5 a0 x1 x2 x3 x4 M
      else
        if (M.1 (a0 + 4) (ix x4)) = (M.1 (a0 + 3) (ix x4)) then
          fX5_wrongOnes_j68 fu k5 a0 x1 x2 x3 x4 M
        else
          bi (fX5_lengthOf fu a0 x4 M) fun r_63 =>
          lt ((x3 + r_63)) fun x3_67 =>
          fX5_wrongOnes_j68 fu k5 a0 x1 x2 x3_67 x4 M
set_option maxRecDepth 100000 in
set_option maxHeartbeats 4000000 in
theorem wX5_wrongOnes_b5 {r : Int32}   {k5 : Int32 → Int32 → Option Int32} {a0 : Nat} {x1 : Int32} {x2 : Int32} {x3 : Int32} {x4 : Int32} {M : Mm} (B : Bx p s m args c cX5_wrongOnes 5 RX5 E L) (hr : meth.sig.returnType = (some .int)) (hlk : meth.locks = false)  (ih5 : ∀ (x3 : Int32) (x4 : Int32), k5 x3 x4 = some r → ∀ (H : Heap) (locs : List Loc) (ls : Array Slot), Rx s E L M H locs → lv_has ls 5 [(0, .ref a0), (1, .int x1), (2, .int x2), (3, .int x3), (4, .int x4)] → W p l e (rmD (d + 1)) s m args below meth c H locs 0 0 (MQ below (QcM E L (some (.int r)) M) args s 0 0 E.2.2.2) (F0 m 5 ls [])) (h0 : At L a0 T5) (h : fX5_wrongOnes_b5 fu k5 a0 x1 x2 x3 x4 M = some r) (hR : Rx s E L M H locs) (hl : lv_has ls 5 [(0, .ref a0), (1, .int x1), (2, .int x2), (3, .int x3), (4, .int x4)]) : W p l e (rmD (d + 1)) s m args below meth c H locs 0 0 (MQ below (QcM E L (some (.int r)) M) args s 0 0 E.2.2.2) (F0 m 5 ls []) := by
  have hx := B.1
  have hb := B.2.1
  unfold fX5_wrongOnes_b5 at h
  refine lv_iload hx hb dX5_wrongOnes_5 (lv_at hl 4 rfl) ?_
  refine lv_aload_n hx hb dX5_wrongOnes_7 rfl (lv_at hl 0 rfl) ?_
  refine gf_X5_65 B hR (h0.at0 rfl) dX5_wrongOnes_8 ?_
  refine lv_icmp_ge (tgt := 74) hx hb dX5_wrongOnes_11 (by decide) (fun c_11 => ?_) (fun c_11 => ?_)
  · rw [if_pos c_11] at h
    exact wX5_wrongOnes_j74 B hr hlk  h hR (lv_sub hl [3] rfl)
  · rw [if_neg c_11] at h
    refine lv_aload_n hx hb dX5_wrongOnes_14 rfl (lv_at hl 0 rfl) ?_
    refine gf_X5_14 B hR (h0.at0 rfl) dX5_wrongOnes_15 ?_
    refine gf_X5_66 B hR ((sb_5_0 h0).at0 rfl) dX5_wrongOnes_18 ?_
    refine lv_iload hx hb dX5_wrongOnes_21 (lv_at hl 4 rfl) ?_
    obtain ⟨hi_23, h⟩ := ifn_el h
    refine r_iald B hR ((sb_5_0 h0).at 1 rfl) hi_23 dX5_wrongOnes_23 ?_
    refine lv_iload_n hx hb dX5_wrongOnes_24 rfl (lv_at hl 1 rfl) ?_
    refine lv_icmp_lt (tgt := 68) hx hb dX5_wrongOnes_25 (by decide) (fun c_25 => ?_) (fun c_25 => ?_)
    · rw [if_pos c_25] at h
      exact wX5_wrongOnes_j68 B hr hlk ih5 h0 h hR hl
    · rw [if_neg c_25] at h
      refine lv_aload_n hx hb dX5_wrongOnes_28 rfl (lv_at hl 0 rfl) ?_
      refine gf_X5_14 B hR (h0.at0 rfl) dX5_wrongOnes_29 ?_
      refine gf_X5_66 B hR ((sb_5_0 h0).at0 rfl) dX5_wrongOnes_32 ?_
      refine lv_iload hx hb dX5_wrongOnes_35 (lv_at hl 4 rfl) ?_
      refine r_iald B hR ((sb_5_0 h0).at 1 rfl) hi_23 dX5_wrongOnes_37 ?_
      refine lv_iload_n hx hb dX5_wrongOnes_38 rfl (lv_at hl 2 rfl) ?_
      refine lv_icmp_ge (tgt := 68) hx hb dX5_wrongOnes_39 (by decide) (fun c_39 => ?_) (fun c_39 => ?_)
      · rw [if_pos c_39] at h
        exact wX5_wrongOnes_j68 B hr hlk ih5 h0 h hR hl
      · rw [if_neg c_39] at h
        refine lv_aload_n hx hb dX5_wrongOnes_42 rfl (lv_at hl 0 rfl) ?_
        refine gf_X5_24 B hR (h0.at0 rfl) dX5_wrongOnes_43 ?_
        refine lv_iload hx hb dX5_wrongOnes_46 (lv_at hl 4 rfl) ?_
        refine r_iald B hR (h0.at 4 rfl) hi_23 dX5_wrongOnes_48 ?_
        refine lv_aload_n hx hb dX5_wrongOnes_49 rfl (lv_at hl 0 rfl) ?_
        refine gf_X5_20 B hR (h0.at0 rfl) dX5_wrongOnes_50 ?_
        refine lv_iload hx hb dX5_wrongOnes_53 (lv_at hl 4 rfl) ?_
        refine r_iald B hR (h0.at 3 rfl) hi_23 dX5_wrongOnes_55 ?_
        refine lv_icmp_eq (tgt := 68) hx hb dX5_wrongOnes_56 (by decide) (fun c_56 => ?_) (fun c_56 => ?_)
        · rw [if_pos c_56] at h
          exact wX5_wrongOnes_j68 B hr hlk ih5 h0 h hR hl
        · rw [if_neg c_56] at h
          refine lv_iload_n hx hb dX5_wrongOnes_59 rfl (lv_at hl 3 rfl) ?_
          refine lv_aload_n hx hb dX5_wrongOnes_60 rfl (lv_at hl 0 rfl) ?_
          refine lv_iload hx hb dX5_wrongOnes_61 (lv_at hl 4 rfl) ?_
          obtain ⟨r_63, hc_63, h⟩ := bi_el h
          refine iv_X5_85 B hR (h0.at0 rfl) hl.1 (mX5_lengthOf fu _ h0 hc_63) (Nat.le_of_ble_eq_true rfl) dX5_wrongOnes_63 (fun H locs hR => ?_)
          refine lv_iadd hx hb dX5_wrongOnes_66 ?_
          obtain ⟨x3_67, ex3_67, h⟩ := lt_el h
          refine r_nmI ex3_67 ?_
          refine lv_istore_n (lv' := [(3, .int x3_67), (0, .ref a0), (1, .int x1), (2, .int x2), (4, .int x4)]) hx hb dX5_wrongOnes_67 rfl hl (by decide) rfl (fun ls hl => ?_)
          exact wX5_wrongOnes_j68 B hr hlk ih5 h0 h hR (lv_sub hl [1, 2, 3, 0, 4] rfl)
def fX5_wrongOnes_l5 (fu : Nat) (a0 : Nat) (x1 : Int32) (x2 : Int32) (M : Mm) (x3 : Int32) (x4 : Int32) : Option Int32 := lp (fun (rec : (Int32 × Int32) → Option Int32) (s : Int32 × Int32) => fX5_wrongOnes_b5 fu  (fun x3 x4 => rec (x3, x4)) a0 x1 x2 s.1 s.2 M) fu (x3, x4)
set_option maxRecDepth 100000 in
set_option maxHeartbeats 4000000 in
theorem wX5_wrongOnes_l5 {r : Int32}   {a0 : Nat} {x1 : Int32} {x2 : Int32} {x3 : Int32} {x4 : Int32} {M : Mm} (B : Bx p s m args c cX5_wrongOnes 5 RX5 E L) (hr : meth.sig.returnType = (some .int)) (hlk : meth.locks = false)  (h0 : At L a0 T5) (h : fX5_wrongOnes_l5 fu a0 x1 x2 M x3 x4 = some r) (hR : Rx s E L M H locs) (hl : lv_has ls 5 [(0, .ref a0), (1, .int x1), (2, .int x2), (3, .int x3), (4, .int x4)]) : W p l e (rmD (d + 1)) s m args below meth c H locs 0 0 (MQ below (QcM E L (some (.int r)) M) args s 0 0 E.2.2.2) (F0 m 5 ls []) := by
  refine lp_G (G := fun z : Int32 × Int32 => ∀ (H : Heap) (locs : List Loc) (ls : Array Slot), Rx s E L M H locs → lv_has ls 5 [(0, .ref a0), (1, .int x1), (2, .int x2), (3, .int z.1), (4, .int z.2)] → W p l e (rmD (d + 1)) s m args below meth c H locs 0 0 (MQ below (QcM E L (some (.int r)) M) args s 0 0 E.2.2.2) (F0 m 5 ls [])) (fun rec ih z h H locs ls hR hl => ?_) fu _ h H locs ls hR hl
  exact wX5_wrongOnes_b5 B hr hlk  (fun x3 x4 h => ih (x3, x4) h) h0 h hR hl
def fX5_wrongOnes (fu : Nat) (a0 : Nat) (x1 : Int32) (x2 : Int32) (M : Mm) : Option Int32 :=
  fX5_wrongOnes_l5 fu a0 x1 x2 M 0 0
set_option maxRecDepth 100000 in
set_option maxHeartbeats 4000000 in
theorem mX5_wrongOnes {l : Launch} {E : Ge} {L : Lay} (fu d : Nat) {a0 : Nat} {x1 : Int32} {x2 : Int32} {M : Mm} {r : Int32}  (h0 : At L a0 T5) (h : fX5_wrongOnes fu a0 x1 x2 M = some r) : Ct l E L yX5_wrongOnes cX5_wrongOnes 5 (some .int) (d + 1) [.ref a0, .int x1, .int x2] M (some (.int r)) M := by
  refine Ct.of (by decide) ?_
  intro p e s m below meth c hr hlk B hR
  have B : Bx p s m _ c cX5_wrongOnes 5 RX5 E L := B
  have hx := B.1
  have hb := B.2.1
  have hl := lv_entry ([.ref a0, .int x1, .int x2]) (n := 5) (Nat.le_of_ble_eq_true rfl)
  rw [lg_entry_eq]
  generalize (lg_sl ([.ref a0, .int x1, .int x2]) ++ List.replicate (5 - (lg_sl ([.ref a0, .int x1, .int x2])).length) Slot.unset).toArray = ls at hl ⊢
  have hl : lv_has ls 5 [(0, .ref a0), (1, .int x1), (2, .int x2)] := hl
  unfold fX5_wrongOnes at h
  refine lv_iconst (v := 0) hx hb dX5_wrongOnes_0 (by decide) ?_
  refine lv_istore_n (lv' := [(3, .int 0), (0, .ref a0), (1, .int x1), (2, .int x2)]) hx hb dX5_wrongOnes_1 rfl hl (by decide) rfl (fun ls hl => ?_)
  refine lv_iconst (v := 0) hx hb dX5_wrongOnes_2 (by decide) ?_
  refine lv_istore (lv' := [(4, .int 0), (3, .int 0), (0, .ref a0), (1, .int x1), (2, .int x2)]) hx hb dX5_wrongOnes_3 hl (by decide) rfl (fun ls hl => ?_)
  exact wX5_wrongOnes_l5 B hr hlk h0 h hR (lv_sub hl [2, 3, 4, 1, 0] rfl)
def fX5_firstWrong_j54 (fu : Nat) (M : Mm) : Option Int32 :=
  some (-1)
set_option maxRecDepth 100000 in
set_option maxHeartbeats 4000000 in
theorem wX5_firstWrong_j54 {r : Int32}    {M : Mm} (B : Bx p s m args c cX5_firstWrong 3 RX5 E L) (hr : meth.sig.returnType = (some .int)) (hlk : meth.locks = false)   (h : fX5_firstWrong_j54 fu M = some r) (hR : Rx s E L M H locs) (hl : lv_has ls 3 []) : W p l e (rmD (d + 0)) s m args below meth c H locs 0 0 (MQ below (QcM E L (some (.int r)) M) args s 0 0 E.2.2.2) (F0 m 54 ls []) := by
  have hx := B.1
  have hb := B.2.1
  unfold fX5_firstWrong_j54 at h
  refine lv_iconst (v := (-1)) hx hb dX5_firstWrong_54 (by decide) ?_
  exact r_iretP B hR hr hlk h dX5_firstWrong_55
def fX5_firstWrong_j48 (fu : Nat) (k2 : Int32 → Option Int32) (a0 : Nat) (x1 : Int32) (x2 : Int32) (M : Mm) : Option Int32 :=
  lt (x2 + 1) fun x2_48 =>
  k2 x2_48
set_option maxRecDepth 100000 in
set_option maxHeartbeats 4000000 in
theorem wX5_firstWrong_j48 {r : Int32}  {k2 : Int32 → Option Int32} {a0 : Nat} {x1 : Int32} {x2 : Int32} {M : Mm} (B : Bx p s m args c cX5_firstWrong 3 RX5 E L) (hr : meth.sig.returnType = (some .int)) (hlk : meth.locks = false) (ih2 : ∀ (x2 : Int32), k2 x2 = some r → ∀ (H : Heap) (locs : List Loc) (ls : Array Slot), Rx s E L M H locs → lv_has ls 3 [(0, .ref a0), (1, .int x1), (2, .int x2)] → W p l e (rmD (d + 0)) s m args below meth c H locs 0 0 (MQ below (QcM E L (some (.int r)) M) args s 0 0 E.2.2.2) (F0 m 2 ls [])) (h0 : At L a0 T5) (h : fX5_firstWrong_j48 fu k2 a0 x1 x2 M = some r) (hR : Rx s E L M H locs) (hl : lv_has ls 3 [(0, .ref a0), (1, .int x1), (2, .int x2)]) : W p l e (rmD (d + 0)) s m args below meth c H locs 0 0 (MQ below (QcM E L (some (.int r)) M) args s 0 0 E.2.2.2) (F0 m 48 ls []) := by
  have hx := B.1
  have hb := B.2.1
  unfold fX5_firstWrong_j48 at h
  obtain ⟨x2_48, ex2_48, h⟩ := lt_el h
  refine lv_iinc (v := x2_48) (lv' := [(2, .int x2_48), (0, .ref a0), (1, .int x1)]) hx hb dX5_firstWrong_48 hl (k := 2) rfl (by rw [ex2_48]; rfl) (by decide) rfl (fun ls hl => ?_)
  refine lv_goto (tgt := 2) hx hb dX5_firstWrong_51 (by decide) ?_
  exact ih2 x2_48 h _ _ _ hR (lv_sub hl [1, 2, 0] rfl)
def fX5_firstWrong_j38 (fu : Nat) (a0 : Nat) (x2 : Int32) (M : Mm) : Option Int32 :=
  if x2 < 0 ∨ 128 ≤ ix x2 then none else
  some (M.1 ((a0 + 1) + 1) (ix x2))
set_option maxRecDepth 100000 in
set_option maxHeartbeats 4000000 in
theorem wX5_firstWrong_j38 {r : Int32}   {a0 : Nat} {x2 : Int32} {M : Mm} (B : Bx p s m args c cX5_firstWrong 3 RX5 E L) (hr : meth.sig.returnType = (some .int)) (hlk : meth.locks = false)  (h0 : At L a0 T5) (h : fX5_firstWrong_j38 fu a0 x2 M = some r) (hR : Rx s E L M H locs) (hl : lv_has ls 3 [(0, .ref a0), (2, .int x2)]) : W p l e (rmD (d + 0)) s m args below meth c H locs 0 0 (MQ below (QcM E L (some (.int r)) M) args s 0 0 E.2.2.2) (F0 m 38 ls []) := by
  have hx := B.1
  have hb := B.2.1
  unfold fX5_firstWrong_j38 at h
  refine lv_aload_n hx hb dX5_firstWrong_38 rfl (lv_at hl 0 rfl) ?_
  refine gf_X5_14 B hR (h0.at0 rfl) dX5_firstWrong_39 ?_
  refine gf_X5_66 B hR ((sb_5_0 h0).at0 rfl) dX5_firstWrong_42 ?_
  refine lv_iload_n hx hb dX5_firstWrong_45 rfl (lv_at hl 1 rfl) ?_
  obtain ⟨hi_46, h⟩ := ifn_el h
  refine r_iald B hR ((sb_5_0 h0).at 1 rfl) hi_46 dX5_firstWrong_46 ?_
  exact r_iretP B hR hr hlk h dX5_firstWrong_47
def fX5_firstWrong_b2 (fu : Nat) (k2 : Int32 → Option Int32) (a0 : Nat) (x1 : Int32) (x2 : Int32) (M : Mm) : Option Int32 :=
  if (M.1 a0 6) ≤ x2 then
    fX5_firstWrong_j54 fu M
  else
    if x2 < 0 ∨ 128 ≤ ix x2 then none else
    if (M.1 ((a0 + 1) + 1) (ix x2)) < x1 then
      fX5_firstWrong_j48 fu k2 a0 x1 x2 M
    else
      if (M.1 (a0 + 4) (ix x2)) = (M.1 (a0 + 3) (ix x2)) then
        fX5_firstWrong_j48 fu k2 a0 x1 x2 M
      else
        fX5_firstWrong_j38 fu a0 x2 M
set_option maxRecDepth 100000 in
set_option maxHeartbeats 4000000 in
theorem wX5_firstWrong_b2 {r : Int32}   {k2 : Int32 → Option Int32} {a0 : Nat} {x1 : Int32} {x2 : Int32} {M : Mm} (B : Bx p s m args c cX5_firstWrong 3 RX5 E L) (hr : meth.sig.returnType = (some .int)) (hlk : meth.locks = false)  (ih2 : ∀ (x2 : Int32), k2 x2 = some r → ∀ (H : Heap) (locs : List Loc) (ls : Array Slot), Rx s E L M H locs → lv_has ls 3 [(0, .ref a0), (1, .int x1), (2, .int x2)] → W p l e (rmD (d + 0)) s m args below meth c H locs 0 0 (MQ below (QcM E L (some (.int r)) M) args s 0 0 E.2.2.2) (F0 m 2 ls [])) (h0 : At L a0 T5) (h : fX5_firstWrong_b2 fu k2 a0 x1 x2 M = some r) (hR : Rx s E L M H locs) (hl : lv_has ls 3 [(0, .ref a0), (1, .int x1), (2, .int x2)]) : W p l e (rmD (d + 0)) s m args below meth c H locs 0 0 (MQ below (QcM E L (some (.int r)) M) args s 0 0 E.2.2.2) (F0 m 2 ls []) := by
  have hx := B.1
  have hb := B.2.1
  unfold fX5_firstWrong_b2 at h
  refine lv_iload_n hx hb dX5_firstWrong_2 rfl (lv_at hl 2 rfl) ?_
  refine lv_aload_n hx hb dX5_firstWrong_3 rfl (lv_at hl 0 rfl) ?_
  refine gf_X5_65 B hR (h0.at0 rfl) dX5_firstWrong_4 ?_
  refine lv_icmp_ge (tgt := 54) hx hb dX5_firstWrong_7 (by decide) (fun c_7 => ?_) (fun c_7 => ?_)
  · rw [if_pos c_7] at h
    exact wX5_firstWrong_j54 B hr hlk  h hR (lv_sub hl [] rfl)
  · rw [if_neg c_7] at h
    refine lv_aload_n hx hb dX5_firstWrong_10 rfl (lv_at hl 0 rfl) ?_
    refine gf_X5_14 B hR (h0.at0 rfl) dX5_firstWrong_11 ?_
    refine gf_X5_66 B hR ((sb_5_0 h0).at0 rfl) dX5_firstWrong_14 ?_
    refine lv_iload_n hx hb dX5_firstWrong_17 rfl (lv_at hl 2 rfl) ?_
    obtain ⟨hi_18, h⟩ := ifn_el h
    refine r_iald B hR ((sb_5_0 h0).at 1 rfl) hi_18 dX5_firstWrong_18 ?_
    refine lv_iload_n hx hb dX5_firstWrong_19 rfl (lv_at hl 1 rfl) ?_
    refine lv_icmp_lt (tgt := 48) hx hb dX5_firstWrong_20 (by decide) (fun c_20 => ?_) (fun c_20 => ?_)
    · rw [if_pos c_20] at h
      exact wX5_firstWrong_j48 B hr hlk ih2 h0 h hR hl
    · rw [if_neg c_20] at h
      refine lv_aload_n hx hb dX5_firstWrong_23 rfl (lv_at hl 0 rfl) ?_
      refine gf_X5_24 B hR (h0.at0 rfl) dX5_firstWrong_24 ?_
      refine lv_iload_n hx hb dX5_firstWrong_27 rfl (lv_at hl 2 rfl) ?_
      refine r_iald B hR (h0.at 4 rfl) hi_18 dX5_firstWrong_28 ?_
      refine lv_aload_n hx hb dX5_firstWrong_29 rfl (lv_at hl 0 rfl) ?_
      refine gf_X5_20 B hR (h0.at0 rfl) dX5_firstWrong_30 ?_
      refine lv_iload_n hx hb dX5_firstWrong_33 rfl (lv_at hl 2 rfl) ?_
      refine r_iald B hR (h0.at 3 rfl) hi_18 dX5_firstWrong_34 ?_
      refine lv_icmp_eq (tgt := 48) hx hb dX5_firstWrong_35 (by decide) (fun c_35 => ?_) (fun c_35 => ?_)
      · rw [if_pos c_35] at h
        exact wX5_firstWrong_j48 B hr hlk ih2 h0 h hR hl
      · rw [if_neg c_35] at h
        exact wX5_firstWrong_j38 B hr hlk h0 h hR (lv_sub hl [0, 2] rfl)
def fX5_firstWrong_l2 (fu : Nat) (a0 : Nat) (x1 : Int32) (M : Mm) (x2 : Int32) : Option Int32 := lp (fun (rec : Int32 → Option Int32) (s : Int32) => fX5_firstWrong_b2 fu  (fun x2 => rec (x2)) a0 x1 s M) fu (x2)
set_option maxRecDepth 100000 in
set_option maxHeartbeats 4000000 in
theorem wX5_firstWrong_l2 {r : Int32}   {a0 : Nat} {x1 : Int32} {x2 : Int32} {M : Mm} (B : Bx p s m args c cX5_firstWrong 3 RX5 E L) (hr : meth.sig.returnType = (some .int)) (hlk : meth.locks = false)  (h0 : At L a0 T5) (h : fX5_firstWrong_l2 fu a0 x1 M x2 = some r) (hR : Rx s E L M H locs) (hl : lv_has ls 3 [(0, .ref a0), (1, .int x1), (2, .int x2)]) : W p l e (rmD (d + 0)) s m args below meth c H locs 0 0 (MQ below (QcM E L (some (.int r)) M) args s 0 0 E.2.2.2) (F0 m 2 ls []) := by
  refine lp_G (G := fun z : Int32 => ∀ (H : Heap) (locs : List Loc) (ls : Array Slot), Rx s E L M H locs → lv_has ls 3 [(0, .ref a0), (1, .int x1), (2, .int z)] → W p l e (rmD (d + 0)) s m args below meth c H locs 0 0 (MQ below (QcM E L (some (.int r)) M) args s 0 0 E.2.2.2) (F0 m 2 ls [])) (fun rec ih z h H locs ls hR hl => ?_) fu _ h H locs ls hR hl
  exact wX5_firstWrong_b2 B hr hlk  (fun x2 h => ih (x2) h) h0 h hR hl
def fX5_firstWrong (fu : Nat) (a0 : Nat) (x1 : Int32) (M : Mm) : Option Int32 :=
  fX5_firstWrong_l2 fu a0 x1 M 0
set_option maxRecDepth 100000 in
set_option maxHeartbeats 4000000 in
theorem mX5_firstWrong {l : Launch} {E : Ge} {L : Lay} (fu d : Nat) {a0 : Nat} {x1 : Int32} {M : Mm} {r : Int32}  (h0 : At L a0 T5) (h : fX5_firstWrong fu a0 x1 M = some r) : Ct l E L yX5_firstWrong cX5_firstWrong 3 (some .int) (d + 0) [.ref a0, .int x1] M (some (.int r)) M := by
  refine Ct.of (by decide) ?_
  intro p e s m below meth c hr hlk B hR
  have B : Bx p s m _ c cX5_firstWrong 3 RX5 E L := B
  have hx := B.1
  have hb := B.2.1
  have hl := lv_entry ([.ref a0, .int x1]) (n := 3) (Nat.le_of_ble_eq_true rfl)
  rw [lg_entry_eq]
  generalize (lg_sl ([.ref a0, .int x1]) ++ List.replicate (3 - (lg_sl ([.ref a0, .int x1])).length) Slot.unset).toArray = ls at hl ⊢
  have hl : lv_has ls 3 [(0, .ref a0), (1, .int x1)] := hl
  unfold fX5_firstWrong at h
  refine lv_iconst (v := 0) hx hb dX5_firstWrong_0 (by decide) ?_
  refine lv_istore_n (lv' := [(2, .int 0), (0, .ref a0), (1, .int x1)]) hx hb dX5_firstWrong_1 rfl hl (by decide) rfl (fun ls hl => ?_)
  exact wX5_firstWrong_l2 B hr hlk h0 h hR (lv_sub hl [1, 2, 0] rfl)
def fX5_clashing_j40 (fu : Nat) (x1 : Int32) (M : Mm) : Option Int32 :=
  some x1
set_option maxRecDepth 100000 in
set_option maxHeartbeats 4000000 in
theorem wX5_clashing_j40 {r : Int32}   {x1 : Int32} {M : Mm} (B : Bx p s m args c cX5_clashing 3 RX5 E L) (hr : meth.sig.returnType = (some .int)) (hlk : meth.locks = false)   (h : fX5_clashing_j40 fu x1 M = some r) (hR : Rx s E L M H locs) (hl : lv_has ls 3 [(1, .int x1)]) : W p l e (rmD (d + 1)) s m args below meth c H locs 0 0 (MQ below (QcM E L (some (.int r)) M) args s 0 0 E.2.2.2) (F0 m 40 ls []) := by
  have hx := B.1
  have hb := B.2.1
  unfold fX5_clashing_j40 at h
  refine lv_iload_n hx hb dX5_clashing_40 rfl (lv_at hl 0 rfl) ?_
  exact r_iretP B hR hr hlk h dX5_clashing_41
def fX5_clashing_j32 (fu : Nat) (k4 : Int32 → Int32 → Option Int32) (a0 : Nat) (x2 : Int32) (t0 : Int32) (t1 : Int32) (M : Mm) : Option Int32 :=
  lt ((t0 + t1)) fun x1_33 =>
  lt (x2 + 1) fun x2_34 =>
  k4 x1_33 x2_34
set_option maxRecDepth 100000 in
set_option maxHeartbeats 4000000 in
theorem wX5_clashing_j32 {r : Int32}  {k4 : Int32 → Int32 → Option Int32} {a0 : Nat} {x2 : Int32} {t0 : Int32} {t1 : Int32} {M : Mm} (B : Bx p s m args c cX5_clashing 3 RX5 E L) (hr : meth.sig.returnType = (some .int)) (hlk : meth.locks = false) (ih4 : ∀ (x1 : Int32) (x2 : Int32), k4 x1 x2 = some r → ∀ (H : Heap) (locs : List Loc) (ls : Array Slot), Rx s E L M H locs → lv_has ls 3 [(0, .ref a0), (1, .int x1), (2, .int x2)] → W p l e (rmD (d + 1)) s m args below meth c H locs 0 0 (MQ below (QcM E L (some (.int r)) M) args s 0 0 E.2.2.2) (F0 m 4 ls [])) (h0 : At L a0 T5) (h : fX5_clashing_j32 fu k4 a0 x2 t0 t1 M = some r) (hR : Rx s E L M H locs) (hl : lv_has ls 3 [(0, .ref a0), (2, .int x2)]) : W p l e (rmD (d + 1)) s m args below meth c H locs 0 0 (MQ below (QcM E L (some (.int r)) M) args s 0 0 E.2.2.2) (F0 m 32 ls [.int t1, .int t0]) := by
  have hx := B.1
  have hb := B.2.1
  unfold fX5_clashing_j32 at h
  refine lv_iadd hx hb dX5_clashing_32 ?_
  obtain ⟨x1_33, ex1_33, h⟩ := lt_el h
  refine r_nmI ex1_33 ?_
  refine lv_istore_n (lv' := [(1, .int x1_33), (0, .ref a0), (2, .int x2)]) hx hb dX5_clashing_33 rfl hl (by decide) rfl (fun ls hl => ?_)
  obtain ⟨x2_34, ex2_34, h⟩ := lt_el h
  refine lv_iinc (v := x2_34) (lv' := [(2, .int x2_34), (1, .int x1_33), (0, .ref a0)]) hx hb dX5_clashing_34 hl (k := 2) rfl (by rw [ex2_34]; rfl) (by decide) rfl (fun ls hl => ?_)
  refine lv_goto (tgt := 4) hx hb dX5_clashing_37 (by decide) ?_
  exact ih4 x1_33 x2_34 h _ _ _ hR (lv_sub hl [2, 1, 0] rfl)
def fX5_clashing_b4 (fu : Nat) (k4 : Int32 → Int32 → Option Int32) (a0 : Nat) (x1 : Int32) (x2 : Int32) (M : Mm) : Option Int32 :=
  if (M.1 a0 6) ≤ x2 then
    fX5_clashing_j40 fu x1 M
  else
    if x2 < 0 ∨ 128 ≤ ix x2 then none else
    if (M.1 (a0 + 4) (ix x2)) = 5 then
      bi (fX5_lengthOf fu a0 x2 M) fun r_25 =>
      fX5_clashing_j32 fu k4 a0 x2 x1 r_25 M
    else
      fX5_clashing_j32 fu k4 a0 x2 x1 0 M
set_option maxRecDepth 100000 in
set_option maxHeartbeats 4000000 in
theorem wX5_clashing_b4 {r : Int32}   {k4 : Int32 → Int32 → Option Int32} {a0 : Nat} {x1 : Int32} {x2 : Int32} {M : Mm} (B : Bx p s m args c cX5_clashing 3 RX5 E L) (hr : meth.sig.returnType = (some .int)) (hlk : meth.locks = false)  (ih4 : ∀ (x1 : Int32) (x2 : Int32), k4 x1 x2 = some r → ∀ (H : Heap) (locs : List Loc) (ls : Array Slot), Rx s E L M H locs → lv_has ls 3 [(0, .ref a0), (1, .int x1), (2, .int x2)] → W p l e (rmD (d + 1)) s m args below meth c H locs 0 0 (MQ below (QcM E L (some (.int r)) M) args s 0 0 E.2.2.2) (F0 m 4 ls [])) (h0 : At L a0 T5) (h : fX5_clashing_b4 fu k4 a0 x1 x2 M = some r) (hR : Rx s E L M H locs) (hl : lv_has ls 3 [(0, .ref a0), (1, .int x1), (2, .int x2)]) : W p l e (rmD (d + 1)) s m args below meth c H locs 0 0 (MQ below (QcM E L (some (.int r)) M) args s 0 0 E.2.2.2) (F0 m 4 ls []) := by
  have hx := B.1
  have hb := B.2.1
  unfold fX5_clashing_b4 at h
  refine lv_iload_n hx hb dX5_clashing_4 rfl (lv_at hl 2 rfl) ?_
  refine lv_aload_n hx hb dX5_clashing_5 rfl (lv_at hl 0 rfl) ?_
  refine gf_X5_65 B hR (h0.at0 rfl) dX5_clashing_6 ?_
  refine lv_icmp_ge (tgt := 40) hx hb dX5_clashing_9 (by decide) (fun c_9 => ?_) (fun c_9 => ?_)
  · rw [if_pos c_9] at h
    exact wX5_clashing_j40 B hr hlk  h hR (lv_sub hl [1] rfl)
  · rw [if_neg c_9] at h
    refine lv_iload_n hx hb dX5_clashing_12 rfl (lv_at hl 1 rfl) ?_
    refine lv_aload_n hx hb dX5_clashing_13 rfl (lv_at hl 0 rfl) ?_
    refine gf_X5_24 B hR (h0.at0 rfl) dX5_clashing_14 ?_
    refine lv_iload_n hx hb dX5_clashing_17 rfl (lv_at hl 2 rfl) ?_
    obtain ⟨hi_18, h⟩ := ifn_el h
    refine r_iald B hR (h0.at 4 rfl) hi_18 dX5_clashing_18 ?_
    refine lv_iconst (v := 5) hx hb dX5_clashing_19 (by decide) ?_
    refine lv_icmp_ne (tgt := 31) hx hb dX5_clashing_20 (by decide) (fun c_20 => ?_) (fun c_20 => ?_)
    · rw [if_neg c_20] at h
      refine lv_iconst (v := 0) hx hb dX5_clashing_31 (by decide) ?_
      exact wX5_clashing_j32 B hr hlk ih4 h0 h hR (lv_sub hl [0, 2] rfl)
    · rw [if_pos c_20] at h
      refine lv_aload_n hx hb dX5_clashing_23 rfl (lv_at hl 0 rfl) ?_
      refine lv_iload_n hx hb dX5_clashing_24 rfl (lv_at hl 2 rfl) ?_
      obtain ⟨r_25, hc_25, h⟩ := bi_el h
      refine iv_X5_85 B hR (h0.at0 rfl) hl.1 (mX5_lengthOf fu _ h0 hc_25) (Nat.le_of_ble_eq_true rfl) dX5_clashing_25 (fun H locs hR => ?_)
      refine lv_goto (tgt := 32) hx hb dX5_clashing_28 (by decide) ?_
      exact wX5_clashing_j32 B hr hlk ih4 h0 h hR (lv_sub hl [0, 2] rfl)
def fX5_clashing_l4 (fu : Nat) (a0 : Nat) (M : Mm) (x1 : Int32) (x2 : Int32) : Option Int32 := lp (fun (rec : (Int32 × Int32) → Option Int32) (s : Int32 × Int32) => fX5_clashing_b4 fu  (fun x1 x2 => rec (x1, x2)) a0 s.1 s.2 M) fu (x1, x2)
set_option maxRecDepth 100000 in
set_option maxHeartbeats 4000000 in
theorem wX5_clashing_l4 {r : Int32}   {a0 : Nat} {x1 : Int32} {x2 : Int32} {M : Mm} (B : Bx p s m args c cX5_clashing 3 RX5 E L) (hr : meth.sig.returnType = (some .int)) (hlk : meth.locks = false)  (h0 : At L a0 T5) (h : fX5_clashing_l4 fu a0 M x1 x2 = some r) (hR : Rx s E L M H locs) (hl : lv_has ls 3 [(0, .ref a0), (1, .int x1), (2, .int x2)]) : W p l e (rmD (d + 1)) s m args below meth c H locs 0 0 (MQ below (QcM E L (some (.int r)) M) args s 0 0 E.2.2.2) (F0 m 4 ls []) := by
  refine lp_G (G := fun z : Int32 × Int32 => ∀ (H : Heap) (locs : List Loc) (ls : Array Slot), Rx s E L M H locs → lv_has ls 3 [(0, .ref a0), (1, .int z.1), (2, .int z.2)] → W p l e (rmD (d + 1)) s m args below meth c H locs 0 0 (MQ below (QcM E L (some (.int r)) M) args s 0 0 E.2.2.2) (F0 m 4 ls [])) (fun rec ih z h H locs ls hR hl => ?_) fu _ h H locs ls hR hl
  exact wX5_clashing_b4 B hr hlk  (fun x1 x2 h => ih (x1, x2) h) h0 h hR hl
def fX5_clashing (fu : Nat) (a0 : Nat) (M : Mm) : Option Int32 :=
  fX5_clashing_l4 fu a0 M 0 0
set_option maxRecDepth 100000 in
set_option maxHeartbeats 4000000 in
theorem mX5_clashing {l : Launch} {E : Ge} {L : Lay} (fu d : Nat) {a0 : Nat} {M : Mm} {r : Int32}  (h0 : At L a0 T5) (h : fX5_clashing fu a0 M = some r) : Ct l E L yX5_clashing cX5_clashing 3 (some .int) (d + 1) [.ref a0] M (some (.int r)) M := by
  refine Ct.of (by decide) ?_
  intro p e s m below meth c hr hlk B hR
  have B : Bx p s m _ c cX5_clashing 3 RX5 E L := B
  have hx := B.1
  have hb := B.2.1
  have hl := lv_entry ([.ref a0]) (n := 3) (Nat.le_of_ble_eq_true rfl)
  rw [lg_entry_eq]
  generalize (lg_sl ([.ref a0]) ++ List.replicate (3 - (lg_sl ([.ref a0])).length) Slot.unset).toArray = ls at hl ⊢
  have hl : lv_has ls 3 [(0, .ref a0)] := hl
  unfold fX5_clashing at h
  refine lv_iconst (v := 0) hx hb dX5_clashing_0 (by decide) ?_
  refine lv_istore_n (lv' := [(1, .int 0), (0, .ref a0)]) hx hb dX5_clashing_1 rfl hl (by decide) rfl (fun ls hl => ?_)
  refine lv_iconst (v := 0) hx hb dX5_clashing_2 (by decide) ?_
  refine lv_istore_n (lv' := [(2, .int 0), (1, .int 0), (0, .ref a0)]) hx hb dX5_clashing_3 rfl hl (by decide) rfl (fun ls hl => ?_)
  exact wX5_clashing_l4 B hr hlk h0 h hR (lv_sub hl [2, 1, 0] rfl)
def fX5_mends_j77 (fu : Nat) (M : Mm) : Option Int32 :=
  some 1
set_option maxRecDepth 100000 in
set_option maxHeartbeats 4000000 in
theorem wX5_mends_j77 {r : Int32}    {M : Mm} (B : Bx p s m args c cX5_mends 5 RX5 E L) (hr : meth.sig.returnType = (some .boolean)) (hlk : meth.locks = false)   (h : fX5_mends_j77 fu M = some r) (hR : Rx s E L M H locs) (hl : lv_has ls 5 []) : W p l e (rmD (d + 0)) s m args below meth c H locs 0 0 (MQ below (QcM E L (some (.int r)) M) args s 0 0 E.2.2.2) (F0 m 77 ls []) := by
  have hx := B.1
  have hb := B.2.1
  unfold fX5_mends_j77 at h
  refine lv_iconst (v := 1) hx hb dX5_mends_77 (by decide) ?_
  exact r_zretP B hR hr hlk (Or.inr rfl) h dX5_mends_78
def fX5_mends_j71 (fu : Nat) (k3 : Int32 → Option Int32) (a0 : Nat) (x2 : Int32) (x3 : Int32) (x4 : Int32) (M : Mm) : Option Int32 :=
  lt (x4 + 1) fun x4_71 =>
  k3 x4_71
set_option maxRecDepth 100000 in
set_option maxHeartbeats 4000000 in
theorem wX5_mends_j71 {r : Int32}  {k3 : Int32 → Option Int32} {a0 : Nat} {x2 : Int32} {x3 : Int32} {x4 : Int32} {M : Mm} (B : Bx p s m args c cX5_mends 5 RX5 E L) (hr : meth.sig.returnType = (some .boolean)) (hlk : meth.locks = false) (ih3 : ∀ (x4 : Int32), k3 x4 = some r → ∀ (H : Heap) (locs : List Loc) (ls : Array Slot), Rx s E L M H locs → lv_has ls 5 [(0, .ref a0), (2, .int x2), (3, .int x3), (4, .int x4)] → W p l e (rmD (d + 0)) s m args below meth c H locs 0 0 (MQ below (QcM E L (some (.int r)) M) args s 0 0 E.2.2.2) (F0 m 3 ls [])) (h0 : At L a0 T5) (h : fX5_mends_j71 fu k3 a0 x2 x3 x4 M = some r) (hR : Rx s E L M H locs) (hl : lv_has ls 5 [(0, .ref a0), (2, .int x2), (3, .int x3), (4, .int x4)]) : W p l e (rmD (d + 0)) s m args below meth c H locs 0 0 (MQ below (QcM E L (some (.int r)) M) args s 0 0 E.2.2.2) (F0 m 71 ls []) := by
  have hx := B.1
  have hb := B.2.1
  unfold fX5_mends_j71 at h
  obtain ⟨x4_71, ex4_71, h⟩ := lt_el h
  refine lv_iinc (v := x4_71) (lv' := [(4, .int x4_71), (0, .ref a0), (2, .int x2), (3, .int x3)]) hx hb dX5_mends_71 hl (k := 3) rfl (by rw [ex4_71]; rfl) (by decide) rfl (fun ls hl => ?_)
  refine lv_goto (tgt := 3) hx hb dX5_mends_74 (by decide) ?_
  exact ih3 x4_71 h _ _ _ hR (lv_sub hl [1, 2, 3, 0] rfl)
def fX5_mends_j69 (fu : Nat) (M : Mm) : Option Int32 :=
  some 0
set_option maxRecDepth 100000 in
set_option maxHeartbeats 4000000 in
theorem wX5_mends_j69 {r : Int32}    {M : Mm} (B : Bx p s m args c cX5_mends 5 RX5 E L) (hr : meth.sig.returnType = (some .boolean)) (hlk : meth.locks = false)   (h : fX5_mends_j69 fu M = some r) (hR : Rx s E L M H locs) (hl : lv_has ls 5 []) : W p l e (rmD (d + 0)) s m args below meth c H locs 0 0 (MQ below (QcM E L (some (.int r)) M) args s 0 0 E.2.2.2) (F0 m 69 ls []) := by
  have hx := B.1
  have hb := B.2.1
  unfold fX5_mends_j69 at h
  refine lv_iconst (v := 0) hx hb dX5_mends_69 (by decide) ?_
  exact r_zretP B hR hr hlk (Or.inl rfl) h dX5_mends_70
def fX5_mends_b3 (fu : Nat) (k3 : Int32 → Option Int32) (a0 : Nat) (x2 : Int32) (x3 : Int32) (x4 : Int32) (M : Mm) : Option Int32 :=
  if (M.1 a0 6) ≤ x4 then
    fX5_mends_j77 fu M
  else
    if x4 < 0 ∨ 128 ≤ ix x4 then none else
    if x2 ≤ (M.1 ((a0 + 1) + 1) (ix x4)) then
      fX5_mends_j77 fu M
    else
      if (M.1 ((a0 + 1) + 1) (ix x4)) < (M.1 a0 8) then
        fX5_mends_j71 fu k3 a0 x2 x3 x4 M
      else
        if ((x3 * 6) + (M.1 (a0 + 4) (ix x4))) < 0 ∨ 36 ≤ ix ((x3 * 6) + (M.1 (a0 + 4) (ix x4))) then none else
        if (seenT.getD (ix ((x3 * 6) + (M.1 (a0 + 4) (ix x4)))) 0) = (M.1 (a0 + 3) (ix x4)) then
          fX5_mends_j71 fu k3 a0 x2 x3 x4 M
        else
          fX5_mends_j69 fu M
set_option maxRecDepth 100000 in
set_option maxHeartbeats 4000000 in
theorem wX5_mends_b3 {r : Int32}   {k3 : Int32 → Option Int32} {a0 : Nat} {x2 : Int32} {x3 : Int32} {x4 : Int32} {M : Mm} (B : Bx p s m args c cX5_mends 5 RX5 E L) (hr : meth.sig.returnType = (some .boolean)) (hlk : meth.locks = false)  (ih3 : ∀ (x4 : Int32), k3 x4 = some r → ∀ (H : Heap) (locs : List Loc) (ls : Array Slot), Rx s E L M H locs → lv_has ls 5 [(0, .ref a0), (2, .int x2), (3, .int x3), (4, .int x4)] → W p l e (rmD (d + 0)) s m args below meth c H locs 0 0 (MQ below (QcM E L (some (.int r)) M) args s 0 0 E.2.2.2) (F0 m 3 ls [])) (h0 : At L a0 T5) (h : fX5_mends_b3 fu k3 a0 x2 x3 x4 M = some r) (hR : Rx s E L M H locs) (hl : lv_has ls 5 [(0, .ref a0), (2, .int x2), (3, .int x3), (4, .int x4)]) : W p l e (rmD (d + 0)) s m args below meth c H locs 0 0 (MQ below (QcM E L (some (.int r)) M) args s 0 0 E.2.2.2) (F0 m 3 ls []) := by
  have hx := B.1
  have hb := B.2.1
  unfold fX5_mends_b3 at h
  refine lv_iload hx hb dX5_mends_3 (lv_at hl 3 rfl) ?_
  refine lv_aload_n hx hb dX5_mends_5 rfl (lv_at hl 0 rfl) ?_
  refine gf_X5_65 B hR (h0.at0 rfl) dX5_mends_6 ?_
  refine lv_icmp_ge (tgt := 77) hx hb dX5_mends_9 (by decide) (fun c_9 => ?_) (fun c_9 => ?_)
  · rw [if_pos c_9] at h
    exact wX5_mends_j77 B hr hlk  h hR (lv_sub hl [] rfl)
  · rw [if_neg c_9] at h
    refine lv_aload_n hx hb dX5_mends_12 rfl (lv_at hl 0 rfl) ?_
    refine gf_X5_14 B hR (h0.at0 rfl) dX5_mends_13 ?_
    refine gf_X5_66 B hR ((sb_5_0 h0).at0 rfl) dX5_mends_16 ?_
    refine lv_iload hx hb dX5_mends_19 (lv_at hl 3 rfl) ?_
    obtain ⟨hi_21, h⟩ := ifn_el h
    refine r_iald B hR ((sb_5_0 h0).at 1 rfl) hi_21 dX5_mends_21 ?_
    refine lv_iload_n hx hb dX5_mends_22 rfl (lv_at hl 1 rfl) ?_
    refine lv_icmp_ge (tgt := 77) hx hb dX5_mends_23 (by decide) (fun c_23 => ?_) (fun c_23 => ?_)
    · rw [if_pos c_23] at h
      exact wX5_mends_j77 B hr hlk  h hR (lv_sub hl [] rfl)
    · rw [if_neg c_23] at h
      refine lv_aload_n hx hb dX5_mends_26 rfl (lv_at hl 0 rfl) ?_
      refine gf_X5_14 B hR (h0.at0 rfl) dX5_mends_27 ?_
      refine gf_X5_66 B hR ((sb_5_0 h0).at0 rfl) dX5_mends_30 ?_
      refine lv_iload hx hb dX5_mends_33 (lv_at hl 3 rfl) ?_
      refine r_iald B hR ((sb_5_0 h0).at 1 rfl) hi_21 dX5_mends_35 ?_
      refine lv_aload_n hx hb dX5_mends_36 rfl (lv_at hl 0 rfl) ?_
      refine gf_X5_61 B hR (h0.at0 rfl) dX5_mends_37 ?_
      refine lv_icmp_lt (tgt := 71) hx hb dX5_mends_40 (by decide) (fun c_40 => ?_) (fun c_40 => ?_)
      · rw [if_pos c_40] at h
        exact wX5_mends_j71 B hr hlk ih3 h0 h hR hl
      · rw [if_neg c_40] at h
        refine gs_X5_99 B hR dX5_mends_43 ?_
        refine lv_iload_n hx hb dX5_mends_46 rfl (lv_at hl 2 rfl) ?_
        refine lv_bipush (v := 6) hx hb dX5_mends_47 (by decide) ?_
        refine lv_imul hx hb dX5_mends_49 ?_
        refine lv_aload_n hx hb dX5_mends_50 rfl (lv_at hl 0 rfl) ?_
        refine gf_X5_24 B hR (h0.at0 rfl) dX5_mends_51 ?_
        refine lv_iload hx hb dX5_mends_54 (lv_at hl 3 rfl) ?_
        refine r_iald B hR (h0.at 4 rfl) hi_21 dX5_mends_56 ?_
        refine lv_iadd hx hb dX5_mends_57 ?_
        obtain ⟨hi_58, h⟩ := ifn_el h
        refine r_tald B hR B.2.2.2.2.2.2.2.2.1.2 hi_58 dX5_mends_58 ?_
        refine lv_aload_n hx hb dX5_mends_59 rfl (lv_at hl 0 rfl) ?_
        refine gf_X5_20 B hR (h0.at0 rfl) dX5_mends_60 ?_
        refine lv_iload hx hb dX5_mends_63 (lv_at hl 3 rfl) ?_
        refine r_iald B hR (h0.at 3 rfl) hi_21 dX5_mends_65 ?_
        refine lv_icmp_eq (tgt := 71) hx hb dX5_mends_66 (by decide) (fun c_66 => ?_) (fun c_66 => ?_)
        · rw [if_pos c_66] at h
          exact wX5_mends_j71 B hr hlk ih3 h0 h hR hl
        · rw [if_neg c_66] at h
          exact wX5_mends_j69 B hr hlk  h hR (lv_sub hl [] rfl)
def fX5_mends_l3 (fu : Nat) (a0 : Nat) (x2 : Int32) (x3 : Int32) (M : Mm) (x4 : Int32) : Option Int32 := lp (fun (rec : Int32 → Option Int32) (s : Int32) => fX5_mends_b3 fu  (fun x4 => rec (x4)) a0 x2 x3 s M) fu (x4)
set_option maxRecDepth 100000 in
set_option maxHeartbeats 4000000 in
theorem wX5_mends_l3 {r : Int32}   {a0 : Nat} {x2 : Int32} {x3 : Int32} {x4 : Int32} {M : Mm} (B : Bx p s m args c cX5_mends 5 RX5 E L) (hr : meth.sig.returnType = (some .boolean)) (hlk : meth.locks = false)  (h0 : At L a0 T5) (h : fX5_mends_l3 fu a0 x2 x3 M x4 = some r) (hR : Rx s E L M H locs) (hl : lv_has ls 5 [(0, .ref a0), (2, .int x2), (3, .int x3), (4, .int x4)]) : W p l e (rmD (d + 0)) s m args below meth c H locs 0 0 (MQ below (QcM E L (some (.int r)) M) args s 0 0 E.2.2.2) (F0 m 3 ls []) := by
  refine lp_G (G := fun z : Int32 => ∀ (H : Heap) (locs : List Loc) (ls : Array Slot), Rx s E L M H locs → lv_has ls 5 [(0, .ref a0), (2, .int x2), (3, .int x3), (4, .int z)] → W p l e (rmD (d + 0)) s m args below meth c H locs 0 0 (MQ below (QcM E L (some (.int r)) M) args s 0 0 E.2.2.2) (F0 m 3 ls [])) (fun rec ih z h H locs ls hR hl => ?_) fu _ h H locs ls hR hl
  exact wX5_mends_b3 B hr hlk  (fun x4 h => ih (x4) h) h0 h hR hl
def fX5_mends (fu : Nat) (a0 : Nat) (x1 : Int32) (x2 : Int32) (x3 : Int32) (M : Mm) : Option Int32 :=
  fX5_mends_l3 fu a0 x2 x3 M x1
set_option maxRecDepth 100000 in
set_option maxHeartbeats 4000000 in
theorem mX5_mends {l : Launch} {E : Ge} {L : Lay} (fu d : Nat) {a0 : Nat} {x1 : Int32} {x2 : Int32} {x3 : Int32} {M : Mm} {r : Int32}  (h0 : At L a0 T5) (h : fX5_mends fu a0 x1 x2 x3 M = some r) : Ct l E L yX5_mends cX5_mends 5 (some .boolean) (d + 0) [.ref a0, .int x1, .int x2, .int x3] M (some (.int r)) M := by
  refine Ct.of (by decide) ?_
  intro p e s m below meth c hr hlk B hR
  have B : Bx p s m _ c cX5_mends 5 RX5 E L := B
  have hx := B.1
  have hb := B.2.1
  have hl := lv_entry ([.ref a0, .int x1, .int x2, .int x3]) (n := 5) (Nat.le_of_ble_eq_true rfl)
  rw [lg_entry_eq]
  generalize (lg_sl ([.ref a0, .int x1, .int x2, .int x3]) ++ List.replicate (5 - (lg_sl ([.ref a0, .int x1, .int x2, .int x3])).length) Slot.unset).toArray = ls at hl ⊢
  have hl : lv_has ls 5 [(0, .ref a0), (1, .int x1), (2, .int x2), (3, .int x3)] := hl
  unfold fX5_mends at h
  refine lv_iload_n hx hb dX5_mends_0 rfl (lv_at hl 1 rfl) ?_
  refine lv_istore (lv' := [(4, .int x1), (0, .ref a0), (1, .int x1), (2, .int x2), (3, .int x3)]) hx hb dX5_mends_1 hl (by decide) rfl (fun ls hl => ?_)
  exact wX5_mends_l3 B hr hlk h0 h hR (lv_sub hl [1, 3, 4, 0] rfl)
def fX5_mendingKind_j48 (fu : Nat) (M : Mm) : Option Int32 :=
  some (-1)
set_option maxRecDepth 100000 in
set_option maxHeartbeats 4000000 in
theorem wX5_mendingKind_j48 {r : Int32}    {M : Mm} (B : Bx p s m args c cX5_mendingKind 4 RX5 E L) (hr : meth.sig.returnType = (some .int)) (hlk : meth.locks = false)   (h : fX5_mendingKind_j48 fu M = some r) (hR : Rx s E L M H locs) (hl : lv_has ls 4 []) : W p l e (rmD (d + 1)) s m args below meth c H locs 0 0 (MQ below (QcM E L (some (.int r)) M) args s 0 0 E.2.2.2) (F0 m 48 ls []) := by
  have hx := B.1
  have hb := B.2.1
  unfold fX5_mendingKind_j48 at h
  refine lv_iconst (v := (-1)) hx hb dX5_mendingKind_48 (by decide) ?_
  exact r_iretP B hR hr hlk h dX5_mendingKind_49
def fX5_mendingKind_j37 (fu : Nat) (x3 : Int32) (M : Mm) : Option Int32 :=
  bi (fX10_pageKindInTurn fu x3) fun r_38 =>
  some r_38
set_option maxRecDepth 100000 in
set_option maxHeartbeats 4000000 in
theorem wX5_mendingKind_j37 {r : Int32}   {x3 : Int32} {M : Mm} (B : Bx p s m args c cX5_mendingKind 4 RX5 E L) (hr : meth.sig.returnType = (some .int)) (hlk : meth.locks = false)   (h : fX5_mendingKind_j37 fu x3 M = some r) (hR : Rx s E L M H locs) (hl : lv_has ls 4 [(3, .int x3)]) : W p l e (rmD (d + 1)) s m args below meth c H locs 0 0 (MQ below (QcM E L (some (.int r)) M) args s 0 0 E.2.2.2) (F0 m 37 ls []) := by
  have hx := B.1
  have hb := B.2.1
  unfold fX5_mendingKind_j37 at h
  refine lv_iload_n hx hb dX5_mendingKind_37 rfl (lv_at hl 0 rfl) ?_
  obtain ⟨r_38, hc_38, h⟩ := bi_el h
  refine is_X5_92 B hR hl.1 (mX10_pageKindInTurn fu _  hc_38) (Nat.le_of_ble_eq_true rfl) dX5_mendingKind_38 (fun H locs hR => ?_)
  exact r_iretP B hR hr hlk h dX5_mendingKind_41
def fX5_mendingKind_b12 (fu : Nat) (k12 : Int32 → Option Int32) (a0 : Nat) (x1 : Int32) (x2 : Int32) (x3 : Int32) (M : Mm) : Option Int32 :=
  if 6 ≤ x3 then
    fX5_mendingKind_j48 fu M
  else
    bi (fX10_pageKindInTurn fu x3) fun r_28 =>
    bi (fX5_mends fu a0 x2 ((x1 * 16) + 16) r_28 M) fun r_31 =>
    if r_31 = 0 then
      lt (x3 + 1) fun x3_42 =>
      k12 x3_42
    else
      fX5_mendingKind_j37 fu x3 M
set_option maxRecDepth 100000 in
set_option maxHeartbeats 4000000 in
theorem wX5_mendingKind_b12 {r : Int32}   {k12 : Int32 → Option Int32} {a0 : Nat} {x1 : Int32} {x2 : Int32} {x3 : Int32} {M : Mm} (B : Bx p s m args c cX5_mendingKind 4 RX5 E L) (hr : meth.sig.returnType = (some .int)) (hlk : meth.locks = false)  (ih12 : ∀ (x3 : Int32), k12 x3 = some r → ∀ (H : Heap) (locs : List Loc) (ls : Array Slot), Rx s E L M H locs → lv_has ls 4 [(0, .ref a0), (1, .int x1), (2, .int x2), (3, .int x3)] → W p l e (rmD (d + 1)) s m args below meth c H locs 0 0 (MQ below (QcM E L (some (.int r)) M) args s 0 0 E.2.2.2) (F0 m 12 ls [])) (h0 : At L a0 T5) (h : fX5_mendingKind_b12 fu k12 a0 x1 x2 x3 M = some r) (hR : Rx s E L M H locs) (hl : lv_has ls 4 [(0, .ref a0), (1, .int x1), (2, .int x2), (3, .int x3)]) : W p l e (rmD (d + 1)) s m args below meth c H locs 0 0 (MQ below (QcM E L (some (.int r)) M) args s 0 0 E.2.2.2) (F0 m 12 ls []) := by
  have hx := B.1
  have hb := B.2.1
  unfold fX5_mendingKind_b12 at h
  refine lv_iload_n hx hb dX5_mendingKind_12 rfl (lv_at hl 3 rfl) ?_
  refine lv_bipush (v := 6) hx hb dX5_mendingKind_13 (by decide) ?_
  refine lv_icmp_ge (tgt := 48) hx hb dX5_mendingKind_15 (by decide) (fun c_15 => ?_) (fun c_15 => ?_)
  · rw [if_pos c_15] at h
    exact wX5_mendingKind_j48 B hr hlk  h hR (lv_sub hl [] rfl)
  · rw [if_neg c_15] at h
    refine lv_aload_n hx hb dX5_mendingKind_18 rfl (lv_at hl 0 rfl) ?_
    refine lv_iload_n hx hb dX5_mendingKind_19 rfl (lv_at hl 2 rfl) ?_
    refine lv_iload_n hx hb dX5_mendingKind_20 rfl (lv_at hl 1 rfl) ?_
    refine lv_bipush (v := 16) hx hb dX5_mendingKind_21 (by decide) ?_
    refine lv_imul hx hb dX5_mendingKind_23 ?_
    refine lv_bipush (v := 16) hx hb dX5_mendingKind_24 (by decide) ?_
    refine lv_iadd hx hb dX5_mendingKind_26 ?_
    refine lv_iload_n hx hb dX5_mendingKind_27 rfl (lv_at hl 3 rfl) ?_
    obtain ⟨r_28, hc_28, h⟩ := bi_el h
    refine is_X5_92 B hR hl.1 (mX10_pageKindInTurn fu _  hc_28) (Nat.le_of_ble_eq_true rfl) dX5_mendingKind_28 (fun H locs hR => ?_)
    obtain ⟨r_31, hc_31, h⟩ := bi_el h
    refine iv_X5_95 B hR (h0.at0 rfl) hl.1 (mX5_mends fu _ h0 hc_31) (Nat.le_of_ble_eq_true rfl) dX5_mendingKind_31 (fun H locs hR => ?_)
    refine lv_if_eq (tgt := 42) hx hb dX5_mendingKind_34 (by decide) (fun c_34 => ?_) (fun c_34 => ?_)
    · rw [if_pos c_34] at h
      obtain ⟨x3_42, ex3_42, h⟩ := lt_el h
      refine lv_iinc (v := x3_42) (lv' := [(3, .int x3_42), (0, .ref a0), (1, .int x1), (2, .int x2)]) hx hb dX5_mendingKind_42 hl (k := 3) rfl (by rw [ex3_42]; rfl) (by decide) rfl (fun ls hl => ?_)
      refine lv_goto (tgt := 12) hx hb dX5_mendingKind_45 (by decide) ?_
      exact ih12 x3_42 h _ _ _ hR (lv_sub hl [1, 2, 3, 0] rfl)
    · rw [if_neg c_34] at h
      exact wX5_mendingKind_j37 B hr hlk  h hR (lv_sub hl [3] rfl)
def fX5_mendingKind_l12 (fu : Nat) (a0 : Nat) (x1 : Int32) (x2 : Int32) (M : Mm) (x3 : Int32) : Option Int32 := lp (fun (rec : Int32 → Option Int32) (s : Int32) => fX5_mendingKind_b12 fu  (fun x3 => rec (x3)) a0 x1 x2 s M) fu (x3)
set_option maxRecDepth 100000 in
set_option maxHeartbeats 4000000 in
theorem wX5_mendingKind_l12 {r : Int32}   {a0 : Nat} {x1 : Int32} {x2 : Int32} {x3 : Int32} {M : Mm} (B : Bx p s m args c cX5_mendingKind 4 RX5 E L) (hr : meth.sig.returnType = (some .int)) (hlk : meth.locks = false)  (h0 : At L a0 T5) (h : fX5_mendingKind_l12 fu a0 x1 x2 M x3 = some r) (hR : Rx s E L M H locs) (hl : lv_has ls 4 [(0, .ref a0), (1, .int x1), (2, .int x2), (3, .int x3)]) : W p l e (rmD (d + 1)) s m args below meth c H locs 0 0 (MQ below (QcM E L (some (.int r)) M) args s 0 0 E.2.2.2) (F0 m 12 ls []) := by
  refine lp_G (G := fun z : Int32 => ∀ (H : Heap) (locs : List Loc) (ls : Array Slot), Rx s E L M H locs → lv_has ls 4 [(0, .ref a0), (1, .int x1), (2, .int x2), (3, .int z)] → W p l e (rmD (d + 1)) s m args below meth c H locs 0 0 (MQ below (QcM E L (some (.int r)) M) args s 0 0 E.2.2.2) (F0 m 12 ls [])) (fun rec ih z h H locs ls hR hl => ?_) fu _ h H locs ls hR hl
  exact wX5_mendingKind_b12 B hr hlk  (fun x3 h => ih (x3) h) h0 h hR hl
def fX5_mendingKind (fu : Nat) (a0 : Nat) (x1 : Int32) (M : Mm) : Option Int32 :=
  bi (fX5_pieceFrom fu a0 0 (x1 * 16) M) fun r_6 =>
  fX5_mendingKind_l12 fu a0 x1 r_6 M 0
set_option maxRecDepth 100000 in
set_option maxHeartbeats 4000000 in
theorem mX5_mendingKind {l : Launch} {E : Ge} {L : Lay} (fu d : Nat) {a0 : Nat} {x1 : Int32} {M : Mm} {r : Int32}  (h0 : At L a0 T5) (h : fX5_mendingKind fu a0 x1 M = some r) : Ct l E L yX5_mendingKind cX5_mendingKind 4 (some .int) (d + 1) [.ref a0, .int x1] M (some (.int r)) M := by
  refine Ct.of (by decide) ?_
  intro p e s m below meth c hr hlk B hR
  have B : Bx p s m _ c cX5_mendingKind 4 RX5 E L := B
  have hx := B.1
  have hb := B.2.1
  have hl := lv_entry ([.ref a0, .int x1]) (n := 4) (Nat.le_of_ble_eq_true rfl)
  rw [lg_entry_eq]
  generalize (lg_sl ([.ref a0, .int x1]) ++ List.replicate (4 - (lg_sl ([.ref a0, .int x1])).length) Slot.unset).toArray = ls at hl ⊢
  have hl : lv_has ls 4 [(0, .ref a0), (1, .int x1)] := hl
  unfold fX5_mendingKind at h
  refine lv_aload_n hx hb dX5_mendingKind_0 rfl (lv_at hl 0 rfl) ?_
  refine lv_iconst (v := 0) hx hb dX5_mendingKind_1 (by decide) ?_
  refine lv_iload_n hx hb dX5_mendingKind_2 rfl (lv_at hl 1 rfl) ?_
  refine lv_bipush (v := 16) hx hb dX5_mendingKind_3 (by decide) ?_
  refine lv_imul hx hb dX5_mendingKind_5 ?_
  obtain ⟨r_6, hc_6, h⟩ := bi_el h
  refine iv_X5_89 B hR (h0.at0 rfl) hl.1 (mX5_pieceFrom fu _ h0 hc_6) (Nat.le_of_ble_eq_true rfl) dX5_mendingKind_6 (fun H locs hR => ?_)
  refine lv_istore_n (lv' := [(2, .int r_6), (0, .ref a0), (1, .int x1)]) hx hb dX5_mendingKind_9 rfl hl (by decide) rfl (fun ls hl => ?_)
  refine lv_iconst (v := 0) hx hb dX5_mendingKind_10 (by decide) ?_
  refine lv_istore_n (lv' := [(3, .int 0), (2, .int r_6), (0, .ref a0), (1, .int x1)]) hx hb dX5_mendingKind_11 rfl hl (by decide) rfl (fun ls hl => ?_)
  exact wX5_mendingKind_l12 B hr hlk h0 h hR (lv_sub hl [2, 3, 1, 0] rfl)
def fX5_idleWithout_j83 (fu : Nat) (M : Mm) : Option Int32 :=
  some 1
set_option maxRecDepth 100000 in
set_option maxHeartbeats 4000000 in
theorem wX5_idleWithout_j83 {r : Int32}    {M : Mm} (B : Bx p s m args c cX5_idleWithout 5 RX5 E L) (hr : meth.sig.returnType = (some .int)) (hlk : meth.locks = false)   (h : fX5_idleWithout_j83 fu M = some r) (hR : Rx s E L M H locs) (hl : lv_has ls 5 []) : W p l e (rmD (d + 3)) s m args below meth c H locs 0 0 (MQ below (QcM E L (some (.int r)) M) args s 0 0 E.2.2.2) (F0 m 83 ls []) := by
  have hx := B.1
  have hb := B.2.1
  unfold fX5_idleWithout_j83 at h
  refine lv_iconst (v := 1) hx hb dX5_idleWithout_83 (by decide) ?_
  exact r_iretP B hR hr hlk h dX5_idleWithout_84
def fX5_idleWithout_j75 (fu : Nat) (M : Mm) : Option Int32 :=
  some 0
set_option maxRecDepth 100000 in
set_option maxHeartbeats 4000000 in
theorem wX5_idleWithout_j75 {r : Int32}    {M : Mm} (B : Bx p s m args c cX5_idleWithout 5 RX5 E L) (hr : meth.sig.returnType = (some .int)) (hlk : meth.locks = false)   (h : fX5_idleWithout_j75 fu M = some r) (hR : Rx s E L M H locs) (hl : lv_has ls 5 []) : W p l e (rmD (d + 3)) s m args below meth c H locs 0 0 (MQ below (QcM E L (some (.int r)) M) args s 0 0 E.2.2.2) (F0 m 75 ls []) := by
  have hx := B.1
  have hb := B.2.1
  unfold fX5_idleWithout_j75 at h
  refine lv_iconst (v := 0) hx hb dX5_idleWithout_75 (by decide) ?_
  exact r_iretP B hR hr hlk h dX5_idleWithout_76
def fX5_idleWithout_b27 (fu : Nat) (k27 : Int32 → Option Int32) (a0 : Nat) (a1 : Nat) (x2 : Int32) (x3 : Int32) (x4 : Int32) (M : Mm) : Option Int32 :=
  if (M.1 a0 6) ≤ x4 then
    fX5_idleWithout_j83 fu M
  else
    if x4 < 0 ∨ 128 ≤ ix x4 then none else
    if x3 ≤ (M.1 ((a0 + 1) + 1) (ix x4)) then
      fX5_idleWithout_j83 fu M
    else
      bi (fX8_kindAt fu a1 (M.1 ((a0 + 1) + 1) (ix x4)) x2 M) fun r_62 =>
      if r_62 = (M.1 (a0 + 4) (ix x4)) then
        lt (x4 + 1) fun x4_77 =>
        k27 x4_77
      else
        fX5_idleWithout_j75 fu M
set_option maxRecDepth 100000 in
set_option maxHeartbeats 4000000 in
theorem wX5_idleWithout_b27 {r : Int32}   {k27 : Int32 → Option Int32} {a0 : Nat} {a1 : Nat} {x2 : Int32} {x3 : Int32} {x4 : Int32} {M : Mm} (B : Bx p s m args c cX5_idleWithout 5 RX5 E L) (hr : meth.sig.returnType = (some .int)) (hlk : meth.locks = false)  (ih27 : ∀ (x4 : Int32), k27 x4 = some r → ∀ (H : Heap) (locs : List Loc) (ls : Array Slot), Rx s E L M H locs → lv_has ls 5 [(0, .ref a0), (1, .ref a1), (2, .int x2), (3, .int x3), (4, .int x4)] → W p l e (rmD (d + 3)) s m args below meth c H locs 0 0 (MQ below (QcM E L (some (.int r)) M) args s 0 0 E.2.2.2) (F0 m 27 ls [])) (h0 : At L a0 T5) (h1 : At L a1 T8) (h : fX5_idleWithout_b27 fu k27 a0 a1 x2 x3 x4 M = some r) (hR : Rx s E L M H locs) (hl : lv_has ls 5 [(0, .ref a0), (1, .ref a1), (2, .int x2), (3, .int x3), (4, .int x4)]) : W p l e (rmD (d + 3)) s m args below meth c H locs 0 0 (MQ below (QcM E L (some (.int r)) M) args s 0 0 E.2.2.2) (F0 m 27 ls []) := by
  have hx := B.1
  have hb := B.2.1
  unfold fX5_idleWithout_b27 at h
  refine lv_iload hx hb dX5_idleWithout_27 (lv_at hl 4 rfl) ?_
  refine lv_aload_n hx hb dX5_idleWithout_29 rfl (lv_at hl 0 rfl) ?_
  refine gf_X5_65 B hR (h0.at0 rfl) dX5_idleWithout_30 ?_
  refine lv_icmp_ge (tgt := 83) hx hb dX5_idleWithout_33 (by decide) (fun c_33 => ?_) (fun c_33 => ?_)
  · rw [if_pos c_33] at h
    exact wX5_idleWithout_j83 B hr hlk  h hR (lv_sub hl [] rfl)
  · rw [if_neg c_33] at h
    refine lv_aload_n hx hb dX5_idleWithout_36 rfl (lv_at hl 0 rfl) ?_
    refine gf_X5_14 B hR (h0.at0 rfl) dX5_idleWithout_37 ?_
    refine gf_X5_66 B hR ((sb_5_0 h0).at0 rfl) dX5_idleWithout_40 ?_
    refine lv_iload hx hb dX5_idleWithout_43 (lv_at hl 4 rfl) ?_
    obtain ⟨hi_45, h⟩ := ifn_el h
    refine r_iald B hR ((sb_5_0 h0).at 1 rfl) hi_45 dX5_idleWithout_45 ?_
    refine lv_iload_n hx hb dX5_idleWithout_46 rfl (lv_at hl 3 rfl) ?_
    refine lv_icmp_ge (tgt := 83) hx hb dX5_idleWithout_47 (by decide) (fun c_47 => ?_) (fun c_47 => ?_)
    · rw [if_pos c_47] at h
      exact wX5_idleWithout_j83 B hr hlk  h hR (lv_sub hl [] rfl)
    · rw [if_neg c_47] at h
      refine lv_aload_n hx hb dX5_idleWithout_50 rfl (lv_at hl 1 rfl) ?_
      refine lv_aload_n hx hb dX5_idleWithout_51 rfl (lv_at hl 0 rfl) ?_
      refine gf_X5_14 B hR (h0.at0 rfl) dX5_idleWithout_52 ?_
      refine gf_X5_66 B hR ((sb_5_0 h0).at0 rfl) dX5_idleWithout_55 ?_
      refine lv_iload hx hb dX5_idleWithout_58 (lv_at hl 4 rfl) ?_
      refine r_iald B hR ((sb_5_0 h0).at 1 rfl) hi_45 dX5_idleWithout_60 ?_
      refine lv_iload_n hx hb dX5_idleWithout_61 rfl (lv_at hl 2 rfl) ?_
      obtain ⟨r_62, hc_62, h⟩ := bi_el h
      refine iv_X5_76 B hR (h1.at0 rfl) hl.1 (mX8_kindAt fu _ h1 hc_62) (Nat.le_of_ble_eq_true rfl) dX5_idleWithout_62 (fun H locs hR => ?_)
      refine lv_aload_n hx hb dX5_idleWithout_65 rfl (lv_at hl 0 rfl) ?_
      refine gf_X5_24 B hR (h0.at0 rfl) dX5_idleWithout_66 ?_
      refine lv_iload hx hb dX5_idleWithout_69 (lv_at hl 4 rfl) ?_
      refine r_iald B hR (h0.at 4 rfl) hi_45 dX5_idleWithout_71 ?_
      refine lv_icmp_eq (tgt := 77) hx hb dX5_idleWithout_72 (by decide) (fun c_72 => ?_) (fun c_72 => ?_)
      · rw [if_pos c_72] at h
        obtain ⟨x4_77, ex4_77, h⟩ := lt_el h
        refine lv_iinc (v := x4_77) (lv' := [(4, .int x4_77), (0, .ref a0), (1, .ref a1), (2, .int x2), (3, .int x3)]) hx hb dX5_idleWithout_77 hl (k := 4) rfl (by rw [ex4_77]; rfl) (by decide) rfl (fun ls hl => ?_)
        refine lv_goto (tgt := 27) hx hb dX5_idleWithout_80 (by decide) ?_
        exact ih27 x4_77 h _ _ _ hR (lv_sub hl [1, 2, 3, 4, 0] rfl)
      · rw [if_neg c_72] at h
        exact wX5_idleWithout_j75 B hr hlk  h hR (lv_sub hl [] rfl)
def fX5_idleWithout_l27 (fu : Nat) (a0 : Nat) (a1 : Nat) (x2 : Int32) (x3 : Int32) (M : Mm) (x4 : Int32) : Option Int32 := lp (fun (rec : Int32 → Option Int32) (s : Int32) => fX5_idleWithout_b27 fu  (fun x4 => rec (x4)) a0 a1 x2 x3 s M) fu (x4)
set_option maxRecDepth 100000 in
set_option maxHeartbeats 4000000 in
theorem wX5_idleWithout_l27 {r : Int32}   {a0 : Nat} {a1 : Nat} {x2 : Int32} {x3 : Int32} {x4 : Int32} {M : Mm} (B : Bx p s m args c cX5_idleWithout 5 RX5 E L) (hr : meth.sig.returnType = (some .int)) (hlk : meth.locks = false)  (h0 : At L a0 T5) (h1 : At L a1 T8) (h : fX5_idleWithout_l27 fu a0 a1 x2 x3 M x4 = some r) (hR : Rx s E L M H locs) (hl : lv_has ls 5 [(0, .ref a0), (1, .ref a1), (2, .int x2), (3, .int x3), (4, .int x4)]) : W p l e (rmD (d + 3)) s m args below meth c H locs 0 0 (MQ below (QcM E L (some (.int r)) M) args s 0 0 E.2.2.2) (F0 m 27 ls []) := by
  refine lp_G (G := fun z : Int32 => ∀ (H : Heap) (locs : List Loc) (ls : Array Slot), Rx s E L M H locs → lv_has ls 5 [(0, .ref a0), (1, .ref a1), (2, .int x2), (3, .int x3), (4, .int z)] → W p l e (rmD (d + 3)) s m args below meth c H locs 0 0 (MQ below (QcM E L (some (.int r)) M) args s 0 0 E.2.2.2) (F0 m 27 ls [])) (fun rec ih z h H locs ls hR hl => ?_) fu _ h H locs ls hR hl
  exact wX5_idleWithout_b27 B hr hlk  (fun x4 h => ih (x4) h) h0 h1 h hR hl
def fX5_idleWithout (fu : Nat) (a0 : Nat) (a1 : Nat) (x2 : Int32) (M : Mm) : Option Int32 :=
  if x2 < 0 ∨ 10 ≤ ix x2 then none else
  lt (((M.1 (a1 + 5) (ix x2)) + (M.1 (a1 + 6) (ix x2)))) fun x3_13 =>
  bi (fX5_pieceFrom fu a0 0 (M.1 (a1 + 5) (ix x2)) M) fun r_22 =>
  fX5_idleWithout_l27 fu a0 a1 x2 x3_13 M r_22
set_option maxRecDepth 100000 in
set_option maxHeartbeats 4000000 in
theorem mX5_idleWithout {l : Launch} {E : Ge} {L : Lay} (fu d : Nat) {a0 : Nat} {a1 : Nat} {x2 : Int32} {M : Mm} {r : Int32}  (h0 : At L a0 T5) (h1 : At L a1 T8) (h : fX5_idleWithout fu a0 a1 x2 M = some r) : Ct l E L yX5_idleWithout cX5_idleWithout 5 (some .int) (d + 3) [.ref a0, .ref a1, .int x2] M (some (.int r)) M := by
  refine Ct.of (by decide) ?_
  intro p e s m below meth c hr hlk B hR
  have B : Bx p s m _ c cX5_idleWithout 5 RX5 E L := B
  have hx := B.1
  have hb := B.2.1
  have hl := lv_entry ([.ref a0, .ref a1, .int x2]) (n := 5) (Nat.le_of_ble_eq_true rfl)
  rw [lg_entry_eq]
  generalize (lg_sl ([.ref a0, .ref a1, .int x2]) ++ List.replicate (5 - (lg_sl ([.ref a0, .ref a1, .int x2])).length) Slot.unset).toArray = ls at hl ⊢
  have hl : lv_has ls 5 [(0, .ref a0), (1, .ref a1), (2, .int x2)] := hl
  unfold fX5_idleWithout at h
  refine lv_aload_n hx hb dX5_idleWithout_0 rfl (lv_at hl 1 rfl) ?_
  refine gf_X5_102 B hR (h1.at0 rfl) dX5_idleWithout_1 ?_
  refine lv_iload_n hx hb dX5_idleWithout_4 rfl (lv_at hl 2 rfl) ?_
  obtain ⟨hi_5, h⟩ := ifn_el h
  refine r_iald B hR (h1.at 5 rfl) hi_5 dX5_idleWithout_5 ?_
  refine lv_aload_n hx hb dX5_idleWithout_6 rfl (lv_at hl 1 rfl) ?_
  refine gf_X5_105 B hR (h1.at0 rfl) dX5_idleWithout_7 ?_
  refine lv_iload_n hx hb dX5_idleWithout_10 rfl (lv_at hl 2 rfl) ?_
  refine r_iald B hR (h1.at 6 rfl) hi_5 dX5_idleWithout_11 ?_
  refine lv_iadd hx hb dX5_idleWithout_12 ?_
  obtain ⟨x3_13, ex3_13, h⟩ := lt_el h
  refine r_nmI ex3_13 ?_
  refine lv_istore_n (lv' := [(3, .int x3_13), (0, .ref a0), (1, .ref a1), (2, .int x2)]) hx hb dX5_idleWithout_13 rfl hl (by decide) rfl (fun ls hl => ?_)
  refine lv_aload_n hx hb dX5_idleWithout_14 rfl (lv_at hl 1 rfl) ?_
  refine lv_iconst (v := 0) hx hb dX5_idleWithout_15 (by decide) ?_
  refine lv_aload_n hx hb dX5_idleWithout_16 rfl (lv_at hl 2 rfl) ?_
  refine gf_X5_102 B hR (h1.at0 rfl) dX5_idleWithout_17 ?_
  refine lv_iload_n hx hb dX5_idleWithout_20 rfl (lv_at hl 3 rfl) ?_
  refine r_iald B hR (h1.at 5 rfl) hi_5 dX5_idleWithout_21 ?_
  obtain ⟨r_22, hc_22, h⟩ := bi_el h
  refine iv_X5_89 B hR (h0.at0 rfl) hl.1 (mX5_pieceFrom fu _ h0 hc_22) (Nat.le_of_ble_eq_true rfl) dX5_idleWithout_22 (fun H locs hR => ?_)
  refine lv_istore (lv' := [(4, .int r_22), (3, .int x3_13), (0, .ref a0), (1, .ref a1), (2, .int x2)]) hx hb dX5_idleWithout_25 hl (by decide) rfl (fun ls hl => ?_)
  exact wX5_idleWithout_l27 B hr hlk h0 h1 h hR (lv_sub hl [2, 3, 4, 1, 0] rfl)
def fX5_gained_j35 (fu : Nat) (t0 : Int32) (t1 : Int32) (M : Mm) : Option Int32 :=
  some (t0 - t1)
set_option maxRecDepth 100000 in
set_option maxHeartbeats 4000000 in
theorem wX5_gained_j35 {r : Int32}   {t0 : Int32} {t1 : Int32} {M : Mm} (B : Bx p s m args c cX5_gained 3 RX5 E L) (hr : meth.sig.returnType = (some .int)) (hlk : meth.locks = false)   (h : fX5_gained_j35 fu t0 t1 M = some r) (hR : Rx s E L M H locs) (hl : lv_has ls 3 []) : W p l e (rmD (d + 0)) s m args below meth c H locs 0 0 (MQ below (QcM E L (some (.int r)) M) args s 0 0 E.2.2.2) (F0 m 35 ls [.int t1, .int t0]) := by
  have hx := B.1
  have hb := B.2.1
  unfold fX5_gained_j35 at h
  refine lv_isub hx hb dX5_gained_35 ?_
  exact r_iretP B hR hr hlk h dX5_gained_36
def fX5_gained_j15 (fu : Nat) (a0 : Nat) (x1 : Int32) (t0 : Int32) (M : Mm) : Option Int32 :=
  if x1 < 0 ∨ 128 ≤ ix x1 then none else
  if (M.1 (a0 + 4) (ix x1)) = (M.1 (a0 + 3) (ix x1)) then
    fX5_gained_j35 fu t0 1 M
  else
    fX5_gained_j35 fu t0 0 M
set_option maxRecDepth 100000 in
set_option maxHeartbeats 4000000 in
theorem wX5_gained_j15 {r : Int32}   {a0 : Nat} {x1 : Int32} {t0 : Int32} {M : Mm} (B : Bx p s m args c cX5_gained 3 RX5 E L) (hr : meth.sig.returnType = (some .int)) (hlk : meth.locks = false)  (h0 : At L a0 T5) (h : fX5_gained_j15 fu a0 x1 t0 M = some r) (hR : Rx s E L M H locs) (hl : lv_has ls 3 [(0, .ref a0), (1, .int x1)]) : W p l e (rmD (d + 0)) s m args below meth c H locs 0 0 (MQ below (QcM E L (some (.int r)) M) args s 0 0 E.2.2.2) (F0 m 15 ls [.int t0]) := by
  have hx := B.1
  have hb := B.2.1
  unfold fX5_gained_j15 at h
  refine lv_aload_n hx hb dX5_gained_15 rfl (lv_at hl 0 rfl) ?_
  refine gf_X5_24 B hR (h0.at0 rfl) dX5_gained_16 ?_
  refine lv_iload_n hx hb dX5_gained_19 rfl (lv_at hl 1 rfl) ?_
  obtain ⟨hi_20, h⟩ := ifn_el h
  refine r_iald B hR (h0.at 4 rfl) hi_20 dX5_gained_20 ?_
  refine lv_aload_n hx hb dX5_gained_21 rfl (lv_at hl 0 rfl) ?_
  refine gf_X5_20 B hR (h0.at0 rfl) dX5_gained_22 ?_
  refine lv_iload_n hx hb dX5_gained_25 rfl (lv_at hl 1 rfl) ?_
  refine r_iald B hR (h0.at 3 rfl) hi_20 dX5_gained_26 ?_
  refine lv_icmp_ne (tgt := 34) hx hb dX5_gained_27 (by decide) (fun c_27 => ?_) (fun c_27 => ?_)
  · rw [if_neg c_27] at h
    refine lv_iconst (v := 0) hx hb dX5_gained_34 (by decide) ?_
    exact wX5_gained_j35 B hr hlk  h hR (lv_sub hl [] rfl)
  · rw [if_pos c_27] at h
    refine lv_iconst (v := 1) hx hb dX5_gained_30 (by decide) ?_
    refine lv_goto (tgt := 35) hx hb dX5_gained_31 (by decide) ?_
    exact wX5_gained_j35 B hr hlk  h hR (lv_sub hl [] rfl)
def fX5_gained (fu : Nat) (a0 : Nat) (x1 : Int32) (x2 : Int32) (M : Mm) : Option Int32 :=
  if x1 < 0 ∨ 128 ≤ ix x1 then none else
  if x2 = (M.1 (a0 + 3) (ix x1)) then
    fX5_gained_j15 fu a0 x1 1 M
  else
    fX5_gained_j15 fu a0 x1 0 M
set_option maxRecDepth 100000 in
set_option maxHeartbeats 4000000 in
theorem mX5_gained {l : Launch} {E : Ge} {L : Lay} (fu d : Nat) {a0 : Nat} {x1 : Int32} {x2 : Int32} {M : Mm} {r : Int32}  (h0 : At L a0 T5) (h : fX5_gained fu a0 x1 x2 M = some r) : Ct l E L yX5_gained cX5_gained 3 (some .int) (d + 0) [.ref a0, .int x1, .int x2] M (some (.int r)) M := by
  refine Ct.of (by decide) ?_
  intro p e s m below meth c hr hlk B hR
  have B : Bx p s m _ c cX5_gained 3 RX5 E L := B
  have hx := B.1
  have hb := B.2.1
  have hl := lv_entry ([.ref a0, .int x1, .int x2]) (n := 3) (Nat.le_of_ble_eq_true rfl)
  rw [lg_entry_eq]
  generalize (lg_sl ([.ref a0, .int x1, .int x2]) ++ List.replicate (3 - (lg_sl ([.ref a0, .int x1, .int x2])).length) Slot.unset).toArray = ls at hl ⊢
  have hl : lv_has ls 3 [(0, .ref a0), (1, .int x1), (2, .int x2)] := hl
  unfold fX5_gained at h
  refine lv_iload_n hx hb dX5_gained_0 rfl (lv_at hl 2 rfl) ?_
  refine lv_aload_n hx hb dX5_gained_1 rfl (lv_at hl 0 rfl) ?_
  refine gf_X5_20 B hR (h0.at0 rfl) dX5_gained_2 ?_
  refine lv_iload_n hx hb dX5_gained_5 rfl (lv_at hl 1 rfl) ?_
  obtain ⟨hi_6, h⟩ := ifn_el h
  refine r_iald B hR (h0.at 3 rfl) hi_6 dX5_gained_6 ?_
  refine lv_icmp_ne (tgt := 14) hx hb dX5_gained_7 (by decide) (fun c_7 => ?_) (fun c_7 => ?_)
  · rw [if_neg c_7] at h
    refine lv_iconst (v := 0) hx hb dX5_gained_14 (by decide) ?_
    exact wX5_gained_j15 B hr hlk h0 h hR (lv_sub hl [0, 1] rfl)
  · rw [if_pos c_7] at h
    refine lv_iconst (v := 1) hx hb dX5_gained_10 (by decide) ?_
    refine lv_goto (tgt := 15) hx hb dX5_gained_11 (by decide) ?_
    exact wX5_gained_j15 B hr hlk h0 h hR (lv_sub hl [0, 1] rfl)
def fX5_gainWithout_j92 (fu : Nat) (x4 : Int32) (M : Mm) : Option Int32 :=
  some x4
set_option maxRecDepth 100000 in
set_option maxHeartbeats 4000000 in
theorem wX5_gainWithout_j92 {r : Int32}   {x4 : Int32} {M : Mm} (B : Bx p s m args c cX5_gainWithout 6 RX5 E L) (hr : meth.sig.returnType = (some .int)) (hlk : meth.locks = false)   (h : fX5_gainWithout_j92 fu x4 M = some r) (hR : Rx s E L M H locs) (hl : lv_has ls 6 [(4, .int x4)]) : W p l e (rmD (d + 3)) s m args below meth c H locs 0 0 (MQ below (QcM E L (some (.int r)) M) args s 0 0 E.2.2.2) (F0 m 92 ls []) := by
  have hx := B.1
  have hb := B.2.1
  unfold fX5_gainWithout_j92 at h
  refine lv_iload hx hb dX5_gainWithout_92 (lv_at hl 0 rfl) ?_
  exact r_iretP B hR hr hlk h dX5_gainWithout_94
def fX5_gainWithout_b30 (fu : Nat) (k30 : Int32 → Int32 → Option Int32) (a0 : Nat) (a1 : Nat) (x2 : Int32) (x3 : Int32) (x4 : Int32) (x5 : Int32) (M : Mm) : Option Int32 :=
  if (M.1 a0 6) ≤ x5 then
    fX5_gainWithout_j92 fu x4 M
  else
    if x5 < 0 ∨ 128 ≤ ix x5 then none else
    if x3 ≤ (M.1 ((a0 + 1) + 1) (ix x5)) then
      fX5_gainWithout_j92 fu x4 M
    else
      bi (fX8_kindAt fu a1 (M.1 ((a0 + 1) + 1) (ix x5)) x2 M) fun r_70 =>
      bi (fX5_gained fu a0 x5 r_70 M) fun r_73 =>
      bi (fX5_lengthOf fu a0 x5 M) fun r_79 =>
      lt ((x4 + (r_73 * r_79))) fun x4_84 =>
      lt (x5 + 1) fun x5_86 =>
      k30 x4_84 x5_86
set_option maxRecDepth 100000 in
set_option maxHeartbeats 4000000 in
theorem wX5_gainWithout_b30 {r : Int32}   {k30 : Int32 → Int32 → Option Int32} {a0 : Nat} {a1 : Nat} {x2 : Int32} {x3 : Int32} {x4 : Int32} {x5 : Int32} {M : Mm} (B : Bx p s m args c cX5_gainWithout 6 RX5 E L) (hr : meth.sig.returnType = (some .int)) (hlk : meth.locks = false)  (ih30 : ∀ (x4 : Int32) (x5 : Int32), k30 x4 x5 = some r → ∀ (H : Heap) (locs : List Loc) (ls : Array Slot), Rx s E L M H locs → lv_has ls 6 [(0, .ref a0), (1, .ref a1), (2, .int x2), (3, .int x3), (4, .int x4), (5, .int x5)] → W p l e (rmD (d + 3)) s m args below meth c H locs 0 0 (MQ below (QcM E L (some (.int r)) M) args s 0 0 E.2.2.2) (F0 m 30 ls [])) (h0 : At L a0 T5) (h1 : At L a1 T8) (h : fX5_gainWithout_b30 fu k30 a0 a1 x2 x3 x4 x5 M = some r) (hR : Rx s E L M H locs) (hl : lv_has ls 6 [(0, .ref a0), (1, .ref a1), (2, .int x2), (3, .int x3), (4, .int x4), (5, .int x5)]) : W p l e (rmD (d + 3)) s m args below meth c H locs 0 0 (MQ below (QcM E L (some (.int r)) M) args s 0 0 E.2.2.2) (F0 m 30 ls []) := by
  have hx := B.1
  have hb := B.2.1
  unfold fX5_gainWithout_b30 at h
  refine lv_iload hx hb dX5_gainWithout_30 (lv_at hl 5 rfl) ?_
  refine lv_aload_n hx hb dX5_gainWithout_32 rfl (lv_at hl 0 rfl) ?_
  refine gf_X5_65 B hR (h0.at0 rfl) dX5_gainWithout_33 ?_
  refine lv_icmp_ge (tgt := 92) hx hb dX5_gainWithout_36 (by decide) (fun c_36 => ?_) (fun c_36 => ?_)
  · rw [if_pos c_36] at h
    exact wX5_gainWithout_j92 B hr hlk  h hR (lv_sub hl [4] rfl)
  · rw [if_neg c_36] at h
    refine lv_aload_n hx hb dX5_gainWithout_39 rfl (lv_at hl 0 rfl) ?_
    refine gf_X5_14 B hR (h0.at0 rfl) dX5_gainWithout_40 ?_
    refine gf_X5_66 B hR ((sb_5_0 h0).at0 rfl) dX5_gainWithout_43 ?_
    refine lv_iload hx hb dX5_gainWithout_46 (lv_at hl 5 rfl) ?_
    obtain ⟨hi_48, h⟩ := ifn_el h
    refine r_iald B hR ((sb_5_0 h0).at 1 rfl) hi_48 dX5_gainWithout_48 ?_
    refine lv_iload_n hx hb dX5_gainWithout_49 rfl (lv_at hl 3 rfl) ?_
    refine lv_icmp_ge (tgt := 92) hx hb dX5_gainWithout_50 (by decide) (fun c_50 => ?_) (fun c_50 => ?_)
    · rw [if_pos c_50] at h
      exact wX5_gainWithout_j92 B hr hlk  h hR (lv_sub hl [4] rfl)
    · rw [if_neg c_50] at h
      refine lv_iload hx hb dX5_gainWithout_53 (lv_at hl 4 rfl) ?_
      refine lv_aload_n hx hb dX5_gainWithout_55 rfl (lv_at hl 0 rfl) ?_
      refine lv_iload hx hb dX5_gainWithout_56 (lv_at hl 5 rfl) ?_
      refine lv_aload_n hx hb dX5_gainWithout_58 rfl (lv_at hl 1 rfl) ?_
      refine lv_aload_n hx hb dX5_gainWithout_59 rfl (lv_at hl 0 rfl) ?_
      refine gf_X5_14 B hR (h0.at0 rfl) dX5_gainWithout_60 ?_
      refine gf_X5_66 B hR ((sb_5_0 h0).at0 rfl) dX5_gainWithout_63 ?_
      refine lv_iload hx hb dX5_gainWithout_66 (lv_at hl 5 rfl) ?_
      refine r_iald B hR ((sb_5_0 h0).at 1 rfl) hi_48 dX5_gainWithout_68 ?_
      refine lv_iload_n hx hb dX5_gainWithout_69 rfl (lv_at hl 2 rfl) ?_
      obtain ⟨r_70, hc_70, h⟩ := bi_el h
      refine iv_X5_76 B hR (h1.at0 rfl) hl.1 (mX8_kindAt fu _ h1 hc_70) (Nat.le_of_ble_eq_true rfl) dX5_gainWithout_70 (fun H locs hR => ?_)
      obtain ⟨r_73, hc_73, h⟩ := bi_el h
      refine iv_X5_108 B hR (h0.at0 rfl) hl.1 (mX5_gained fu _ h0 hc_73) (Nat.le_of_ble_eq_true rfl) dX5_gainWithout_73 (fun H locs hR => ?_)
      refine lv_aload_n hx hb dX5_gainWithout_76 rfl (lv_at hl 0 rfl) ?_
      refine lv_iload hx hb dX5_gainWithout_77 (lv_at hl 5 rfl) ?_
      obtain ⟨r_79, hc_79, h⟩ := bi_el h
      refine iv_X5_85 B hR (h0.at0 rfl) hl.1 (mX5_lengthOf fu _ h0 hc_79) (Nat.le_of_ble_eq_true rfl) dX5_gainWithout_79 (fun H locs hR => ?_)
      refine lv_imul hx hb dX5_gainWithout_82 ?_
      refine lv_iadd hx hb dX5_gainWithout_83 ?_
      obtain ⟨x4_84, ex4_84, h⟩ := lt_el h
      refine r_nmI ex4_84 ?_
      refine lv_istore (lv' := [(4, .int x4_84), (0, .ref a0), (1, .ref a1), (2, .int x2), (3, .int x3), (5, .int x5)]) hx hb dX5_gainWithout_84 hl (by decide) rfl (fun ls hl => ?_)
      obtain ⟨x5_86, ex5_86, h⟩ := lt_el h
      refine lv_iinc (v := x5_86) (lv' := [(5, .int x5_86), (4, .int x4_84), (0, .ref a0), (1, .ref a1), (2, .int x2), (3, .int x3)]) hx hb dX5_gainWithout_86 hl (k := 5) rfl (by rw [ex5_86]; rfl) (by decide) rfl (fun ls hl => ?_)
      refine lv_goto (tgt := 30) hx hb dX5_gainWithout_89 (by decide) ?_
      exact ih30 x4_84 x5_86 h _ _ _ hR (lv_sub hl [2, 3, 4, 5, 1, 0] rfl)
def fX5_gainWithout_l30 (fu : Nat) (a0 : Nat) (a1 : Nat) (x2 : Int32) (x3 : Int32) (M : Mm) (x4 : Int32) (x5 : Int32) : Option Int32 := lp (fun (rec : (Int32 × Int32) → Option Int32) (s : Int32 × Int32) => fX5_gainWithout_b30 fu  (fun x4 x5 => rec (x4, x5)) a0 a1 x2 x3 s.1 s.2 M) fu (x4, x5)
set_option maxRecDepth 100000 in
set_option maxHeartbeats 4000000 in
theorem wX5_gainWithout_l30 {r : Int32}   {a0 : Nat} {a1 : Nat} {x2 : Int32} {x3 : Int32} {x4 : Int32} {x5 : Int32} {M : Mm} (B : Bx p s m args c cX5_gainWithout 6 RX5 E L) (hr : meth.sig.returnType = (some .int)) (hlk : meth.locks = false)  (h0 : At L a0 T5) (h1 : At L a1 T8) (h : fX5_gainWithout_l30 fu a0 a1 x2 x3 M x4 x5 = some r) (hR : Rx s E L M H locs) (hl : lv_has ls 6 [(0, .ref a0), (1, .ref a1), (2, .int x2), (3, .int x3), (4, .int x4), (5, .int x5)]) : W p l e (rmD (d + 3)) s m args below meth c H locs 0 0 (MQ below (QcM E L (some (.int r)) M) args s 0 0 E.2.2.2) (F0 m 30 ls []) := by
  refine lp_G (G := fun z : Int32 × Int32 => ∀ (H : Heap) (locs : List Loc) (ls : Array Slot), Rx s E L M H locs → lv_has ls 6 [(0, .ref a0), (1, .ref a1), (2, .int x2), (3, .int x3), (4, .int z.1), (5, .int z.2)] → W p l e (rmD (d + 3)) s m args below meth c H locs 0 0 (MQ below (QcM E L (some (.int r)) M) args s 0 0 E.2.2.2) (F0 m 30 ls [])) (fun rec ih z h H locs ls hR hl => ?_) fu _ h H locs ls hR hl
  exact wX5_gainWithout_b30 B hr hlk  (fun x4 x5 h => ih (x4, x5) h) h0 h1 h hR hl
def fX5_gainWithout (fu : Nat) (a0 : Nat) (a1 : Nat) (x2 : Int32) (M : Mm) : Option Int32 :=
  if x2 < 0 ∨ 10 ≤ ix x2 then none else
  lt (((M.1 (a1 + 5) (ix x2)) + (M.1 (a1 + 6) (ix x2)))) fun x3_13 =>
  bi (fX5_pieceFrom fu a0 0 (M.1 (a1 + 5) (ix x2)) M) fun r_25 =>
  fX5_gainWithout_l30 fu a0 a1 x2 x3_13 M 0 r_25
set_option maxRecDepth 100000 in
set_option maxHeartbeats 4000000 in
theorem mX5_gainWithout {l : Launch} {E : Ge} {L : Lay} (fu d : Nat) {a0 : Nat} {a1 : Nat} {x2 : Int32} {M : Mm} {r : Int32}  (h0 : At L a0 T5) (h1 : At L a1 T8) (h : fX5_gainWithout fu a0 a1 x2 M = some r) : Ct l E L yX5_gainWithout cX5_gainWithout 6 (some .int) (d + 3) [.ref a0, .ref a1, .int x2] M (some (.int r)) M := by
  refine Ct.of (by decide) ?_
  intro p e s m below meth c hr hlk B hR
  have B : Bx p s m _ c cX5_gainWithout 6 RX5 E L := B
  have hx := B.1
  have hb := B.2.1
  have hl := lv_entry ([.ref a0, .ref a1, .int x2]) (n := 6) (Nat.le_of_ble_eq_true rfl)
  rw [lg_entry_eq]
  generalize (lg_sl ([.ref a0, .ref a1, .int x2]) ++ List.replicate (6 - (lg_sl ([.ref a0, .ref a1, .int x2])).length) Slot.unset).toArray = ls at hl ⊢
  have hl : lv_has ls 6 [(0, .ref a0), (1, .ref a1), (2, .int x2)] := hl
  unfold fX5_gainWithout at h
  refine lv_aload_n hx hb dX5_gainWithout_0 rfl (lv_at hl 1 rfl) ?_
  refine gf_X5_102 B hR (h1.at0 rfl) dX5_gainWithout_1 ?_
  refine lv_iload_n hx hb dX5_gainWithout_4 rfl (lv_at hl 2 rfl) ?_
  obtain ⟨hi_5, h⟩ := ifn_el h
  refine r_iald B hR (h1.at 5 rfl) hi_5 dX5_gainWithout_5 ?_
  refine lv_aload_n hx hb dX5_gainWithout_6 rfl (lv_at hl 1 rfl) ?_
  refine gf_X5_105 B hR (h1.at0 rfl) dX5_gainWithout_7 ?_
  refine lv_iload_n hx hb dX5_gainWithout_10 rfl (lv_at hl 2 rfl) ?_
  refine r_iald B hR (h1.at 6 rfl) hi_5 dX5_gainWithout_11 ?_
  refine lv_iadd hx hb dX5_gainWithout_12 ?_
  obtain ⟨x3_13, ex3_13, h⟩ := lt_el h
  refine r_nmI ex3_13 ?_
  refine lv_istore_n (lv' := [(3, .int x3_13), (0, .ref a0), (1, .ref a1), (2, .int x2)]) hx hb dX5_gainWithout_13 rfl hl (by decide) rfl (fun ls hl => ?_)
  refine lv_iconst (v := 0) hx hb dX5_gainWithout_14 (by decide) ?_
  refine lv_istore (lv' := [(4, .int 0), (3, .int x3_13), (0, .ref a0), (1, .ref a1), (2, .int x2)]) hx hb dX5_gainWithout_15 hl (by decide) rfl (fun ls hl => ?_)
  refine lv_aload_n hx hb dX5_gainWithout_17 rfl (lv_at hl 2 rfl) ?_
  refine lv_iconst (v := 0) hx hb dX5_gainWithout_18 (by decide) ?_
  refine lv_aload_n hx hb dX5_gainWithout_19 rfl (lv_at hl 3 rfl) ?_
  refine gf_X5_102 B hR (h1.at0 rfl) dX5_gainWithout_20 ?_
  refine lv_iload_n hx hb dX5_gainWithout_23 rfl (lv_at hl 4 rfl) ?_
  refine r_iald B hR (h1.at 5 rfl) hi_5 dX5_gainWithout_24 ?_
  obtain ⟨r_25, hc_25, h⟩ := bi_el h
  refine iv_X5_89 B hR (h0.at0 rfl) hl.1 (mX5_pieceFrom fu _ h0 hc_25) (Nat.le_of_ble_eq_true rfl) dX5_gainWithout_25 (fun H locs hR => ?_)
  refine lv_istore (lv' := [(5, .int r_25), (4, .int 0), (3, .int x3_13), (0, .ref a0), (1, .ref a1), (2, .int x2)]) hx hb dX5_gainWithout_28 hl (by decide) rfl (fun ls hl => ?_)
  exact wX5_gainWithout_l30 B hr hlk h0 h1 h hR (lv_sub hl [3, 4, 5, 2, 1, 0] rfl)
def fX5_weighBesides_j76 (fu : Nat) (M : Mm) : Option Mm :=
  some M
set_option maxRecDepth 100000 in
set_option maxHeartbeats 4000000 in
theorem wX5_weighBesides_j76 {M' : Mm}    {M : Mm} (B : Bx p s m args c cX5_weighBesides 5 RX5 E L) (hr : meth.sig.returnType = none) (hlk : meth.locks = false)   (h : fX5_weighBesides_j76 fu M = some M') (hR : Rx s E L M H locs) (hl : lv_has ls 5 []) : W p l e (rmD (d + 2)) s m args below meth c H locs 0 0 (MQ below (QcM E L none M') args s 0 0 E.2.2.2) (F0 m 76 ls []) := by
  have hx := B.1
  have hb := B.2.1
  unfold fX5_weighBesides_j76 at h
  exact r_vretW B hR hr hlk h dX5_weighBesides_76
def fX5_weighBesides_j69 (fu : Nat) (k2 : Int32 → Mm → Option Mm) (a0 : Nat) (a1 : Nat) (x2 : Int32) (x3 : Int32) (b0 : Nat) (t1 : Int32) (t2 : Int32) (M : Mm) : Option Mm :=
  if t1 < 0 ∨ 128 ≤ ix t1 then none else
  lt (wI M b0 (ix t1) t2) fun M_69 =>
  lt (x3 + 1) fun x3_70 =>
  k2 x3_70 M_69
set_option maxRecDepth 100000 in
set_option maxHeartbeats 4000000 in
theorem wX5_weighBesides_j69 {M' : Mm}  {k2 : Int32 → Mm → Option Mm} {a0 : Nat} {a1 : Nat} {x2 : Int32} {x3 : Int32} {b0 : Nat} {t1 : Int32} {t2 : Int32} {M : Mm} (B : Bx p s m args c cX5_weighBesides 5 RX5 E L) (hr : meth.sig.returnType = none) (hlk : meth.locks = false) (ih2 : ∀ (x3 : Int32) (M : Mm), k2 x3 M = some M' → ∀ (H : Heap) (locs : List Loc) (ls : Array Slot), Rx s E L M H locs → lv_has ls 5 [(0, .ref a0), (1, .ref a1), (2, .int x2), (3, .int x3)] → W p l e (rmD (d + 2)) s m args below meth c H locs 0 0 (MQ below (QcM E L none M') args s 0 0 E.2.2.2) (F0 m 2 ls [])) (h0 : At L a0 T5) (h1 : At L a1 T8) (g0 : (b0, (0, 128)) ∈ L) (h : fX5_weighBesides_j69 fu k2 a0 a1 x2 x3 b0 t1 t2 M = some M') (hR : Rx s E L M H locs) (hl : lv_has ls 5 [(0, .ref a0), (1, .ref a1), (2, .int x2), (3, .int x3)]) : W p l e (rmD (d + 2)) s m args below meth c H locs 0 0 (MQ below (QcM E L none M') args s 0 0 E.2.2.2) (F0 m 69 ls [.int t2, .int t1, .ref b0]) := by
  have hx := B.1
  have hb := B.2.1
  unfold fX5_weighBesides_j69 at h
  obtain ⟨hi_69, h⟩ := ifn_el h
  obtain ⟨M_69, eM_69, h⟩ := lt_el h
  refine r_iast B hR g0 hi_69 dX5_weighBesides_69 (fun H locs hR => ?_)
  rw [← eM_69] at hR
  obtain ⟨x3_70, ex3_70, h⟩ := lt_el h
  refine lv_iinc (v := x3_70) (lv' := [(3, .int x3_70), (0, .ref a0), (1, .ref a1), (2, .int x2)]) hx hb dX5_weighBesides_70 hl (k := 3) rfl (by rw [ex3_70]; rfl) (by decide) rfl (fun ls hl => ?_)
  refine lv_goto (tgt := 2) hx hb dX5_weighBesides_73 (by decide) ?_
  exact ih2 x3_70 M_69 h _ _ _ hR (lv_sub hl [1, 2, 3, 0] rfl)
def fX5_weighBesides_b2 (fu : Nat) (k2 : Int32 → Mm → Option Mm) (a0 : Nat) (a1 : Nat) (x2 : Int32) (x3 : Int32) (M : Mm) : Option Mm :=
  if (M.1 a0 6) ≤ x3 then
    fX5_weighBesides_j76 fu M
  else
    if x3 < 0 ∨ 128 ≤ ix x3 then none else
    bi (fX8_kindsOver fu a1 (M.1 ((a0 + 1) + 1) (ix x3)) (-1) M) fun r_21 =>
    lt ((r_21 ||| (1 <<< (x2 &&& 31)))) fun x4_28 =>
    if (M.1 a0 8) ≤ (M.1 ((a0 + 1) + 1) (ix x3)) then
      bi (fX10_together fu x4_28 (M.1 a1 2)) fun r_63 =>
      bi (fX5_gained fu a0 x3 r_63 M) fun r_66 =>
      fX5_weighBesides_j69 fu k2 a0 a1 x2 x3 (a0 + 5) x3 r_66 M
    else
      fX5_weighBesides_j69 fu k2 a0 a1 x2 x3 (a0 + 5) x3 0 M
set_option maxRecDepth 100000 in
set_option maxHeartbeats 4000000 in
theorem wX5_weighBesides_b2 {M' : Mm}   {k2 : Int32 → Mm → Option Mm} {a0 : Nat} {a1 : Nat} {x2 : Int32} {x3 : Int32} {M : Mm} (B : Bx p s m args c cX5_weighBesides 5 RX5 E L) (hr : meth.sig.returnType = none) (hlk : meth.locks = false)  (ih2 : ∀ (x3 : Int32) (M : Mm), k2 x3 M = some M' → ∀ (H : Heap) (locs : List Loc) (ls : Array Slot), Rx s E L M H locs → lv_has ls 5 [(0, .ref a0), (1, .ref a1), (2, .int x2), (3, .int x3)] → W p l e (rmD (d + 2)) s m args below meth c H locs 0 0 (MQ below (QcM E L none M') args s 0 0 E.2.2.2) (F0 m 2 ls [])) (h0 : At L a0 T5) (h1 : At L a1 T8) (h : fX5_weighBesides_b2 fu k2 a0 a1 x2 x3 M = some M') (hR : Rx s E L M H locs) (hl : lv_has ls 5 [(0, .ref a0), (1, .ref a1), (2, .int x2), (3, .int x3)]) : W p l e (rmD (d + 2)) s m args below meth c H locs 0 0 (MQ below (QcM E L none M') args s 0 0 E.2.2.2) (F0 m 2 ls []) := by
  have hx := B.1
  have hb := B.2.1
  unfold fX5_weighBesides_b2 at h
  refine lv_iload_n hx hb dX5_weighBesides_2 rfl (lv_at hl 3 rfl) ?_
  refine lv_aload_n hx hb dX5_weighBesides_3 rfl (lv_at hl 0 rfl) ?_
  refine gf_X5_65 B hR (h0.at0 rfl) dX5_weighBesides_4 ?_
  refine lv_icmp_ge (tgt := 76) hx hb dX5_weighBesides_7 (by decide) (fun c_7 => ?_) (fun c_7 => ?_)
  · rw [if_pos c_7] at h
    exact wX5_weighBesides_j76 B hr hlk  h hR (lv_sub hl [] rfl)
  · rw [if_neg c_7] at h
    refine lv_aload_n hx hb dX5_weighBesides_10 rfl (lv_at hl 1 rfl) ?_
    refine lv_aload_n hx hb dX5_weighBesides_11 rfl (lv_at hl 0 rfl) ?_
    refine gf_X5_14 B hR (h0.at0 rfl) dX5_weighBesides_12 ?_
    refine gf_X5_66 B hR ((sb_5_0 h0).at0 rfl) dX5_weighBesides_15 ?_
    refine lv_iload_n hx hb dX5_weighBesides_18 rfl (lv_at hl 3 rfl) ?_
    obtain ⟨hi_19, h⟩ := ifn_el h
    refine r_iald B hR ((sb_5_0 h0).at 1 rfl) hi_19 dX5_weighBesides_19 ?_
    refine lv_iconst (v := (-1)) hx hb dX5_weighBesides_20 (by decide) ?_
    obtain ⟨r_21, hc_21, h⟩ := bi_el h
    refine iv_X5_111 B hR (h1.at0 rfl) hl.1 (mX8_kindsOver fu _ h1 hc_21) (Nat.le_of_ble_eq_true rfl) dX5_weighBesides_21 (fun H locs hR => ?_)
    refine lv_iconst (v := 1) hx hb dX5_weighBesides_24 (by decide) ?_
    refine lv_iload_n hx hb dX5_weighBesides_25 rfl (lv_at hl 2 rfl) ?_
    refine lv_ishl hx hb dX5_weighBesides_26 ?_
    refine lv_ior hx hb dX5_weighBesides_27 ?_
    obtain ⟨x4_28, ex4_28, h⟩ := lt_el h
    refine r_nmI ex4_28 ?_
    refine lv_istore (lv' := [(4, .int x4_28), (0, .ref a0), (1, .ref a1), (2, .int x2), (3, .int x3)]) hx hb dX5_weighBesides_28 hl (by decide) rfl (fun ls hl => ?_)
    refine lv_aload_n hx hb dX5_weighBesides_30 rfl (lv_at hl 1 rfl) ?_
    refine gf_X5_27 B hR (h0.at0 rfl) dX5_weighBesides_31 ?_
    refine lv_iload_n hx hb dX5_weighBesides_34 rfl (lv_at hl 4 rfl) ?_
    refine lv_aload_n hx hb dX5_weighBesides_35 rfl (lv_at hl 1 rfl) ?_
    refine gf_X5_14 B hR (h0.at0 rfl) dX5_weighBesides_36 ?_
    refine gf_X5_66 B hR ((sb_5_0 h0).at0 rfl) dX5_weighBesides_39 ?_
    refine lv_iload_n hx hb dX5_weighBesides_42 rfl (lv_at hl 4 rfl) ?_
    refine r_iald B hR ((sb_5_0 h0).at 1 rfl) hi_19 dX5_weighBesides_43 ?_
    refine lv_aload_n hx hb dX5_weighBesides_44 rfl (lv_at hl 1 rfl) ?_
    refine gf_X5_61 B hR (h0.at0 rfl) dX5_weighBesides_45 ?_
    refine lv_icmp_ge (tgt := 55) hx hb dX5_weighBesides_48 (by decide) (fun c_48 => ?_) (fun c_48 => ?_)
    · rw [if_pos c_48] at h
      refine lv_aload_n hx hb dX5_weighBesides_55 rfl (lv_at hl 1 rfl) ?_
      refine lv_iload_n hx hb dX5_weighBesides_56 rfl (lv_at hl 4 rfl) ?_
      refine lv_iload hx hb dX5_weighBesides_57 (lv_at hl 0 rfl) ?_
      refine lv_aload_n hx hb dX5_weighBesides_59 rfl (lv_at hl 2 rfl) ?_
      refine gf_X5_69 B hR (h1.at0 rfl) dX5_weighBesides_60 ?_
      obtain ⟨r_63, hc_63, h⟩ := bi_el h
      refine is_X5_114 B hR hl.1 (mX10_together fu _  hc_63) (Nat.le_of_ble_eq_true rfl) dX5_weighBesides_63 (fun H locs hR => ?_)
      obtain ⟨r_66, hc_66, h⟩ := bi_el h
      refine iv_X5_108 B hR (h0.at0 rfl) hl.1 (mX5_gained fu _ h0 hc_66) (Nat.le_of_ble_eq_true rfl) dX5_weighBesides_66 (fun H locs hR => ?_)
      exact wX5_weighBesides_j69 B hr hlk ih2 h0 h1 (h0.at 5 rfl) h hR (lv_sub hl [1, 2, 3, 4] rfl)
    · rw [if_neg c_48] at h
      refine lv_iconst (v := 0) hx hb dX5_weighBesides_51 (by decide) ?_
      refine lv_goto (tgt := 69) hx hb dX5_weighBesides_52 (by decide) ?_
      exact wX5_weighBesides_j69 B hr hlk ih2 h0 h1 (h0.at 5 rfl) h hR (lv_sub hl [1, 2, 3, 4] rfl)
def fX5_weighBesides_l2 (fu : Nat) (a0 : Nat) (a1 : Nat) (x2 : Int32) (x3 : Int32) (M : Mm) : Option Mm := lp (fun (rec : (Int32 × Mm) → Option Mm) (s : Int32 × Mm) => fX5_weighBesides_b2 fu  (fun x3 M => rec (x3, M)) a0 a1 x2 s.1 s.2) fu (x3, M)
set_option maxRecDepth 100000 in
set_option maxHeartbeats 4000000 in
theorem wX5_weighBesides_l2 {M' : Mm}   {a0 : Nat} {a1 : Nat} {x2 : Int32} {x3 : Int32} {M : Mm} (B : Bx p s m args c cX5_weighBesides 5 RX5 E L) (hr : meth.sig.returnType = none) (hlk : meth.locks = false)  (h0 : At L a0 T5) (h1 : At L a1 T8) (h : fX5_weighBesides_l2 fu a0 a1 x2 x3 M = some M') (hR : Rx s E L M H locs) (hl : lv_has ls 5 [(0, .ref a0), (1, .ref a1), (2, .int x2), (3, .int x3)]) : W p l e (rmD (d + 2)) s m args below meth c H locs 0 0 (MQ below (QcM E L none M') args s 0 0 E.2.2.2) (F0 m 2 ls []) := by
  refine lp_G (G := fun z : Int32 × Mm => ∀ (H : Heap) (locs : List Loc) (ls : Array Slot), Rx s E L z.2 H locs → lv_has ls 5 [(0, .ref a0), (1, .ref a1), (2, .int x2), (3, .int z.1)] → W p l e (rmD (d + 2)) s m args below meth c H locs 0 0 (MQ below (QcM E L none M') args s 0 0 E.2.2.2) (F0 m 2 ls [])) (fun rec ih z h H locs ls hR hl => ?_) fu _ h H locs ls hR hl
  exact wX5_weighBesides_b2 B hr hlk  (fun x3 M h => ih (x3, M) h) h0 h1 h hR hl
def fX5_weighBesides (fu : Nat) (a0 : Nat) (a1 : Nat) (x2 : Int32) (M : Mm) : Option Mm :=
  fX5_weighBesides_l2 fu a0 a1 x2 0 M
set_option maxRecDepth 100000 in
set_option maxHeartbeats 4000000 in
theorem mX5_weighBesides {l : Launch} {E : Ge} {L : Lay} (fu d : Nat) {a0 : Nat} {a1 : Nat} {x2 : Int32} {M : Mm} {M' : Mm}  (h0 : At L a0 T5) (h1 : At L a1 T8) (h : fX5_weighBesides fu a0 a1 x2 M = some M') : Ct l E L yX5_weighBesides cX5_weighBesides 5 none (d + 2) [.ref a0, .ref a1, .int x2] M none M' := by
  refine Ct.of (by decide) ?_
  intro p e s m below meth c hr hlk B hR
  have B : Bx p s m _ c cX5_weighBesides 5 RX5 E L := B
  have hx := B.1
  have hb := B.2.1
  have hl := lv_entry ([.ref a0, .ref a1, .int x2]) (n := 5) (Nat.le_of_ble_eq_true rfl)
  rw [lg_entry_eq]
  generalize (lg_sl ([.ref a0, .ref a1, .int x2]) ++ List.replicate (5 - (lg_sl ([.ref a0, .ref a1, .int x2])).length) Slot.unset).toArray = ls at hl ⊢
  have hl : lv_has ls 5 [(0, .ref a0), (1, .ref a1), (2, .int x2)] := hl
  unfold fX5_weighBesides at h
  refine lv_iconst (v := 0) hx hb dX5_weighBesides_0 (by decide) ?_
  refine lv_istore_n (lv' := [(3, .int 0), (0, .ref a0), (1, .ref a1), (2, .int x2)]) hx hb dX5_weighBesides_1 rfl hl (by decide) rfl (fun ls hl => ?_)
  exact wX5_weighBesides_l2 B hr hlk h0 h1 h hR (lv_sub hl [1, 2, 3, 0] rfl)
def fX5_gainWithin_j79 (fu : Nat) (x4 : Int32) (M : Mm) : Option Int32 :=
  some x4
set_option maxRecDepth 100000 in
set_option maxHeartbeats 4000000 in
theorem wX5_gainWithin_j79 {r : Int32}   {x4 : Int32} {M : Mm} (B : Bx p s m args c cX5_gainWithin 6 RX5 E L) (hr : meth.sig.returnType = (some .int)) (hlk : meth.locks = false)   (h : fX5_gainWithin_j79 fu x4 M = some r) (hR : Rx s E L M H locs) (hl : lv_has ls 6 [(4, .int x4)]) : W p l e (rmD (d + 1)) s m args below meth c H locs 0 0 (MQ below (QcM E L (some (.int r)) M) args s 0 0 E.2.2.2) (F0 m 79 ls []) := by
  have hx := B.1
  have hb := B.2.1
  unfold fX5_gainWithin_j79 at h
  refine lv_iload hx hb dX5_gainWithin_79 (lv_at hl 0 rfl) ?_
  exact r_iretP B hR hr hlk h dX5_gainWithin_81
def fX5_gainWithin_b6 (fu : Nat) (k6 : Int32 → Int32 → Option Int32) (a0 : Nat) (x2 : Int32) (x3 : Int32) (x4 : Int32) (x5 : Int32) (M : Mm) : Option Int32 :=
  if (M.1 a0 6) ≤ x5 then
    fX5_gainWithin_j79 fu x4 M
  else
    if x5 < 0 ∨ 128 ≤ ix x5 then none else
    if x3 ≤ (M.1 ((a0 + 1) + 1) (ix x5)) then
      fX5_gainWithin_j79 fu x4 M
    else
      if (x5 + 1) < 0 ∨ 128 ≤ ix (x5 + 1) then none else
      lt ((x4 + ((M.1 (a0 + 5) (ix x5)) * ((if (M.1 ((a0 + 1) + 1) (ix (x5 + 1))) < x3 then (M.1 ((a0 + 1) + 1) (ix (x5 + 1))) else x3) - (if x2 < (M.1 ((a0 + 1) + 1) (ix x5)) then (M.1 ((a0 + 1) + 1) (ix x5)) else x2))))) fun x4_71 =>
      lt (x5 + 1) fun x5_73 =>
      k6 x4_71 x5_73
set_option maxRecDepth 100000 in
set_option maxHeartbeats 4000000 in
theorem wX5_gainWithin_b6 {r : Int32}   {k6 : Int32 → Int32 → Option Int32} {a0 : Nat} {x2 : Int32} {x3 : Int32} {x4 : Int32} {x5 : Int32} {M : Mm} (B : Bx p s m args c cX5_gainWithin 6 RX5 E L) (hr : meth.sig.returnType = (some .int)) (hlk : meth.locks = false)  (ih6 : ∀ (x4 : Int32) (x5 : Int32), k6 x4 x5 = some r → ∀ (H : Heap) (locs : List Loc) (ls : Array Slot), Rx s E L M H locs → lv_has ls 6 [(0, .ref a0), (2, .int x2), (3, .int x3), (4, .int x4), (5, .int x5)] → W p l e (rmD (d + 1)) s m args below meth c H locs 0 0 (MQ below (QcM E L (some (.int r)) M) args s 0 0 E.2.2.2) (F0 m 6 ls [])) (h0 : At L a0 T5) (h : fX5_gainWithin_b6 fu k6 a0 x2 x3 x4 x5 M = some r) (hR : Rx s E L M H locs) (hl : lv_has ls 6 [(0, .ref a0), (2, .int x2), (3, .int x3), (4, .int x4), (5, .int x5)]) : W p l e (rmD (d + 1)) s m args below meth c H locs 0 0 (MQ below (QcM E L (some (.int r)) M) args s 0 0 E.2.2.2) (F0 m 6 ls []) := by
  have hx := B.1
  have hb := B.2.1
  unfold fX5_gainWithin_b6 at h
  refine lv_iload hx hb dX5_gainWithin_6 (lv_at hl 4 rfl) ?_
  refine lv_aload_n hx hb dX5_gainWithin_8 rfl (lv_at hl 0 rfl) ?_
  refine gf_X5_65 B hR (h0.at0 rfl) dX5_gainWithin_9 ?_
  refine lv_icmp_ge (tgt := 79) hx hb dX5_gainWithin_12 (by decide) (fun c_12 => ?_) (fun c_12 => ?_)
  · rw [if_pos c_12] at h
    exact wX5_gainWithin_j79 B hr hlk  h hR (lv_sub hl [3] rfl)
  · rw [if_neg c_12] at h
    refine lv_aload_n hx hb dX5_gainWithin_15 rfl (lv_at hl 0 rfl) ?_
    refine gf_X5_14 B hR (h0.at0 rfl) dX5_gainWithin_16 ?_
    refine gf_X5_66 B hR ((sb_5_0 h0).at0 rfl) dX5_gainWithin_19 ?_
    refine lv_iload hx hb dX5_gainWithin_22 (lv_at hl 4 rfl) ?_
    obtain ⟨hi_24, h⟩ := ifn_el h
    refine r_iald B hR ((sb_5_0 h0).at 1 rfl) hi_24 dX5_gainWithin_24 ?_
    refine lv_iload_n hx hb dX5_gainWithin_25 rfl (lv_at hl 2 rfl) ?_
    refine lv_icmp_ge (tgt := 79) hx hb dX5_gainWithin_26 (by decide) (fun c_26 => ?_) (fun c_26 => ?_)
    · rw [if_pos c_26] at h
      exact wX5_gainWithin_j79 B hr hlk  h hR (lv_sub hl [3] rfl)
    · rw [if_neg c_26] at h
      refine lv_iload hx hb dX5_gainWithin_29 (lv_at hl 3 rfl) ?_
      refine lv_aload_n hx hb dX5_gainWithin_31 rfl (lv_at hl 0 rfl) ?_
      refine gf_X5_27 B hR (h0.at0 rfl) dX5_gainWithin_32 ?_
      refine lv_iload hx hb dX5_gainWithin_35 (lv_at hl 4 rfl) ?_
      refine r_iald B hR (h0.at 5 rfl) hi_24 dX5_gainWithin_37 ?_
      refine lv_iload_n hx hb dX5_gainWithin_38 rfl (lv_at hl 2 rfl) ?_
      refine lv_aload_n hx hb dX5_gainWithin_39 rfl (lv_at hl 0 rfl) ?_
      refine gf_X5_14 B hR (h0.at0 rfl) dX5_gainWithin_40 ?_
      refine gf_X5_66 B hR ((sb_5_0 h0).at0 rfl) dX5_gainWithin_43 ?_
      refine lv_iload hx hb dX5_gainWithin_46 (lv_at hl 4 rfl) ?_
      refine lv_iconst (v := 1) hx hb dX5_gainWithin_48 (by decide) ?_
      refine lv_iadd hx hb dX5_gainWithin_49 ?_
      obtain ⟨hi_50, h⟩ := ifn_el h
      refine r_iald B hR ((sb_5_0 h0).at 1 rfl) hi_50 dX5_gainWithin_50 ?_
      refine mm_X5_117 B hl.1 (Nat.le_of_ble_eq_true rfl) dX5_gainWithin_51 ?_
      refine lv_iload_n hx hb dX5_gainWithin_54 rfl (lv_at hl 1 rfl) ?_
      refine lv_aload_n hx hb dX5_gainWithin_55 rfl (lv_at hl 0 rfl) ?_
      refine gf_X5_14 B hR (h0.at0 rfl) dX5_gainWithin_56 ?_
      refine gf_X5_66 B hR ((sb_5_0 h0).at0 rfl) dX5_gainWithin_59 ?_
      refine lv_iload hx hb dX5_gainWithin_62 (lv_at hl 4 rfl) ?_
      refine r_iald B hR ((sb_5_0 h0).at 1 rfl) hi_24 dX5_gainWithin_64 ?_
      refine mm_X5_122 B hl.1 (Nat.le_of_ble_eq_true rfl) dX5_gainWithin_65 ?_
      refine lv_isub hx hb dX5_gainWithin_68 ?_
      refine lv_imul hx hb dX5_gainWithin_69 ?_
      refine lv_iadd hx hb dX5_gainWithin_70 ?_
      obtain ⟨x4_71, ex4_71, h⟩ := lt_el h
      refine r_nmI ex4_71 ?_
      refine lv_istore (lv' := [(4, .int x4_71), (0, .ref a0), (2, .int x2), (3, .int x3), (5, .int x5)]) hx hb dX5_gainWithin_71 hl (by decide) rfl (fun ls hl => ?_)
      obtain ⟨x5_73, ex5_73, h⟩ := lt_el h
      refine lv_iinc (v := x5_73) (lv' := [(5, .int x5_73), (4, .int x4_71), (0, .ref a0), (2, .int x2), (3, .int x3)]) hx hb dX5_gainWithin_73 hl (k := 4) rfl (by rw [ex5_73]; rfl) (by decide) rfl (fun ls hl => ?_)
      refine lv_goto (tgt := 6) hx hb dX5_gainWithin_76 (by decide) ?_
      exact ih6 x4_71 x5_73 h _ _ _ hR (lv_sub hl [2, 3, 4, 1, 0] rfl)
def fX5_gainWithin_l6 (fu : Nat) (a0 : Nat) (x2 : Int32) (x3 : Int32) (M : Mm) (x4 : Int32) (x5 : Int32) : Option Int32 := lp (fun (rec : (Int32 × Int32) → Option Int32) (s : Int32 × Int32) => fX5_gainWithin_b6 fu  (fun x4 x5 => rec (x4, x5)) a0 x2 x3 s.1 s.2 M) fu (x4, x5)
set_option maxRecDepth 100000 in
set_option maxHeartbeats 4000000 in
theorem wX5_gainWithin_l6 {r : Int32}   {a0 : Nat} {x2 : Int32} {x3 : Int32} {x4 : Int32} {x5 : Int32} {M : Mm} (B : Bx p s m args c cX5_gainWithin 6 RX5 E L) (hr : meth.sig.returnType = (some .int)) (hlk : meth.locks = false)  (h0 : At L a0 T5) (h : fX5_gainWithin_l6 fu a0 x2 x3 M x4 x5 = some r) (hR : Rx s E L M H locs) (hl : lv_has ls 6 [(0, .ref a0), (2, .int x2), (3, .int x3), (4, .int x4), (5, .int x5)]) : W p l e (rmD (d + 1)) s m args below meth c H locs 0 0 (MQ below (QcM E L (some (.int r)) M) args s 0 0 E.2.2.2) (F0 m 6 ls []) := by
  refine lp_G (G := fun z : Int32 × Int32 => ∀ (H : Heap) (locs : List Loc) (ls : Array Slot), Rx s E L M H locs → lv_has ls 6 [(0, .ref a0), (2, .int x2), (3, .int x3), (4, .int z.1), (5, .int z.2)] → W p l e (rmD (d + 1)) s m args below meth c H locs 0 0 (MQ below (QcM E L (some (.int r)) M) args s 0 0 E.2.2.2) (F0 m 6 ls [])) (fun rec ih z h H locs ls hR hl => ?_) fu _ h H locs ls hR hl
  exact wX5_gainWithin_b6 B hr hlk  (fun x4 x5 h => ih (x4, x5) h) h0 h hR hl
def fX5_gainWithin (fu : Nat) (a0 : Nat) (x1 : Int32) (x2 : Int32) (x3 : Int32) (M : Mm) : Option Int32 :=
  fX5_gainWithin_l6 fu a0 x2 x3 M 0 x1
set_option maxRecDepth 100000 in
set_option maxHeartbeats 4000000 in
theorem mX5_gainWithin {l : Launch} {E : Ge} {L : Lay} (fu d : Nat) {a0 : Nat} {x1 : Int32} {x2 : Int32} {x3 : Int32} {M : Mm} {r : Int32}  (h0 : At L a0 T5) (h : fX5_gainWithin fu a0 x1 x2 x3 M = some r) : Ct l E L yX5_gainWithin cX5_gainWithin 6 (some .int) (d + 1) [.ref a0, .int x1, .int x2, .int x3] M (some (.int r)) M := by
  refine Ct.of (by decide) ?_
  intro p e s m below meth c hr hlk B hR
  have B : Bx p s m _ c cX5_gainWithin 6 RX5 E L := B
  have hx := B.1
  have hb := B.2.1
  have hl := lv_entry ([.ref a0, .int x1, .int x2, .int x3]) (n := 6) (Nat.le_of_ble_eq_true rfl)
  rw [lg_entry_eq]
  generalize (lg_sl ([.ref a0, .int x1, .int x2, .int x3]) ++ List.replicate (6 - (lg_sl ([.ref a0, .int x1, .int x2, .int x3])).length) Slot.unset).toArray = ls at hl ⊢
  have hl : lv_has ls 6 [(0, .ref a0), (1, .int x1), (2, .int x2), (3, .int x3)] := hl
  unfold fX5_gainWithin at h
  refine lv_iconst (v := 0) hx hb dX5_gainWithin_0 (by decide) ?_
  refine lv_istore (lv' := [(4, .int 0), (0, .ref a0), (1, .int x1), (2, .int x2), (3, .int x3)]) hx hb dX5_gainWithin_1 hl (by decide) rfl (fun ls hl => ?_)
  refine lv_iload_n hx hb dX5_gainWithin_3 rfl (lv_at hl 2 rfl) ?_
  refine lv_istore (lv' := [(5, .int x1), (4, .int 0), (0, .ref a0), (1, .int x1), (2, .int x2), (3, .int x3)]) hx hb dX5_gainWithin_4 hl (by decide) rfl (fun ls hl => ?_)
  exact wX5_gainWithin_l6 B hr hlk h0 h hR (lv_sub hl [2, 4, 5, 1, 0] rfl)
def fX5_firstBlock_j60 (fu : Nat) (M : Mm) : Option Int32 :=
  some (-1)
set_option maxRecDepth 100000 in
set_option maxHeartbeats 4000000 in
theorem wX5_firstBlock_j60 {r : Int32}    {M : Mm} (B : Bx p s m args c cX5_firstBlock 5 RX5 E L) (hr : meth.sig.returnType = (some .int)) (hlk : meth.locks = false)   (h : fX5_firstBlock_j60 fu M = some r) (hR : Rx s E L M H locs) (hl : lv_has ls 5 []) : W p l e (rmD (d + 0)) s m args below meth c H locs 0 0 (MQ below (QcM E L (some (.int r)) M) args s 0 0 E.2.2.2) (F0 m 60 ls []) := by
  have hx := B.1
  have hb := B.2.1
  unfold fX5_firstBlock_j60 at h
  refine lv_iconst (v := (-1)) hx hb dX5_firstBlock_60 (by decide) ?_
  exact r_iretP B hR hr hlk h dX5_firstBlock_61
def fX5_firstBlock_j54 (fu : Nat) (k2 : Int32 → Option Int32) (a0 : Nat) (x1 : Int32) (x2 : Int32) (x3 : Int32) (M : Mm) : Option Int32 :=
  lt (x3 + 1) fun x3_54 =>
  k2 x3_54
set_option maxRecDepth 100000 in
set_option maxHeartbeats 4000000 in
theorem wX5_firstBlock_j54 {r : Int32}  {k2 : Int32 → Option Int32} {a0 : Nat} {x1 : Int32} {x2 : Int32} {x3 : Int32} {M : Mm} (B : Bx p s m args c cX5_firstBlock 5 RX5 E L) (hr : meth.sig.returnType = (some .int)) (hlk : meth.locks = false) (ih2 : ∀ (x3 : Int32), k2 x3 = some r → ∀ (H : Heap) (locs : List Loc) (ls : Array Slot), Rx s E L M H locs → lv_has ls 5 [(0, .ref a0), (1, .int x1), (2, .int x2), (3, .int x3)] → W p l e (rmD (d + 0)) s m args below meth c H locs 0 0 (MQ below (QcM E L (some (.int r)) M) args s 0 0 E.2.2.2) (F0 m 2 ls [])) (h0 : At L a0 T5) (h : fX5_firstBlock_j54 fu k2 a0 x1 x2 x3 M = some r) (hR : Rx s E L M H locs) (hl : lv_has ls 5 [(0, .ref a0), (1, .int x1), (2, .int x2), (3, .int x3)]) : W p l e (rmD (d + 0)) s m args below meth c H locs 0 0 (MQ below (QcM E L (some (.int r)) M) args s 0 0 E.2.2.2) (F0 m 54 ls []) := by
  have hx := B.1
  have hb := B.2.1
  unfold fX5_firstBlock_j54 at h
  obtain ⟨x3_54, ex3_54, h⟩ := lt_el h
  refine lv_iinc (v := x3_54) (lv' := [(3, .int x3_54), (0, .ref a0), (1, .int x1), (2, .int x2)]) hx hb dX5_firstBlock_54 hl (k := 3) rfl (by rw [ex3_54]; rfl) (by decide) rfl (fun ls hl => ?_)
  refine lv_goto (tgt := 2) hx hb dX5_firstBlock_57 (by decide) ?_
  exact ih2 x3_54 h _ _ _ hR (lv_sub hl [1, 2, 3, 0] rfl)
def fX5_firstBlock_j51 (fu : Nat) (x4 : Int32) (M : Mm) : Option Int32 :=
  some x4
set_option maxRecDepth 100000 in
set_option maxHeartbeats 4000000 in
theorem wX5_firstBlock_j51 {r : Int32}   {x4 : Int32} {M : Mm} (B : Bx p s m args c cX5_firstBlock 5 RX5 E L) (hr : meth.sig.returnType = (some .int)) (hlk : meth.locks = false)   (h : fX5_firstBlock_j51 fu x4 M = some r) (hR : Rx s E L M H locs) (hl : lv_has ls 5 [(4, .int x4)]) : W p l e (rmD (d + 0)) s m args below meth c H locs 0 0 (MQ below (QcM E L (some (.int r)) M) args s 0 0 E.2.2.2) (F0 m 51 ls []) := by
  have hx := B.1
  have hb := B.2.1
  unfold fX5_firstBlock_j51 at h
  refine lv_iload hx hb dX5_firstBlock_51 (lv_at hl 0 rfl) ?_
  exact r_iretP B hR hr hlk h dX5_firstBlock_53
def fX5_firstBlock_b2 (fu : Nat) (k2 : Int32 → Option Int32) (a0 : Nat) (x1 : Int32) (x2 : Int32) (x3 : Int32) (M : Mm) : Option Int32 :=
  if (M.1 a0 7) ≤ x3 then
    fX5_firstBlock_j60 fu M
  else
    if x3 < 0 ∨ 26 ≤ ix x3 then none else
    if x2 = 0 then none else
    lt ((((((M.1 (a0 + 6) (ix x3)) + x2) - 1) / x2) * x2)) fun x4_24 =>
    if (M.1 (a0 + 7) (ix x3)) = x1 then
      if (x3 + 1) < 0 ∨ 26 ≤ ix (x3 + 1) then none else
      if (M.1 (a0 + 6) (ix (x3 + 1))) < (x4_24 + x2) then
        fX5_firstBlock_j54 fu k2 a0 x1 x2 x3 M
      else
        fX5_firstBlock_j51 fu x4_24 M
    else
      fX5_firstBlock_j54 fu k2 a0 x1 x2 x3 M
set_option maxRecDepth 100000 in
set_option maxHeartbeats 4000000 in
theorem wX5_firstBlock_b2 {r : Int32}   {k2 : Int32 → Option Int32} {a0 : Nat} {x1 : Int32} {x2 : Int32} {x3 : Int32} {M : Mm} (B : Bx p s m args c cX5_firstBlock 5 RX5 E L) (hr : meth.sig.returnType = (some .int)) (hlk : meth.locks = false)  (ih2 : ∀ (x3 : Int32), k2 x3 = some r → ∀ (H : Heap) (locs : List Loc) (ls : Array Slot), Rx s E L M H locs → lv_has ls 5 [(0, .ref a0), (1, .int x1), (2, .int x2), (3, .int x3)] → W p l e (rmD (d + 0)) s m args below meth c H locs 0 0 (MQ below (QcM E L (some (.int r)) M) args s 0 0 E.2.2.2) (F0 m 2 ls [])) (h0 : At L a0 T5) (h : fX5_firstBlock_b2 fu k2 a0 x1 x2 x3 M = some r) (hR : Rx s E L M H locs) (hl : lv_has ls 5 [(0, .ref a0), (1, .int x1), (2, .int x2), (3, .int x3)]) : W p l e (rmD (d + 0)) s m args below meth c H locs 0 0 (MQ below (QcM E L (some (.int r)) M) args s 0 0 E.2.2.2) (F0 m 2 ls []) := by
  have hx := B.1
  have hb := B.2.1
  unfold fX5_firstBlock_b2 at h
  refine lv_iload_n hx hb dX5_firstBlock_2 rfl (lv_at hl 3 rfl) ?_
  refine lv_aload_n hx hb dX5_firstBlock_3 rfl (lv_at hl 0 rfl) ?_
  refine gf_X5_82 B hR (h0.at0 rfl) dX5_firstBlock_4 ?_
  refine lv_icmp_ge (tgt := 60) hx hb dX5_firstBlock_7 (by decide) (fun c_7 => ?_) (fun c_7 => ?_)
  · rw [if_pos c_7] at h
    exact wX5_firstBlock_j60 B hr hlk  h hR (lv_sub hl [] rfl)
  · rw [if_neg c_7] at h
    refine lv_aload_n hx hb dX5_firstBlock_10 rfl (lv_at hl 0 rfl) ?_
    refine gf_X5_30 B hR (h0.at0 rfl) dX5_firstBlock_11 ?_
    refine lv_iload_n hx hb dX5_firstBlock_14 rfl (lv_at hl 3 rfl) ?_
    obtain ⟨hi_15, h⟩ := ifn_el h
    refine r_iald B hR (h0.at 6 rfl) hi_15 dX5_firstBlock_15 ?_
    refine lv_iload_n hx hb dX5_firstBlock_16 rfl (lv_at hl 2 rfl) ?_
    refine lv_iadd hx hb dX5_firstBlock_17 ?_
    refine lv_iconst (v := 1) hx hb dX5_firstBlock_18 (by decide) ?_
    refine lv_isub hx hb dX5_firstBlock_19 ?_
    refine lv_iload_n hx hb dX5_firstBlock_20 rfl (lv_at hl 2 rfl) ?_
    obtain ⟨hz_21, h⟩ := ifn_el h
    refine lv_idiv hx hb dX5_firstBlock_21 hz_21 ?_
    refine lv_iload_n hx hb dX5_firstBlock_22 rfl (lv_at hl 2 rfl) ?_
    refine lv_imul hx hb dX5_firstBlock_23 ?_
    obtain ⟨x4_24, ex4_24, h⟩ := lt_el h
    refine r_nmI ex4_24 ?_
    refine lv_istore (lv' := [(4, .int x4_24), (0, .ref a0), (1, .int x1), (2, .int x2), (3, .int x3)]) hx hb dX5_firstBlock_24 hl (by decide) rfl (fun ls hl => ?_)
    refine lv_aload_n hx hb dX5_firstBlock_26 rfl (lv_at hl 1 rfl) ?_
    refine gf_X5_33 B hR (h0.at0 rfl) dX5_firstBlock_27 ?_
    refine lv_iload_n hx hb dX5_firstBlock_30 rfl (lv_at hl 4 rfl) ?_
    refine r_iald B hR (h0.at 7 rfl) hi_15 dX5_firstBlock_31 ?_
    refine lv_iload_n hx hb dX5_firstBlock_32 rfl (lv_at hl 2 rfl) ?_
    refine lv_icmp_ne (tgt := 54) hx hb dX5_firstBlock_33 (by decide) (fun c_33 => ?_) (fun c_33 => ?_)
    · rw [if_neg c_33] at h
      exact wX5_firstBlock_j54 B hr hlk ih2 h0 h hR (lv_sub hl [1, 2, 3, 4] rfl)
    · rw [if_pos c_33] at h
      refine lv_iload hx hb dX5_firstBlock_36 (lv_at hl 0 rfl) ?_
      refine lv_iload_n hx hb dX5_firstBlock_38 rfl (lv_at hl 3 rfl) ?_
      refine lv_iadd hx hb dX5_firstBlock_39 ?_
      refine lv_aload_n hx hb dX5_firstBlock_40 rfl (lv_at hl 1 rfl) ?_
      refine gf_X5_30 B hR (h0.at0 rfl) dX5_firstBlock_41 ?_
      refine lv_iload_n hx hb dX5_firstBlock_44 rfl (lv_at hl 4 rfl) ?_
      refine lv_iconst (v := 1) hx hb dX5_firstBlock_45 (by decide) ?_
      refine lv_iadd hx hb dX5_firstBlock_46 ?_
      obtain ⟨hi_47, h⟩ := ifn_el h
      refine r_iald B hR (h0.at 6 rfl) hi_47 dX5_firstBlock_47 ?_
      refine lv_icmp_gt (tgt := 54) hx hb dX5_firstBlock_48 (by decide) (fun c_48 => ?_) (fun c_48 => ?_)
      · rw [if_pos c_48] at h
        exact wX5_firstBlock_j54 B hr hlk ih2 h0 h hR (lv_sub hl [1, 2, 3, 4] rfl)
      · rw [if_neg c_48] at h
        exact wX5_firstBlock_j51 B hr hlk  h hR (lv_sub hl [0] rfl)
def fX5_firstBlock_l2 (fu : Nat) (a0 : Nat) (x1 : Int32) (x2 : Int32) (M : Mm) (x3 : Int32) : Option Int32 := lp (fun (rec : Int32 → Option Int32) (s : Int32) => fX5_firstBlock_b2 fu  (fun x3 => rec (x3)) a0 x1 x2 s M) fu (x3)
set_option maxRecDepth 100000 in
set_option maxHeartbeats 4000000 in
theorem wX5_firstBlock_l2 {r : Int32}   {a0 : Nat} {x1 : Int32} {x2 : Int32} {x3 : Int32} {M : Mm} (B : Bx p s m args c cX5_firstBlock 5 RX5 E L) (hr : meth.sig.returnType = (some .int)) (hlk : meth.locks = false)  (h0 : At L a0 T5) (h : fX5_firstBlock_l2 fu a0 x1 x2 M x3 = some r) (hR : Rx s E L M H locs) (hl : lv_has ls 5 [(0, .ref a0), (1, .int x1), (2, .int x2), (3, .int x3)]) : W p l e (rmD (d + 0)) s m args below meth c H locs 0 0 (MQ below (QcM E L (some (.int r)) M) args s 0 0 E.2.2.2) (F0 m 2 ls []) := by
  refine lp_G (G := fun z : Int32 => ∀ (H : Heap) (locs : List Loc) (ls : Array Slot), Rx s E L M H locs → lv_has ls 5 [(0, .ref a0), (1, .int x1), (2, .int x2), (3, .int z)] → W p l e (rmD (d + 0)) s m args below meth c H locs 0 0 (MQ below (QcM E L (some (.int r)) M) args s 0 0 E.2.2.2) (F0 m 2 ls [])) (fun rec ih z h H locs ls hR hl => ?_) fu _ h H locs ls hR hl
  exact wX5_firstBlock_b2 B hr hlk  (fun x3 h => ih (x3) h) h0 h hR hl
def fX5_firstBlock (fu : Nat) (a0 : Nat) (x1 : Int32) (x2 : Int32) (M : Mm) : Option Int32 :=
  fX5_firstBlock_l2 fu a0 x1 x2 M 0
set_option maxRecDepth 100000 in
set_option maxHeartbeats 4000000 in
theorem mX5_firstBlock {l : Launch} {E : Ge} {L : Lay} (fu d : Nat) {a0 : Nat} {x1 : Int32} {x2 : Int32} {M : Mm} {r : Int32}  (h0 : At L a0 T5) (h : fX5_firstBlock fu a0 x1 x2 M = some r) : Ct l E L yX5_firstBlock cX5_firstBlock 5 (some .int) (d + 0) [.ref a0, .int x1, .int x2] M (some (.int r)) M := by
  refine Ct.of (by decide) ?_
  intro p e s m below meth c hr hlk B hR
  have B : Bx p s m _ c cX5_firstBlock 5 RX5 E L := B
  have hx := B.1
  have hb := B.2.1
  have hl := lv_entry ([.ref a0, .int x1, .int x2]) (n := 5) (Nat.le_of_ble_eq_true rfl)
  rw [lg_entry_eq]
  generalize (lg_sl ([.ref a0, .int x1, .int x2]) ++ List.replicate (5 - (lg_sl ([.ref a0, .int x1, .int x2])).length) Slot.unset).toArray = ls at hl ⊢
  have hl : lv_has ls 5 [(0, .ref a0), (1, .int x1), (2, .int x2)] := hl
  unfold fX5_firstBlock at h
  refine lv_iconst (v := 0) hx hb dX5_firstBlock_0 (by decide) ?_
  refine lv_istore_n (lv' := [(3, .int 0), (0, .ref a0), (1, .int x1), (2, .int x2)]) hx hb dX5_firstBlock_1 rfl hl (by decide) rfl (fun ls hl => ?_)
  exact wX5_firstBlock_l2 B hr hlk h0 h hR (lv_sub hl [1, 2, 3, 0] rfl)
end G15_pieces_lean_txt
