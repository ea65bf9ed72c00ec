theorem dX7_isWord_0 : decode cX7_isWord 0 = .ok (.aload_n 0, 1) := by decide +kernel
theorem dX7_isWord_1 : decode cX7_isWord 1 = .ok (.getfield 35, 3) := by decide +kernel
theorem dX7_isWord_4 : decode cX7_isWord 4 = .ok (.ifCond .ne 19, 3) := by decide +kernel
theorem dX7_isWord_7 : decode cX7_isWord 7 = .ok (.aload_n 1, 1) := by decide +kernel
theorem dX7_isWord_8 : decode cX7_isWord 8 = .ok (.invokevirtual 198, 3) := by decide +kernel
theorem dX7_isWord_11 : decode cX7_isWord 11 = .ok (.aload_n 0, 1) := by decide +kernel
theorem dX7_isWord_12 : decode cX7_isWord 12 = .ok (.getfield 48, 3) := by decide +kernel
theorem dX7_isWord_15 : decode cX7_isWord 15 = .ok (.aload_n 0, 1) := by decide +kernel
theorem dX7_isWord_16 : decode cX7_isWord 16 = .ok (.getfield 183, 3) := by decide +kernel
theorem dX7_isWord_19 : decode cX7_isWord 19 = .ok (.isub, 1) := by decide +kernel
theorem dX7_isWord_20 : decode cX7_isWord 20 = .ok (.if_icmp .eq 5, 3) := by decide +kernel
theorem dX7_isWord_23 : decode cX7_isWord 23 = .ok (.iconst 0, 1) := by decide +kernel
theorem dX7_isWord_24 : decode cX7_isWord 24 = .ok (.ireturn, 1) := by decide +kernel
theorem dX7_isWord_25 : decode cX7_isWord 25 = .ok (.iconst 0, 1) := by decide +kernel
theorem dX7_isWord_26 : decode cX7_isWord 26 = .ok (.istore_n 2, 1) := by decide +kernel
theorem dX7_isWord_27 : decode cX7_isWord 27 = .ok (.iload_n 2, 1) := by decide +kernel
theorem dX7_isWord_28 : decode cX7_isWord 28 = .ok (.aload_n 1, 1) := by decide +kernel
theorem dX7_isWord_29 : decode cX7_isWord 29 = .ok (.invokevirtual 198, 3) := by decide +kernel
theorem dX7_isWord_32 : decode cX7_isWord 32 = .ok (.if_icmp .ge 30, 3) := by decide +kernel
theorem dX7_isWord_35 : decode cX7_isWord 35 = .ok (.aload_n 0, 1) := by decide +kernel
theorem dX7_isWord_36 : decode cX7_isWord 36 = .ok (.getfield 9, 3) := by decide +kernel
theorem dX7_isWord_39 : decode cX7_isWord 39 = .ok (.aload_n 0, 1) := by decide +kernel
theorem dX7_isWord_40 : decode cX7_isWord 40 = .ok (.getfield 183, 3) := by decide +kernel
theorem dX7_isWord_43 : decode cX7_isWord 43 = .ok (.iload_n 2, 1) := by decide +kernel
theorem dX7_isWord_44 : decode cX7_isWord 44 = .ok (.iadd, 1) := by decide +kernel
theorem dX7_isWord_45 : decode cX7_isWord 45 = .ok (.iaload, 1) := by decide +kernel
theorem dX7_isWord_46 : decode cX7_isWord 46 = .ok (.aload_n 1, 1) := by decide +kernel
theorem dX7_isWord_47 : decode cX7_isWord 47 = .ok (.iload_n 2, 1) := by decide +kernel
theorem dX7_isWord_48 : decode cX7_isWord 48 = .ok (.invokevirtual 202, 3) := by decide +kernel
theorem dX7_isWord_51 : decode cX7_isWord 51 = .ok (.if_icmp .eq 5, 3) := by decide +kernel
theorem dX7_isWord_54 : decode cX7_isWord 54 = .ok (.iconst 0, 1) := by decide +kernel
theorem dX7_isWord_55 : decode cX7_isWord 55 = .ok (.ireturn, 1) := by decide +kernel
theorem dX7_isWord_56 : decode cX7_isWord 56 = .ok (.iinc 2 1, 3) := by decide +kernel
theorem dX7_isWord_59 : decode cX7_isWord 59 = .ok (.goto (-32), 3) := by decide +kernel
theorem dX7_isWord_62 : decode cX7_isWord 62 = .ok (.iconst 1, 1) := by decide +kernel
theorem dX7_isWord_63 : decode cX7_isWord 63 = .ok (.ireturn, 1) := by decide +kernel
theorem dX7_kindHere_0 : decode cX7_kindHere 0 = .ok (.aload_n 0, 1) := by decide +kernel
theorem dX7_kindHere_1 : decode cX7_kindHere 1 = .ok (.ldc 173, 2) := by decide +kernel
theorem dX7_kindHere_3 : decode cX7_kindHere 3 = .ok (.invokevirtual 69, 3) := by decide +kernel
theorem dX7_kindHere_6 : decode cX7_kindHere 6 = .ok (.ifCond .eq 5, 3) := by decide +kernel
theorem dX7_kindHere_9 : decode cX7_kindHere 9 = .ok (.iconst 0, 1) := by decide +kernel
theorem dX7_kindHere_10 : decode cX7_kindHere 10 = .ok (.ireturn, 1) := by decide +kernel
theorem dX7_kindHere_11 : decode cX7_kindHere 11 = .ok (.aload_n 0, 1) := by decide +kernel
theorem dX7_kindHere_12 : decode cX7_kindHere 12 = .ok (.ldc 175, 2) := by decide +kernel
theorem dX7_kindHere_14 : decode cX7_kindHere 14 = .ok (.invokevirtual 69, 3) := by decide +kernel
theorem dX7_kindHere_17 : decode cX7_kindHere 17 = .ok (.ifCond .eq 5, 3) := by decide +kernel
theorem dX7_kindHere_20 : decode cX7_kindHere 20 = .ok (.iconst 1, 1) := by decide +kernel
theorem dX7_kindHere_21 : decode cX7_kindHere 21 = .ok (.ireturn, 1) := by decide +kernel
theorem dX7_kindHere_22 : decode cX7_kindHere 22 = .ok (.aload_n 0, 1) := by decide +kernel
theorem dX7_kindHere_23 : decode cX7_kindHere 23 = .ok (.ldc 177, 2) := by decide +kernel
theorem dX7_kindHere_25 : decode cX7_kindHere 25 = .ok (.invokevirtual 69, 3) := by decide +kernel
theorem dX7_kindHere_28 : decode cX7_kindHere 28 = .ok (.ifCond .eq 5, 3) := by decide +kernel
theorem dX7_kindHere_31 : decode cX7_kindHere 31 = .ok (.iconst 2, 1) := by decide +kernel
theorem dX7_kindHere_32 : decode cX7_kindHere 32 = .ok (.ireturn, 1) := by decide +kernel
theorem dX7_kindHere_33 : decode cX7_kindHere 33 = .ok (.aload_n 0, 1) := by decide +kernel
theorem dX7_kindHere_34 : decode cX7_kindHere 34 = .ok (.ldc 179, 2) := by decide +kernel
theorem dX7_kindHere_36 : decode cX7_kindHere 36 = .ok (.invokevirtual 69, 3) := by decide +kernel
theorem dX7_kindHere_39 : decode cX7_kindHere 39 = .ok (.ifCond .eq 5, 3) := by decide +kernel
theorem dX7_kindHere_42 : decode cX7_kindHere 42 = .ok (.iconst 3, 1) := by decide +kernel
theorem dX7_kindHere_43 : decode cX7_kindHere 43 = .ok (.ireturn, 1) := by decide +kernel
theorem dX7_kindHere_44 : decode cX7_kindHere 44 = .ok (.aload_n 0, 1) := by decide +kernel
theorem dX7_kindHere_45 : decode cX7_kindHere 45 = .ok (.ldc 181, 2) := by decide +kernel
theorem dX7_kindHere_47 : decode cX7_kindHere 47 = .ok (.invokevirtual 69, 3) := by decide +kernel
theorem dX7_kindHere_50 : decode cX7_kindHere 50 = .ok (.ifCond .eq 7, 3) := by decide +kernel
theorem dX7_kindHere_53 : decode cX7_kindHere 53 = .ok (.iconst 4, 1) := by decide +kernel
theorem dX7_kindHere_54 : decode cX7_kindHere 54 = .ok (.goto 4, 3) := by decide +kernel
theorem dX7_kindHere_57 : decode cX7_kindHere 57 = .ok (.iconst (-1), 1) := by decide +kernel
theorem dX7_kindHere_58 : decode cX7_kindHere 58 = .ok (.ireturn, 1) := by decide +kernel
theorem dX7_readDefault_0 : decode cX7_readDefault 0 = .ok (.aload_n 0, 1) := by decide +kernel
theorem dX7_readDefault_1 : decode cX7_readDefault 1 = .ok (.getfield 58, 3) := by decide +kernel
theorem dX7_readDefault_4 : decode cX7_readDefault 4 = .ok (.ifCond .ne 10, 3) := by decide +kernel
theorem dX7_readDefault_7 : decode cX7_readDefault 7 = .ok (.aload_n 0, 1) := by decide +kernel
theorem dX7_readDefault_8 : decode cX7_readDefault 8 = .ok (.getfield 64, 3) := by decide +kernel
theorem dX7_readDefault_11 : decode cX7_readDefault 11 = .ok (.ifCond .eq 9, 3) := by decide +kernel
theorem dX7_readDefault_14 : decode cX7_readDefault 14 = .ok (.aload_n 0, 1) := by decide +kernel
theorem dX7_readDefault_15 : decode cX7_readDefault 15 = .ok (.iconst 3, 1) := by decide +kernel
theorem dX7_readDefault_16 : decode cX7_readDefault 16 = .ok (.invokevirtual 106, 3) := by decide +kernel
theorem dX7_readDefault_19 : decode cX7_readDefault 19 = .ok (.ireturn, 1) := by decide +kernel
theorem dX7_readDefault_20 : decode cX7_readDefault 20 = .ok (.aload_n 0, 1) := by decide +kernel
theorem dX7_readDefault_21 : decode cX7_readDefault 21 = .ok (.iconst 1, 1) := by decide +kernel
theorem dX7_readDefault_22 : decode cX7_readDefault 22 = .ok (.putfield 58, 3) := by decide +kernel
theorem dX7_readDefault_25 : decode cX7_readDefault 25 = .ok (.aload_n 0, 1) := by decide +kernel
theorem dX7_readDefault_26 : decode cX7_readDefault 26 = .ok (.invokevirtual 32, 3) := by decide +kernel
theorem dX7_readDefault_29 : decode cX7_readDefault 29 = .ok (.aload_n 0, 1) := by decide +kernel
theorem dX7_readDefault_30 : decode cX7_readDefault 30 = .ok (.getfield 22, 3) := by decide +kernel
theorem dX7_readDefault_33 : decode cX7_readDefault 33 = .ok (.aload_n 0, 1) := by decide +kernel
theorem dX7_readDefault_34 : decode cX7_readDefault 34 = .ok (.invokevirtual 125, 3) := by decide +kernel
theorem dX7_readDefault_37 : decode cX7_readDefault 37 = .ok (.putfield 129, 3) := by decide +kernel
theorem dX7_readDefault_40 : decode cX7_readDefault 40 = .ok (.aload_n 0, 1) := by decide +kernel
theorem dX7_readDefault_41 : decode cX7_readDefault 41 = .ok (.getfield 22, 3) := by decide +kernel
theorem dX7_readDefault_44 : decode cX7_readDefault 44 = .ok (.getfield 129, 3) := by decide +kernel
theorem dX7_readDefault_47 : decode cX7_readDefault 47 = .ok (.iconst (-1), 1) := by decide +kernel
theorem dX7_readDefault_48 : decode cX7_readDefault 48 = .ok (.if_icmp .ne 11, 3) := by decide +kernel
theorem dX7_readDefault_51 : decode cX7_readDefault 51 = .ok (.aload_n 0, 1) := by decide +kernel
theorem dX7_readDefault_52 : decode cX7_readDefault 52 = .ok (.iconst 1, 1) := by decide +kernel
theorem dX7_readDefault_53 : decode cX7_readDefault 53 = .ok (.invokevirtual 106, 3) := by decide +kernel
theorem dX7_readDefault_56 : decode cX7_readDefault 56 = .ok (.goto 7, 3) := by decide +kernel
theorem dX7_readDefault_59 : decode cX7_readDefault 59 = .ok (.aload_n 0, 1) := by decide +kernel
theorem dX7_readDefault_60 : decode cX7_readDefault 60 = .ok (.invokevirtual 120, 3) := by decide +kernel
theorem dX7_readDefault_63 : decode cX7_readDefault 63 = .ok (.ireturn, 1) := by decide +kernel
theorem dX7_readFixed_0 : decode cX7_readFixed 0 = .ok (.aload_n 0, 1) := by decide +kernel
theorem dX7_readFixed_1 : decode cX7_readFixed 1 = .ok (.getfield 61, 3) := by decide +kernel
theorem dX7_readFixed_4 : decode cX7_readFixed 4 = .ok (.ifCond .eq 9, 3) := by decide +kernel
theorem dX7_readFixed_7 : decode cX7_readFixed 7 = .ok (.aload_n 0, 1) := by decide +kernel
theorem dX7_readFixed_8 : decode cX7_readFixed 8 = .ok (.iconst 3, 1) := by decide +kernel
theorem dX7_readFixed_9 : decode cX7_readFixed 9 = .ok (.invokevirtual 106, 3) := by decide +kernel
theorem dX7_readFixed_12 : decode cX7_readFixed 12 = .ok (.ireturn, 1) := by decide +kernel
theorem dX7_readFixed_13 : decode cX7_readFixed 13 = .ok (.aload_n 0, 1) := by decide +kernel
theorem dX7_readFixed_14 : decode cX7_readFixed 14 = .ok (.iconst 1, 1) := by decide +kernel
theorem dX7_readFixed_15 : decode cX7_readFixed 15 = .ok (.putfield 61, 3) := by decide +kernel
theorem dX7_readFixed_18 : decode cX7_readFixed 18 = .ok (.aload_n 0, 1) := by decide +kernel
theorem dX7_readFixed_19 : decode cX7_readFixed 19 = .ok (.iconst 3, 1) := by decide +kernel
theorem dX7_readFixed_20 : decode cX7_readFixed 20 = .ok (.aload_n 0, 1) := by decide +kernel
theorem dX7_readFixed_21 : decode cX7_readFixed 21 = .ok (.getfield 22, 3) := by decide +kernel
theorem dX7_readFixed_24 : decode cX7_readFixed 24 = .ok (.getfield 117, 3) := by decide +kernel
theorem dX7_readFixed_27 : decode cX7_readFixed 27 = .ok (.invokestatic 132, 3) := by decide +kernel
theorem dX7_readFixed_30 : decode cX7_readFixed 30 = .ok (.invokevirtual 110, 3) := by decide +kernel
theorem dX7_readFixed_33 : decode cX7_readFixed 33 = .ok (.ifCond .ne 5, 3) := by decide +kernel
theorem dX7_readFixed_36 : decode cX7_readFixed 36 = .ok (.iconst 0, 1) := by decide +kernel
theorem dX7_readFixed_37 : decode cX7_readFixed 37 = .ok (.ireturn, 1) := by decide +kernel
theorem dX7_readFixed_38 : decode cX7_readFixed 38 = .ok (.aload_n 0, 1) := by decide +kernel
theorem dX7_readFixed_39 : decode cX7_readFixed 39 = .ok (.getfield 22, 3) := by decide +kernel
theorem dX7_readFixed_42 : decode cX7_readFixed 42 = .ok (.iconst 1, 1) := by decide +kernel
theorem dX7_readFixed_43 : decode cX7_readFixed 43 = .ok (.aload_n 0, 1) := by decide +kernel
theorem dX7_readFixed_44 : decode cX7_readFixed 44 = .ok (.getfield 114, 3) := by decide +kernel
theorem dX7_readFixed_47 : decode cX7_readFixed 47 = .ok (.ishl, 1) := by decide +kernel
theorem dX7_readFixed_48 : decode cX7_readFixed 48 = .ok (.putfield 138, 3) := by decide +kernel
theorem dX7_readFixed_51 : decode cX7_readFixed 51 = .ok (.iconst 0, 1) := by decide +kernel
theorem dX7_readFixed_52 : decode cX7_readFixed 52 = .ok (.istore_n 1, 1) := by decide +kernel
theorem dX7_readFixed_53 : decode cX7_readFixed 53 = .ok (.iload_n 1, 1) := by decide +kernel
theorem dX7_readFixed_54 : decode cX7_readFixed 54 = .ok (.bipush 8, 2) := by decide +kernel
theorem dX7_readFixed_56 : decode cX7_readFixed 56 = .ok (.if_icmp .gt 51, 3) := by decide +kernel
theorem dX7_readFixed_59 : decode cX7_readFixed 59 = .ok (.aload_n 0, 1) := by decide +kernel
theorem dX7_readFixed_60 : decode cX7_readFixed 60 = .ok (.invokevirtual 32, 3) := by decide +kernel
theorem dX7_readFixed_63 : decode cX7_readFixed 63 = .ok (.aload_n 0, 1) := by decide +kernel
theorem dX7_readFixed_64 : decode cX7_readFixed 64 = .ok (.invokevirtual 125, 3) := by decide +kernel
theorem dX7_readFixed_67 : decode cX7_readFixed 67 = .ok (.istore_n 2, 1) := by decide +kernel
theorem dX7_readFixed_68 : decode cX7_readFixed 68 = .ok (.iload_n 2, 1) := by decide +kernel
theorem dX7_readFixed_69 : decode cX7_readFixed 69 = .ok (.iconst (-1), 1) := by decide +kernel
theorem dX7_readFixed_70 : decode cX7_readFixed 70 = .ok (.if_icmp .ne 9, 3) := by decide +kernel
theorem dX7_readFixed_73 : decode cX7_readFixed 73 = .ok (.aload_n 0, 1) := by decide +kernel
theorem dX7_readFixed_74 : decode cX7_readFixed 74 = .ok (.iload_n 1, 1) := by decide +kernel
theorem dX7_readFixed_75 : decode cX7_readFixed 75 = .ok (.invokevirtual 140, 3) := by decide +kernel
theorem dX7_readFixed_78 : decode cX7_readFixed 78 = .ok (.ireturn, 1) := by decide +kernel
theorem dX7_readFixed_79 : decode cX7_readFixed 79 = .ok (.iload_n 1, 1) := by decide +kernel
theorem dX7_readFixed_80 : decode cX7_readFixed 80 = .ok (.bipush 8, 2) := by decide +kernel
theorem dX7_readFixed_82 : decode cX7_readFixed 82 = .ok (.if_icmp .ne 9, 3) := by decide +kernel
theorem dX7_readFixed_85 : decode cX7_readFixed 85 = .ok (.aload_n 0, 1) := by decide +kernel
theorem dX7_readFixed_86 : decode cX7_readFixed 86 = .ok (.iconst 4, 1) := by decide +kernel
theorem dX7_readFixed_87 : decode cX7_readFixed 87 = .ok (.invokevirtual 106, 3) := by decide +kernel
theorem dX7_readFixed_90 : decode cX7_readFixed 90 = .ok (.ireturn, 1) := by decide +kernel
theorem dX7_readFixed_91 : decode cX7_readFixed 91 = .ok (.aload_n 0, 1) := by decide +kernel
theorem dX7_readFixed_92 : decode cX7_readFixed 92 = .ok (.getfield 22, 3) := by decide +kernel
theorem dX7_readFixed_95 : decode cX7_readFixed 95 = .ok (.getfield 143, 3) := by decide +kernel
theorem dX7_readFixed_98 : decode cX7_readFixed 98 = .ok (.iload_n 1, 1) := by decide +kernel
theorem dX7_readFixed_99 : decode cX7_readFixed 99 = .ok (.iload_n 2, 1) := by decide +kernel
theorem dX7_readFixed_100 : decode cX7_readFixed 100 = .ok (.iastore, 1) := by decide +kernel
theorem dX7_readFixed_101 : decode cX7_readFixed 101 = .ok (.iinc 1 1, 3) := by decide +kernel
theorem dX7_readFixed_104 : decode cX7_readFixed 104 = .ok (.goto (-51), 3) := by decide +kernel
theorem dX7_readFixed_107 : decode cX7_readFixed 107 = .ok (.iconst 0, 1) := by decide +kernel
theorem dX7_readFixed_108 : decode cX7_readFixed 108 = .ok (.ireturn, 1) := by decide +kernel
theorem dX7_readSpan_0 : decode cX7_readSpan 0 = .ok (.aload_n 0, 1) := by decide +kernel
theorem dX7_readSpan_1 : decode cX7_readSpan 1 = .ok (.getfield 22, 3) := by decide +kernel
theorem dX7_readSpan_4 : decode cX7_readSpan 4 = .ok (.getfield 146, 3) := by decide +kernel
theorem dX7_readSpan_7 : decode cX7_readSpan 7 = .ok (.bipush 12, 2) := by decide +kernel
theorem dX7_readSpan_9 : decode cX7_readSpan 9 = .ok (.if_icmp .lt 9, 3) := by decide +kernel
theorem dX7_readSpan_12 : decode cX7_readSpan 12 = .ok (.aload_n 0, 1) := by decide +kernel
theorem dX7_readSpan_13 : decode cX7_readSpan 13 = .ok (.iconst 4, 1) := by decide +kernel
theorem dX7_readSpan_14 : decode cX7_readSpan 14 = .ok (.invokevirtual 106, 3) := by decide +kernel
theorem dX7_readSpan_17 : decode cX7_readSpan 17 = .ok (.ireturn, 1) := by decide +kernel
theorem dX7_readSpan_18 : decode cX7_readSpan 18 = .ok (.aload_n 0, 1) := by decide +kernel
theorem dX7_readSpan_19 : decode cX7_readSpan 19 = .ok (.iconst 0, 1) := by decide +kernel
theorem dX7_readSpan_20 : decode cX7_readSpan 20 = .ok (.aload_n 0, 1) := by decide +kernel
theorem dX7_readSpan_21 : decode cX7_readSpan 21 = .ok (.getfield 22, 3) := by decide +kernel
theorem dX7_readSpan_24 : decode cX7_readSpan 24 = .ok (.getfield 117, 3) := by decide +kernel
theorem dX7_readSpan_27 : decode cX7_readSpan 27 = .ok (.iconst 1, 1) := by decide +kernel
theorem dX7_readSpan_28 : decode cX7_readSpan 28 = .ok (.isub, 1) := by decide +kernel
theorem dX7_readSpan_29 : decode cX7_readSpan 29 = .ok (.invokevirtual 110, 3) := by decide +kernel
theorem dX7_readSpan_32 : decode cX7_readSpan 32 = .ok (.ifCond .ne 5, 3) := by decide +kernel
theorem dX7_readSpan_35 : decode cX7_readSpan 35 = .ok (.iconst 0, 1) := by decide +kernel
theorem dX7_readSpan_36 : decode cX7_readSpan 36 = .ok (.ireturn, 1) := by decide +kernel
theorem dX7_readSpan_37 : decode cX7_readSpan 37 = .ok (.aload_n 0, 1) := by decide +kernel
theorem dX7_readSpan_38 : decode cX7_readSpan 38 = .ok (.getfield 114, 3) := by decide +kernel
theorem dX7_readSpan_41 : decode cX7_readSpan 41 = .ok (.istore_n 1, 1) := by decide +kernel
theorem dX7_readSpan_42 : decode cX7_readSpan 42 = .ok (.aload_n 0, 1) := by decide +kernel
theorem dX7_readSpan_43 : decode cX7_readSpan 43 = .ok (.iload_n 1, 1) := by decide +kernel
theorem dX7_readSpan_44 : decode cX7_readSpan 44 = .ok (.aload_n 0, 1) := by decide +kernel
theorem dX7_readSpan_45 : decode cX7_readSpan 45 = .ok (.getfield 22, 3) := by decide +kernel
theorem dX7_readSpan_48 : decode cX7_readSpan 48 = .ok (.getfield 117, 3) := by decide +kernel
theorem dX7_readSpan_51 : decode cX7_readSpan 51 = .ok (.iconst 1, 1) := by decide +kernel
theorem dX7_readSpan_52 : decode cX7_readSpan 52 = .ok (.isub, 1) := by decide +kernel
theorem dX7_readSpan_53 : decode cX7_readSpan 53 = .ok (.invokevirtual 110, 3) := by decide +kernel
theorem dX7_readSpan_56 : decode cX7_readSpan 56 = .ok (.ifCond .ne 5, 3) := by decide +kernel
theorem dX7_readSpan_59 : decode cX7_readSpan 59 = .ok (.iconst 0, 1) := by decide +kernel
theorem dX7_readSpan_60 : decode cX7_readSpan 60 = .ok (.ireturn, 1) := by decide +kernel
theorem dX7_readSpan_61 : decode cX7_readSpan 61 = .ok (.aload_n 0, 1) := by decide +kernel
theorem dX7_readSpan_62 : decode cX7_readSpan 62 = .ok (.getfield 114, 3) := by decide +kernel
theorem dX7_readSpan_65 : decode cX7_readSpan 65 = .ok (.istore_n 2, 1) := by decide +kernel
theorem dX7_readSpan_66 : decode cX7_readSpan 66 = .ok (.aload_n 0, 1) := by decide +kernel
theorem dX7_readSpan_67 : decode cX7_readSpan 67 = .ok (.invokevirtual 32, 3) := by decide +kernel
theorem dX7_readSpan_70 : decode cX7_readSpan 70 = .ok (.aload_n 0, 1) := by decide +kernel
theorem dX7_readSpan_71 : decode cX7_readSpan 71 = .ok (.invokevirtual 125, 3) := by decide +kernel
theorem dX7_readSpan_74 : decode cX7_readSpan 74 = .ok (.istore_n 3, 1) := by decide +kernel
theorem dX7_readSpan_75 : decode cX7_readSpan 75 = .ok (.iload_n 3, 1) := by decide +kernel
theorem dX7_readSpan_76 : decode cX7_readSpan 76 = .ok (.iconst (-1), 1) := by decide +kernel
theorem dX7_readSpan_77 : decode cX7_readSpan 77 = .ok (.if_icmp .ne 9, 3) := by decide +kernel
theorem dX7_readSpan_80 : decode cX7_readSpan 80 = .ok (.aload_n 0, 1) := by decide +kernel
theorem dX7_readSpan_81 : decode cX7_readSpan 81 = .ok (.iconst 1, 1) := by decide +kernel
theorem dX7_readSpan_82 : decode cX7_readSpan 82 = .ok (.invokevirtual 106, 3) := by decide +kernel
theorem dX7_readSpan_85 : decode cX7_readSpan 85 = .ok (.ireturn, 1) := by decide +kernel
theorem dX7_readSpan_86 : decode cX7_readSpan 86 = .ok (.aload_n 0, 1) := by decide +kernel
theorem dX7_readSpan_87 : decode cX7_readSpan 87 = .ok (.getfield 22, 3) := by decide +kernel
theorem dX7_readSpan_90 : decode cX7_readSpan 90 = .ok (.iload_n 1, 1) := by decide +kernel
theorem dX7_readSpan_91 : decode cX7_readSpan 91 = .ok (.iload_n 2, 1) := by decide +kernel
theorem dX7_readSpan_92 : decode cX7_readSpan 92 = .ok (.iload_n 3, 1) := by decide +kernel
theorem dX7_readSpan_93 : decode cX7_readSpan 93 = .ok (.invokevirtual 149, 3) := by decide +kernel
theorem dX7_readSpan_96 : decode cX7_readSpan 96 = .ok (.aload_n 0, 1) := by decide +kernel
theorem dX7_readSpan_97 : decode cX7_readSpan 97 = .ok (.invokevirtual 120, 3) := by decide +kernel
theorem dX7_readSpan_100 : decode cX7_readSpan 100 = .ok (.ireturn, 1) := by decide +kernel
theorem dX7_readRegister_0 : decode cX7_readRegister 0 = .ok (.aload_n 0, 1) := by decide +kernel
theorem dX7_readRegister_1 : decode cX7_readRegister 1 = .ok (.getfield 22, 3) := by decide +kernel
theorem dX7_readRegister_4 : decode cX7_readRegister 4 = .ok (.invokevirtual 153, 3) := by decide +kernel
theorem dX7_readRegister_7 : decode cX7_readRegister 7 = .ok (.istore_n 1, 1) := by decide +kernel
theorem dX7_readRegister_8 : decode cX7_readRegister 8 = .ok (.iload_n 1, 1) := by decide +kernel
theorem dX7_readRegister_9 : decode cX7_readRegister 9 = .ok (.aload_n 0, 1) := by decide +kernel
theorem dX7_readRegister_10 : decode cX7_readRegister 10 = .ok (.getfield 22, 3) := by decide +kernel
theorem dX7_readRegister_13 : decode cX7_readRegister 13 = .ok (.getfield 123, 3) := by decide +kernel
theorem dX7_readRegister_16 : decode cX7_readRegister 16 = .ok (.if_icmp .lt 9, 3) := by decide +kernel
theorem dX7_readRegister_19 : decode cX7_readRegister 19 = .ok (.aload_n 0, 1) := by decide +kernel
theorem dX7_readRegister_20 : decode cX7_readRegister 20 = .ok (.iconst 4, 1) := by decide +kernel
theorem dX7_readRegister_21 : decode cX7_readRegister 21 = .ok (.invokevirtual 106, 3) := by decide +kernel
theorem dX7_readRegister_24 : decode cX7_readRegister 24 = .ok (.ireturn, 1) := by decide +kernel
theorem dX7_readRegister_25 : decode cX7_readRegister 25 = .ok (.aload_n 0, 1) := by decide +kernel
theorem dX7_readRegister_26 : decode cX7_readRegister 26 = .ok (.iconst 0, 1) := by decide +kernel
theorem dX7_readRegister_27 : decode cX7_readRegister 27 = .ok (.aload_n 0, 1) := by decide +kernel
theorem dX7_readRegister_28 : decode cX7_readRegister 28 = .ok (.getfield 22, 3) := by decide +kernel
theorem dX7_readRegister_31 : decode cX7_readRegister 31 = .ok (.getfield 117, 3) := by decide +kernel
theorem dX7_readRegister_34 : decode cX7_readRegister 34 = .ok (.iconst 1, 1) := by decide +kernel
theorem dX7_readRegister_35 : decode cX7_readRegister 35 = .ok (.isub, 1) := by decide +kernel
theorem dX7_readRegister_36 : decode cX7_readRegister 36 = .ok (.invokevirtual 110, 3) := by decide +kernel
theorem dX7_readRegister_39 : decode cX7_readRegister 39 = .ok (.ifCond .ne 5, 3) := by decide +kernel
theorem dX7_readRegister_42 : decode cX7_readRegister 42 = .ok (.iconst 0, 1) := by decide +kernel
theorem dX7_readRegister_43 : decode cX7_readRegister 43 = .ok (.ireturn, 1) := by decide +kernel
theorem dX7_readRegister_44 : decode cX7_readRegister 44 = .ok (.aload_n 0, 1) := by decide +kernel
theorem dX7_readRegister_45 : decode cX7_readRegister 45 = .ok (.getfield 114, 3) := by decide +kernel
theorem dX7_readRegister_48 : decode cX7_readRegister 48 = .ok (.istore_n 2, 1) := by decide +kernel
theorem dX7_readRegister_49 : decode cX7_readRegister 49 = .ok (.aload_n 0, 1) := by decide +kernel
theorem dX7_readRegister_50 : decode cX7_readRegister 50 = .ok (.iconst 1, 1) := by decide +kernel
theorem dX7_readRegister_51 : decode cX7_readRegister 51 = .ok (.aload_n 0, 1) := by decide +kernel
theorem dX7_readRegister_52 : decode cX7_readRegister 52 = .ok (.getfield 22, 3) := by decide +kernel
theorem dX7_readRegister_55 : decode cX7_readRegister 55 = .ok (.getfield 117, 3) := by decide +kernel
theorem dX7_readRegister_58 : decode cX7_readRegister 58 = .ok (.invokevirtual 110, 3) := by decide +kernel
theorem dX7_readRegister_61 : decode cX7_readRegister 61 = .ok (.ifCond .ne 5, 3) := by decide +kernel
theorem dX7_readRegister_64 : decode cX7_readRegister 64 = .ok (.iconst 0, 1) := by decide +kernel
theorem dX7_readRegister_65 : decode cX7_readRegister 65 = .ok (.ireturn, 1) := by decide +kernel
theorem dX7_readRegister_66 : decode cX7_readRegister 66 = .ok (.aload_n 0, 1) := by decide +kernel
theorem dX7_readRegister_67 : decode cX7_readRegister 67 = .ok (.getfield 114, 3) := by decide +kernel
theorem dX7_readRegister_70 : decode cX7_readRegister 70 = .ok (.istore_n 3, 1) := by decide +kernel
theorem dX7_readRegister_71 : decode cX7_readRegister 71 = .ok (.aload_n 0, 1) := by decide +kernel
theorem dX7_readRegister_72 : decode cX7_readRegister 72 = .ok (.getfield 22, 3) := by decide +kernel
theorem dX7_readRegister_75 : decode cX7_readRegister 75 = .ok (.iload_n 2, 1) := by decide +kernel
theorem dX7_readRegister_76 : decode cX7_readRegister 76 = .ok (.iload_n 3, 1) := by decide +kernel
theorem dX7_readRegister_77 : decode cX7_readRegister 77 = .ok (.invokevirtual 156, 3) := by decide +kernel
theorem dX7_readRegister_80 : decode cX7_readRegister 80 = .ok (.ifCond .ne 9, 3) := by decide +kernel
theorem dX7_readRegister_83 : decode cX7_readRegister 83 = .ok (.aload_n 0, 1) := by decide +kernel
theorem dX7_readRegister_84 : decode cX7_readRegister 84 = .ok (.iconst 2, 1) := by decide +kernel
theorem dX7_readRegister_85 : decode cX7_readRegister 85 = .ok (.invokevirtual 106, 3) := by decide +kernel
theorem dX7_readRegister_88 : decode cX7_readRegister 88 = .ok (.ireturn, 1) := by decide +kernel
theorem dX7_readRegister_89 : decode cX7_readRegister 89 = .ok (.aload_n 0, 1) := by decide +kernel
theorem dX7_readRegister_90 : decode cX7_readRegister 90 = .ok (.getfield 22, 3) := by decide +kernel
theorem dX7_readRegister_93 : decode cX7_readRegister 93 = .ok (.iload_n 2, 1) := by decide +kernel
theorem dX7_readRegister_94 : decode cX7_readRegister 94 = .ok (.iload_n 3, 1) := by decide +kernel
theorem dX7_readRegister_95 : decode cX7_readRegister 95 = .ok (.invokevirtual 159, 3) := by decide +kernel
theorem dX7_readRegister_98 : decode cX7_readRegister 98 = .ok (.iconst (-1), 1) := by decide +kernel
theorem dX7_readRegister_99 : decode cX7_readRegister 99 = .ok (.if_icmp .eq 9, 3) := by decide +kernel
theorem dX7_readRegister_102 : decode cX7_readRegister 102 = .ok (.aload_n 0, 1) := by decide +kernel
theorem dX7_readRegister_103 : decode cX7_readRegister 103 = .ok (.iconst 3, 1) := by decide +kernel
theorem dX7_readRegister_104 : decode cX7_readRegister 104 = .ok (.invokevirtual 106, 3) := by decide +kernel
theorem dX7_readRegister_107 : decode cX7_readRegister 107 = .ok (.ireturn, 1) := by decide +kernel
theorem dX7_readRegister_108 : decode cX7_readRegister 108 = .ok (.aload_n 0, 1) := by decide +kernel
theorem dX7_readRegister_109 : decode cX7_readRegister 109 = .ok (.invokevirtual 32, 3) := by decide +kernel
theorem dX7_readRegister_112 : decode cX7_readRegister 112 = .ok (.aload_n 0, 1) := by decide +kernel
theorem dX7_readRegister_113 : decode cX7_readRegister 113 = .ok (.invokevirtual 125, 3) := by decide +kernel
theorem dX7_readRegister_116 : decode cX7_readRegister 116 = .ok (.istore 4, 2) := by decide +kernel
theorem dX7_readRegister_118 : decode cX7_readRegister 118 = .ok (.iload 4, 2) := by decide +kernel
theorem dX7_readRegister_120 : decode cX7_readRegister 120 = .ok (.iconst (-1), 1) := by decide +kernel
theorem dX7_readRegister_121 : decode cX7_readRegister 121 = .ok (.if_icmp .ne 9, 3) := by decide +kernel
theorem dX7_readRegister_124 : decode cX7_readRegister 124 = .ok (.aload_n 0, 1) := by decide +kernel
theorem dX7_readRegister_125 : decode cX7_readRegister 125 = .ok (.iconst 1, 1) := by decide +kernel
theorem dX7_readRegister_126 : decode cX7_readRegister 126 = .ok (.invokevirtual 106, 3) := by decide +kernel
theorem dX7_readRegister_129 : decode cX7_readRegister 129 = .ok (.ireturn, 1) := by decide +kernel
theorem dX7_readRegister_130 : decode cX7_readRegister 130 = .ok (.aload_n 0, 1) := by decide +kernel
theorem dX7_readRegister_131 : decode cX7_readRegister 131 = .ok (.getfield 22, 3) := by decide +kernel
theorem dX7_readRegister_134 : decode cX7_readRegister 134 = .ok (.iload_n 1, 1) := by decide +kernel
theorem dX7_readRegister_135 : decode cX7_readRegister 135 = .ok (.iload_n 2, 1) := by decide +kernel
theorem dX7_readRegister_136 : decode cX7_readRegister 136 = .ok (.iload_n 3, 1) := by decide +kernel
theorem dX7_readRegister_137 : decode cX7_readRegister 137 = .ok (.iload 4, 2) := by decide +kernel
theorem dX7_readRegister_139 : decode cX7_readRegister 139 = .ok (.invokevirtual 163, 3) := by decide +kernel
theorem dX7_readRegister_142 : decode cX7_readRegister 142 = .ok (.aload_n 0, 1) := by decide +kernel
theorem dX7_readRegister_143 : decode cX7_readRegister 143 = .ok (.invokevirtual 120, 3) := by decide +kernel
theorem dX7_readRegister_146 : decode cX7_readRegister 146 = .ok (.ireturn, 1) := by decide +kernel
theorem dX7_readPage_0 : decode cX7_readPage 0 = .ok (.aload_n 0, 1) := by decide +kernel
theorem dX7_readPage_1 : decode cX7_readPage 1 = .ok (.iconst 0, 1) := by decide +kernel
theorem dX7_readPage_2 : decode cX7_readPage 2 = .ok (.aload_n 0, 1) := by decide +kernel
theorem dX7_readPage_3 : decode cX7_readPage 3 = .ok (.getfield 22, 3) := by decide +kernel
theorem dX7_readPage_6 : decode cX7_readPage 6 = .ok (.invokevirtual 167, 3) := by decide +kernel
theorem dX7_readPage_9 : decode cX7_readPage 9 = .ok (.iconst 1, 1) := by decide +kernel
theorem dX7_readPage_10 : decode cX7_readPage 10 = .ok (.isub, 1) := by decide +kernel
theorem dX7_readPage_11 : decode cX7_readPage 11 = .ok (.invokevirtual 110, 3) := by decide +kernel
theorem dX7_readPage_14 : decode cX7_readPage 14 = .ok (.ifCond .ne 5, 3) := by decide +kernel
theorem dX7_readPage_17 : decode cX7_readPage 17 = .ok (.iconst 0, 1) := by decide +kernel
theorem dX7_readPage_18 : decode cX7_readPage 18 = .ok (.ireturn, 1) := by decide +kernel
theorem dX7_readPage_19 : decode cX7_readPage 19 = .ok (.aload_n 0, 1) := by decide +kernel
theorem dX7_readPage_20 : decode cX7_readPage 20 = .ok (.getfield 114, 3) := by decide +kernel
theorem dX7_readPage_23 : decode cX7_readPage 23 = .ok (.istore_n 1, 1) := by decide +kernel
theorem dX7_readPage_24 : decode cX7_readPage 24 = .ok (.aload_n 0, 1) := by decide +kernel
theorem dX7_readPage_25 : decode cX7_readPage 25 = .ok (.getfield 22, 3) := by decide +kernel
theorem dX7_readPage_28 : decode cX7_readPage 28 = .ok (.getfield 170, 3) := by decide +kernel
theorem dX7_readPage_31 : decode cX7_readPage 31 = .ok (.iload_n 1, 1) := by decide +kernel
theorem dX7_readPage_32 : decode cX7_readPage 32 = .ok (.iaload, 1) := by decide +kernel
theorem dX7_readPage_33 : decode cX7_readPage 33 = .ok (.iconst 5, 1) := by decide +kernel
theorem dX7_readPage_34 : decode cX7_readPage 34 = .ok (.if_icmp .eq 9, 3) := by decide +kernel
theorem dX7_readPage_37 : decode cX7_readPage 37 = .ok (.aload_n 0, 1) := by decide +kernel
theorem dX7_readPage_38 : decode cX7_readPage 38 = .ok (.iconst 3, 1) := by decide +kernel
theorem dX7_readPage_39 : decode cX7_readPage 39 = .ok (.invokevirtual 106, 3) := by decide +kernel
theorem dX7_readPage_42 : decode cX7_readPage 42 = .ok (.ireturn, 1) := by decide +kernel
theorem dX7_readPage_43 : decode cX7_readPage 43 = .ok (.aload_n 0, 1) := by decide +kernel
theorem dX7_readPage_44 : decode cX7_readPage 44 = .ok (.invokevirtual 32, 3) := by decide +kernel
theorem dX7_readPage_47 : decode cX7_readPage 47 = .ok (.aload_n 0, 1) := by decide +kernel
theorem dX7_readPage_48 : decode cX7_readPage 48 = .ok (.invokevirtual 125, 3) := by decide +kernel
theorem dX7_readPage_51 : decode cX7_readPage 51 = .ok (.istore_n 2, 1) := by decide +kernel
theorem dX7_readPage_52 : decode cX7_readPage 52 = .ok (.iload_n 2, 1) := by decide +kernel
theorem dX7_readPage_53 : decode cX7_readPage 53 = .ok (.iconst (-1), 1) := by decide +kernel
theorem dX7_readPage_54 : decode cX7_readPage 54 = .ok (.if_icmp .ne 9, 3) := by decide +kernel
theorem dX7_readPage_57 : decode cX7_readPage 57 = .ok (.aload_n 0, 1) := by decide +kernel
theorem dX7_readPage_58 : decode cX7_readPage 58 = .ok (.iconst 1, 1) := by decide +kernel
theorem dX7_readPage_59 : decode cX7_readPage 59 = .ok (.invokevirtual 106, 3) := by decide +kernel
theorem dX7_readPage_62 : decode cX7_readPage 62 = .ok (.ireturn, 1) := by decide +kernel
theorem dX7_readPage_63 : decode cX7_readPage 63 = .ok (.aload_n 0, 1) := by decide +kernel
theorem dX7_readPage_64 : decode cX7_readPage 64 = .ok (.getfield 22, 3) := by decide +kernel
theorem dX7_readPage_67 : decode cX7_readPage 67 = .ok (.getfield 170, 3) := by decide +kernel
theorem dX7_readPage_70 : decode cX7_readPage 70 = .ok (.iload_n 1, 1) := by decide +kernel
theorem dX7_readPage_71 : decode cX7_readPage 71 = .ok (.iload_n 2, 1) := by decide +kernel
theorem dX7_readPage_72 : decode cX7_readPage 72 = .ok (.iastore, 1) := by decide +kernel
theorem dX7_readPage_73 : decode cX7_readPage 73 = .ok (.aload_n 0, 1) := by decide +kernel
theorem dX7_readPage_74 : decode cX7_readPage 74 = .ok (.invokevirtual 120, 3) := by decide +kernel
theorem dX7_readPage_77 : decode cX7_readPage 77 = .ok (.ireturn, 1) := by decide +kernel
theorem dX7_readLine_0 : decode cX7_readLine 0 = .ok (.aload_n 0, 1) := by decide +kernel
theorem dX7_readLine_1 : decode cX7_readLine 1 = .ok (.ldc 67, 2) := by decide +kernel
theorem dX7_readLine_3 : decode cX7_readLine 3 = .ok (.invokevirtual 69, 3) := by decide +kernel
theorem dX7_readLine_6 : decode cX7_readLine 6 = .ok (.ifCond .eq 8, 3) := by decide +kernel
theorem dX7_readLine_9 : decode cX7_readLine 9 = .ok (.aload_n 0, 1) := by decide +kernel
theorem dX7_readLine_10 : decode cX7_readLine 10 = .ok (.invokevirtual 73, 3) := by decide +kernel
theorem dX7_readLine_13 : decode cX7_readLine 13 = .ok (.ireturn, 1) := by decide +kernel
theorem dX7_readLine_14 : decode cX7_readLine 14 = .ok (.aload_n 0, 1) := by decide +kernel
theorem dX7_readLine_15 : decode cX7_readLine 15 = .ok (.ldc 76, 2) := by decide +kernel
theorem dX7_readLine_17 : decode cX7_readLine 17 = .ok (.invokevirtual 69, 3) := by decide +kernel
theorem dX7_readLine_20 : decode cX7_readLine 20 = .ok (.ifCond .eq 8, 3) := by decide +kernel
theorem dX7_readLine_23 : decode cX7_readLine 23 = .ok (.aload_n 0, 1) := by decide +kernel
theorem dX7_readLine_24 : decode cX7_readLine 24 = .ok (.invokevirtual 78, 3) := by decide +kernel
theorem dX7_readLine_27 : decode cX7_readLine 27 = .ok (.ireturn, 1) := by decide +kernel
theorem dX7_readLine_28 : decode cX7_readLine 28 = .ok (.aload_n 0, 1) := by decide +kernel
theorem dX7_readLine_29 : decode cX7_readLine 29 = .ok (.ldc 81, 2) := by decide +kernel
theorem dX7_readLine_31 : decode cX7_readLine 31 = .ok (.invokevirtual 69, 3) := by decide +kernel
theorem dX7_readLine_34 : decode cX7_readLine 34 = .ok (.ifCond .eq 8, 3) := by decide +kernel
theorem dX7_readLine_37 : decode cX7_readLine 37 = .ok (.aload_n 0, 1) := by decide +kernel
theorem dX7_readLine_38 : decode cX7_readLine 38 = .ok (.invokevirtual 83, 3) := by decide +kernel
theorem dX7_readLine_41 : decode cX7_readLine 41 = .ok (.ireturn, 1) := by decide +kernel
theorem dX7_readLine_42 : decode cX7_readLine 42 = .ok (.aload_n 0, 1) := by decide +kernel
theorem dX7_readLine_43 : decode cX7_readLine 43 = .ok (.iconst 1, 1) := by decide +kernel
theorem dX7_readLine_44 : decode cX7_readLine 44 = .ok (.putfield 64, 3) := by decide +kernel
theorem dX7_readLine_47 : decode cX7_readLine 47 = .ok (.aload_n 0, 1) := by decide +kernel
theorem dX7_readLine_48 : decode cX7_readLine 48 = .ok (.ldc 86, 2) := by decide +kernel
theorem dX7_readLine_50 : decode cX7_readLine 50 = .ok (.invokevirtual 69, 3) := by decide +kernel
theorem dX7_readLine_53 : decode cX7_readLine 53 = .ok (.ifCond .eq 8, 3) := by decide +kernel
theorem dX7_readLine_56 : decode cX7_readLine 56 = .ok (.aload_n 0, 1) := by decide +kernel
theorem dX7_readLine_57 : decode cX7_readLine 57 = .ok (.invokevirtual 88, 3) := by decide +kernel
theorem dX7_readLine_60 : decode cX7_readLine 60 = .ok (.ireturn, 1) := by decide +kernel
theorem dX7_readLine_61 : decode cX7_readLine 61 = .ok (.aload_n 0, 1) := by decide +kernel
theorem dX7_readLine_62 : decode cX7_readLine 62 = .ok (.ldc 91, 2) := by decide +kernel
theorem dX7_readLine_64 : decode cX7_readLine 64 = .ok (.invokevirtual 69, 3) := by decide +kernel
theorem dX7_readLine_67 : decode cX7_readLine 67 = .ok (.ifCond .eq 8, 3) := by decide +kernel
theorem dX7_readLine_70 : decode cX7_readLine 70 = .ok (.aload_n 0, 1) := by decide +kernel
theorem dX7_readLine_71 : decode cX7_readLine 71 = .ok (.invokevirtual 93, 3) := by decide +kernel
theorem dX7_readLine_74 : decode cX7_readLine 74 = .ok (.ireturn, 1) := by decide +kernel
theorem dX7_readLine_75 : decode cX7_readLine 75 = .ok (.aload_n 0, 1) := by decide +kernel
theorem dX7_readLine_76 : decode cX7_readLine 76 = .ok (.ldc 96, 2) := by decide +kernel
theorem dX7_readLine_78 : decode cX7_readLine 78 = .ok (.invokevirtual 69, 3) := by decide +kernel
theorem dX7_readLine_81 : decode cX7_readLine 81 = .ok (.ifCond .eq 8, 3) := by decide +kernel
theorem dX7_readLine_84 : decode cX7_readLine 84 = .ok (.aload_n 0, 1) := by decide +kernel
theorem dX7_readLine_85 : decode cX7_readLine 85 = .ok (.invokevirtual 98, 3) := by decide +kernel
theorem dX7_readLine_88 : decode cX7_readLine 88 = .ok (.ireturn, 1) := by decide +kernel
theorem dX7_readLine_89 : decode cX7_readLine 89 = .ok (.aload_n 0, 1) := by decide +kernel
theorem dX7_readLine_90 : decode cX7_readLine 90 = .ok (.ldc 101, 2) := by decide +kernel
theorem dX7_readLine_92 : decode cX7_readLine 92 = .ok (.invokevirtual 69, 3) := by decide +kernel
theorem dX7_readLine_95 : decode cX7_readLine 95 = .ok (.ifCond .eq 10, 3) := by decide +kernel
theorem dX7_readLine_98 : decode cX7_readLine 98 = .ok (.aload_n 0, 1) := by decide +kernel
theorem dX7_readLine_99 : decode cX7_readLine 99 = .ok (.invokevirtual 103, 3) := by decide +kernel
theorem dX7_readLine_102 : decode cX7_readLine 102 = .ok (.goto 8, 3) := by decide +kernel
theorem dX7_readLine_105 : decode cX7_readLine 105 = .ok (.aload_n 0, 1) := by decide +kernel
theorem dX7_readLine_106 : decode cX7_readLine 106 = .ok (.iconst 1, 1) := by decide +kernel
theorem dX7_readLine_107 : decode cX7_readLine 107 = .ok (.invokevirtual 106, 3) := by decide +kernel
theorem dX7_readLine_110 : decode cX7_readLine 110 = .ok (.ireturn, 1) := by decide +kernel
theorem dX7_readAll_0 : decode cX7_readAll 0 = .ok (.aload_n 0, 1) := by decide +kernel
theorem dX7_readAll_1 : decode cX7_readAll 1 = .ok (.invokevirtual 29, 3) := by decide +kernel
theorem dX7_readAll_4 : decode cX7_readAll 4 = .ok (.iconst 1, 1) := by decide +kernel
theorem dX7_readAll_5 : decode cX7_readAll 5 = .ok (.istore_n 1, 1) := by decide +kernel
theorem dX7_readAll_6 : decode cX7_readAll 6 = .ok (.iconst 1, 1) := by decide +kernel
theorem dX7_readAll_7 : decode cX7_readAll 7 = .ok (.istore_n 2, 1) := by decide +kernel
theorem dX7_readAll_8 : decode cX7_readAll 8 = .ok (.iconst 0, 1) := by decide +kernel
theorem dX7_readAll_9 : decode cX7_readAll 9 = .ok (.istore_n 3, 1) := by decide +kernel
theorem dX7_readAll_10 : decode cX7_readAll 10 = .ok (.iload_n 1, 1) := by decide +kernel
theorem dX7_readAll_11 : decode cX7_readAll 11 = .ok (.ifCond .eq 55, 3) := by decide +kernel
theorem dX7_readAll_14 : decode cX7_readAll 14 = .ok (.iload_n 2, 1) := by decide +kernel
theorem dX7_readAll_15 : decode cX7_readAll 15 = .ok (.ifCond .eq 51, 3) := by decide +kernel
theorem dX7_readAll_18 : decode cX7_readAll 18 = .ok (.iload_n 3, 1) := by decide +kernel
theorem dX7_readAll_19 : decode cX7_readAll 19 = .ok (.sipush 800, 3) := by decide +kernel
theorem dX7_readAll_22 : decode cX7_readAll 22 = .ok (.if_icmp .gt 44, 3) := by decide +kernel
theorem dX7_readAll_25 : decode cX7_readAll 25 = .ok (.aload_n 0, 1) := by decide +kernel
theorem dX7_readAll_26 : decode cX7_readAll 26 = .ok (.invokevirtual 32, 3) := by decide +kernel
theorem dX7_readAll_29 : decode cX7_readAll 29 = .ok (.aload_n 0, 1) := by decide +kernel
theorem dX7_readAll_30 : decode cX7_readAll 30 = .ok (.getfield 35, 3) := by decide +kernel
theorem dX7_readAll_33 : decode cX7_readAll 33 = .ok (.iconst 4, 1) := by decide +kernel
theorem dX7_readAll_34 : decode cX7_readAll 34 = .ok (.if_icmp .eq 7, 3) := by decide +kernel
theorem dX7_readAll_37 : decode cX7_readAll 37 = .ok (.iconst 1, 1) := by decide +kernel
theorem dX7_readAll_38 : decode cX7_readAll 38 = .ok (.goto 4, 3) := by decide +kernel
theorem dX7_readAll_41 : decode cX7_readAll 41 = .ok (.iconst 0, 1) := by decide +kernel
theorem dX7_readAll_42 : decode cX7_readAll 42 = .ok (.istore_n 2, 1) := by decide +kernel
theorem dX7_readAll_43 : decode cX7_readAll 43 = .ok (.iload_n 2, 1) := by decide +kernel
theorem dX7_readAll_44 : decode cX7_readAll 44 = .ok (.ifCond .eq 10, 3) := by decide +kernel
theorem dX7_readAll_47 : decode cX7_readAll 47 = .ok (.aload_n 0, 1) := by decide +kernel
theorem dX7_readAll_48 : decode cX7_readAll 48 = .ok (.invokevirtual 38, 3) := by decide +kernel
theorem dX7_readAll_51 : decode cX7_readAll 51 = .ok (.ifCond .eq 7, 3) := by decide +kernel
theorem dX7_readAll_54 : decode cX7_readAll 54 = .ok (.iconst 1, 1) := by decide +kernel
theorem dX7_readAll_55 : decode cX7_readAll 55 = .ok (.goto 4, 3) := by decide +kernel
theorem dX7_readAll_58 : decode cX7_readAll 58 = .ok (.iconst 0, 1) := by decide +kernel
theorem dX7_readAll_59 : decode cX7_readAll 59 = .ok (.istore_n 1, 1) := by decide +kernel
theorem dX7_readAll_60 : decode cX7_readAll 60 = .ok (.iinc 3 1, 3) := by decide +kernel
theorem dX7_readAll_63 : decode cX7_readAll 63 = .ok (.goto (-53), 3) := by decide +kernel
theorem dX7_readAll_66 : decode cX7_readAll 66 = .ok (.aload_n 0, 1) := by decide +kernel
theorem dX7_readAll_67 : decode cX7_readAll 67 = .ok (.iconst 0, 1) := by decide +kernel
theorem dX7_readAll_68 : decode cX7_readAll 68 = .ok (.putfield 26, 3) := by decide +kernel
theorem dX7_readAll_71 : decode cX7_readAll 71 = .ok (.iload_n 1, 1) := by decide +kernel
theorem dX7_readAll_72 : decode cX7_readAll 72 = .ok (.ireturn, 1) := by decide +kernel
section G32_reader2_lean_txt
variable {p : Program} {l : Launch} {e : Env} {s : State} {m : MethodId} {args : Array Value} {below : List Frame} {meth : Method} {c : Code} {H : Heap} {locs : List Loc} {ls : Array Slot} {E : Ge} {L : Lay} {fu d : Nat}
def fX7_isWord_j23 (fu : Nat) (M : Mm) : Option Int32 :=
  some 0
set_option maxRecDepth 100000 in
set_option maxHeartbeats 4000000 in
theorem wX7_isWord_j23 {r : Int32}    {M : Mm} (B : Bx p s m args c cX7_isWord 3 RX7 E L) (hr : meth.sig.returnType = (some .boolean)) (hlk : meth.locks = false)   (h : fX7_isWord_j23 fu M = some r) (hR : Rx s E L M H locs) (hl : lv_has ls 3 []) : W p l e (rmD (d + 4)) s m args below meth c H locs 0 0 (MQ below (QcM E L (some (.int r)) M) args s 0 0 E.2.2.2) (F0 m 23 ls []) := by
  have hx := B.1
  have hb := B.2.1
  unfold fX7_isWord_j23 at h
  refine lv_iconst (v := 0) hx hb dX7_isWord_23 (by decide) ?_
  exact r_zretP B hR hr hlk (Or.inl rfl) h dX7_isWord_24
def fX7_isWord_j62 (fu : Nat) (M : Mm) : Option Int32 :=
  some 1
set_option maxRecDepth 100000 in
set_option maxHeartbeats 4000000 in
theorem wX7_isWord_j62 {r : Int32}    {M : Mm} (B : Bx p s m args c cX7_isWord 3 RX7 E L) (hr : meth.sig.returnType = (some .boolean)) (hlk : meth.locks = false)   (h : fX7_isWord_j62 fu M = some r) (hR : Rx s E L M H locs) (hl : lv_has ls 3 []) : W p l e (rmD (d + 4)) s m args below meth c H locs 0 0 (MQ below (QcM E L (some (.int r)) M) args s 0 0 E.2.2.2) (F0 m 62 ls []) := by
  have hx := B.1
  have hb := B.2.1
  unfold fX7_isWord_j62 at h
  refine lv_iconst (v := 1) hx hb dX7_isWord_62 (by decide) ?_
  exact r_zretP B hR hr hlk (Or.inr rfl) h dX7_isWord_63
def fX7_isWord_j54 (fu : Nat) (M : Mm) : Option Int32 :=
  some 0
set_option maxRecDepth 100000 in
set_option maxHeartbeats 4000000 in
theorem wX7_isWord_j54 {r : Int32}    {M : Mm} (B : Bx p s m args c cX7_isWord 3 RX7 E L) (hr : meth.sig.returnType = (some .boolean)) (hlk : meth.locks = false)   (h : fX7_isWord_j54 fu M = some r) (hR : Rx s E L M H locs) (hl : lv_has ls 3 []) : W p l e (rmD (d + 4)) s m args below meth c H locs 0 0 (MQ below (QcM E L (some (.int r)) M) args s 0 0 E.2.2.2) (F0 m 54 ls []) := by
  have hx := B.1
  have hb := B.2.1
  unfold fX7_isWord_j54 at h
  refine lv_iconst (v := 0) hx hb dX7_isWord_54 (by decide) ?_
  exact r_zretP B hR hr hlk (Or.inl rfl) h dX7_isWord_55
def fX7_isWord_b27 (fu : Nat) (k27 : Int32 → Option Int32) (a0 : Nat) (w1 : Nat) (x2 : Int32) (M : Mm) : Option Int32 :=
  if (Int32.ofNat (strL.getD w1 0)) ≤ x2 then
    fX7_isWord_j62 fu M
  else
    if ((M.1 a0 6) + x2) < 0 ∨ 800 ≤ ix ((M.1 a0 6) + x2) then none else
    if x2 < 0 ∨ strL.getD w1 0 ≤ ix x2 then none else
    if (M.1 (a0 + 1) (ix ((M.1 a0 6) + x2))) = ((strB.getD w1 []).getD (ix x2) 0) then
      lt (x2 + 1) fun x2_56 =>
      k27 x2_56
    else
      fX7_isWord_j54 fu M
set_option maxRecDepth 100000 in
set_option maxHeartbeats 4000000 in
theorem wX7_isWord_b27 {r : Int32}   {k27 : Int32 → Option Int32} {a0 : Nat} {w1 : Nat} {x2 : Int32} {M : Mm} (B : Bx p s m args c cX7_isWord 3 RX7 E L) (hr : meth.sig.returnType = (some .boolean)) (hlk : meth.locks = false)  (ih27 : ∀ (x2 : Int32), k27 x2 = some r → ∀ (H : Heap) (locs : List Loc) (ls : Array Slot), Rx s E L M H locs → lv_has ls 3 [(0, .ref a0), (1, .ref (sK E w1)), (2, .int x2)] → W p l e (rmD (d + 4)) s m args below meth c H locs 0 0 (MQ below (QcM E L (some (.int r)) M) args s 0 0 E.2.2.2) (F0 m 27 ls [])) (h0 : At L a0 T7) (hw1 : w1 < 12) (h : fX7_isWord_b27 fu k27 a0 w1 x2 M = some r) (hR : Rx s E L M H locs) (hl : lv_has ls 3 [(0, .ref a0), (1, .ref (sK E w1)), (2, .int x2)]) : W p l e (rmD (d + 4)) s m args below meth c H locs 0 0 (MQ below (QcM E L (some (.int r)) M) args s 0 0 E.2.2.2) (F0 m 27 ls []) := by
  have hx := B.1
  have hb := B.2.1
  unfold fX7_isWord_b27 at h
  refine lv_iload_n hx hb dX7_isWord_27 rfl (lv_at hl 2 rfl) ?_
  refine lv_aload_n hx hb dX7_isWord_28 rfl (lv_at hl 1 rfl) ?_
  refine st_len B hR hw1 hl.1 (Nat.le_of_ble_eq_true rfl) dX7_isWord_29 (fun H locs hR => ?_)
  refine lv_icmp_ge (tgt := 62) hx hb dX7_isWord_32 (by decide) (fun c_32 => ?_) (fun c_32 => ?_)
  · rw [if_pos c_32] at h
    exact wX7_isWord_j62 B hr hlk  h hR (lv_sub hl [] rfl)
  · rw [if_neg c_32] at h
    refine lv_aload_n hx hb dX7_isWord_35 rfl (lv_at hl 0 rfl) ?_
    refine gf_X7_9 B hR (h0.at0 rfl) dX7_isWord_36 ?_
    refine lv_aload_n hx hb dX7_isWord_39 rfl (lv_at hl 0 rfl) ?_
    refine gf_X7_183 B hR (h0.at0 rfl) dX7_isWord_40 ?_
    refine lv_iload_n hx hb dX7_isWord_43 rfl (lv_at hl 2 rfl) ?_
    refine lv_iadd hx hb dX7_isWord_44 ?_
    obtain ⟨hi_45, h⟩ := ifn_el h
    refine r_iald B hR (h0.at 1 rfl) hi_45 dX7_isWord_45 ?_
    refine lv_aload_n hx hb dX7_isWord_46 rfl (lv_at hl 1 rfl) ?_
    refine lv_iload_n hx hb dX7_isWord_47 rfl (lv_at hl 2 rfl) ?_
    obtain ⟨hi_48, h⟩ := ifn_el h
    refine st_chr B hR hw1 hl.1 hi_48 (Nat.le_of_ble_eq_true rfl) dX7_isWord_48 (fun H locs hR => ?_)
    refine lv_icmp_eq (tgt := 56) hx hb dX7_isWord_51 (by decide) (fun c_51 => ?_) (fun c_51 => ?_)
    · rw [if_pos c_51] at h
      obtain ⟨x2_56, ex2_56, h⟩ := lt_el h
      refine lv_iinc (v := x2_56) (lv' := [(2, .int x2_56), (0, .ref a0), (1, .ref (sK E w1))]) hx hb dX7_isWord_56 hl (k := 2) rfl (by rw [ex2_56]; rfl) (by decide) rfl (fun ls hl => ?_)
      refine lv_goto (tgt := 27) hx hb dX7_isWord_59 (by decide) ?_
      exact ih27 x2_56 h _ _ _ hR (lv_sub hl [1, 2, 0] rfl)
    · rw [if_neg c_51] at h
      exact wX7_isWord_j54 B hr hlk  h hR (lv_sub hl [] rfl)
def fX7_isWord_l27 (fu : Nat) (a0 : Nat) (w1 : Nat) (M : Mm) (x2 : Int32) : Option Int32 := lp (fun (rec : Int32 → Option Int32) (s : Int32) => fX7_isWord_b27 fu  (fun x2 => rec (x2)) a0 w1 s M) fu (x2)
set_option maxRecDepth 100000 in
set_option maxHeartbeats 4000000 in
theorem wX7_isWord_l27 {r : Int32}   {a0 : Nat} {w1 : Nat} {x2 : Int32} {M : Mm} (B : Bx p s m args c cX7_isWord 3 RX7 E L) (hr : meth.sig.returnType = (some .boolean)) (hlk : meth.locks = false)  (h0 : At L a0 T7) (hw1 : w1 < 12) (h : fX7_isWord_l27 fu a0 w1 M x2 = some r) (hR : Rx s E L M H locs) (hl : lv_has ls 3 [(0, .ref a0), (1, .ref (sK E w1)), (2, .int x2)]) : W p l e (rmD (d + 4)) s m args below meth c H locs 0 0 (MQ below (QcM E L (some (.int r)) M) args s 0 0 E.2.2.2) (F0 m 27 ls []) := by
  refine lp_G (G := fun z : Int32 => ∀ (H : Heap) (locs : List Loc) (ls : Array Slot), Rx s E L M H locs → lv_has ls 3 [(0, .ref a0), (1, .ref (sK E w1)), (2, .int z)] → W p l e (rmD (d + 4)) s m args below meth c H locs 0 0 (MQ below (QcM E L (some (.int r)) M) args s 0 0 E.2.2.2) (F0 m 27 ls [])) (fun rec ih z h H locs ls hR hl => ?_) fu _ h H locs ls hR hl
  exact wX7_isWord_b27 B hr hlk  (fun x2 h => ih (x2) h) h0 hw1 h hR hl
def fX7_isWord (fu : Nat) (a0 : Nat) (w1 : Nat) (M : Mm) : Option Int32 :=
  if (M.1 a0 7) = 0 then
    if (Int32.ofNat (strL.getD w1 0)) = ((M.1 a0 5) - (M.1 a0 6)) then
      fX7_isWord_l27 fu a0 w1 M 0
    else
      fX7_isWord_j23 fu M
  else
    fX7_isWord_j23 fu M
set_option maxRecDepth 100000 in
set_option maxHeartbeats 4000000 in
theorem mX7_isWord {l : Launch} {E : Ge} {L : Lay} (fu d : Nat) {a0 : Nat} {w1 : Nat} {M : Mm} {r : Int32}  (h0 : At L a0 T7) (hw1 : w1 < 12) (h : fX7_isWord fu a0 w1 M = some r) : Ct l E L yX7_isWord cX7_isWord 3 (some .boolean) (d + 4) [.ref a0, .ref (sK E w1)] M (some (.int r)) M := by
  refine Ct.of (by decide) ?_
  intro p e s m below meth c hr hlk B hR
  have B : Bx p s m _ c cX7_isWord 3 RX7 E L := B
  have hx := B.1
  have hb := B.2.1
  have hl := lv_entry ([.ref a0, .ref (sK E w1)]) (n := 3) (Nat.le_of_ble_eq_true rfl)
  rw [lg_entry_eq]
  generalize (lg_sl ([.ref a0, .ref (sK E w1)]) ++ List.replicate (3 - (lg_sl ([.ref a0, .ref (sK E w1)])).length) Slot.unset).toArray = ls at hl ⊢
  have hl : lv_has ls 3 [(0, .ref a0), (1, .ref (sK E w1))] := hl
  unfold fX7_isWord at h
  refine lv_aload_n hx hb dX7_isWord_0 rfl (lv_at hl 0 rfl) ?_
  refine gf_X7_35 B hR (h0.at0 rfl) dX7_isWord_1 ?_
  refine lv_if_ne (tgt := 23) hx hb dX7_isWord_4 (by decide) (fun c_4 => ?_) (fun c_4 => ?_)
  · rw [if_neg c_4] at h
    exact wX7_isWord_j23 B hr hlk  h hR (lv_sub hl [] rfl)
  · rw [if_pos c_4] at h
    refine lv_aload_n hx hb dX7_isWord_7 rfl (lv_at hl 1 rfl) ?_
    refine st_len B hR hw1 hl.1 (Nat.le_of_ble_eq_true rfl) dX7_isWord_8 (fun H locs hR => ?_)
    refine lv_aload_n hx hb dX7_isWord_11 rfl (lv_at hl 0 rfl) ?_
    refine gf_X7_48 B hR (h0.at0 rfl) dX7_isWord_12 ?_
    refine lv_aload_n hx hb dX7_isWord_15 rfl (lv_at hl 0 rfl) ?_
    refine gf_X7_183 B hR (h0.at0 rfl) dX7_isWord_16 ?_
    refine lv_isub hx hb dX7_isWord_19 ?_
    refine lv_icmp_eq (tgt := 25) hx hb dX7_isWord_20 (by decide) (fun c_20 => ?_) (fun c_20 => ?_)
    · rw [if_pos c_20] at h
      refine lv_iconst (v := 0) hx hb dX7_isWord_25 (by decide) ?_
      refine lv_istore_n (lv' := [(2, .int 0), (0, .ref a0), (1, .ref (sK E w1))]) hx hb dX7_isWord_26 rfl hl (by decide) rfl (fun ls hl => ?_)
      exact wX7_isWord_l27 B hr hlk h0 hw1 h hR (lv_sub hl [1, 2, 0] rfl)
    · rw [if_neg c_20] at h
      exact wX7_isWord_j23 B hr hlk  h hR (lv_sub hl [] rfl)
def fX7_kindHere_j58 (fu : Nat) (t0 : Int32) (M : Mm) : Option Int32 :=
  some t0
set_option maxRecDepth 100000 in
set_option maxHeartbeats 4000000 in
theorem wX7_kindHere_j58 {r : Int32}   {t0 : Int32} {M : Mm} (B : Bx p s m args c cX7_kindHere 1 RX7 E L) (hr : meth.sig.returnType = (some .int)) (hlk : meth.locks = false)   (h : fX7_kindHere_j58 fu t0 M = some r) (hR : Rx s E L M H locs) (hl : lv_has ls 1 []) : W p l e (rmD (d + 5)) s m args below meth c H locs 0 0 (MQ below (QcM E L (some (.int r)) M) args s 0 0 E.2.2.2) (F0 m 58 ls [.int t0]) := by
  have hx := B.1
  have hb := B.2.1
  unfold fX7_kindHere_j58 at h
  exact r_iretP B hR hr hlk h dX7_kindHere_58
def fX7_kindHere (fu : Nat) (a0 : Nat) (M : Mm) : Option Int32 :=
  bi (fX7_isWord fu a0 3 M) fun r_3 =>
  if r_3 = 0 then
    bi (fX7_isWord fu a0 4 M) fun r_14 =>
    if r_14 = 0 then
      bi (fX7_isWord fu a0 5 M) fun r_25 =>
      if r_25 = 0 then
        bi (fX7_isWord fu a0 6 M) fun r_36 =>
        if r_36 = 0 then
          bi (fX7_isWord fu a0 7 M) fun r_47 =>
          if r_47 = 0 then
            fX7_kindHere_j58 fu (-1) M
          else
            fX7_kindHere_j58 fu 4 M
        else
          some 3
      else
        some 2
    else
      some 1
  else
    some 0
set_option maxRecDepth 100000 in
set_option maxHeartbeats 4000000 in
theorem mX7_kindHere {l : Launch} {E : Ge} {L : Lay} (fu d : Nat) {a0 : Nat} {M : Mm} {r : Int32}  (h0 : At L a0 T7) (h : fX7_kindHere fu a0 M = some r) : Ct l E L yX7_kindHere cX7_kindHere 1 (some .int) (d + 5) [.ref a0] M (some (.int r)) M := by
  refine Ct.of (by decide) ?_
  intro p e s m below meth c hr hlk B hR
  have B : Bx p s m _ c cX7_kindHere 1 RX7 E L := B
  have hx := B.1
  have hb := B.2.1
  have hl := lv_entry ([.ref a0]) (n := 1) (Nat.le_of_ble_eq_true rfl)
  rw [lg_entry_eq]
  generalize (lg_sl ([.ref a0]) ++ List.replicate (1 - (lg_sl ([.ref a0])).length) Slot.unset).toArray = ls at hl ⊢
  have hl : lv_has ls 1 [(0, .ref a0)] := hl
  unfold fX7_kindHere at h
  refine lv_aload_n hx hb dX7_kindHere_0 rfl (lv_at hl 0 rfl) ?_
  refine va_ldcS hx hb B.2.2.2.1 (B.2.2.2.2.2.2.2.2.2.2.2.2.1 3 (by decide)) dX7_kindHere_1 ?_
  obtain ⟨r_3, hc_3, h⟩ := bi_el h
  refine iv_X7_69 B hR (h0.at0 rfl) hl.1 (mX7_isWord fu _ h0 (by decide) hc_3) (Nat.le_of_ble_eq_true rfl) dX7_kindHere_3 (fun H locs hR => ?_)
  refine lv_if_eq (tgt := 11) hx hb dX7_kindHere_6 (by decide) (fun c_6 => ?_) (fun c_6 => ?_)
  · rw [if_pos c_6] at h
    refine lv_aload_n hx hb dX7_kindHere_11 rfl (lv_at hl 0 rfl) ?_
    refine va_ldcS hx hb B.2.2.2.1 (B.2.2.2.2.2.2.2.2.2.2.2.2.1 4 (by decide)) dX7_kindHere_12 ?_
    obtain ⟨r_14, hc_14, h⟩ := bi_el h
    refine iv_X7_69 B hR (h0.at0 rfl) hl.1 (mX7_isWord fu _ h0 (by decide) hc_14) (Nat.le_of_ble_eq_true rfl) dX7_kindHere_14 (fun H locs hR => ?_)
    refine lv_if_eq (tgt := 22) hx hb dX7_kindHere_17 (by decide) (fun c_17 => ?_) (fun c_17 => ?_)
    · rw [if_pos c_17] at h
      refine lv_aload_n hx hb dX7_kindHere_22 rfl (lv_at hl 0 rfl) ?_
      refine va_ldcS hx hb B.2.2.2.1 (B.2.2.2.2.2.2.2.2.2.2.2.2.1 5 (by decide)) dX7_kindHere_23 ?_
      obtain ⟨r_25, hc_25, h⟩ := bi_el h
      refine iv_X7_69 B hR (h0.at0 rfl) hl.1 (mX7_isWord fu _ h0 (by decide) hc_25) (Nat.le_of_ble_eq_true rfl) dX7_kindHere_25 (fun H locs hR => ?_)
      refine lv_if_eq (tgt := 33) hx hb dX7_kindHere_28 (by decide) (fun c_28 => ?_) (fun c_28 => ?_)
      · rw [if_pos c_28] at h
        refine lv_aload_n hx hb dX7_kindHere_33 rfl (lv_at hl 0 rfl) ?_
        refine va_ldcS hx hb B.2.2.2.1 (B.2.2.2.2.2.2.2.2.2.2.2.2.1 6 (by decide)) dX7_kindHere_34 ?_
        obtain ⟨r_36, hc_36, h⟩ := bi_el h
        refine iv_X7_69 B hR (h0.at0 rfl) hl.1 (mX7_isWord fu _ h0 (by decide) hc_36) (Nat.le_of_ble_eq_true rfl) dX7_kindHere_36 (fun H locs hR => ?_)
        refine lv_if_eq (tgt := 44) hx hb dX7_kindHere_39 (by decide) (fun c_39 => ?_) (fun c_39 => ?_)
        · rw [if_pos c_39] at h
          refine lv_aload_n hx hb dX7_kindHere_44 rfl (lv_at hl 0 rfl) ?_
          refine va_ldcS hx hb B.2.2.2.1 (B.2.2.2.2.2.2.2.2.2.2.2.2.1 7 (by decide)) dX7_kindHere_45 ?_
          obtain ⟨r_47, hc_47, h⟩ := bi_el h
          refine iv_X7_69 B hR (h0.at0 rfl) hl.1 (mX7_isWord fu _ h0 (by decide) hc_47) (Nat.le_of_ble_eq_true rfl) dX7_kindHere_47 (fun H locs hR => ?_)
          refine lv_if_eq (tgt := 57) hx hb dX7_kindHere_50 (by decide) (fun c_50 => ?_) (fun c_50 => ?_)
          · rw [if_pos c_50] at h
            refine lv_iconst (v := (-1)) hx hb dX7_kindHere_57 (by decide) ?_
            exact wX7_kindHere_j58 B hr hlk  h hR (lv_sub hl [] rfl)
          · rw [if_neg c_50] at h
            refine lv_iconst (v := 4) hx hb dX7_kindHere_53 (by decide) ?_
            refine lv_goto (tgt := 58) hx hb dX7_kindHere_54 (by decide) ?_
            exact wX7_kindHere_j58 B hr hlk  h hR (lv_sub hl [] rfl)
        · rw [if_neg c_39] at h
          refine lv_iconst (v := 3) hx hb dX7_kindHere_42 (by decide) ?_
          exact r_iretP B hR hr hlk h dX7_kindHere_43
      · rw [if_neg c_28] at h
        refine lv_iconst (v := 2) hx hb dX7_kindHere_31 (by decide) ?_
        exact r_iretP B hR hr hlk h dX7_kindHere_32
    · rw [if_neg c_17] at h
      refine lv_iconst (v := 1) hx hb dX7_kindHere_20 (by decide) ?_
      exact r_iretP B hR hr hlk h dX7_kindHere_21
  · rw [if_neg c_6] at h
    refine lv_iconst (v := 0) hx hb dX7_kindHere_9 (by decide) ?_
    exact r_iretP B hR hr hlk h dX7_kindHere_10
def fX7_readDefault_j14 (fu : Nat) (a0 : Nat) (M : Mm) : Option (Int32 × Mm) :=
  bw (fX7_failed fu a0 3 M) fun r_16 M_16 =>
  gd (r_16 = 0 ∨ r_16 = 1) <|
  some (r_16, M_16)
set_option maxRecDepth 100000 in
set_option maxHeartbeats 4000000 in
theorem wX7_readDefault_j14 {r : Int32} {M' : Mm}   {a0 : Nat} {M : Mm} (B : Bx p s m args c cX7_readDefault 1 RX7 E L) (hr : meth.sig.returnType = (some .boolean)) (hlk : meth.locks = false)  (h0 : At L a0 T7) (h : fX7_readDefault_j14 fu a0 M = some (r, M')) (hR : Rx s E L M H locs) (hl : lv_has ls 1 [(0, .ref a0)]) : W p l e (rmD (d + 6)) s m args below meth c H locs 0 0 (MQ below (QcM E L (some (.int r)) M') args s 0 0 E.2.2.2) (F0 m 14 ls []) := by
  have hx := B.1
  have hb := B.2.1
  unfold fX7_readDefault_j14 at h
  refine lv_aload_n hx hb dX7_readDefault_14 rfl (lv_at hl 0 rfl) ?_
  refine lv_iconst (v := 3) hx hb dX7_readDefault_15 (by decide) ?_
  obtain ⟨r_16, M_16, hc_16, h⟩ := bw_el h
  refine iv_X7_106 B hR (h0.at0 rfl) hl.1 (mX7_failed fu _ h0 hc_16) (Nat.le_of_ble_eq_true rfl) dX7_readDefault_16 (fun H locs hR => ?_)
  obtain ⟨hz_19, h⟩ := gd_el h
  exact r_zretW B hR hr hlk hz_19 h dX7_readDefault_19
def fX7_readDefault_j63 (fu : Nat) (t0 : Int32) (M : Mm) : Option (Int32 × Mm) :=
  gd (t0 = 0 ∨ t0 = 1) <|
  some (t0, M)
set_option maxRecDepth 100000 in
set_option maxHeartbeats 4000000 in
theorem wX7_readDefault_j63 {r : Int32} {M' : Mm}   {t0 : Int32} {M : Mm} (B : Bx p s m args c cX7_readDefault 1 RX7 E L) (hr : meth.sig.returnType = (some .boolean)) (hlk : meth.locks = false)   (h : fX7_readDefault_j63 fu t0 M = some (r, M')) (hR : Rx s E L M H locs) (hl : lv_has ls 1 []) : W p l e (rmD (d + 6)) s m args below meth c H locs 0 0 (MQ below (QcM E L (some (.int r)) M') args s 0 0 E.2.2.2) (F0 m 63 ls [.int t0]) := by
  have hx := B.1
  have hb := B.2.1
  unfold fX7_readDefault_j63 at h
  obtain ⟨hz_63, h⟩ := gd_el h
  exact r_zretW B hR hr hlk hz_63 h dX7_readDefault_63
def fX7_readDefault (fu : Nat) (a0 : Nat) (M : Mm) : Option (Int32 × Mm) :=
  if (M.1 a0 11) = 0 then
    if (M.1 a0 13) = 0 then
      lt (wI M a0 11 1) fun M_22 =>
      bm (fX7_next fu a0 M_22) fun M_26 =>
      bi (fX7_kindHere fu a0 M_26) fun r_34 =>
      lt (wI M_26 (a0 + 2) 2 r_34) fun M_37 =>
      if (M_37.1 (a0 + 2) 2) = (-1) then
        bw (fX7_failed fu a0 1 M_37) fun r_53 M_53 =>
        fX7_readDefault_j63 fu r_53 M_53
      else
        bw (fX7_readStop fu a0 M_37) fun r_60 M_60 =>
        fX7_readDefault_j63 fu r_60 M_60
    else
      fX7_readDefault_j14 fu a0 M
  else
    fX7_readDefault_j14 fu a0 M
set_option maxRecDepth 100000 in
set_option maxHeartbeats 4000000 in
theorem mX7_readDefault {l : Launch} {E : Ge} {L : Lay} (fu d : Nat) {a0 : Nat} {M : Mm} {r : Int32} {M' : Mm}  (h0 : At L a0 T7) (h : fX7_readDefault fu a0 M = some (r, M')) : Ct l E L yX7_readDefault cX7_readDefault 1 (some .boolean) (d + 6) [.ref a0] M (some (.int r)) M' := by
  refine Ct.of (by decide) ?_
  intro p e s m below meth c hr hlk B hR
  have B : Bx p s m _ c cX7_readDefault 1 RX7 E L := B
  have hx := B.1
  have hb := B.2.1
  have hl := lv_entry ([.ref a0]) (n := 1) (Nat.le_of_ble_eq_true rfl)
  rw [lg_entry_eq]
  generalize (lg_sl ([.ref a0]) ++ List.replicate (1 - (lg_sl ([.ref a0])).length) Slot.unset).toArray = ls at hl ⊢
  have hl : lv_has ls 1 [(0, .ref a0)] := hl
  unfold fX7_readDefault at h
  refine lv_aload_n hx hb dX7_readDefault_0 rfl (lv_at hl 0 rfl) ?_
  refine gf_X7_58 B hR (h0.at0 rfl) dX7_readDefault_1 ?_
  refine lv_if_ne (tgt := 14) hx hb dX7_readDefault_4 (by decide) (fun c_4 => ?_) (fun c_4 => ?_)
  · rw [if_neg c_4] at h
    exact wX7_readDefault_j14 B hr hlk h0 h hR hl
  · rw [if_pos c_4] at h
    refine lv_aload_n hx hb dX7_readDefault_7 rfl (lv_at hl 0 rfl) ?_
    refine gf_X7_64 B hR (h0.at0 rfl) dX7_readDefault_8 ?_
    refine lv_if_eq (tgt := 20) hx hb dX7_readDefault_11 (by decide) (fun c_11 => ?_) (fun c_11 => ?_)
    · rw [if_pos c_11] at h
      refine lv_aload_n hx hb dX7_readDefault_20 rfl (lv_at hl 0 rfl) ?_
      refine lv_iconst (v := 1) hx hb dX7_readDefault_21 (by decide) ?_
      obtain ⟨M_22, eM_22, h⟩ := lt_el h
      refine pz_X7_58 B hR (h0.at0 rfl) (Or.inr rfl) dX7_readDefault_22 (fun H locs hR => ?_)
      rw [← eM_22] at hR
      refine lv_aload_n hx hb dX7_readDefault_25 rfl (lv_at hl 0 rfl) ?_
      obtain ⟨M_26, hc_26, h⟩ := bm_el h
      refine iv_X7_32 B hR (h0.at0 rfl) hl.1 (mX7_next fu _ h0 hc_26) (Nat.le_of_ble_eq_true rfl) dX7_readDefault_26 (fun H locs hR => ?_)
      refine lv_aload_n hx hb dX7_readDefault_29 rfl (lv_at hl 0 rfl) ?_
      refine gf_X7_22 B hR (h0.at0 rfl) dX7_readDefault_30 ?_
      refine lv_aload_n hx hb dX7_readDefault_33 rfl (lv_at hl 0 rfl) ?_
      obtain ⟨r_34, hc_34, h⟩ := bi_el h
      refine iv_X7_125 B hR (h0.at0 rfl) hl.1 (mX7_kindHere fu _ h0 hc_34) (Nat.le_of_ble_eq_true rfl) dX7_readDefault_34 (fun H locs hR => ?_)
      obtain ⟨M_37, eM_37, h⟩ := lt_el h
      refine pf_X7_129 B hR ((sb_7_4 h0).at0 rfl) dX7_readDefault_37 (fun H locs hR => ?_)
      rw [← eM_37] at hR
      refine lv_aload_n hx hb dX7_readDefault_40 rfl (lv_at hl 0 rfl) ?_
      refine gf_X7_22 B hR (h0.at0 rfl) dX7_readDefault_41 ?_
      refine gf_X7_129 B hR ((sb_7_4 h0).at0 rfl) dX7_readDefault_44 ?_
      refine lv_iconst (v := (-1)) hx hb dX7_readDefault_47 (by decide) ?_
      refine lv_icmp_ne (tgt := 59) hx hb dX7_readDefault_48 (by decide) (fun c_48 => ?_) (fun c_48 => ?_)
      · rw [if_neg c_48] at h
        refine lv_aload_n hx hb dX7_readDefault_59 rfl (lv_at hl 0 rfl) ?_
        obtain ⟨r_60, M_60, hc_60, h⟩ := bw_el h
        refine iv_X7_120 B hR (h0.at0 rfl) hl.1 (mX7_readStop fu _ h0 hc_60) (Nat.le_of_ble_eq_true rfl) dX7_readDefault_60 (fun H locs hR => ?_)
        exact wX7_readDefault_j63 B hr hlk  h hR (lv_sub hl [] rfl)
      · rw [if_pos c_48] at h
        refine lv_aload_n hx hb dX7_readDefault_51 rfl (lv_at hl 0 rfl) ?_
        refine lv_iconst (v := 1) hx hb dX7_readDefault_52 (by decide) ?_
        obtain ⟨r_53, M_53, hc_53, h⟩ := bw_el h
        refine iv_X7_106 B hR (h0.at0 rfl) hl.1 (mX7_failed fu _ h0 hc_53) (Nat.le_of_ble_eq_true rfl) dX7_readDefault_53 (fun H locs hR => ?_)
        refine lv_goto (tgt := 63) hx hb dX7_readDefault_56 (by decide) ?_
        exact wX7_readDefault_j63 B hr hlk  h hR (lv_sub hl [] rfl)
    · rw [if_neg c_11] at h
      exact wX7_readDefault_j14 B hr hlk h0 h hR hl
def fX7_readFixed_j107 (fu : Nat) (M : Mm) : Option (Int32 × Mm) :=
  some (0, M)
set_option maxRecDepth 100000 in
set_option maxHeartbeats 4000000 in
theorem wX7_readFixed_j107 {r : Int32} {M' : Mm}    {M : Mm} (B : Bx p s m args c cX7_readFixed 3 RX7 E L) (hr : meth.sig.returnType = (some .boolean)) (hlk : meth.locks = false)   (h : fX7_readFixed_j107 fu M = some (r, M')) (hR : Rx s E L M H locs) (hl : lv_has ls 3 []) : W p l e (rmD (d + 6)) s m args below meth c H locs 0 0 (MQ below (QcM E L (some (.int r)) M') args s 0 0 E.2.2.2) (F0 m 107 ls []) := by
  have hx := B.1
  have hb := B.2.1
  unfold fX7_readFixed_j107 at h
  refine lv_iconst (v := 0) hx hb dX7_readFixed_107 (by decide) ?_
  exact r_zretW B hR hr hlk (Or.inl rfl) h dX7_readFixed_108
def fX7_readFixed_j85 (fu : Nat) (a0 : Nat) (M : Mm) : Option (Int32 × Mm) :=
  bw (fX7_failed fu a0 4 M) fun r_87 M_87 =>
  gd (r_87 = 0 ∨ r_87 = 1) <|
  some (r_87, M_87)
set_option maxRecDepth 100000 in
set_option maxHeartbeats 4000000 in
theorem wX7_readFixed_j85 {r : Int32} {M' : Mm}   {a0 : Nat} {M : Mm} (B : Bx p s m args c cX7_readFixed 3 RX7 E L) (hr : meth.sig.returnType = (some .boolean)) (hlk : meth.locks = false)  (h0 : At L a0 T7) (h : fX7_readFixed_j85 fu a0 M = some (r, M')) (hR : Rx s E L M H locs) (hl : lv_has ls 3 [(0, .ref a0)]) : W p l e (rmD (d + 6)) s m args below meth c H locs 0 0 (MQ below (QcM E L (some (.int r)) M') args s 0 0 E.2.2.2) (F0 m 85 ls []) := by
  have hx := B.1
  have hb := B.2.1
  unfold fX7_readFixed_j85 at h
  refine lv_aload_n hx hb dX7_readFixed_85 rfl (lv_at hl 0 rfl) ?_
  refine lv_iconst (v := 4) hx hb dX7_readFixed_86 (by decide) ?_
  obtain ⟨r_87, M_87, hc_87, h⟩ := bw_el h
  refine iv_X7_106 B hR (h0.at0 rfl) hl.1 (mX7_failed fu _ h0 hc_87) (Nat.le_of_ble_eq_true rfl) dX7_readFixed_87 (fun H locs hR => ?_)
  obtain ⟨hz_90, h⟩ := gd_el h
  exact r_zretW B hR hr hlk hz_90 h dX7_readFixed_90
def fX7_readFixed_j73 (fu : Nat) (a0 : Nat) (x1 : Int32) (M : Mm) : Option (Int32 × Mm) :=
  bw (fX7_fixedStops fu a0 x1 M) fun r_75 M_75 =>
  gd (r_75 = 0 ∨ r_75 = 1) <|
  some (r_75, M_75)
set_option maxRecDepth 100000 in
set_option maxHeartbeats 4000000 in
theorem wX7_readFixed_j73 {r : Int32} {M' : Mm}   {a0 : Nat} {x1 : Int32} {M : Mm} (B : Bx p s m args c cX7_readFixed 3 RX7 E L) (hr : meth.sig.returnType = (some .boolean)) (hlk : meth.locks = false)  (h0 : At L a0 T7) (h : fX7_readFixed_j73 fu a0 x1 M = some (r, M')) (hR : Rx s E L M H locs) (hl : lv_has ls 3 [(0, .ref a0), (1, .int x1)]) : W p l e (rmD (d + 6)) s m args below meth c H locs 0 0 (MQ below (QcM E L (some (.int r)) M') args s 0 0 E.2.2.2) (F0 m 73 ls []) := by
  have hx := B.1
  have hb := B.2.1
  unfold fX7_readFixed_j73 at h
  refine lv_aload_n hx hb dX7_readFixed_73 rfl (lv_at hl 0 rfl) ?_
  refine lv_iload_n hx hb dX7_readFixed_74 rfl (lv_at hl 1 rfl) ?_
  obtain ⟨r_75, M_75, hc_75, h⟩ := bw_el h
  refine iv_X7_140 B hR (h0.at0 rfl) hl.1 (mX7_fixedStops fu _ h0 hc_75) (Nat.le_of_ble_eq_true rfl) dX7_readFixed_75 (fun H locs hR => ?_)
  obtain ⟨hz_78, h⟩ := gd_el h
  exact r_zretW B hR hr hlk hz_78 h dX7_readFixed_78
def fX7_readFixed_b53 (fu : Nat) (k53 : Int32 → Mm → Option (Int32 × Mm)) (a0 : Nat) (x1 : Int32) (M : Mm) : Option (Int32 × Mm) :=
  if 8 < x1 then
    fX7_readFixed_j107 fu M
  else
    bm (fX7_next fu a0 M) fun M_60 =>
    bi (fX7_kindHere fu a0 M_60) fun r_64 =>
    if r_64 = (-1) then
      fX7_readFixed_j73 fu a0 x1 M_60
    else
      if x1 = 8 then
        fX7_readFixed_j85 fu a0 M_60
      else
        if x1 < 0 ∨ 8 ≤ ix x1 then none else
        lt (wI M_60 ((a0 + 2) + 4) (ix x1) r_64) fun M_100 =>
        lt (x1 + 1) fun x1_101 =>
        k53 x1_101 M_100
set_option maxRecDepth 100000 in
set_option maxHeartbeats 4000000 in
theorem wX7_readFixed_b53 {r : Int32} {M' : Mm}   {k53 : Int32 → Mm → Option (Int32 × Mm)} {a0 : Nat} {x1 : Int32} {M : Mm} (B : Bx p s m args c cX7_readFixed 3 RX7 E L) (hr : meth.sig.returnType = (some .boolean)) (hlk : meth.locks = false)  (ih53 : ∀ (x1 : Int32) (M : Mm), k53 x1 M = some (r, M') → ∀ (H : Heap) (locs : List Loc) (ls : Array Slot), Rx s E L M H locs → lv_has ls 3 [(0, .ref a0), (1, .int x1)] → W p l e (rmD (d + 6)) s m args below meth c H locs 0 0 (MQ below (QcM E L (some (.int r)) M') args s 0 0 E.2.2.2) (F0 m 53 ls [])) (h0 : At L a0 T7) (h : fX7_readFixed_b53 fu k53 a0 x1 M = some (r, M')) (hR : Rx s E L M H locs) (hl : lv_has ls 3 [(0, .ref a0), (1, .int x1)]) : W p l e (rmD (d + 6)) s m args below meth c H locs 0 0 (MQ below (QcM E L (some (.int r)) M') args s 0 0 E.2.2.2) (F0 m 53 ls []) := by
  have hx := B.1
  have hb := B.2.1
  unfold fX7_readFixed_b53 at h
  refine lv_iload_n hx hb dX7_readFixed_53 rfl (lv_at hl 1 rfl) ?_
  refine lv_bipush (v := 8) hx hb dX7_readFixed_54 (by decide) ?_
  refine lv_icmp_gt (tgt := 107) hx hb dX7_readFixed_56 (by decide) (fun c_56 => ?_) (fun c_56 => ?_)
  · rw [if_pos c_56] at h
    exact wX7_readFixed_j107 B hr hlk  h hR (lv_sub hl [] rfl)
  · rw [if_neg c_56] at h
    refine lv_aload_n hx hb dX7_readFixed_59 rfl (lv_at hl 0 rfl) ?_
    obtain ⟨M_60, hc_60, h⟩ := bm_el h
    refine iv_X7_32 B hR (h0.at0 rfl) hl.1 (mX7_next fu _ h0 hc_60) (Nat.le_of_ble_eq_true rfl) dX7_readFixed_60 (fun H locs hR => ?_)
    refine lv_aload_n hx hb dX7_readFixed_63 rfl (lv_at hl 0 rfl) ?_
    obtain ⟨r_64, hc_64, h⟩ := bi_el h
    refine iv_X7_125 B hR (h0.at0 rfl) hl.1 (mX7_kindHere fu _ h0 hc_64) (Nat.le_of_ble_eq_true rfl) dX7_readFixed_64 (fun H locs hR => ?_)
    refine lv_istore_n (lv' := [(2, .int r_64), (0, .ref a0), (1, .int x1)]) hx hb dX7_readFixed_67 rfl hl (by decide) rfl (fun ls hl => ?_)
    refine lv_iload_n hx hb dX7_readFixed_68 rfl (lv_at hl 0 rfl) ?_
    refine lv_iconst (v := (-1)) hx hb dX7_readFixed_69 (by decide) ?_
    refine lv_icmp_ne (tgt := 79) hx hb dX7_readFixed_70 (by decide) (fun c_70 => ?_) (fun c_70 => ?_)
    · rw [if_neg c_70] at h
      refine lv_iload_n hx hb dX7_readFixed_79 rfl (lv_at hl 2 rfl) ?_
      refine lv_bipush (v := 8) hx hb dX7_readFixed_80 (by decide) ?_
      refine lv_icmp_ne (tgt := 91) hx hb dX7_readFixed_82 (by decide) (fun c_82 => ?_) (fun c_82 => ?_)
      · rw [if_neg c_82] at h
        refine lv_aload_n hx hb dX7_readFixed_91 rfl (lv_at hl 1 rfl) ?_
        refine gf_X7_22 B hR (h0.at0 rfl) dX7_readFixed_92 ?_
        refine gf_X7_143 B hR ((sb_7_4 h0).at0 rfl) dX7_readFixed_95 ?_
        refine lv_iload_n hx hb dX7_readFixed_98 rfl (lv_at hl 2 rfl) ?_
        refine lv_iload_n hx hb dX7_readFixed_99 rfl (lv_at hl 0 rfl) ?_
        obtain ⟨hi_100, h⟩ := ifn_el h
        obtain ⟨M_100, eM_100, h⟩ := lt_el h
        refine r_iast B hR ((sb_7_4 h0).at 4 rfl) hi_100 dX7_readFixed_100 (fun H locs hR => ?_)
        rw [← eM_100] at hR
        obtain ⟨x1_101, ex1_101, h⟩ := lt_el h
        refine lv_iinc (v := x1_101) (lv' := [(1, .int x1_101), (2, .int r_64), (0, .ref a0)]) hx hb dX7_readFixed_101 hl (k := 2) rfl (by rw [ex1_101]; rfl) (by decide) rfl (fun ls hl => ?_)
        refine lv_goto (tgt := 53) hx hb dX7_readFixed_104 (by decide) ?_
        exact ih53 x1_101 M_100 h _ _ _ hR (lv_sub hl [2, 0] rfl)
      · rw [if_pos c_82] at h
        exact wX7_readFixed_j85 B hr hlk h0 h hR (lv_sub hl [1] rfl)
    · rw [if_pos c_70] at h
      exact wX7_readFixed_j73 B hr hlk h0 h hR (lv_sub hl [1, 2] rfl)
def fX7_readFixed_l53 (fu : Nat) (a0 : Nat) (x1 : Int32) (M : Mm) : Option (Int32 × Mm) := lp (fun (rec : (Int32 × Mm) → Option (Int32 × Mm)) (s : Int32 × Mm) => fX7_readFixed_b53 fu  (fun x1 M => rec (x1, M)) a0 s.1 s.2) fu (x1, M)
set_option maxRecDepth 100000 in
set_option maxHeartbeats 4000000 in
theorem wX7_readFixed_l53 {r : Int32} {M' : Mm}   {a0 : Nat} {x1 : Int32} {M : Mm} (B : Bx p s m args c cX7_readFixed 3 RX7 E L) (hr : meth.sig.returnType = (some .boolean)) (hlk : meth.locks = false)  (h0 : At L a0 T7) (h : fX7_readFixed_l53 fu a0 x1 M = some (r, M')) (hR : Rx s E L M H locs) (hl : lv_has ls 3 [(0, .ref a0), (1, .int x1)]) : W p l e (rmD (d + 6)) s m args below meth c H locs 0 0 (MQ below (QcM E L (some (.int r)) M') args s 0 0 E.2.2.2) (F0 m 53 ls []) := by
  refine lp_G (G := fun z : Int32 × Mm => ∀ (H : Heap) (locs : List Loc) (ls : Array Slot), Rx s E L z.2 H locs → lv_has ls 3 [(0, .ref a0), (1, .int z.1)] → W p l e (rmD (d + 6)) s m args below meth c H locs 0 0 (MQ below (QcM E L (some (.int r)) M') args s 0 0 E.2.2.2) (F0 m 53 ls [])) (fun rec ih z h H locs ls hR hl => ?_) fu _ h H locs ls hR hl
  exact wX7_readFixed_b53 B hr hlk  (fun x1 M h => ih (x1, M) h) h0 h hR hl
def fX7_readFixed (fu : Nat) (a0 : Nat) (M : Mm) : Option (Int32 × Mm) :=
  if (M.1 a0 12) = 0 then
    lt (wI M a0 12 1) fun M_15 =>
    bi (fJ6_numberOfTrailingZeros_0f7a4 fu (M_15.1 (a0 + 2) 0)) fun r_27 =>
    bw (fX7_readNumber fu a0 3 r_27 M_15) fun r_30 M_30 =>
    if r_30 = 0 then
      some (0, M_30)
    else
      lt (wI M_30 (a0 + 2) 4 (1 <<< ((M_30.1 a0 8) &&& 31))) fun M_48 =>
      fX7_readFixed_l53 fu a0 0 M_48
  else
    bw (fX7_failed fu a0 3 M) fun r_9 M_9 =>
    gd (r_9 = 0 ∨ r_9 = 1) <|
    some (r_9, M_9)
set_option maxRecDepth 100000 in
set_option maxHeartbeats 4000000 in
theorem mX7_readFixed {l : Launch} {E : Ge} {L : Lay} (fu d : Nat) {a0 : Nat} {M : Mm} {r : Int32} {M' : Mm}  (h0 : At L a0 T7) (h : fX7_readFixed fu a0 M = some (r, M')) : Ct l E L yX7_readFixed cX7_readFixed 3 (some .boolean) (d + 6) [.ref a0] M (some (.int r)) M' := by
  refine Ct.of (by decide) ?_
  intro p e s m below meth c hr hlk B hR
  have B : Bx p s m _ c cX7_readFixed 3 RX7 E L := B
  have hx := B.1
  have hb := B.2.1
  have hl := lv_entry ([.ref a0]) (n := 3) (Nat.le_of_ble_eq_true rfl)
  rw [lg_entry_eq]
  generalize (lg_sl ([.ref a0]) ++ List.replicate (3 - (lg_sl ([.ref a0])).length) Slot.unset).toArray = ls at hl ⊢
  have hl : lv_has ls 3 [(0, .ref a0)] := hl
  unfold fX7_readFixed at h
  refine lv_aload_n hx hb dX7_readFixed_0 rfl (lv_at hl 0 rfl) ?_
  refine gf_X7_61 B hR (h0.at0 rfl) dX7_readFixed_1 ?_
  refine lv_if_eq (tgt := 13) hx hb dX7_readFixed_4 (by decide) (fun c_4 => ?_) (fun c_4 => ?_)
  · rw [if_pos c_4] at h
    refine lv_aload_n hx hb dX7_readFixed_13 rfl (lv_at hl 0 rfl) ?_
    refine lv_iconst (v := 1) hx hb dX7_readFixed_14 (by decide) ?_
    obtain ⟨M_15, eM_15, h⟩ := lt_el h
    refine pz_X7_61 B hR (h0.at0 rfl) (Or.inr rfl) dX7_readFixed_15 (fun H locs hR => ?_)
    rw [← eM_15] at hR
    refine lv_aload_n hx hb dX7_readFixed_18 rfl (lv_at hl 0 rfl) ?_
    refine lv_iconst (v := 3) hx hb dX7_readFixed_19 (by decide) ?_
    refine lv_aload_n hx hb dX7_readFixed_20 rfl (lv_at hl 0 rfl) ?_
    refine gf_X7_22 B hR (h0.at0 rfl) dX7_readFixed_21 ?_
    refine gf_X7_117 B hR ((sb_7_4 h0).at0 rfl) dX7_readFixed_24 ?_
    obtain ⟨r_27, hc_27, h⟩ := bi_el h
    refine is_X7_132 B hR hl.1 (mJ6_numberOfTrailingZeros_0f7a4 fu _  hc_27) (Nat.le_of_ble_eq_true rfl) dX7_readFixed_27 (fun H locs hR => ?_)
    obtain ⟨r_30, M_30, hc_30, h⟩ := bw_el h
    refine iv_X7_110 B hR (h0.at0 rfl) hl.1 (mX7_readNumber fu _ h0 hc_30) (Nat.le_of_ble_eq_true rfl) dX7_readFixed_30 (fun H locs hR => ?_)
    refine lv_if_ne (tgt := 38) hx hb dX7_readFixed_33 (by decide) (fun c_33 => ?_) (fun c_33 => ?_)
    · rw [if_neg c_33] at h
      refine lv_aload_n hx hb dX7_readFixed_38 rfl (lv_at hl 0 rfl) ?_
      refine gf_X7_22 B hR (h0.at0 rfl) dX7_readFixed_39 ?_
      refine lv_iconst (v := 1) hx hb dX7_readFixed_42 (by decide) ?_
      refine lv_aload_n hx hb dX7_readFixed_43 rfl (lv_at hl 0 rfl) ?_
      refine gf_X7_114 B hR (h0.at0 rfl) dX7_readFixed_44 ?_
      refine lv_ishl hx hb dX7_readFixed_47 ?_
      obtain ⟨M_48, eM_48, h⟩ := lt_el h
      refine pf_X7_138 B hR ((sb_7_4 h0).at0 rfl) dX7_readFixed_48 (fun H locs hR => ?_)
      rw [← eM_48] at hR
      refine lv_iconst (v := 0) hx hb dX7_readFixed_51 (by decide) ?_
      refine lv_istore_n (lv' := [(1, .int 0), (0, .ref a0)]) hx hb dX7_readFixed_52 rfl hl (by decide) rfl (fun ls hl => ?_)
      exact wX7_readFixed_l53 B hr hlk h0 h hR (lv_sub hl [1, 0] rfl)
    · rw [if_pos c_33] at h
      refine lv_iconst (v := 0) hx hb dX7_readFixed_36 (by decide) ?_
      exact r_zretW B hR hr hlk (Or.inl rfl) h dX7_readFixed_37
  · rw [if_neg c_4] at h
    refine lv_aload_n hx hb dX7_readFixed_7 rfl (lv_at hl 0 rfl) ?_
    refine lv_iconst (v := 3) hx hb dX7_readFixed_8 (by decide) ?_
    obtain ⟨r_9, M_9, hc_9, h⟩ := bw_el h
    refine iv_X7_106 B hR (h0.at0 rfl) hl.1 (mX7_failed fu _ h0 hc_9) (Nat.le_of_ble_eq_true rfl) dX7_readFixed_9 (fun H locs hR => ?_)
    obtain ⟨hz_12, h⟩ := gd_el h
    exact r_zretW B hR hr hlk hz_12 h dX7_readFixed_12
def fX7_readSpan (fu : Nat) (a0 : Nat) (M : Mm) : Option (Int32 × Mm) :=
  if (M.1 (a0 + 2) 3) < 12 then
    bw (fX7_readNumber fu a0 0 ((M.1 (a0 + 2) 0) - 1) M) fun r_29 M_29 =>
    if r_29 = 0 then
      some (0, M_29)
    else
      lt ((M_29.1 a0 8)) fun x1_41 =>
      bw (fX7_readNumber fu a0 x1_41 ((M_29.1 (a0 + 2) 0) - 1) M_29) fun r_53 M_53 =>
      if r_53 = 0 then
        some (0, M_53)
      else
        lt ((M_53.1 a0 8)) fun x2_65 =>
        bm (fX7_next fu a0 M_53) fun M_67 =>
        bi (fX7_kindHere fu a0 M_67) fun r_71 =>
        if r_71 = (-1) then
          bw (fX7_failed fu a0 1 M_67) fun r_82 M_82 =>
          gd (r_82 = 0 ∨ r_82 = 1) <|
          some (r_82, M_82)
        else
          bm (fX8_addSpan fu (a0 + 2) x1_41 x2_65 r_71 M_67) fun M_93 =>
          bw (fX7_readStop fu a0 M_93) fun r_97 M_97 =>
          gd (r_97 = 0 ∨ r_97 = 1) <|
          some (r_97, M_97)
  else
    bw (fX7_failed fu a0 4 M) fun r_14 M_14 =>
    gd (r_14 = 0 ∨ r_14 = 1) <|
    some (r_14, M_14)
set_option maxRecDepth 100000 in
set_option maxHeartbeats 4000000 in
theorem mX7_readSpan {l : Launch} {E : Ge} {L : Lay} (fu d : Nat) {a0 : Nat} {M : Mm} {r : Int32} {M' : Mm}  (h0 : At L a0 T7) (h : fX7_readSpan fu a0 M = some (r, M')) : Ct l E L yX7_readSpan cX7_readSpan 4 (some .boolean) (d + 6) [.ref a0] M (some (.int r)) M' := by
  refine Ct.of (by decide) ?_
  intro p e s m below meth c hr hlk B hR
  have B : Bx p s m _ c cX7_readSpan 4 RX7 E L := B
  have hx := B.1
  have hb := B.2.1
  have hl := lv_entry ([.ref a0]) (n := 4) (Nat.le_of_ble_eq_true rfl)
  rw [lg_entry_eq]
  generalize (lg_sl ([.ref a0]) ++ List.replicate (4 - (lg_sl ([.ref a0])).length) Slot.unset).toArray = ls at hl ⊢
  have hl : lv_has ls 4 [(0, .ref a0)] := hl
  unfold fX7_readSpan at h
  refine lv_aload_n hx hb dX7_readSpan_0 rfl (lv_at hl 0 rfl) ?_
  refine gf_X7_22 B hR (h0.at0 rfl) dX7_readSpan_1 ?_
  refine gf_X7_146 B hR ((sb_7_4 h0).at0 rfl) dX7_readSpan_4 ?_
  refine lv_bipush (v := 12) hx hb dX7_readSpan_7 (by decide) ?_
  refine lv_icmp_lt (tgt := 18) hx hb dX7_readSpan_9 (by decide) (fun c_9 => ?_) (fun c_9 => ?_)
  · rw [if_pos c_9] at h
    refine lv_aload_n hx hb dX7_readSpan_18 rfl (lv_at hl 0 rfl) ?_
    refine lv_iconst (v := 0) hx hb dX7_readSpan_19 (by decide) ?_
    refine lv_aload_n hx hb dX7_readSpan_20 rfl (lv_at hl 0 rfl) ?_
    refine gf_X7_22 B hR (h0.at0 rfl) dX7_readSpan_21 ?_
    refine gf_X7_117 B hR ((sb_7_4 h0).at0 rfl) dX7_readSpan_24 ?_
    refine lv_iconst (v := 1) hx hb dX7_readSpan_27 (by decide) ?_
    refine lv_isub hx hb dX7_readSpan_28 ?_
    obtain ⟨r_29, M_29, hc_29, h⟩ := bw_el h
    refine iv_X7_110 B hR (h0.at0 rfl) hl.1 (mX7_readNumber fu _ h0 hc_29) (Nat.le_of_ble_eq_true rfl) dX7_readSpan_29 (fun H locs hR => ?_)
    refine lv_if_ne (tgt := 37) hx hb dX7_readSpan_32 (by decide) (fun c_32 => ?_) (fun c_32 => ?_)
    · rw [if_neg c_32] at h
      refine lv_aload_n hx hb dX7_readSpan_37 rfl (lv_at hl 0 rfl) ?_
      refine gf_X7_114 B hR (h0.at0 rfl) dX7_readSpan_38 ?_
      obtain ⟨x1_41, ex1_41, h⟩ := lt_el h
      refine r_nmI ex1_41 ?_
      refine lv_istore_n (lv' := [(1, .int x1_41), (0, .ref a0)]) hx hb dX7_readSpan_41 rfl hl (by decide) rfl (fun ls hl => ?_)
      refine lv_aload_n hx hb dX7_readSpan_42 rfl (lv_at hl 1 rfl) ?_
      refine lv_iload_n hx hb dX7_readSpan_43 rfl (lv_at hl 0 rfl) ?_
      refine lv_aload_n hx hb dX7_readSpan_44 rfl (lv_at hl 1 rfl) ?_
      refine gf_X7_22 B hR (h0.at0 rfl) dX7_readSpan_45 ?_
      refine gf_X7_117 B hR ((sb_7_4 h0).at0 rfl) dX7_readSpan_48 ?_
      refine lv_iconst (v := 1) hx hb dX7_readSpan_51 (by decide) ?_
      refine lv_isub hx hb dX7_readSpan_52 ?_
      obtain ⟨r_53, M_53, hc_53, h⟩ := bw_el h
      refine iv_X7_110 B hR (h0.at0 rfl) hl.1 (mX7_readNumber fu _ h0 hc_53) (Nat.le_of_ble_eq_true rfl) dX7_readSpan_53 (fun H locs hR => ?_)
      refine lv_if_ne (tgt := 61) hx hb dX7_readSpan_56 (by decide) (fun c_56 => ?_) (fun c_56 => ?_)
      · rw [if_neg c_56] at h
        refine lv_aload_n hx hb dX7_readSpan_61 rfl (lv_at hl 1 rfl) ?_
        refine gf_X7_114 B hR (h0.at0 rfl) dX7_readSpan_62 ?_
        obtain ⟨x2_65, ex2_65, h⟩ := lt_el h
        refine r_nmI ex2_65 ?_
        refine lv_istore_n (lv' := [(2, .int x2_65), (1, .int x1_41), (0, .ref a0)]) hx hb dX7_readSpan_65 rfl hl (by decide) rfl (fun ls hl => ?_)
        refine lv_aload_n hx hb dX7_readSpan_66 rfl (lv_at hl 2 rfl) ?_
        obtain ⟨M_67, hc_67, h⟩ := bm_el h
        refine iv_X7_32 B hR (h0.at0 rfl) hl.1 (mX7_next fu _ h0 hc_67) (Nat.le_of_ble_eq_true rfl) dX7_readSpan_67 (fun H locs hR => ?_)
        refine lv_aload_n hx hb dX7_readSpan_70 rfl (lv_at hl 2 rfl) ?_
        obtain ⟨r_71, hc_71, h⟩ := bi_el h
        refine iv_X7_125 B hR (h0.at0 rfl) hl.1 (mX7_kindHere fu _ h0 hc_71) (Nat.le_of_ble_eq_true rfl) dX7_readSpan_71 (fun H locs hR => ?_)
        refine lv_istore_n (lv' := [(3, .int r_71), (2, .int x2_65), (1, .int x1_41), (0, .ref a0)]) hx hb dX7_readSpan_74 rfl hl (by decide) rfl (fun ls hl => ?_)
        refine lv_iload_n hx hb dX7_readSpan_75 rfl (lv_at hl 0 rfl) ?_
        refine lv_iconst (v := (-1)) hx hb dX7_readSpan_76 (by decide) ?_
        refine lv_icmp_ne (tgt := 86) hx hb dX7_readSpan_77 (by decide) (fun c_77 => ?_) (fun c_77 => ?_)
        · rw [if_neg c_77] at h
          refine lv_aload_n hx hb dX7_readSpan_86 rfl (lv_at hl 3 rfl) ?_
          refine gf_X7_22 B hR (h0.at0 rfl) dX7_readSpan_87 ?_
          refine lv_iload_n hx hb dX7_readSpan_90 rfl (lv_at hl 2 rfl) ?_
          refine lv_iload_n hx hb dX7_readSpan_91 rfl (lv_at hl 1 rfl) ?_
          refine lv_iload_n hx hb dX7_readSpan_92 rfl (lv_at hl 0 rfl) ?_
          obtain ⟨M_93, hc_93, h⟩ := bm_el h
          refine iv_X7_149 B hR ((sb_7_4 h0).at0 rfl) hl.1 (mX8_addSpan fu _ (sb_7_4 h0) hc_93) (Nat.le_of_ble_eq_true rfl) dX7_readSpan_93 (fun H locs hR => ?_)
          refine lv_aload_n hx hb dX7_readSpan_96 rfl (lv_at hl 3 rfl) ?_
          obtain ⟨r_97, M_97, hc_97, h⟩ := bw_el h
          refine iv_X7_120 B hR (h0.at0 rfl) hl.1 (mX7_readStop fu _ h0 hc_97) (Nat.le_of_ble_eq_true rfl) dX7_readSpan_97 (fun H locs hR => ?_)
          obtain ⟨hz_100, h⟩ := gd_el h
          exact r_zretW B hR hr hlk hz_100 h dX7_readSpan_100
        · rw [if_pos c_77] at h
          refine lv_aload_n hx hb dX7_readSpan_80 rfl (lv_at hl 3 rfl) ?_
          refine lv_iconst (v := 1) hx hb dX7_readSpan_81 (by decide) ?_
          obtain ⟨r_82, M_82, hc_82, h⟩ := bw_el h
          refine iv_X7_106 B hR (h0.at0 rfl) hl.1 (mX7_failed fu _ h0 hc_82) (Nat.le_of_ble_eq_true rfl) dX7_readSpan_82 (fun H locs hR => ?_)
          obtain ⟨hz_85, h⟩ := gd_el h
          exact r_zretW B hR hr hlk hz_85 h dX7_readSpan_85
      · rw [if_pos c_56] at h
        refine lv_iconst (v := 0) hx hb dX7_readSpan_59 (by decide) ?_
        exact r_zretW B hR hr hlk (Or.inl rfl) h dX7_readSpan_60
    · rw [if_pos c_32] at h
      refine lv_iconst (v := 0) hx hb dX7_readSpan_35 (by decide) ?_
      exact r_zretW B hR hr hlk (Or.inl rfl) h dX7_readSpan_36
  · rw [if_neg c_9] at h
    refine lv_aload_n hx hb dX7_readSpan_12 rfl (lv_at hl 0 rfl) ?_
    refine lv_iconst (v := 4) hx hb dX7_readSpan_13 (by decide) ?_
    obtain ⟨r_14, M_14, hc_14, h⟩ := bw_el h
    refine iv_X7_106 B hR (h0.at0 rfl) hl.1 (mX7_failed fu _ h0 hc_14) (Nat.le_of_ble_eq_true rfl) dX7_readSpan_14 (fun H locs hR => ?_)
    obtain ⟨hz_17, h⟩ := gd_el h
    exact r_zretW B hR hr hlk hz_17 h dX7_readSpan_17
def fX7_readRegister (fu : Nat) (a0 : Nat) (M : Mm) : Option (Int32 × Mm) :=
  bi (fX8_countSet fu (a0 + 2) M) fun r_4 =>
  if r_4 < (M.1 (a0 + 2) 1) then
    bw (fX7_readNumber fu a0 0 ((M.1 (a0 + 2) 0) - 1) M) fun r_36 M_36 =>
    if r_36 = 0 then
      some (0, M_36)
    else
      lt ((M_36.1 a0 8)) fun x2_48 =>
      bw (fX7_readNumber fu a0 1 (M_36.1 (a0 + 2) 0) M_36) fun r_58 M_58 =>
      if r_58 = 0 then
        some (0, M_58)
      else
        lt ((M_58.1 a0 8)) fun x3_70 =>
        bi (fX8_fits fu (a0 + 2) x2_48 x3_70 M_58) fun r_77 =>
        if r_77 = 0 then
          bw (fX7_failed fu a0 2 M_58) fun r_85 M_85 =>
          gd (r_85 = 0 ∨ r_85 = 1) <|
          some (r_85, M_85)
        else
          bi (fX8_holderOf fu (a0 + 2) x2_48 x3_70 M_58) fun r_95 =>
          if r_95 = (-1) then
            bm (fX7_next fu a0 M_58) fun M_109 =>
            bi (fX7_kindHere fu a0 M_109) fun r_113 =>
            if r_113 = (-1) then
              bw (fX7_failed fu a0 1 M_109) fun r_126 M_126 =>
              gd (r_126 = 0 ∨ r_126 = 1) <|
              some (r_126, M_126)
            else
              bm (fX8_put fu (a0 + 2) r_4 x2_48 x3_70 r_113 M_109) fun M_139 =>
              bw (fX7_readStop fu a0 M_139) fun r_143 M_143 =>
              gd (r_143 = 0 ∨ r_143 = 1) <|
              some (r_143, M_143)
          else
            bw (fX7_failed fu a0 3 M_58) fun r_104 M_104 =>
            gd (r_104 = 0 ∨ r_104 = 1) <|
            some (r_104, M_104)
  else
    bw (fX7_failed fu a0 4 M) fun r_21 M_21 =>
    gd (r_21 = 0 ∨ r_21 = 1) <|
    some (r_21, M_21)
set_option maxRecDepth 100000 in
set_option maxHeartbeats 4000000 in
theorem mX7_readRegister {l : Launch} {E : Ge} {L : Lay} (fu d : Nat) {a0 : Nat} {M : Mm} {r : Int32} {M' : Mm}  (h0 : At L a0 T7) (h : fX7_readRegister fu a0 M = some (r, M')) : Ct l E L yX7_readRegister cX7_readRegister 5 (some .boolean) (d + 6) [.ref a0] M (some (.int r)) M' := by
  refine Ct.of (by decide) ?_
  intro p e s m below meth c hr hlk B hR
  have B : Bx p s m _ c cX7_readRegister 5 RX7 E L := B
  have hx := B.1
  have hb := B.2.1
  have hl := lv_entry ([.ref a0]) (n := 5) (Nat.le_of_ble_eq_true rfl)
  rw [lg_entry_eq]
  generalize (lg_sl ([.ref a0]) ++ List.replicate (5 - (lg_sl ([.ref a0])).length) Slot.unset).toArray = ls at hl ⊢
  have hl : lv_has ls 5 [(0, .ref a0)] := hl
  unfold fX7_readRegister at h
  refine lv_aload_n hx hb dX7_readRegister_0 rfl (lv_at hl 0 rfl) ?_
  refine gf_X7_22 B hR (h0.at0 rfl) dX7_readRegister_1 ?_
  obtain ⟨r_4, hc_4, h⟩ := bi_el h
  refine iv_X7_153 B hR ((sb_7_4 h0).at0 rfl) hl.1 (mX8_countSet fu _ (sb_7_4 h0) hc_4) (Nat.le_of_ble_eq_true rfl) dX7_readRegister_4 (fun H locs hR => ?_)
  refine lv_istore_n (lv' := [(1, .int r_4), (0, .ref a0)]) hx hb dX7_readRegister_7 rfl hl (by decide) rfl (fun ls hl => ?_)
  refine lv_iload_n hx hb dX7_readRegister_8 rfl (lv_at hl 0 rfl) ?_
  refine lv_aload_n hx hb dX7_readRegister_9 rfl (lv_at hl 1 rfl) ?_
  refine gf_X7_22 B hR (h0.at0 rfl) dX7_readRegister_10 ?_
  refine gf_X7_123 B hR ((sb_7_4 h0).at0 rfl) dX7_readRegister_13 ?_
  refine lv_icmp_lt (tgt := 25) hx hb dX7_readRegister_16 (by decide) (fun c_16 => ?_) (fun c_16 => ?_)
  · rw [if_pos c_16] at h
    refine lv_aload_n hx hb dX7_readRegister_25 rfl (lv_at hl 1 rfl) ?_
    refine lv_iconst (v := 0) hx hb dX7_readRegister_26 (by decide) ?_
    refine lv_aload_n hx hb dX7_readRegister_27 rfl (lv_at hl 1 rfl) ?_
    refine gf_X7_22 B hR (h0.at0 rfl) dX7_readRegister_28 ?_
    refine gf_X7_117 B hR ((sb_7_4 h0).at0 rfl) dX7_readRegister_31 ?_
    refine lv_iconst (v := 1) hx hb dX7_readRegister_34 (by decide) ?_
    refine lv_isub hx hb dX7_readRegister_35 ?_
    obtain ⟨r_36, M_36, hc_36, h⟩ := bw_el h
    refine iv_X7_110 B hR (h0.at0 rfl) hl.1 (mX7_readNumber fu _ h0 hc_36) (Nat.le_of_ble_eq_true rfl) dX7_readRegister_36 (fun H locs hR => ?_)
    refine lv_if_ne (tgt := 44) hx hb dX7_readRegister_39 (by decide) (fun c_39 => ?_) (fun c_39 => ?_)
    · rw [if_neg c_39] at h
      refine lv_aload_n hx hb dX7_readRegister_44 rfl (lv_at hl 1 rfl) ?_
      refine gf_X7_114 B hR (h0.at0 rfl) dX7_readRegister_45 ?_
      obtain ⟨x2_48, ex2_48, h⟩ := lt_el h
      refine r_nmI ex2_48 ?_
      refine lv_istore_n (lv' := [(2, .int x2_48), (1, .int r_4), (0, .ref a0)]) hx hb dX7_readRegister_48 rfl hl (by decide) rfl (fun ls hl => ?_)
      refine lv_aload_n hx hb dX7_readRegister_49 rfl (lv_at hl 2 rfl) ?_
      refine lv_iconst (v := 1) hx hb dX7_readRegister_50 (by decide) ?_
      refine lv_aload_n hx hb dX7_readRegister_51 rfl (lv_at hl 2 rfl) ?_
      refine gf_X7_22 B hR (h0.at0 rfl) dX7_readRegister_52 ?_
      refine gf_X7_117 B hR ((sb_7_4 h0).at0 rfl) dX7_readRegister_55 ?_
      obtain ⟨r_58, M_58, hc_58, h⟩ := bw_el h
      refine iv_X7_110 B hR (h0.at0 rfl) hl.1 (mX7_readNumber fu _ h0 hc_58) (Nat.le_of_ble_eq_true rfl) dX7_readRegister_58 (fun H locs hR => ?_)
      refine lv_if_ne (tgt := 66) hx hb dX7_readRegister_61 (by decide) (fun c_61 => ?_) (fun c_61 => ?_)
      · rw [if_neg c_61] at h
        refine lv_aload_n hx hb dX7_readRegister_66 rfl (lv_at hl 2 rfl) ?_
        refine gf_X7_114 B hR (h0.at0 rfl) dX7_readRegister_67 ?_
        obtain ⟨x3_70, ex3_70, h⟩ := lt_el h
        refine r_nmI ex3_70 ?_
        refine lv_istore_n (lv' := [(3, .int x3_70), (2, .int x2_48), (1, .int r_4), (0, .ref a0)]) hx hb dX7_readRegister_70 rfl hl (by decide) rfl (fun ls hl => ?_)
        refine lv_aload_n hx hb dX7_readRegister_71 rfl (lv_at hl 3 rfl) ?_
        refine gf_X7_22 B hR (h0.at0 rfl) dX7_readRegister_72 ?_
        refine lv_iload_n hx hb dX7_readRegister_75 rfl (lv_at hl 1 rfl) ?_
        refine lv_iload_n hx hb dX7_readRegister_76 rfl (lv_at hl 0 rfl) ?_
        obtain ⟨r_77, hc_77, h⟩ := bi_el h
        refine iv_X7_156 B hR ((sb_7_4 h0).at0 rfl) hl.1 (mX8_fits fu _ (sb_7_4 h0) hc_77) (Nat.le_of_ble_eq_true rfl) dX7_readRegister_77 (fun H locs hR => ?_)
        refine lv_if_ne (tgt := 89) hx hb dX7_readRegister_80 (by decide) (fun c_80 => ?_) (fun c_80 => ?_)
        · rw [if_neg c_80] at h
          refine lv_aload_n hx hb dX7_readRegister_89 rfl (lv_at hl 3 rfl) ?_
          refine gf_X7_22 B hR (h0.at0 rfl) dX7_readRegister_90 ?_
          refine lv_iload_n hx hb dX7_readRegister_93 rfl (lv_at hl 1 rfl) ?_
          refine lv_iload_n hx hb dX7_readRegister_94 rfl (lv_at hl 0 rfl) ?_
          obtain ⟨r_95, hc_95, h⟩ := bi_el h
          refine iv_X7_159 B hR ((sb_7_4 h0).at0 rfl) hl.1 (mX8_holderOf fu _ (sb_7_4 h0) hc_95) (Nat.le_of_ble_eq_true rfl) dX7_readRegister_95 (fun H locs hR => ?_)
          refine lv_iconst (v := (-1)) hx hb dX7_readRegister_98 (by decide) ?_
          refine lv_icmp_eq (tgt := 108) hx hb dX7_readRegister_99 (by decide) (fun c_99 => ?_) (fun c_99 => ?_)
          · rw [if_pos c_99] at h
            refine lv_aload_n hx hb dX7_readRegister_108 rfl (lv_at hl 3 rfl) ?_
            obtain ⟨M_109, hc_109, h⟩ := bm_el h
            refine iv_X7_32 B hR (h0.at0 rfl) hl.1 (mX7_next fu _ h0 hc_109) (Nat.le_of_ble_eq_true rfl) dX7_readRegister_109 (fun H locs hR => ?_)
            refine lv_aload_n hx hb dX7_readRegister_112 rfl (lv_at hl 3 rfl) ?_
            obtain ⟨r_113, hc_113, h⟩ := bi_el h
            refine iv_X7_125 B hR (h0.at0 rfl) hl.1 (mX7_kindHere fu _ h0 hc_113) (Nat.le_of_ble_eq_true rfl) dX7_readRegister_113 (fun H locs hR => ?_)
            refine lv_istore (lv' := [(4, .int r_113), (3, .int x3_70), (2, .int x2_48), (1, .int r_4), (0, .ref a0)]) hx hb dX7_readRegister_116 hl (by decide) rfl (fun ls hl => ?_)
            refine lv_iload hx hb dX7_readRegister_118 (lv_at hl 0 rfl) ?_
            refine lv_iconst (v := (-1)) hx hb dX7_readRegister_120 (by decide) ?_
            refine lv_icmp_ne (tgt := 130) hx hb dX7_readRegister_121 (by decide) (fun c_121 => ?_) (fun c_121 => ?_)
            · rw [if_neg c_121] at h
              refine lv_aload_n hx hb dX7_readRegister_130 rfl (lv_at hl 4 rfl) ?_
              refine gf_X7_22 B hR (h0.at0 rfl) dX7_readRegister_131 ?_
              refine lv_iload_n hx hb dX7_readRegister_134 rfl (lv_at hl 3 rfl) ?_
              refine lv_iload_n hx hb dX7_readRegister_135 rfl (lv_at hl 2 rfl) ?_
              refine lv_iload_n hx hb dX7_readRegister_136 rfl (lv_at hl 1 rfl) ?_
              refine lv_iload hx hb dX7_readRegister_137 (lv_at hl 0 rfl) ?_
              obtain ⟨M_139, hc_139, h⟩ := bm_el h
              refine iv_X7_163 B hR ((sb_7_4 h0).at0 rfl) hl.1 (mX8_put fu _ (sb_7_4 h0) hc_139) (Nat.le_of_ble_eq_true rfl) dX7_readRegister_139 (fun H locs hR => ?_)
              refine lv_aload_n hx hb dX7_readRegister_142 rfl (lv_at hl 4 rfl) ?_
              obtain ⟨r_143, M_143, hc_143, h⟩ := bw_el h
              refine iv_X7_120 B hR (h0.at0 rfl) hl.1 (mX7_readStop fu _ h0 hc_143) (Nat.le_of_ble_eq_true rfl) dX7_readRegister_143 (fun H locs hR => ?_)
              obtain ⟨hz_146, h⟩ := gd_el h
              exact r_zretW B hR hr hlk hz_146 h dX7_readRegister_146
            · rw [if_pos c_121] at h
              refine lv_aload_n hx hb dX7_readRegister_124 rfl (lv_at hl 4 rfl) ?_
              refine lv_iconst (v := 1) hx hb dX7_readRegister_125 (by decide) ?_
              obtain ⟨r_126, M_126, hc_126, h⟩ := bw_el h
              refine iv_X7_106 B hR (h0.at0 rfl) hl.1 (mX7_failed fu _ h0 hc_126) (Nat.le_of_ble_eq_true rfl) dX7_readRegister_126 (fun H locs hR => ?_)
              obtain ⟨hz_129, h⟩ := gd_el h
              exact r_zretW B hR hr hlk hz_129 h dX7_readRegister_129
          · rw [if_neg c_99] at h
            refine lv_aload_n hx hb dX7_readRegister_102 rfl (lv_at hl 3 rfl) ?_
            refine lv_iconst (v := 3) hx hb dX7_readRegister_103 (by decide) ?_
            obtain ⟨r_104, M_104, hc_104, h⟩ := bw_el h
            refine iv_X7_106 B hR (h0.at0 rfl) hl.1 (mX7_failed fu _ h0 hc_104) (Nat.le_of_ble_eq_true rfl) dX7_readRegister_104 (fun H locs hR => ?_)
            obtain ⟨hz_107, h⟩ := gd_el h
            exact r_zretW B hR hr hlk hz_107 h dX7_readRegister_107
        · rw [if_pos c_80] at h
          refine lv_aload_n hx hb dX7_readRegister_83 rfl (lv_at hl 3 rfl) ?_
          refine lv_iconst (v := 2) hx hb dX7_readRegister_84 (by decide) ?_
          obtain ⟨r_85, M_85, hc_85, h⟩ := bw_el h
          refine iv_X7_106 B hR (h0.at0 rfl) hl.1 (mX7_failed fu _ h0 hc_85) (Nat.le_of_ble_eq_true rfl) dX7_readRegister_85 (fun H locs hR => ?_)
          obtain ⟨hz_88, h⟩ := gd_el h
          exact r_zretW B hR hr hlk hz_88 h dX7_readRegister_88
      · rw [if_pos c_61] at h
        refine lv_iconst (v := 0) hx hb dX7_readRegister_64 (by decide) ?_
        exact r_zretW B hR hr hlk (Or.inl rfl) h dX7_readRegister_65
    · rw [if_pos c_39] at h
      refine lv_iconst (v := 0) hx hb dX7_readRegister_42 (by decide) ?_
      exact r_zretW B hR hr hlk (Or.inl rfl) h dX7_readRegister_43
  · rw [if_neg c_16] at h
    refine lv_aload_n hx hb dX7_readRegister_19 rfl (lv_at hl 1 rfl) ?_
    refine lv_iconst (v := 4) hx hb dX7_readRegister_20 (by decide) ?_
    obtain ⟨r_21, M_21, hc_21, h⟩ := bw_el h
    refine iv_X7_106 B hR (h0.at0 rfl) hl.1 (mX7_failed fu _ h0 hc_21) (Nat.le_of_ble_eq_true rfl) dX7_readRegister_21 (fun H locs hR => ?_)
    obtain ⟨hz_24, h⟩ := gd_el h
    exact r_zretW B hR hr hlk hz_24 h dX7_readRegister_24
def fX7_readPage (fu : Nat) (a0 : Nat) (M : Mm) : Option (Int32 × Mm) :=
  bi (fX8_pages fu (a0 + 2) M) fun r_6 =>
  bw (fX7_readNumber fu a0 0 (r_6 - 1) M) fun r_11 M_11 =>
  if r_11 = 0 then
    some (0, M_11)
  else
    lt ((M_11.1 a0 8)) fun x1_23 =>
    if x1_23 < 0 ∨ 64 ≤ ix x1_23 then none else
    if (M_11.1 ((a0 + 2) + 8) (ix x1_23)) = 5 then
      bm (fX7_next fu a0 M_11) fun M_44 =>
      bi (fX7_kindHere fu a0 M_44) fun r_48 =>
      if r_48 = (-1) then
        bw (fX7_failed fu a0 1 M_44) fun r_59 M_59 =>
        gd (r_59 = 0 ∨ r_59 = 1) <|
        some (r_59, M_59)
      else
        lt (wI M_44 ((a0 + 2) + 8) (ix x1_23) r_48) fun M_72 =>
        bw (fX7_readStop fu a0 M_72) fun r_74 M_74 =>
        gd (r_74 = 0 ∨ r_74 = 1) <|
        some (r_74, M_74)
    else
      bw (fX7_failed fu a0 3 M_11) fun r_39 M_39 =>
      gd (r_39 = 0 ∨ r_39 = 1) <|
      some (r_39, M_39)
set_option maxRecDepth 100000 in
set_option maxHeartbeats 4000000 in
theorem mX7_readPage {l : Launch} {E : Ge} {L : Lay} (fu d : Nat) {a0 : Nat} {M : Mm} {r : Int32} {M' : Mm}  (h0 : At L a0 T7) (h : fX7_readPage fu a0 M = some (r, M')) : Ct l E L yX7_readPage cX7_readPage 3 (some .boolean) (d + 6) [.ref a0] M (some (.int r)) M' := by
  refine Ct.of (by decide) ?_
  intro p e s m below meth c hr hlk B hR
  have B : Bx p s m _ c cX7_readPage 3 RX7 E L := B
  have hx := B.1
  have hb := B.2.1
  have hl := lv_entry ([.ref a0]) (n := 3) (Nat.le_of_ble_eq_true rfl)
  rw [lg_entry_eq]
  generalize (lg_sl ([.ref a0]) ++ List.replicate (3 - (lg_sl ([.ref a0])).length) Slot.unset).toArray = ls at hl ⊢
  have hl : lv_has ls 3 [(0, .ref a0)] := hl
  unfold fX7_readPage at h
  refine lv_aload_n hx hb dX7_readPage_0 rfl (lv_at hl 0 rfl) ?_
  refine lv_iconst (v := 0) hx hb dX7_readPage_1 (by decide) ?_
  refine lv_aload_n hx hb dX7_readPage_2 rfl (lv_at hl 0 rfl) ?_
  refine gf_X7_22 B hR (h0.at0 rfl) dX7_readPage_3 ?_
  obtain ⟨r_6, hc_6, h⟩ := bi_el h
  refine iv_X7_167 B hR ((sb_7_4 h0).at0 rfl) hl.1 (mX8_pages fu _ (sb_7_4 h0) hc_6) (Nat.le_of_ble_eq_true rfl) dX7_readPage_6 (fun H locs hR => ?_)
  refine lv_iconst (v := 1) hx hb dX7_readPage_9 (by decide) ?_
  refine lv_isub hx hb dX7_readPage_10 ?_
  obtain ⟨r_11, M_11, hc_11, h⟩ := bw_el h
  refine iv_X7_110 B hR (h0.at0 rfl) hl.1 (mX7_readNumber fu _ h0 hc_11) (Nat.le_of_ble_eq_true rfl) dX7_readPage_11 (fun H locs hR => ?_)
  refine lv_if_ne (tgt := 19) hx hb dX7_readPage_14 (by decide) (fun c_14 => ?_) (fun c_14 => ?_)
  · rw [if_neg c_14] at h
    refine lv_aload_n hx hb dX7_readPage_19 rfl (lv_at hl 0 rfl) ?_
    refine gf_X7_114 B hR (h0.at0 rfl) dX7_readPage_20 ?_
    obtain ⟨x1_23, ex1_23, h⟩ := lt_el h
    refine r_nmI ex1_23 ?_
    refine lv_istore_n (lv' := [(1, .int x1_23), (0, .ref a0)]) hx hb dX7_readPage_23 rfl hl (by decide) rfl (fun ls hl => ?_)
    refine lv_aload_n hx hb dX7_readPage_24 rfl (lv_at hl 1 rfl) ?_
    refine gf_X7_22 B hR (h0.at0 rfl) dX7_readPage_25 ?_
    refine gf_X7_170 B hR ((sb_7_4 h0).at0 rfl) dX7_readPage_28 ?_
    refine lv_iload_n hx hb dX7_readPage_31 rfl (lv_at hl 0 rfl) ?_
    obtain ⟨hi_32, h⟩ := ifn_el h
    refine r_iald B hR ((sb_7_4 h0).at 8 rfl) hi_32 dX7_readPage_32 ?_
    refine lv_iconst (v := 5) hx hb dX7_readPage_33 (by decide) ?_
    refine lv_icmp_eq (tgt := 43) hx hb dX7_readPage_34 (by decide) (fun c_34 => ?_) (fun c_34 => ?_)
    · rw [if_pos c_34] at h
      refine lv_aload_n hx hb dX7_readPage_43 rfl (lv_at hl 1 rfl) ?_
      obtain ⟨M_44, hc_44, h⟩ := bm_el h
      refine iv_X7_32 B hR (h0.at0 rfl) hl.1 (mX7_next fu _ h0 hc_44) (Nat.le_of_ble_eq_true rfl) dX7_readPage_44 (fun H locs hR => ?_)
      refine lv_aload_n hx hb dX7_readPage_47 rfl (lv_at hl 1 rfl) ?_
      obtain ⟨r_48, hc_48, h⟩ := bi_el h
      refine iv_X7_125 B hR (h0.at0 rfl) hl.1 (mX7_kindHere fu _ h0 hc_48) (Nat.le_of_ble_eq_true rfl) dX7_readPage_48 (fun H locs hR => ?_)
      refine lv_istore_n (lv' := [(2, .int r_48), (1, .int x1_23), (0, .ref a0)]) hx hb dX7_readPage_51 rfl hl (by decide) rfl (fun ls hl => ?_)
      refine lv_iload_n hx hb dX7_readPage_52 rfl (lv_at hl 0 rfl) ?_
      refine lv_iconst (v := (-1)) hx hb dX7_readPage_53 (by decide) ?_
      refine lv_icmp_ne (tgt := 63) hx hb dX7_readPage_54 (by decide) (fun c_54 => ?_) (fun c_54 => ?_)
      · rw [if_neg c_54] at h
        refine lv_aload_n hx hb dX7_readPage_63 rfl (lv_at hl 2 rfl) ?_
        refine gf_X7_22 B hR (h0.at0 rfl) dX7_readPage_64 ?_
        refine gf_X7_170 B hR ((sb_7_4 h0).at0 rfl) dX7_readPage_67 ?_
        refine lv_iload_n hx hb dX7_readPage_70 rfl (lv_at hl 1 rfl) ?_
        refine lv_iload_n hx hb dX7_readPage_71 rfl (lv_at hl 0 rfl) ?_
        obtain ⟨M_72, eM_72, h⟩ := lt_el h
        refine r_iast B hR ((sb_7_4 h0).at 8 rfl) hi_32 dX7_readPage_72 (fun H locs hR => ?_)
        rw [← eM_72] at hR
        refine lv_aload_n hx hb dX7_readPage_73 rfl (lv_at hl 2 rfl) ?_
        obtain ⟨r_74, M_74, hc_74, h⟩ := bw_el h
        refine iv_X7_120 B hR (h0.at0 rfl) hl.1 (mX7_readStop fu _ h0 hc_74) (Nat.le_of_ble_eq_true rfl) dX7_readPage_74 (fun H locs hR => ?_)
        obtain ⟨hz_77, h⟩ := gd_el h
        exact r_zretW B hR hr hlk hz_77 h dX7_readPage_77
      · rw [if_pos c_54] at h
        refine lv_aload_n hx hb dX7_readPage_57 rfl (lv_at hl 2 rfl) ?_
        refine lv_iconst (v := 1) hx hb dX7_readPage_58 (by decide) ?_
        obtain ⟨r_59, M_59, hc_59, h⟩ := bw_el h
        refine iv_X7_106 B hR (h0.at0 rfl) hl.1 (mX7_failed fu _ h0 hc_59) (Nat.le_of_ble_eq_true rfl) dX7_readPage_59 (fun H locs hR => ?_)
        obtain ⟨hz_62, h⟩ := gd_el h
        exact r_zretW B hR hr hlk hz_62 h dX7_readPage_62
    · rw [if_neg c_34] at h
      refine lv_aload_n hx hb dX7_readPage_37 rfl (lv_at hl 1 rfl) ?_
      refine lv_iconst (v := 3) hx hb dX7_readPage_38 (by decide) ?_
      obtain ⟨r_39, M_39, hc_39, h⟩ := bw_el h
      refine iv_X7_106 B hR (h0.at0 rfl) hl.1 (mX7_failed fu _ h0 hc_39) (Nat.le_of_ble_eq_true rfl) dX7_readPage_39 (fun H locs hR => ?_)
      obtain ⟨hz_42, h⟩ := gd_el h
      exact r_zretW B hR hr hlk hz_42 h dX7_readPage_42
  · rw [if_pos c_14] at h
    refine lv_iconst (v := 0) hx hb dX7_readPage_17 (by decide) ?_
    exact r_zretW B hR hr hlk (Or.inl rfl) h dX7_readPage_18
def fX7_readLine_j110 (fu : Nat) (t0 : Int32) (M : Mm) : Option (Int32 × Mm) :=
  gd (t0 = 0 ∨ t0 = 1) <|
  some (t0, M)
set_option maxRecDepth 100000 in
set_option maxHeartbeats 4000000 in
theorem wX7_readLine_j110 {r : Int32} {M' : Mm}   {t0 : Int32} {M : Mm} (B : Bx p s m args c cX7_readLine 1 RX7 E L) (hr : meth.sig.returnType = (some .boolean)) (hlk : meth.locks = false)   (h : fX7_readLine_j110 fu t0 M = some (r, M')) (hR : Rx s E L M H locs) (hl : lv_has ls 1 []) : W p l e (rmD (d + 7)) s m args below meth c H locs 0 0 (MQ below (QcM E L (some (.int r)) M') args s 0 0 E.2.2.2) (F0 m 110 ls [.int t0]) := by
  have hx := B.1
  have hb := B.2.1
  unfold fX7_readLine_j110 at h
  obtain ⟨hz_110, h⟩ := gd_el h
  exact r_zretW B hR hr hlk hz_110 h dX7_readLine_110
def fX7_readLine (fu : Nat) (a0 : Nat) (M : Mm) : Option (Int32 × Mm) :=
  bi (fX7_isWord fu a0 0 M) fun r_3 =>
  if r_3 = 0 then
    bi (fX7_isWord fu a0 1 M) fun r_17 =>
    if r_17 = 0 then
      bi (fX7_isWord fu a0 2 M) fun r_31 =>
      if r_31 = 0 then
        lt (wI M a0 13 1) fun M_44 =>
        bi (fX7_isWord fu a0 8 M_44) fun r_50 =>
        if r_50 = 0 then
          bi (fX7_isWord fu a0 9 M_44) fun r_64 =>
          if r_64 = 0 then
            bi (fX7_isWord fu a0 10 M_44) fun r_78 =>
            if r_78 = 0 then
              bi (fX7_isWord fu a0 11 M_44) fun r_92 =>
              if r_92 = 0 then
                bw (fX7_failed fu a0 1 M_44) fun r_107 M_107 =>
                fX7_readLine_j110 fu r_107 M_107
              else
                bw (fX7_readPage fu a0 M_44) fun r_99 M_99 =>
                fX7_readLine_j110 fu r_99 M_99
            else
              bw (fX7_readRegister fu a0 M_44) fun r_85 M_85 =>
              gd (r_85 = 0 ∨ r_85 = 1) <|
              some (r_85, M_85)
          else
            bw (fX7_readSpan fu a0 M_44) fun r_71 M_71 =>
            gd (r_71 = 0 ∨ r_71 = 1) <|
            some (r_71, M_71)
        else
          bw (fX7_readFixed fu a0 M_44) fun r_57 M_57 =>
          gd (r_57 = 0 ∨ r_57 = 1) <|
          some (r_57, M_57)
      else
        bw (fX7_readDefault fu a0 M) fun r_38 M_38 =>
        gd (r_38 = 0 ∨ r_38 = 1) <|
        some (r_38, M_38)
    else
      bw (fX7_readRegisters fu a0 M) fun r_24 M_24 =>
      gd (r_24 = 0 ∨ r_24 = 1) <|
      some (r_24, M_24)
  else
    bw (fX7_readSpace fu a0 M) fun r_10 M_10 =>
    gd (r_10 = 0 ∨ r_10 = 1) <|
    some (r_10, M_10)
set_option maxRecDepth 100000 in
set_option maxHeartbeats 4000000 in
theorem mX7_readLine {l : Launch} {E : Ge} {L : Lay} (fu d : Nat) {a0 : Nat} {M : Mm} {r : Int32} {M' : Mm}  (h0 : At L a0 T7) (h : fX7_readLine fu a0 M = some (r, M')) : Ct l E L yX7_readLine cX7_readLine 1 (some .boolean) (d + 7) [.ref a0] M (some (.int r)) M' := by
  refine Ct.of (by decide) ?_
  intro p e s m below meth c hr hlk B hR
  have B : Bx p s m _ c cX7_readLine 1 RX7 E L := B
  have hx := B.1
  have hb := B.2.1
  have hl := lv_entry ([.ref a0]) (n := 1) (Nat.le_of_ble_eq_true rfl)
  rw [lg_entry_eq]
  generalize (lg_sl ([.ref a0]) ++ List.replicate (1 - (lg_sl ([.ref a0])).length) Slot.unset).toArray = ls at hl ⊢
  have hl : lv_has ls 1 [(0, .ref a0)] := hl
  unfold fX7_readLine at h
  refine lv_aload_n hx hb dX7_readLine_0 rfl (lv_at hl 0 rfl) ?_
  refine va_ldcS hx hb B.2.2.2.1 (B.2.2.2.2.2.2.2.2.2.2.2.2.1 0 (by decide)) dX7_readLine_1 ?_
  obtain ⟨r_3, hc_3, h⟩ := bi_el h
  refine iv_X7_69 B hR (h0.at0 rfl) hl.1 (mX7_isWord fu _ h0 (by decide) hc_3) (Nat.le_of_ble_eq_true rfl) dX7_readLine_3 (fun H locs hR => ?_)
  refine lv_if_eq (tgt := 14) hx hb dX7_readLine_6 (by decide) (fun c_6 => ?_) (fun c_6 => ?_)
  · rw [if_pos c_6] at h
    refine lv_aload_n hx hb dX7_readLine_14 rfl (lv_at hl 0 rfl) ?_
    refine va_ldcS hx hb B.2.2.2.1 (B.2.2.2.2.2.2.2.2.2.2.2.2.1 1 (by decide)) dX7_readLine_15 ?_
    obtain ⟨r_17, hc_17, h⟩ := bi_el h
    refine iv_X7_69 B hR (h0.at0 rfl) hl.1 (mX7_isWord fu _ h0 (by decide) hc_17) (Nat.le_of_ble_eq_true rfl) dX7_readLine_17 (fun H locs hR => ?_)
    refine lv_if_eq (tgt := 28) hx hb dX7_readLine_20 (by decide) (fun c_20 => ?_) (fun c_20 => ?_)
    · rw [if_pos c_20] at h
      refine lv_aload_n hx hb dX7_readLine_28 rfl (lv_at hl 0 rfl) ?_
      refine va_ldcS hx hb B.2.2.2.1 (B.2.2.2.2.2.2.2.2.2.2.2.2.1 2 (by decide)) dX7_readLine_29 ?_
      obtain ⟨r_31, hc_31, h⟩ := bi_el h
      refine iv_X7_69 B hR (h0.at0 rfl) hl.1 (mX7_isWord fu _ h0 (by decide) hc_31) (Nat.le_of_ble_eq_true rfl) dX7_readLine_31 (fun H locs hR => ?_)
      refine lv_if_eq (tgt := 42) hx hb dX7_readLine_34 (by decide) (fun c_34 => ?_) (fun c_34 => ?_)
      · rw [if_pos c_34] at h
        refine lv_aload_n hx hb dX7_readLine_42 rfl (lv_at hl 0 rfl) ?_
        refine lv_iconst (v := 1) hx hb dX7_readLine_43 (by decide) ?_
        obtain ⟨M_44, eM_44, h⟩ := lt_el h
        refine pz_X7_64 B hR (h0.at0 rfl) (Or.inr rfl) dX7_readLine_44 (fun H locs hR => ?_)
        rw [← eM_44] at hR
        refine lv_aload_n hx hb dX7_readLine_47 rfl (lv_at hl 0 rfl) ?_
        refine va_ldcS hx hb B.2.2.2.1 (B.2.2.2.2.2.2.2.2.2.2.2.2.1 8 (by decide)) dX7_readLine_48 ?_
        obtain ⟨r_50, hc_50, h⟩ := bi_el h
        refine iv_X7_69 B hR (h0.at0 rfl) hl.1 (mX7_isWord fu _ h0 (by decide) hc_50) (Nat.le_of_ble_eq_true rfl) dX7_readLine_50 (fun H locs hR => ?_)
        refine lv_if_eq (tgt := 61) hx hb dX7_readLine_53 (by decide) (fun c_53 => ?_) (fun c_53 => ?_)
        · rw [if_pos c_53] at h
          refine lv_aload_n hx hb dX7_readLine_61 rfl (lv_at hl 0 rfl) ?_
          refine va_ldcS hx hb B.2.2.2.1 (B.2.2.2.2.2.2.2.2.2.2.2.2.1 9 (by decide)) dX7_readLine_62 ?_
          obtain ⟨r_64, hc_64, h⟩ := bi_el h
          refine iv_X7_69 B hR (h0.at0 rfl) hl.1 (mX7_isWord fu _ h0 (by decide) hc_64) (Nat.le_of_ble_eq_true rfl) dX7_readLine_64 (fun H locs hR => ?_)
          refine lv_if_eq (tgt := 75) hx hb dX7_readLine_67 (by decide) (fun c_67 => ?_) (fun c_67 => ?_)
          · rw [if_pos c_67] at h
            refine lv_aload_n hx hb dX7_readLine_75 rfl (lv_at hl 0 rfl) ?_
            refine va_ldcS hx hb B.2.2.2.1 (B.2.2.2.2.2.2.2.2.2.2.2.2.1 10 (by decide)) dX7_readLine_76 ?_
            obtain ⟨r_78, hc_78, h⟩ := bi_el h
            refine iv_X7_69 B hR (h0.at0 rfl) hl.1 (mX7_isWord fu _ h0 (by decide) hc_78) (Nat.le_of_ble_eq_true rfl) dX7_readLine_78 (fun H locs hR => ?_)
            refine lv_if_eq (tgt := 89) hx hb dX7_readLine_81 (by decide) (fun c_81 => ?_) (fun c_81 => ?_)
            · rw [if_pos c_81] at h
              refine lv_aload_n hx hb dX7_readLine_89 rfl (lv_at hl 0 rfl) ?_
              refine va_ldcS hx hb B.2.2.2.1 (B.2.2.2.2.2.2.2.2.2.2.2.2.1 11 (by decide)) dX7_readLine_90 ?_
              obtain ⟨r_92, hc_92, h⟩ := bi_el h
              refine iv_X7_69 B hR (h0.at0 rfl) hl.1 (mX7_isWord fu _ h0 (by decide) hc_92) (Nat.le_of_ble_eq_true rfl) dX7_readLine_92 (fun H locs hR => ?_)
              refine lv_if_eq (tgt := 105) hx hb dX7_readLine_95 (by decide) (fun c_95 => ?_) (fun c_95 => ?_)
              · rw [if_pos c_95] at h
                refine lv_aload_n hx hb dX7_readLine_105 rfl (lv_at hl 0 rfl) ?_
                refine lv_iconst (v := 1) hx hb dX7_readLine_106 (by decide) ?_
                obtain ⟨r_107, M_107, hc_107, h⟩ := bw_el h
                refine iv_X7_106 B hR (h0.at0 rfl) hl.1 (mX7_failed fu _ h0 hc_107) (Nat.le_of_ble_eq_true rfl) dX7_readLine_107 (fun H locs hR => ?_)
                exact wX7_readLine_j110 B hr hlk  h hR (lv_sub hl [] rfl)
              · rw [if_neg c_95] at h
                refine lv_aload_n hx hb dX7_readLine_98 rfl (lv_at hl 0 rfl) ?_
                obtain ⟨r_99, M_99, hc_99, h⟩ := bw_el h
                refine iv_X7_103 B hR (h0.at0 rfl) hl.1 (mX7_readPage fu _ h0 hc_99) (Nat.le_of_ble_eq_true rfl) dX7_readLine_99 (fun H locs hR => ?_)
                refine lv_goto (tgt := 110) hx hb dX7_readLine_102 (by decide) ?_
                exact wX7_readLine_j110 B hr hlk  h hR (lv_sub hl [] rfl)
            · rw [if_neg c_81] at h
              refine lv_aload_n hx hb dX7_readLine_84 rfl (lv_at hl 0 rfl) ?_
              obtain ⟨r_85, M_85, hc_85, h⟩ := bw_el h
              refine iv_X7_98 B hR (h0.at0 rfl) hl.1 (mX7_readRegister fu _ h0 hc_85) (Nat.le_of_ble_eq_true rfl) dX7_readLine_85 (fun H locs hR => ?_)
              obtain ⟨hz_88, h⟩ := gd_el h
              exact r_zretW B hR hr hlk hz_88 h dX7_readLine_88
          · rw [if_neg c_67] at h
            refine lv_aload_n hx hb dX7_readLine_70 rfl (lv_at hl 0 rfl) ?_
            obtain ⟨r_71, M_71, hc_71, h⟩ := bw_el h
            refine iv_X7_93 B hR (h0.at0 rfl) hl.1 (mX7_readSpan fu _ h0 hc_71) (Nat.le_of_ble_eq_true rfl) dX7_readLine_71 (fun H locs hR => ?_)
            obtain ⟨hz_74, h⟩ := gd_el h
            exact r_zretW B hR hr hlk hz_74 h dX7_readLine_74
        · rw [if_neg c_53] at h
          refine lv_aload_n hx hb dX7_readLine_56 rfl (lv_at hl 0 rfl) ?_
          obtain ⟨r_57, M_57, hc_57, h⟩ := bw_el h
          refine iv_X7_88 B hR (h0.at0 rfl) hl.1 (mX7_readFixed fu _ h0 hc_57) (Nat.le_of_ble_eq_true rfl) dX7_readLine_57 (fun H locs hR => ?_)
          obtain ⟨hz_60, h⟩ := gd_el h
          exact r_zretW B hR hr hlk hz_60 h dX7_readLine_60
      · rw [if_neg c_34] at h
        refine lv_aload_n hx hb dX7_readLine_37 rfl (lv_at hl 0 rfl) ?_
        obtain ⟨r_38, M_38, hc_38, h⟩ := bw_el h
        refine iv_X7_83 B hR (h0.at0 rfl) hl.1 (mX7_readDefault fu _ h0 hc_38) (Nat.le_of_ble_eq_true rfl) dX7_readLine_38 (fun H locs hR => ?_)
        obtain ⟨hz_41, h⟩ := gd_el h
        exact r_zretW B hR hr hlk hz_41 h dX7_readLine_41
    · rw [if_neg c_20] at h
      refine lv_aload_n hx hb dX7_readLine_23 rfl (lv_at hl 0 rfl) ?_
      obtain ⟨r_24, M_24, hc_24, h⟩ := bw_el h
      refine iv_X7_78 B hR (h0.at0 rfl) hl.1 (mX7_readRegisters fu _ h0 hc_24) (Nat.le_of_ble_eq_true rfl) dX7_readLine_24 (fun H locs hR => ?_)
      obtain ⟨hz_27, h⟩ := gd_el h
      exact r_zretW B hR hr hlk hz_27 h dX7_readLine_27
  · rw [if_neg c_6] at h
    refine lv_aload_n hx hb dX7_readLine_9 rfl (lv_at hl 0 rfl) ?_
    obtain ⟨r_10, M_10, hc_10, h⟩ := bw_el h
    refine iv_X7_73 B hR (h0.at0 rfl) hl.1 (mX7_readSpace fu _ h0 hc_10) (Nat.le_of_ble_eq_true rfl) dX7_readLine_10 (fun H locs hR => ?_)
    obtain ⟨hz_13, h⟩ := gd_el h
    exact r_zretW B hR hr hlk hz_13 h dX7_readLine_13
def fX7_readAll_j66 (fu : Nat) (a0 : Nat) (x1 : Int32) (M : Mm) : Option (Int32 × Mm) :=
  lt (wI M a0 1 0) fun M_68 =>
  gd (x1 = 0 ∨ x1 = 1) <|
  some (x1, M_68)
set_option maxRecDepth 100000 in
set_option maxHeartbeats 4000000 in
theorem wX7_readAll_j66 {r : Int32} {M' : Mm}   {a0 : Nat} {x1 : Int32} {M : Mm} (B : Bx p s m args c cX7_readAll 4 RX7 E L) (hr : meth.sig.returnType = (some .boolean)) (hlk : meth.locks = false)  (h0 : At L a0 T7) (h : fX7_readAll_j66 fu a0 x1 M = some (r, M')) (hR : Rx s E L M H locs) (hl : lv_has ls 4 [(0, .ref a0), (1, .int x1)]) : W p l e (rmD (d + 8)) s m args below meth c H locs 0 0 (MQ below (QcM E L (some (.int r)) M') args s 0 0 E.2.2.2) (F0 m 66 ls []) := by
  have hx := B.1
  have hb := B.2.1
  unfold fX7_readAll_j66 at h
  refine lv_aload_n hx hb dX7_readAll_66 rfl (lv_at hl 0 rfl) ?_
  refine lv_iconst (v := 0) hx hb dX7_readAll_67 (by decide) ?_
  obtain ⟨M_68, eM_68, h⟩ := lt_el h
  refine pf_X7_26 B hR (h0.at0 rfl) dX7_readAll_68 (fun H locs hR => ?_)
  rw [← eM_68] at hR
  refine lv_iload_n hx hb dX7_readAll_71 rfl (lv_at hl 1 rfl) ?_
  obtain ⟨hz_72, h⟩ := gd_el h
  exact r_zretW B hR hr hlk hz_72 h dX7_readAll_72
def fX7_readAll_j59 (fu : Nat) (k10 : Int32 → Int32 → Int32 → Mm → Option (Int32 × Mm)) (a0 : Nat) (x2 : Int32) (x3 : Int32) (t0 : Int32) (M : Mm) : Option (Int32 × Mm) :=
  lt (x3 + 1) fun x3_60 =>
  k10 t0 x2 x3_60 M
set_option maxRecDepth 100000 in
set_option maxHeartbeats 4000000 in
theorem wX7_readAll_j59 {r : Int32} {M' : Mm}  {k10 : Int32 → Int32 → Int32 → Mm → Option (Int32 × Mm)} {a0 : Nat} {x2 : Int32} {x3 : Int32} {t0 : Int32} {M : Mm} (B : Bx p s m args c cX7_readAll 4 RX7 E L) (hr : meth.sig.returnType = (some .boolean)) (hlk : meth.locks = false) (ih10 : ∀ (x1 : Int32) (x2 : Int32) (x3 : Int32) (M : Mm), k10 x1 x2 x3 M = some (r, M') → ∀ (H : Heap) (locs : List Loc) (ls : Array Slot), Rx s E L M H locs → lv_has ls 4 [(0, .ref a0), (1, .int x1), (2, .int x2), (3, .int x3)] → W p l e (rmD (d + 8)) s m args below meth c H locs 0 0 (MQ below (QcM E L (some (.int r)) M') args s 0 0 E.2.2.2) (F0 m 10 ls [])) (h0 : At L a0 T7) (h : fX7_readAll_j59 fu k10 a0 x2 x3 t0 M = some (r, M')) (hR : Rx s E L M H locs) (hl : lv_has ls 4 [(0, .ref a0), (2, .int x2), (3, .int x3)]) : W p l e (rmD (d + 8)) s m args below meth c H locs 0 0 (MQ below (QcM E L (some (.int r)) M') args s 0 0 E.2.2.2) (F0 m 59 ls [.int t0]) := by
  have hx := B.1
  have hb := B.2.1
  unfold fX7_readAll_j59 at h
  refine lv_istore_n (lv' := [(1, .int t0), (0, .ref a0), (2, .int x2), (3, .int x3)]) hx hb dX7_readAll_59 rfl hl (by decide) rfl (fun ls hl => ?_)
  obtain ⟨x3_60, ex3_60, h⟩ := lt_el h
  refine lv_iinc (v := x3_60) (lv' := [(3, .int x3_60), (1, .int t0), (0, .ref a0), (2, .int x2)]) hx hb dX7_readAll_60 hl (k := 3) rfl (by rw [ex3_60]; rfl) (by decide) rfl (fun ls hl => ?_)
  refine lv_goto (tgt := 10) hx hb dX7_readAll_63 (by decide) ?_
  exact ih10 t0 x2 x3_60 M h _ _ _ hR (lv_sub hl [2, 1, 3, 0] rfl)
def fX7_readAll_j54 (fu : Nat) (k10 : Int32 → Int32 → Int32 → Mm → Option (Int32 × Mm)) (a0 : Nat) (x2 : Int32) (x3 : Int32) (M : Mm) : Option (Int32 × Mm) :=
  fX7_readAll_j59 fu k10 a0 x2 x3 1 M
set_option maxRecDepth 100000 in
set_option maxHeartbeats 4000000 in
theorem wX7_readAll_j54 {r : Int32} {M' : Mm}  {k10 : Int32 → Int32 → Int32 → Mm → Option (Int32 × Mm)} {a0 : Nat} {x2 : Int32} {x3 : Int32} {M : Mm} (B : Bx p s m args c cX7_readAll 4 RX7 E L) (hr : meth.sig.returnType = (some .boolean)) (hlk : meth.locks = false) (ih10 : ∀ (x1 : Int32) (x2 : Int32) (x3 : Int32) (M : Mm), k10 x1 x2 x3 M = some (r, M') → ∀ (H : Heap) (locs : List Loc) (ls : Array Slot), Rx s E L M H locs → lv_has ls 4 [(0, .ref a0), (1, .int x1), (2, .int x2), (3, .int x3)] → W p l e (rmD (d + 8)) s m args below meth c H locs 0 0 (MQ below (QcM E L (some (.int r)) M') args s 0 0 E.2.2.2) (F0 m 10 ls [])) (h0 : At L a0 T7) (h : fX7_readAll_j54 fu k10 a0 x2 x3 M = some (r, M')) (hR : Rx s E L M H locs) (hl : lv_has ls 4 [(0, .ref a0), (2, .int x2), (3, .int x3)]) : W p l e (rmD (d + 8)) s m args below meth c H locs 0 0 (MQ below (QcM E L (some (.int r)) M') args s 0 0 E.2.2.2) (F0 m 54 ls []) := by
  have hx := B.1
  have hb := B.2.1
  unfold fX7_readAll_j54 at h
  refine lv_iconst (v := 1) hx hb dX7_readAll_54 (by decide) ?_
  refine lv_goto (tgt := 59) hx hb dX7_readAll_55 (by decide) ?_
  exact wX7_readAll_j59 B hr hlk ih10 h0 h hR hl
def fX7_readAll_j42 (fu : Nat) (k10 : Int32 → Int32 → Int32 → Mm → Option (Int32 × Mm)) (a0 : Nat) (x3 : Int32) (t0 : Int32) (M : Mm) : Option (Int32 × Mm) :=
  if t0 = 0 then
    fX7_readAll_j54 fu k10 a0 t0 x3 M
  else
    bw (fX7_readLine fu a0 M) fun r_48 M_48 =>
    if r_48 = 0 then
      fX7_readAll_j59 fu k10 a0 t0 x3 0 M_48
    else
      fX7_readAll_j54 fu k10 a0 t0 x3 M_48
set_option maxRecDepth 100000 in
set_option maxHeartbeats 4000000 in
theorem wX7_readAll_j42 {r : Int32} {M' : Mm}  {k10 : Int32 → Int32 → Int32 → Mm → Option (Int32 × Mm)} {a0 : Nat} {x3 : Int32} {t0 : Int32} {M : Mm} (B : Bx p s m args c cX7_readAll 4 RX7 E L) (hr : meth.sig.returnType = (some .boolean)) (hlk : meth.locks = false) (ih10 : ∀ (x1 : Int32) (x2 : Int32) (x3 : Int32) (M : Mm), k10 x1 x2 x3 M = some (r, M') → ∀ (H : Heap) (locs : List Loc) (ls : Array Slot), Rx s E L M H locs → lv_has ls 4 [(0, .ref a0), (1, .int x1), (2, .int x2), (3, .int x3)] → W p l e (rmD (d + 8)) s m args below meth c H locs 0 0 (MQ below (QcM E L (some (.int r)) M') args s 0 0 E.2.2.2) (F0 m 10 ls [])) (h0 : At L a0 T7) (h : fX7_readAll_j42 fu k10 a0 x3 t0 M = some (r, M')) (hR : Rx s E L M H locs) (hl : lv_has ls 4 [(0, .ref a0), (3, .int x3)]) : W p l e (rmD (d + 8)) s m args below meth c H locs 0 0 (MQ below (QcM E L (some (.int r)) M') args s 0 0 E.2.2.2) (F0 m 42 ls [.int t0]) := by
  have hx := B.1
  have hb := B.2.1
  unfold fX7_readAll_j42 at h
  refine lv_istore_n (lv' := [(2, .int t0), (0, .ref a0), (3, .int x3)]) hx hb dX7_readAll_42 rfl hl (by decide) rfl (fun ls hl => ?_)
  refine lv_iload_n hx hb dX7_readAll_43 rfl (lv_at hl 0 rfl) ?_
  refine lv_if_eq (tgt := 54) hx hb dX7_readAll_44 (by decide) (fun c_44 => ?_) (fun c_44 => ?_)
  · rw [if_pos c_44] at h
    exact wX7_readAll_j54 B hr hlk ih10 h0 h hR (lv_sub hl [1, 0, 2] rfl)
  · rw [if_neg c_44] at h
    refine lv_aload_n hx hb dX7_readAll_47 rfl (lv_at hl 1 rfl) ?_
    obtain ⟨r_48, M_48, hc_48, h⟩ := bw_el h
    refine iv_X7_38 B hR (h0.at0 rfl) hl.1 (mX7_readLine fu _ h0 hc_48) (Nat.le_of_ble_eq_true rfl) dX7_readAll_48 (fun H locs hR => ?_)
    refine lv_if_eq (tgt := 58) hx hb dX7_readAll_51 (by decide) (fun c_51 => ?_) (fun c_51 => ?_)
    · rw [if_pos c_51] at h
      refine lv_iconst (v := 0) hx hb dX7_readAll_58 (by decide) ?_
      exact wX7_readAll_j59 B hr hlk ih10 h0 h hR (lv_sub hl [1, 0, 2] rfl)
    · rw [if_neg c_51] at h
      exact wX7_readAll_j54 B hr hlk ih10 h0 h hR (lv_sub hl [1, 0, 2] rfl)
def fX7_readAll_b10 (fu : Nat) (k10 : Int32 → Int32 → Int32 → Mm → Option (Int32 × Mm)) (a0 : Nat) (x1 : Int32) (x2 : Int32) (x3 : Int32) (M : Mm) : Option (Int32 × Mm) :=
  if x1 = 0 then
    fX7_readAll_j66 fu a0 x1 M
  else
    if x2 = 0 then
      fX7_readAll_j66 fu a0 x1 M
    else
      if 800 < x3 then
        fX7_readAll_j66 fu a0 x1 M
      else
        bm (fX7_next fu a0 M) fun M_26 =>
        if (M_26.1 a0 7) = 4 then
          fX7_readAll_j42 fu k10 a0 x3 0 M_26
        else
          fX7_readAll_j42 fu k10 a0 x3 1 M_26
set_option maxRecDepth 100000 in
set_option maxHeartbeats 4000000 in
theorem wX7_readAll_b10 {r : Int32} {M' : Mm}   {k10 : Int32 → Int32 → Int32 → Mm → Option (Int32 × Mm)} {a0 : Nat} {x1 : Int32} {x2 : Int32} {x3 : Int32} {M : Mm} (B : Bx p s m args c cX7_readAll 4 RX7 E L) (hr : meth.sig.returnType = (some .boolean)) (hlk : meth.locks = false)  (ih10 : ∀ (x1 : Int32) (x2 : Int32) (x3 : Int32) (M : Mm), k10 x1 x2 x3 M = some (r, M') → ∀ (H : Heap) (locs : List Loc) (ls : Array Slot), Rx s E L M H locs → lv_has ls 4 [(0, .ref a0), (1, .int x1), (2, .int x2), (3, .int x3)] → W p l e (rmD (d + 8)) s m args below meth c H locs 0 0 (MQ below (QcM E L (some (.int r)) M') args s 0 0 E.2.2.2) (F0 m 10 ls [])) (h0 : At L a0 T7) (h : fX7_readAll_b10 fu k10 a0 x1 x2 x3 M = some (r, M')) (hR : Rx s E L M H locs) (hl : lv_has ls 4 [(0, .ref a0), (1, .int x1), (2, .int x2), (3, .int x3)]) : W p l e (rmD (d + 8)) s m args below meth c H locs 0 0 (MQ below (QcM E L (some (.int r)) M') args s 0 0 E.2.2.2) (F0 m 10 ls []) := by
  have hx := B.1
  have hb := B.2.1
  unfold fX7_readAll_b10 at h
  refine lv_iload_n hx hb dX7_readAll_10 rfl (lv_at hl 1 rfl) ?_
  refine lv_if_eq (tgt := 66) hx hb dX7_readAll_11 (by decide) (fun c_11 => ?_) (fun c_11 => ?_)
  · rw [if_pos c_11] at h
    exact wX7_readAll_j66 B hr hlk h0 h hR (lv_sub hl [0, 1] rfl)
  · rw [if_neg c_11] at h
    refine lv_iload_n hx hb dX7_readAll_14 rfl (lv_at hl 2 rfl) ?_
    refine lv_if_eq (tgt := 66) hx hb dX7_readAll_15 (by decide) (fun c_15 => ?_) (fun c_15 => ?_)
    · rw [if_pos c_15] at h
      exact wX7_readAll_j66 B hr hlk h0 h hR (lv_sub hl [0, 1] rfl)
    · rw [if_neg c_15] at h
      refine lv_iload_n hx hb dX7_readAll_18 rfl (lv_at hl 3 rfl) ?_
      refine lv_sipush (v := 800) hx hb dX7_readAll_19 (by decide) ?_
      refine lv_icmp_gt (tgt := 66) hx hb dX7_readAll_22 (by decide) (fun c_22 => ?_) (fun c_22 => ?_)
      · rw [if_pos c_22] at h
        exact wX7_readAll_j66 B hr hlk h0 h hR (lv_sub hl [0, 1] rfl)
      · rw [if_neg c_22] at h
        refine lv_aload_n hx hb dX7_readAll_25 rfl (lv_at hl 0 rfl) ?_
        obtain ⟨M_26, hc_26, h⟩ := bm_el h
        refine iv_X7_32 B hR (h0.at0 rfl) hl.1 (mX7_next fu _ h0 hc_26) (Nat.le_of_ble_eq_true rfl) dX7_readAll_26 (fun H locs hR => ?_)
        refine lv_aload_n hx hb dX7_readAll_29 rfl (lv_at hl 0 rfl) ?_
        refine gf_X7_35 B hR (h0.at0 rfl) dX7_readAll_30 ?_
        refine lv_iconst (v := 4) hx hb dX7_readAll_33 (by decide) ?_
        refine lv_icmp_eq (tgt := 41) hx hb dX7_readAll_34 (by decide) (fun c_34 => ?_) (fun c_34 => ?_)
        · rw [if_pos c_34] at h
          refine lv_iconst (v := 0) hx hb dX7_readAll_41 (by decide) ?_
          exact wX7_readAll_j42 B hr hlk ih10 h0 h hR (lv_sub hl [0, 3] rfl)
        · rw [if_neg c_34] at h
          refine lv_iconst (v := 1) hx hb dX7_readAll_37 (by decide) ?_
          refine lv_goto (tgt := 42) hx hb dX7_readAll_38 (by decide) ?_
          exact wX7_readAll_j42 B hr hlk ih10 h0 h hR (lv_sub hl [0, 3] rfl)
def fX7_readAll_l10 (fu : Nat) (a0 : Nat) (x1 : Int32) (x2 : Int32) (x3 : Int32) (M : Mm) : Option (Int32 × Mm) := lp (fun (rec : (Int32 × Int32 × Int32 × Mm) → Option (Int32 × Mm)) (s : Int32 × Int32 × Int32 × Mm) => fX7_readAll_b10 fu  (fun x1 x2 x3 M => rec (x1, x2, x3, M)) a0 s.1 s.2.1 s.2.2.1 s.2.2.2) fu (x1, x2, x3, M)
set_option maxRecDepth 100000 in
set_option maxHeartbeats 4000000 in
theorem wX7_readAll_l10 {r : Int32} {M' : Mm}   {a0 : Nat} {x1 : Int32} {x2 : Int32} {x3 : Int32} {M : Mm} (B : Bx p s m args c cX7_readAll 4 RX7 E L) (hr : meth.sig.returnType = (some .boolean)) (hlk : meth.locks = false)  (h0 : At L a0 T7) (h : fX7_readAll_l10 fu a0 x1 x2 x3 M = some (r, M')) (hR : Rx s E L M H locs) (hl : lv_has ls 4 [(0, .ref a0), (1, .int x1), (2, .int x2), (3, .int x3)]) : W p l e (rmD (d + 8)) s m args below meth c H locs 0 0 (MQ below (QcM E L (some (.int r)) M') args s 0 0 E.2.2.2) (F0 m 10 ls []) := by
  refine lp_G (G := fun z : Int32 × Int32 × Int32 × Mm => ∀ (H : Heap) (locs : List Loc) (ls : Array Slot), Rx s E L z.2.2.2 H locs → lv_has ls 4 [(0, .ref a0), (1, .int z.1), (2, .int z.2.1), (3, .int z.2.2.1)] → W p l e (rmD (d + 8)) s m args below meth c H locs 0 0 (MQ below (QcM E L (some (.int r)) M') args s 0 0 E.2.2.2) (F0 m 10 ls [])) (fun rec ih z h H locs ls hR hl => ?_) fu _ h H locs ls hR hl
  exact wX7_readAll_b10 B hr hlk  (fun x1 x2 x3 M h => ih (x1, x2, x3, M) h) h0 h hR hl
def fX7_readAll (fu : Nat) (a0 : Nat) (M : Mm) : Option (Int32 × Mm) :=
  bm (fX7_begin fu a0 M) fun M_1 =>
  fX7_readAll_l10 fu a0 1 1 0 M_1
set_option maxRecDepth 100000 in
set_option maxHeartbeats 4000000 in
theorem mX7_readAll {l : Launch} {E : Ge} {L : Lay} (fu d : Nat) {a0 : Nat} {M : Mm} {r : Int32} {M' : Mm}  (h0 : At L a0 T7) (h : fX7_readAll fu a0 M = some (r, M')) : Ct l E L yX7_readAll cX7_readAll 4 (some .boolean) (d + 8) [.ref a0] M (some (.int r)) M' := by
  refine Ct.of (by decide) ?_
  intro p e s m below meth c hr hlk B hR
  have B : Bx p s m _ c cX7_readAll 4 RX7 E L := B
  have hx := B.1
  have hb := B.2.1
  have hl := lv_entry ([.ref a0]) (n := 4) (Nat.le_of_ble_eq_true rfl)
  rw [lg_entry_eq]
  generalize (lg_sl ([.ref a0]) ++ List.replicate (4 - (lg_sl ([.ref a0])).length) Slot.unset).toArray = ls at hl ⊢
  have hl : lv_has ls 4 [(0, .ref a0)] := hl
  unfold fX7_readAll at h
  refine lv_aload_n hx hb dX7_readAll_0 rfl (lv_at hl 0 rfl) ?_
  obtain ⟨M_1, hc_1, h⟩ := bm_el h
  refine iv_X7_29 B hR (h0.at0 rfl) hl.1 (mX7_begin fu _ h0 hc_1) (Nat.le_of_ble_eq_true rfl) dX7_readAll_1 (fun H locs hR => ?_)
  refine lv_iconst (v := 1) hx hb dX7_readAll_4 (by decide) ?_
  refine lv_istore_n (lv' := [(1, .int 1), (0, .ref a0)]) hx hb dX7_readAll_5 rfl hl (by decide) rfl (fun ls hl => ?_)
  refine lv_iconst (v := 1) hx hb dX7_readAll_6 (by decide) ?_
  refine lv_istore_n (lv' := [(2, .int 1), (1, .int 1), (0, .ref a0)]) hx hb dX7_readAll_7 rfl hl (by decide) rfl (fun ls hl => ?_)
  refine lv_iconst (v := 0) hx hb dX7_readAll_8 (by decide) ?_
  refine lv_istore_n (lv' := [(3, .int 0), (2, .int 1), (1, .int 1), (0, .ref a0)]) hx hb dX7_readAll_9 rfl hl (by decide) rfl (fun ls hl => ?_)
  exact wX7_readAll_l10 B hr hlk h0 h hR (lv_sub hl [3, 2, 1, 0] rfl)
end G32_reader2_lean_txt
