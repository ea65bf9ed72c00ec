theorem dX6_byHalves_0 : decode cX6_byHalves 0 = .ok (.aload_n 0, 1) := by decide +kernel
theorem dX6_byHalves_1 : decode cX6_byHalves 1 = .ok (.getfield 18, 3) := by decide +kernel
theorem dX6_byHalves_4 : decode cX6_byHalves 4 = .ok (.iload_n 1, 1) := by decide +kernel
theorem dX6_byHalves_5 : decode cX6_byHalves 5 = .ok (.iconst 1, 1) := by decide +kernel
theorem dX6_byHalves_6 : decode cX6_byHalves 6 = .ok (.iadd, 1) := by decide +kernel
theorem dX6_byHalves_7 : decode cX6_byHalves 7 = .ok (.bipush 6, 2) := by decide +kernel
theorem dX6_byHalves_9 : decode cX6_byHalves 9 = .ok (.imul, 1) := by decide +kernel
theorem dX6_byHalves_10 : decode cX6_byHalves 10 = .ok (.iload_n 2, 1) := by decide +kernel
theorem dX6_byHalves_11 : decode cX6_byHalves 11 = .ok (.iadd, 1) := by decide +kernel
theorem dX6_byHalves_12 : decode cX6_byHalves 12 = .ok (.iaload, 1) := by decide +kernel
theorem dX6_byHalves_13 : decode cX6_byHalves 13 = .ok (.istore_n 3, 1) := by decide +kernel
theorem dX6_byHalves_14 : decode cX6_byHalves 14 = .ok (.sipush 10000, 3) := by decide +kernel
theorem dX6_byHalves_17 : decode cX6_byHalves 17 = .ok (.iload_n 3, 1) := by decide +kernel
theorem dX6_byHalves_18 : decode cX6_byHalves 18 = .ok (.aload_n 0, 1) := by decide +kernel
theorem dX6_byHalves_19 : decode cX6_byHalves 19 = .ok (.getfield 18, 3) := by decide +kernel
theorem dX6_byHalves_22 : decode cX6_byHalves 22 = .ok (.aload_n 0, 1) := by decide +kernel
theorem dX6_byHalves_23 : decode cX6_byHalves 23 = .ok (.getfield 12, 3) := by decide +kernel
theorem dX6_byHalves_26 : decode cX6_byHalves 26 = .ok (.getfield 79, 3) := by decide +kernel
theorem dX6_byHalves_29 : decode cX6_byHalves 29 = .ok (.iload_n 1, 1) := by decide +kernel
theorem dX6_byHalves_30 : decode cX6_byHalves 30 = .ok (.iaload, 1) := by decide +kernel
theorem dX6_byHalves_31 : decode cX6_byHalves 31 = .ok (.bipush 6, 2) := by decide +kernel
theorem dX6_byHalves_33 : decode cX6_byHalves 33 = .ok (.imul, 1) := by decide +kernel
theorem dX6_byHalves_34 : decode cX6_byHalves 34 = .ok (.iload_n 2, 1) := by decide +kernel
theorem dX6_byHalves_35 : decode cX6_byHalves 35 = .ok (.iadd, 1) := by decide +kernel
theorem dX6_byHalves_36 : decode cX6_byHalves 36 = .ok (.iaload, 1) := by decide +kernel
theorem dX6_byHalves_37 : decode cX6_byHalves 37 = .ok (.iadd, 1) := by decide +kernel
theorem dX6_byHalves_38 : decode cX6_byHalves 38 = .ok (.invokestatic 93, 3) := by decide +kernel
theorem dX6_byHalves_41 : decode cX6_byHalves 41 = .ok (.ireturn, 1) := by decide +kernel
theorem dX6_byItself_0 : decode cX6_byItself 0 = .ok (.sipush 10000, 3) := by decide +kernel
theorem dX6_byItself_3 : decode cX6_byItself 3 = .ok (.istore_n 3, 1) := by decide +kernel
theorem dX6_byItself_4 : decode cX6_byItself 4 = .ok (.iconst 0, 1) := by decide +kernel
theorem dX6_byItself_5 : decode cX6_byItself 5 = .ok (.istore 4, 2) := by decide +kernel
theorem dX6_byItself_7 : decode cX6_byItself 7 = .ok (.iload 4, 2) := by decide +kernel
theorem dX6_byItself_9 : decode cX6_byItself 9 = .ok (.iconst 5, 1) := by decide +kernel
theorem dX6_byItself_10 : decode cX6_byItself 10 = .ok (.if_icmp .ge 57, 3) := by decide +kernel
theorem dX6_byItself_13 : decode cX6_byItself 13 = .ok (.aload_n 0, 1) := by decide +kernel
theorem dX6_byItself_14 : decode cX6_byItself 14 = .ok (.getfield 38, 3) := by decide +kernel
theorem dX6_byItself_17 : decode cX6_byItself 17 = .ok (.ifCond .ne 8, 3) := by decide +kernel
theorem dX6_byItself_20 : decode cX6_byItself 20 = .ok (.iload_n 2, 1) := by decide +kernel
theorem dX6_byItself_21 : decode cX6_byItself 21 = .ok (.iconst 5, 1) := by decide +kernel
theorem dX6_byItself_22 : decode cX6_byItself 22 = .ok (.if_icmp .ne 45, 3) := by decide +kernel
theorem dX6_byItself_25 : decode cX6_byItself 25 = .ok (.getstatic 104, 3) := by decide +kernel
theorem dX6_byItself_28 : decode cX6_byItself 28 = .ok (.iload_n 2, 1) := by decide +kernel
theorem dX6_byItself_29 : decode cX6_byItself 29 = .ok (.iconst 5, 1) := by decide +kernel
theorem dX6_byItself_30 : decode cX6_byItself 30 = .ok (.imul, 1) := by decide +kernel
theorem dX6_byItself_31 : decode cX6_byItself 31 = .ok (.iload 4, 2) := by decide +kernel
theorem dX6_byItself_33 : decode cX6_byItself 33 = .ok (.iadd, 1) := by decide +kernel
theorem dX6_byItself_34 : decode cX6_byItself 34 = .ok (.iaload, 1) := by decide +kernel
theorem dX6_byItself_35 : decode cX6_byItself 35 = .ok (.istore 5, 2) := by decide +kernel
theorem dX6_byItself_37 : decode cX6_byItself 37 = .ok (.iload 5, 2) := by decide +kernel
theorem dX6_byItself_39 : decode cX6_byItself 39 = .ok (.ifCond .lt 22, 3) := by decide +kernel
theorem dX6_byItself_42 : decode cX6_byItself 42 = .ok (.iload_n 3, 1) := by decide +kernel
theorem dX6_byItself_43 : decode cX6_byItself 43 = .ok (.iconst 1, 1) := by decide +kernel
theorem dX6_byItself_44 : decode cX6_byItself 44 = .ok (.aload_n 0, 1) := by decide +kernel
theorem dX6_byItself_45 : decode cX6_byItself 45 = .ok (.getfield 18, 3) := by decide +kernel
theorem dX6_byItself_48 : decode cX6_byItself 48 = .ok (.iload_n 1, 1) := by decide +kernel
theorem dX6_byItself_49 : decode cX6_byItself 49 = .ok (.bipush 6, 2) := by decide +kernel
theorem dX6_byItself_51 : decode cX6_byItself 51 = .ok (.imul, 1) := by decide +kernel
theorem dX6_byItself_52 : decode cX6_byItself 52 = .ok (.iload 5, 2) := by decide +kernel
theorem dX6_byItself_54 : decode cX6_byItself 54 = .ok (.iadd, 1) := by decide +kernel
theorem dX6_byItself_55 : decode cX6_byItself 55 = .ok (.iaload, 1) := by decide +kernel
theorem dX6_byItself_56 : decode cX6_byItself 56 = .ok (.iadd, 1) := by decide +kernel
theorem dX6_byItself_57 : decode cX6_byItself 57 = .ok (.invokestatic 93, 3) := by decide +kernel
theorem dX6_byItself_60 : decode cX6_byItself 60 = .ok (.istore_n 3, 1) := by decide +kernel
theorem dX6_byItself_61 : decode cX6_byItself 61 = .ok (.iinc 4 1, 3) := by decide +kernel
theorem dX6_byItself_64 : decode cX6_byItself 64 = .ok (.goto (-57), 3) := by decide +kernel
theorem dX6_byItself_67 : decode cX6_byItself 67 = .ok (.iload_n 3, 1) := by decide +kernel
theorem dX6_byItself_68 : decode cX6_byItself 68 = .ok (.ireturn, 1) := by decide +kernel
theorem dX6_weighWithin_0 : decode cX6_weighWithin 0 = .ok (.aload_n 0, 1) := by decide +kernel
theorem dX6_weighWithin_1 : decode cX6_weighWithin 1 = .ok (.getfield 12, 3) := by decide +kernel
theorem dX6_weighWithin_4 : decode cX6_weighWithin 4 = .ok (.getfield 76, 3) := by decide +kernel
theorem dX6_weighWithin_7 : decode cX6_weighWithin 7 = .ok (.iload_n 1, 1) := by decide +kernel
theorem dX6_weighWithin_8 : decode cX6_weighWithin 8 = .ok (.iaload, 1) := by decide +kernel
theorem dX6_weighWithin_9 : decode cX6_weighWithin 9 = .ok (.iconst 1, 1) := by decide +kernel
theorem dX6_weighWithin_10 : decode cX6_weighWithin 10 = .ok (.isub, 1) := by decide +kernel
theorem dX6_weighWithin_11 : decode cX6_weighWithin 11 = .ok (.istore_n 3, 1) := by decide +kernel
theorem dX6_weighWithin_12 : decode cX6_weighWithin 12 = .ok (.iload_n 3, 1) := by decide +kernel
theorem dX6_weighWithin_13 : decode cX6_weighWithin 13 = .ok (.iload_n 1, 1) := by decide +kernel
theorem dX6_weighWithin_14 : decode cX6_weighWithin 14 = .ok (.if_icmp .lt 94, 3) := by decide +kernel
theorem dX6_weighWithin_17 : decode cX6_weighWithin 17 = .ok (.iconst 0, 1) := by decide +kernel
theorem dX6_weighWithin_18 : decode cX6_weighWithin 18 = .ok (.istore 4, 2) := by decide +kernel
theorem dX6_weighWithin_20 : decode cX6_weighWithin 20 = .ok (.iload 4, 2) := by decide +kernel
theorem dX6_weighWithin_22 : decode cX6_weighWithin 22 = .ok (.bipush 6, 2) := by decide +kernel
theorem dX6_weighWithin_24 : decode cX6_weighWithin 24 = .ok (.if_icmp .ge 78, 3) := by decide +kernel
theorem dX6_weighWithin_27 : decode cX6_weighWithin 27 = .ok (.aload_n 0, 1) := by decide +kernel
theorem dX6_weighWithin_28 : decode cX6_weighWithin 28 = .ok (.getfield 12, 3) := by decide +kernel
theorem dX6_weighWithin_31 : decode cX6_weighWithin 31 = .ok (.getfield 79, 3) := by decide +kernel
theorem dX6_weighWithin_34 : decode cX6_weighWithin 34 = .ok (.iload_n 3, 1) := by decide +kernel
theorem dX6_weighWithin_35 : decode cX6_weighWithin 35 = .ok (.iaload, 1) := by decide +kernel
theorem dX6_weighWithin_36 : decode cX6_weighWithin 36 = .ok (.ifCond .eq 13, 3) := by decide +kernel
theorem dX6_weighWithin_39 : decode cX6_weighWithin 39 = .ok (.aload_n 0, 1) := by decide +kernel
theorem dX6_weighWithin_40 : decode cX6_weighWithin 40 = .ok (.iload_n 3, 1) := by decide +kernel
theorem dX6_weighWithin_41 : decode cX6_weighWithin 41 = .ok (.iload 4, 2) := by decide +kernel
theorem dX6_weighWithin_43 : decode cX6_weighWithin 43 = .ok (.invokevirtual 82, 3) := by decide +kernel
theorem dX6_weighWithin_46 : decode cX6_weighWithin 46 = .ok (.goto 24, 3) := by decide +kernel
theorem dX6_weighWithin_49 : decode cX6_weighWithin 49 = .ok (.aload_n 0, 1) := by decide +kernel
theorem dX6_weighWithin_50 : decode cX6_weighWithin 50 = .ok (.getfield 12, 3) := by decide +kernel
theorem dX6_weighWithin_53 : decode cX6_weighWithin 53 = .ok (.iload_n 3, 1) := by decide +kernel
theorem dX6_weighWithin_54 : decode cX6_weighWithin 54 = .ok (.iload 4, 2) := by decide +kernel
theorem dX6_weighWithin_56 : decode cX6_weighWithin 56 = .ok (.iload_n 2, 1) := by decide +kernel
theorem dX6_weighWithin_57 : decode cX6_weighWithin 57 = .ok (.invokevirtual 86, 3) := by decide +kernel
theorem dX6_weighWithin_60 : decode cX6_weighWithin 60 = .ok (.ifCond .eq 7, 3) := by decide +kernel
theorem dX6_weighWithin_63 : decode cX6_weighWithin 63 = .ok (.iconst 0, 1) := by decide +kernel
theorem dX6_weighWithin_64 : decode cX6_weighWithin 64 = .ok (.goto 6, 3) := by decide +kernel
theorem dX6_weighWithin_67 : decode cX6_weighWithin 67 = .ok (.sipush 10000, 3) := by decide +kernel
theorem dX6_weighWithin_70 : decode cX6_weighWithin 70 = .ok (.istore 5, 2) := by decide +kernel
theorem dX6_weighWithin_72 : decode cX6_weighWithin 72 = .ok (.aload_n 0, 1) := by decide +kernel
theorem dX6_weighWithin_73 : decode cX6_weighWithin 73 = .ok (.getfield 18, 3) := by decide +kernel
theorem dX6_weighWithin_76 : decode cX6_weighWithin 76 = .ok (.iload_n 3, 1) := by decide +kernel
theorem dX6_weighWithin_77 : decode cX6_weighWithin 77 = .ok (.bipush 6, 2) := by decide +kernel
theorem dX6_weighWithin_79 : decode cX6_weighWithin 79 = .ok (.imul, 1) := by decide +kernel
theorem dX6_weighWithin_80 : decode cX6_weighWithin 80 = .ok (.iload 4, 2) := by decide +kernel
theorem dX6_weighWithin_82 : decode cX6_weighWithin 82 = .ok (.iadd, 1) := by decide +kernel
theorem dX6_weighWithin_83 : decode cX6_weighWithin 83 = .ok (.iload 5, 2) := by decide +kernel
theorem dX6_weighWithin_85 : decode cX6_weighWithin 85 = .ok (.aload_n 0, 1) := by decide +kernel
theorem dX6_weighWithin_86 : decode cX6_weighWithin 86 = .ok (.iload_n 3, 1) := by decide +kernel
theorem dX6_weighWithin_87 : decode cX6_weighWithin 87 = .ok (.iload 4, 2) := by decide +kernel
theorem dX6_weighWithin_89 : decode cX6_weighWithin 89 = .ok (.invokevirtual 90, 3) := by decide +kernel
theorem dX6_weighWithin_92 : decode cX6_weighWithin 92 = .ok (.invokestatic 93, 3) := by decide +kernel
theorem dX6_weighWithin_95 : decode cX6_weighWithin 95 = .ok (.iastore, 1) := by decide +kernel
theorem dX6_weighWithin_96 : decode cX6_weighWithin 96 = .ok (.iinc 4 1, 3) := by decide +kernel
theorem dX6_weighWithin_99 : decode cX6_weighWithin 99 = .ok (.goto (-79), 3) := by decide +kernel
theorem dX6_weighWithin_102 : decode cX6_weighWithin 102 = .ok (.iinc 3 (-1), 3) := by decide +kernel
theorem dX6_weighWithin_105 : decode cX6_weighWithin 105 = .ok (.goto (-93), 3) := by decide +kernel
theorem dX6_weighWithin_108 : decode cX6_weighWithin 108 = .ok (.return_, 1) := by decide +kernel
theorem dX6_fewestAdded_0 : decode cX6_fewestAdded 0 = .ok (.aload_n 0, 1) := by decide +kernel
theorem dX6_fewestAdded_1 : decode cX6_fewestAdded 1 = .ok (.getfield 12, 3) := by decide +kernel
theorem dX6_fewestAdded_4 : decode cX6_fewestAdded 4 = .ok (.aload_n 1, 1) := by decide +kernel
theorem dX6_fewestAdded_5 : decode cX6_fewestAdded 5 = .ok (.aload_n 1, 1) := by decide +kernel
theorem dX6_fewestAdded_6 : decode cX6_fewestAdded 6 = .ok (.getfield 28, 3) := by decide +kernel
theorem dX6_fewestAdded_9 : decode cX6_fewestAdded 9 = .ok (.invokevirtual 34, 3) := by decide +kernel
theorem dX6_fewestAdded_12 : decode cX6_fewestAdded 12 = .ok (.aload_n 0, 1) := by decide +kernel
theorem dX6_fewestAdded_13 : decode cX6_fewestAdded 13 = .ok (.iconst 0, 1) := by decide +kernel
theorem dX6_fewestAdded_14 : decode cX6_fewestAdded 14 = .ok (.putfield 38, 3) := by decide +kernel
theorem dX6_fewestAdded_17 : decode cX6_fewestAdded 17 = .ok (.aload_n 0, 1) := by decide +kernel
theorem dX6_fewestAdded_18 : decode cX6_fewestAdded 18 = .ok (.iconst 0, 1) := by decide +kernel
theorem dX6_fewestAdded_19 : decode cX6_fewestAdded 19 = .ok (.iconst 5, 1) := by decide +kernel
theorem dX6_fewestAdded_20 : decode cX6_fewestAdded 20 = .ok (.invokevirtual 42, 3) := by decide +kernel
theorem dX6_fewestAdded_23 : decode cX6_fewestAdded 23 = .ok (.aload_n 0, 1) := by decide +kernel
theorem dX6_fewestAdded_24 : decode cX6_fewestAdded 24 = .ok (.getfield 18, 3) := by decide +kernel
theorem dX6_fewestAdded_27 : decode cX6_fewestAdded 27 = .ok (.iconst 5, 1) := by decide +kernel
theorem dX6_fewestAdded_28 : decode cX6_fewestAdded 28 = .ok (.iaload, 1) := by decide +kernel
theorem dX6_fewestAdded_29 : decode cX6_fewestAdded 29 = .ok (.ireturn, 1) := by decide +kernel
theorem dX6_fewestOver_0 : decode cX6_fewestOver 0 = .ok (.aload_n 0, 1) := by decide +kernel
theorem dX6_fewestOver_1 : decode cX6_fewestOver 1 = .ok (.getfield 12, 3) := by decide +kernel
theorem dX6_fewestOver_4 : decode cX6_fewestOver 4 = .ok (.aload_n 1, 1) := by decide +kernel
theorem dX6_fewestOver_5 : decode cX6_fewestOver 5 = .ok (.iload_n 2, 1) := by decide +kernel
theorem dX6_fewestOver_6 : decode cX6_fewestOver 6 = .ok (.invokevirtual 34, 3) := by decide +kernel
theorem dX6_fewestOver_9 : decode cX6_fewestOver 9 = .ok (.aload_n 0, 1) := by decide +kernel
theorem dX6_fewestOver_10 : decode cX6_fewestOver 10 = .ok (.iconst 1, 1) := by decide +kernel
theorem dX6_fewestOver_11 : decode cX6_fewestOver 11 = .ok (.putfield 38, 3) := by decide +kernel
theorem dX6_fewestOver_14 : decode cX6_fewestOver 14 = .ok (.aload_n 0, 1) := by decide +kernel
theorem dX6_fewestOver_15 : decode cX6_fewestOver 15 = .ok (.iconst 0, 1) := by decide +kernel
theorem dX6_fewestOver_16 : decode cX6_fewestOver 16 = .ok (.iconst 5, 1) := by decide +kernel
theorem dX6_fewestOver_17 : decode cX6_fewestOver 17 = .ok (.invokevirtual 42, 3) := by decide +kernel
theorem dX6_fewestOver_20 : decode cX6_fewestOver 20 = .ok (.aload_n 0, 1) := by decide +kernel
theorem dX6_fewestOver_21 : decode cX6_fewestOver 21 = .ok (.getfield 18, 3) := by decide +kernel
theorem dX6_fewestOver_24 : decode cX6_fewestOver 24 = .ok (.iconst 5, 1) := by decide +kernel
theorem dX6_fewestOver_25 : decode cX6_fewestOver 25 = .ok (.iaload, 1) := by decide +kernel
theorem dX6_fewestOver_26 : decode cX6_fewestOver 26 = .ok (.ireturn, 1) := by decide +kernel
theorem dX6_layItself_0 : decode cX6_layItself 0 = .ok (.iconst 0, 1) := by decide +kernel
theorem dX6_layItself_1 : decode cX6_layItself 1 = .ok (.istore 4, 2) := by decide +kernel
theorem dX6_layItself_3 : decode cX6_layItself 3 = .ok (.iload 4, 2) := by decide +kernel
theorem dX6_layItself_5 : decode cX6_layItself 5 = .ok (.iconst 5, 1) := by decide +kernel
theorem dX6_layItself_6 : decode cX6_layItself 6 = .ok (.if_icmp .ge 74, 3) := by decide +kernel
theorem dX6_layItself_9 : decode cX6_layItself 9 = .ok (.getstatic 104, 3) := by decide +kernel
theorem dX6_layItself_12 : decode cX6_layItself 12 = .ok (.iload_n 2, 1) := by decide +kernel
theorem dX6_layItself_13 : decode cX6_layItself 13 = .ok (.iconst 5, 1) := by decide +kernel
theorem dX6_layItself_14 : decode cX6_layItself 14 = .ok (.imul, 1) := by decide +kernel
theorem dX6_layItself_15 : decode cX6_layItself 15 = .ok (.iload 4, 2) := by decide +kernel
theorem dX6_layItself_17 : decode cX6_layItself 17 = .ok (.iadd, 1) := by decide +kernel
theorem dX6_layItself_18 : decode cX6_layItself 18 = .ok (.iaload, 1) := by decide +kernel
theorem dX6_layItself_19 : decode cX6_layItself 19 = .ok (.istore 5, 2) := by decide +kernel
theorem dX6_layItself_21 : decode cX6_layItself 21 = .ok (.iload 5, 2) := by decide +kernel
theorem dX6_layItself_23 : decode cX6_layItself 23 = .ok (.ifCond .lt 51, 3) := by decide +kernel
theorem dX6_layItself_26 : decode cX6_layItself 26 = .ok (.iconst 1, 1) := by decide +kernel
theorem dX6_layItself_27 : decode cX6_layItself 27 = .ok (.aload_n 0, 1) := by decide +kernel
theorem dX6_layItself_28 : decode cX6_layItself 28 = .ok (.getfield 18, 3) := by decide +kernel
theorem dX6_layItself_31 : decode cX6_layItself 31 = .ok (.iload_n 1, 1) := by decide +kernel
theorem dX6_layItself_32 : decode cX6_layItself 32 = .ok (.bipush 6, 2) := by decide +kernel
theorem dX6_layItself_34 : decode cX6_layItself 34 = .ok (.imul, 1) := by decide +kernel
theorem dX6_layItself_35 : decode cX6_layItself 35 = .ok (.iload 5, 2) := by decide +kernel
theorem dX6_layItself_37 : decode cX6_layItself 37 = .ok (.iadd, 1) := by decide +kernel
theorem dX6_layItself_38 : decode cX6_layItself 38 = .ok (.iaload, 1) := by decide +kernel
theorem dX6_layItself_39 : decode cX6_layItself 39 = .ok (.iadd, 1) := by decide +kernel
theorem dX6_layItself_40 : decode cX6_layItself 40 = .ok (.iload_n 3, 1) := by decide +kernel
theorem dX6_layItself_41 : decode cX6_layItself 41 = .ok (.if_icmp .ne 33, 3) := by decide +kernel
theorem dX6_layItself_44 : decode cX6_layItself 44 = .ok (.aload_n 0, 1) := by decide +kernel
theorem dX6_layItself_45 : decode cX6_layItself 45 = .ok (.getfield 46, 3) := by decide +kernel
theorem dX6_layItself_48 : decode cX6_layItself 48 = .ok (.aload_n 0, 1) := by decide +kernel
theorem dX6_layItself_49 : decode cX6_layItself 49 = .ok (.getfield 12, 3) := by decide +kernel
theorem dX6_layItself_52 : decode cX6_layItself 52 = .ok (.getfield 115, 3) := by decide +kernel
theorem dX6_layItself_55 : decode cX6_layItself 55 = .ok (.iload_n 1, 1) := by decide +kernel
theorem dX6_layItself_56 : decode cX6_layItself 56 = .ok (.iaload, 1) := by decide +kernel
theorem dX6_layItself_57 : decode cX6_layItself 57 = .ok (.aload_n 0, 1) := by decide +kernel
theorem dX6_layItself_58 : decode cX6_layItself 58 = .ok (.getfield 12, 3) := by decide +kernel
theorem dX6_layItself_61 : decode cX6_layItself 61 = .ok (.getfield 60, 3) := by decide +kernel
theorem dX6_layItself_64 : decode cX6_layItself 64 = .ok (.iload_n 1, 1) := by decide +kernel
theorem dX6_layItself_65 : decode cX6_layItself 65 = .ok (.iaload, 1) := by decide +kernel
theorem dX6_layItself_66 : decode cX6_layItself 66 = .ok (.iload 4, 2) := by decide +kernel
theorem dX6_layItself_68 : decode cX6_layItself 68 = .ok (.invokevirtual 118, 3) := by decide +kernel
theorem dX6_layItself_71 : decode cX6_layItself 71 = .ok (.iload 5, 2) := by decide +kernel
theorem dX6_layItself_73 : decode cX6_layItself 73 = .ok (.ireturn, 1) := by decide +kernel
theorem dX6_layItself_74 : decode cX6_layItself 74 = .ok (.iinc 4 1, 3) := by decide +kernel
theorem dX6_layItself_77 : decode cX6_layItself 77 = .ok (.goto (-74), 3) := by decide +kernel
theorem dX6_layItself_80 : decode cX6_layItself 80 = .ok (.iload_n 2, 1) := by decide +kernel
theorem dX6_layItself_81 : decode cX6_layItself 81 = .ok (.ireturn, 1) := by decide +kernel
theorem dX6_layWithin_0 : decode cX6_layWithin 0 = .ok (.iload_n 2, 1) := by decide +kernel
theorem dX6_layWithin_1 : decode cX6_layWithin 1 = .ok (.istore 4, 2) := by decide +kernel
theorem dX6_layWithin_3 : decode cX6_layWithin 3 = .ok (.iconst 0, 1) := by decide +kernel
theorem dX6_layWithin_4 : decode cX6_layWithin 4 = .ok (.istore 5, 2) := by decide +kernel
theorem dX6_layWithin_6 : decode cX6_layWithin 6 = .ok (.iload 5, 2) := by decide +kernel
theorem dX6_layWithin_8 : decode cX6_layWithin 8 = .ok (.bipush 6, 2) := by decide +kernel
theorem dX6_layWithin_10 : decode cX6_layWithin 10 = .ok (.if_icmp .ge 109, 3) := by decide +kernel
theorem dX6_layWithin_13 : decode cX6_layWithin 13 = .ok (.iload_n 3, 1) := by decide +kernel
theorem dX6_layWithin_14 : decode cX6_layWithin 14 = .ok (.bipush 11, 2) := by decide +kernel
theorem dX6_layWithin_16 : decode cX6_layWithin 16 = .ok (.if_icmp .gt 103, 3) := by decide +kernel
theorem dX6_layWithin_19 : decode cX6_layWithin 19 = .ok (.aload_n 0, 1) := by decide +kernel
theorem dX6_layWithin_20 : decode cX6_layWithin 20 = .ok (.getfield 18, 3) := by decide +kernel
theorem dX6_layWithin_23 : decode cX6_layWithin 23 = .ok (.iload_n 1, 1) := by decide +kernel
theorem dX6_layWithin_24 : decode cX6_layWithin 24 = .ok (.bipush 6, 2) := by decide +kernel
theorem dX6_layWithin_26 : decode cX6_layWithin 26 = .ok (.imul, 1) := by decide +kernel
theorem dX6_layWithin_27 : decode cX6_layWithin 27 = .ok (.iload 4, 2) := by decide +kernel
theorem dX6_layWithin_29 : decode cX6_layWithin 29 = .ok (.iadd, 1) := by decide +kernel
theorem dX6_layWithin_30 : decode cX6_layWithin 30 = .ok (.iaload, 1) := by decide +kernel
theorem dX6_layWithin_31 : decode cX6_layWithin 31 = .ok (.istore 6, 2) := by decide +kernel
theorem dX6_layWithin_33 : decode cX6_layWithin 33 = .ok (.iload 6, 2) := by decide +kernel
theorem dX6_layWithin_35 : decode cX6_layWithin 35 = .ok (.ifCond .eq 11, 3) := by decide +kernel
theorem dX6_layWithin_38 : decode cX6_layWithin 38 = .ok (.iload 6, 2) := by decide +kernel
theorem dX6_layWithin_40 : decode cX6_layWithin 40 = .ok (.sipush 10000, 3) := by decide +kernel
theorem dX6_layWithin_43 : decode cX6_layWithin 43 = .ok (.if_icmp .lt 4, 3) := by decide +kernel
theorem dX6_layWithin_46 : decode cX6_layWithin 46 = .ok (.return_, 1) := by decide +kernel
theorem dX6_layWithin_47 : decode cX6_layWithin 47 = .ok (.aload_n 0, 1) := by decide +kernel
theorem dX6_layWithin_48 : decode cX6_layWithin 48 = .ok (.getfield 12, 3) := by decide +kernel
theorem dX6_layWithin_51 : decode cX6_layWithin 51 = .ok (.getfield 79, 3) := by decide +kernel
theorem dX6_layWithin_54 : decode cX6_layWithin 54 = .ok (.iload_n 1, 1) := by decide +kernel
theorem dX6_layWithin_55 : decode cX6_layWithin 55 = .ok (.iaload, 1) := by decide +kernel
theorem dX6_layWithin_56 : decode cX6_layWithin 56 = .ok (.ifCond .eq 46, 3) := by decide +kernel
theorem dX6_layWithin_59 : decode cX6_layWithin 59 = .ok (.aload_n 0, 1) := by decide +kernel
theorem dX6_layWithin_60 : decode cX6_layWithin 60 = .ok (.iload_n 1, 1) := by decide +kernel
theorem dX6_layWithin_61 : decode cX6_layWithin 61 = .ok (.iload 4, 2) := by decide +kernel
theorem dX6_layWithin_63 : decode cX6_layWithin 63 = .ok (.invokevirtual 82, 3) := by decide +kernel
theorem dX6_layWithin_66 : decode cX6_layWithin 66 = .ok (.iload 6, 2) := by decide +kernel
theorem dX6_layWithin_68 : decode cX6_layWithin 68 = .ok (.if_icmp .ne 34, 3) := by decide +kernel
theorem dX6_layWithin_71 : decode cX6_layWithin 71 = .ok (.aload_n 0, 1) := by decide +kernel
theorem dX6_layWithin_72 : decode cX6_layWithin 72 = .ok (.iload_n 1, 1) := by decide +kernel
theorem dX6_layWithin_73 : decode cX6_layWithin 73 = .ok (.iconst 1, 1) := by decide +kernel
theorem dX6_layWithin_74 : decode cX6_layWithin 74 = .ok (.iadd, 1) := by decide +kernel
theorem dX6_layWithin_75 : decode cX6_layWithin 75 = .ok (.iload 4, 2) := by decide +kernel
theorem dX6_layWithin_77 : decode cX6_layWithin 77 = .ok (.iload_n 3, 1) := by decide +kernel
theorem dX6_layWithin_78 : decode cX6_layWithin 78 = .ok (.iconst 1, 1) := by decide +kernel
theorem dX6_layWithin_79 : decode cX6_layWithin 79 = .ok (.iadd, 1) := by decide +kernel
theorem dX6_layWithin_80 : decode cX6_layWithin 80 = .ok (.invokevirtual 55, 3) := by decide +kernel
theorem dX6_layWithin_83 : decode cX6_layWithin 83 = .ok (.aload_n 0, 1) := by decide +kernel
theorem dX6_layWithin_84 : decode cX6_layWithin 84 = .ok (.aload_n 0, 1) := by decide +kernel
theorem dX6_layWithin_85 : decode cX6_layWithin 85 = .ok (.getfield 12, 3) := by decide +kernel
theorem dX6_layWithin_88 : decode cX6_layWithin 88 = .ok (.getfield 79, 3) := by decide +kernel
theorem dX6_layWithin_91 : decode cX6_layWithin 91 = .ok (.iload_n 1, 1) := by decide +kernel
theorem dX6_layWithin_92 : decode cX6_layWithin 92 = .ok (.iaload, 1) := by decide +kernel
theorem dX6_layWithin_93 : decode cX6_layWithin 93 = .ok (.iload 4, 2) := by decide +kernel
theorem dX6_layWithin_95 : decode cX6_layWithin 95 = .ok (.iload_n 3, 1) := by decide +kernel
theorem dX6_layWithin_96 : decode cX6_layWithin 96 = .ok (.iconst 1, 1) := by decide +kernel
theorem dX6_layWithin_97 : decode cX6_layWithin 97 = .ok (.iadd, 1) := by decide +kernel
theorem dX6_layWithin_98 : decode cX6_layWithin 98 = .ok (.invokevirtual 55, 3) := by decide +kernel
theorem dX6_layWithin_101 : decode cX6_layWithin 101 = .ok (.return_, 1) := by decide +kernel
theorem dX6_layWithin_102 : decode cX6_layWithin 102 = .ok (.aload_n 0, 1) := by decide +kernel
theorem dX6_layWithin_103 : decode cX6_layWithin 103 = .ok (.iload_n 1, 1) := by decide +kernel
theorem dX6_layWithin_104 : decode cX6_layWithin 104 = .ok (.iload 4, 2) := by decide +kernel
theorem dX6_layWithin_106 : decode cX6_layWithin 106 = .ok (.iload 6, 2) := by decide +kernel
theorem dX6_layWithin_108 : decode cX6_layWithin 108 = .ok (.invokevirtual 111, 3) := by decide +kernel
theorem dX6_layWithin_111 : decode cX6_layWithin 111 = .ok (.istore 4, 2) := by decide +kernel
theorem dX6_layWithin_113 : decode cX6_layWithin 113 = .ok (.iinc 5 1, 3) := by decide +kernel
theorem dX6_layWithin_116 : decode cX6_layWithin 116 = .ok (.goto (-110), 3) := by decide +kernel
theorem dX6_layWithin_119 : decode cX6_layWithin 119 = .ok (.return_, 1) := by decide +kernel
theorem dX6_layPlan_0 : decode cX6_layPlan 0 = .ok (.aload_n 0, 1) := by decide +kernel
theorem dX6_layPlan_1 : decode cX6_layPlan 1 = .ok (.getfield 12, 3) := by decide +kernel
theorem dX6_layPlan_4 : decode cX6_layPlan 4 = .ok (.aload_n 1, 1) := by decide +kernel
theorem dX6_layPlan_5 : decode cX6_layPlan 5 = .ok (.aload_n 1, 1) := by decide +kernel
theorem dX6_layPlan_6 : decode cX6_layPlan 6 = .ok (.getfield 28, 3) := by decide +kernel
theorem dX6_layPlan_9 : decode cX6_layPlan 9 = .ok (.invokevirtual 34, 3) := by decide +kernel
theorem dX6_layPlan_12 : decode cX6_layPlan 12 = .ok (.aload_n 0, 1) := by decide +kernel
theorem dX6_layPlan_13 : decode cX6_layPlan 13 = .ok (.iconst 1, 1) := by decide +kernel
theorem dX6_layPlan_14 : decode cX6_layPlan 14 = .ok (.putfield 38, 3) := by decide +kernel
theorem dX6_layPlan_17 : decode cX6_layPlan 17 = .ok (.aload_n 0, 1) := by decide +kernel
theorem dX6_layPlan_18 : decode cX6_layPlan 18 = .ok (.iconst 0, 1) := by decide +kernel
theorem dX6_layPlan_19 : decode cX6_layPlan 19 = .ok (.iconst 5, 1) := by decide +kernel
theorem dX6_layPlan_20 : decode cX6_layPlan 20 = .ok (.invokevirtual 42, 3) := by decide +kernel
theorem dX6_layPlan_23 : decode cX6_layPlan 23 = .ok (.aload_n 0, 1) := by decide +kernel
theorem dX6_layPlan_24 : decode cX6_layPlan 24 = .ok (.aload_n 2, 1) := by decide +kernel
theorem dX6_layPlan_25 : decode cX6_layPlan 25 = .ok (.putfield 46, 3) := by decide +kernel
theorem dX6_layPlan_28 : decode cX6_layPlan 28 = .ok (.aload_n 0, 1) := by decide +kernel
theorem dX6_layPlan_29 : decode cX6_layPlan 29 = .ok (.getfield 46, 3) := by decide +kernel
theorem dX6_layPlan_32 : decode cX6_layPlan 32 = .ok (.iconst 0, 1) := by decide +kernel
theorem dX6_layPlan_33 : decode cX6_layPlan 33 = .ok (.putfield 50, 3) := by decide +kernel
theorem dX6_layPlan_36 : decode cX6_layPlan 36 = .ok (.aload_n 0, 1) := by decide +kernel
theorem dX6_layPlan_37 : decode cX6_layPlan 37 = .ok (.iconst 0, 1) := by decide +kernel
theorem dX6_layPlan_38 : decode cX6_layPlan 38 = .ok (.iconst 5, 1) := by decide +kernel
theorem dX6_layPlan_39 : decode cX6_layPlan 39 = .ok (.iconst 0, 1) := by decide +kernel
theorem dX6_layPlan_40 : decode cX6_layPlan 40 = .ok (.invokevirtual 55, 3) := by decide +kernel
theorem dX6_layPlan_43 : decode cX6_layPlan 43 = .ok (.return_, 1) := by decide +kernel
theorem dX6_byPages_0 : decode cX6_byPages 0 = .ok (.aload_n 0, 1) := by decide +kernel
theorem dX6_byPages_1 : decode cX6_byPages 1 = .ok (.getfield 12, 3) := by decide +kernel
theorem dX6_byPages_4 : decode cX6_byPages 4 = .ok (.getfield 79, 3) := by decide +kernel
theorem dX6_byPages_7 : decode cX6_byPages 7 = .ok (.iload_n 1, 1) := by decide +kernel
theorem dX6_byPages_8 : decode cX6_byPages 8 = .ok (.iaload, 1) := by decide +kernel
theorem dX6_byPages_9 : decode cX6_byPages 9 = .ok (.ifCond .eq 10, 3) := by decide +kernel
theorem dX6_byPages_12 : decode cX6_byPages 12 = .ok (.aload_n 0, 1) := by decide +kernel
theorem dX6_byPages_13 : decode cX6_byPages 13 = .ok (.iload_n 1, 1) := by decide +kernel
theorem dX6_byPages_14 : decode cX6_byPages 14 = .ok (.iload_n 2, 1) := by decide +kernel
theorem dX6_byPages_15 : decode cX6_byPages 15 = .ok (.invokevirtual 82, 3) := by decide +kernel
theorem dX6_byPages_18 : decode cX6_byPages 18 = .ok (.ireturn, 1) := by decide +kernel
theorem dX6_byPages_19 : decode cX6_byPages 19 = .ok (.aload_n 0, 1) := by decide +kernel
theorem dX6_byPages_20 : decode cX6_byPages 20 = .ok (.getfield 12, 3) := by decide +kernel
theorem dX6_byPages_23 : decode cX6_byPages 23 = .ok (.iload_n 1, 1) := by decide +kernel
theorem dX6_byPages_24 : decode cX6_byPages 24 = .ok (.iload_n 2, 1) := by decide +kernel
theorem dX6_byPages_25 : decode cX6_byPages 25 = .ok (.invokevirtual 101, 3) := by decide +kernel
theorem dX6_byPages_28 : decode cX6_byPages 28 = .ok (.iconst (-1), 1) := by decide +kernel
theorem dX6_byPages_29 : decode cX6_byPages 29 = .ok (.if_icmp .eq 7, 3) := by decide +kernel
theorem dX6_byPages_32 : decode cX6_byPages 32 = .ok (.iconst 0, 1) := by decide +kernel
theorem dX6_byPages_33 : decode cX6_byPages 33 = .ok (.goto 6, 3) := by decide +kernel
theorem dX6_byPages_36 : decode cX6_byPages 36 = .ok (.sipush 10000, 3) := by decide +kernel
theorem dX6_byPages_39 : decode cX6_byPages 39 = .ok (.ireturn, 1) := by decide +kernel
theorem dX6_weighAbovePages_0 : decode cX6_weighAbovePages 0 = .ok (.iconst 0, 1) := by decide +kernel
theorem dX6_weighAbovePages_1 : decode cX6_weighAbovePages 1 = .ok (.istore_n 2, 1) := by decide +kernel
theorem dX6_weighAbovePages_2 : decode cX6_weighAbovePages 2 = .ok (.iload_n 2, 1) := by decide +kernel
theorem dX6_weighAbovePages_3 : decode cX6_weighAbovePages 3 = .ok (.bipush 6, 2) := by decide +kernel
theorem dX6_weighAbovePages_5 : decode cX6_weighAbovePages 5 = .ok (.if_icmp .ge 35, 3) := by decide +kernel
theorem dX6_weighAbovePages_8 : decode cX6_weighAbovePages 8 = .ok (.aload_n 0, 1) := by decide +kernel
theorem dX6_weighAbovePages_9 : decode cX6_weighAbovePages 9 = .ok (.getfield 18, 3) := by decide +kernel
theorem dX6_weighAbovePages_12 : decode cX6_weighAbovePages 12 = .ok (.iload_n 1, 1) := by decide +kernel
theorem dX6_weighAbovePages_13 : decode cX6_weighAbovePages 13 = .ok (.bipush 6, 2) := by decide +kernel
theorem dX6_weighAbovePages_15 : decode cX6_weighAbovePages 15 = .ok (.imul, 1) := by decide +kernel
theorem dX6_weighAbovePages_16 : decode cX6_weighAbovePages 16 = .ok (.iload_n 2, 1) := by decide +kernel
theorem dX6_weighAbovePages_17 : decode cX6_weighAbovePages 17 = .ok (.iadd, 1) := by decide +kernel
theorem dX6_weighAbovePages_18 : decode cX6_weighAbovePages 18 = .ok (.aload_n 0, 1) := by decide +kernel
theorem dX6_weighAbovePages_19 : decode cX6_weighAbovePages 19 = .ok (.iload_n 1, 1) := by decide +kernel
theorem dX6_weighAbovePages_20 : decode cX6_weighAbovePages 20 = .ok (.iload_n 2, 1) := by decide +kernel
theorem dX6_weighAbovePages_21 : decode cX6_weighAbovePages 21 = .ok (.invokevirtual 98, 3) := by decide +kernel
theorem dX6_weighAbovePages_24 : decode cX6_weighAbovePages 24 = .ok (.aload_n 0, 1) := by decide +kernel
theorem dX6_weighAbovePages_25 : decode cX6_weighAbovePages 25 = .ok (.iload_n 1, 1) := by decide +kernel
theorem dX6_weighAbovePages_26 : decode cX6_weighAbovePages 26 = .ok (.iload_n 2, 1) := by decide +kernel
theorem dX6_weighAbovePages_27 : decode cX6_weighAbovePages 27 = .ok (.invokevirtual 90, 3) := by decide +kernel
theorem dX6_weighAbovePages_30 : decode cX6_weighAbovePages 30 = .ok (.invokestatic 93, 3) := by decide +kernel
theorem dX6_weighAbovePages_33 : decode cX6_weighAbovePages 33 = .ok (.iastore, 1) := by decide +kernel
theorem dX6_weighAbovePages_34 : decode cX6_weighAbovePages 34 = .ok (.iinc 2 1, 3) := by decide +kernel
theorem dX6_weighAbovePages_37 : decode cX6_weighAbovePages 37 = .ok (.goto (-35), 3) := by decide +kernel
theorem dX6_weighAbovePages_40 : decode cX6_weighAbovePages 40 = .ok (.return_, 1) := by decide +kernel
theorem dX6_choosePageKinds_0 : decode cX6_choosePageKinds 0 = .ok (.iconst 0, 1) := by decide +kernel
theorem dX6_choosePageKinds_1 : decode cX6_choosePageKinds 1 = .ok (.istore_n 2, 1) := by decide +kernel
theorem dX6_choosePageKinds_2 : decode cX6_choosePageKinds 2 = .ok (.iload_n 2, 1) := by decide +kernel
theorem dX6_choosePageKinds_3 : decode cX6_choosePageKinds 3 = .ok (.bipush 6, 2) := by decide +kernel
theorem dX6_choosePageKinds_5 : decode cX6_choosePageKinds 5 = .ok (.if_icmp .ge 18, 3) := by decide +kernel
theorem dX6_choosePageKinds_8 : decode cX6_choosePageKinds 8 = .ok (.aload_n 0, 1) := by decide +kernel
theorem dX6_choosePageKinds_9 : decode cX6_choosePageKinds 9 = .ok (.getfield 25, 3) := by decide +kernel
theorem dX6_choosePageKinds_12 : decode cX6_choosePageKinds 12 = .ok (.iload_n 2, 1) := by decide +kernel
theorem dX6_choosePageKinds_13 : decode cX6_choosePageKinds 13 = .ok (.sipush 10001, 3) := by decide +kernel
theorem dX6_choosePageKinds_16 : decode cX6_choosePageKinds 16 = .ok (.iastore, 1) := by decide +kernel
theorem dX6_choosePageKinds_17 : decode cX6_choosePageKinds 17 = .ok (.iinc 2 1, 3) := by decide +kernel
theorem dX6_choosePageKinds_20 : decode cX6_choosePageKinds 20 = .ok (.goto (-18), 3) := by decide +kernel
theorem dX6_choosePageKinds_23 : decode cX6_choosePageKinds 23 = .ok (.iconst 0, 1) := by decide +kernel
theorem dX6_choosePageKinds_24 : decode cX6_choosePageKinds 24 = .ok (.istore_n 2, 1) := by decide +kernel
theorem dX6_choosePageKinds_25 : decode cX6_choosePageKinds 25 = .ok (.iload_n 2, 1) := by decide +kernel
theorem dX6_choosePageKinds_26 : decode cX6_choosePageKinds 26 = .ok (.bipush 6, 2) := by decide +kernel
theorem dX6_choosePageKinds_28 : decode cX6_choosePageKinds 28 = .ok (.if_icmp .ge 84, 3) := by decide +kernel
theorem dX6_choosePageKinds_31 : decode cX6_choosePageKinds 31 = .ok (.aload_n 0, 1) := by decide +kernel
theorem dX6_choosePageKinds_32 : decode cX6_choosePageKinds 32 = .ok (.iload_n 1, 1) := by decide +kernel
theorem dX6_choosePageKinds_33 : decode cX6_choosePageKinds 33 = .ok (.iload_n 2, 1) := by decide +kernel
theorem dX6_choosePageKinds_34 : decode cX6_choosePageKinds 34 = .ok (.invokestatic 107, 3) := by decide +kernel
theorem dX6_choosePageKinds_37 : decode cX6_choosePageKinds 37 = .ok (.invokevirtual 42, 3) := by decide +kernel
theorem dX6_choosePageKinds_40 : decode cX6_choosePageKinds 40 = .ok (.iconst 0, 1) := by decide +kernel
theorem dX6_choosePageKinds_41 : decode cX6_choosePageKinds 41 = .ok (.istore_n 3, 1) := by decide +kernel
theorem dX6_choosePageKinds_42 : decode cX6_choosePageKinds 42 = .ok (.iload_n 3, 1) := by decide +kernel
theorem dX6_choosePageKinds_43 : decode cX6_choosePageKinds 43 = .ok (.bipush 6, 2) := by decide +kernel
theorem dX6_choosePageKinds_45 : decode cX6_choosePageKinds 45 = .ok (.if_icmp .ge 61, 3) := by decide +kernel
theorem dX6_choosePageKinds_48 : decode cX6_choosePageKinds 48 = .ok (.aload_n 0, 1) := by decide +kernel
theorem dX6_choosePageKinds_49 : decode cX6_choosePageKinds 49 = .ok (.getfield 18, 3) := by decide +kernel
theorem dX6_choosePageKinds_52 : decode cX6_choosePageKinds 52 = .ok (.iload_n 1, 1) := by decide +kernel
theorem dX6_choosePageKinds_53 : decode cX6_choosePageKinds 53 = .ok (.bipush 6, 2) := by decide +kernel
theorem dX6_choosePageKinds_55 : decode cX6_choosePageKinds 55 = .ok (.imul, 1) := by decide +kernel
theorem dX6_choosePageKinds_56 : decode cX6_choosePageKinds 56 = .ok (.iload_n 3, 1) := by decide +kernel
theorem dX6_choosePageKinds_57 : decode cX6_choosePageKinds 57 = .ok (.iadd, 1) := by decide +kernel
theorem dX6_choosePageKinds_58 : decode cX6_choosePageKinds 58 = .ok (.iaload, 1) := by decide +kernel
theorem dX6_choosePageKinds_59 : decode cX6_choosePageKinds 59 = .ok (.aload_n 0, 1) := by decide +kernel
theorem dX6_choosePageKinds_60 : decode cX6_choosePageKinds 60 = .ok (.getfield 25, 3) := by decide +kernel
theorem dX6_choosePageKinds_63 : decode cX6_choosePageKinds 63 = .ok (.iload_n 3, 1) := by decide +kernel
theorem dX6_choosePageKinds_64 : decode cX6_choosePageKinds 64 = .ok (.iaload, 1) := by decide +kernel
theorem dX6_choosePageKinds_65 : decode cX6_choosePageKinds 65 = .ok (.if_icmp .ge 35, 3) := by decide +kernel
theorem dX6_choosePageKinds_68 : decode cX6_choosePageKinds 68 = .ok (.aload_n 0, 1) := by decide +kernel
theorem dX6_choosePageKinds_69 : decode cX6_choosePageKinds 69 = .ok (.getfield 25, 3) := by decide +kernel
theorem dX6_choosePageKinds_72 : decode cX6_choosePageKinds 72 = .ok (.iload_n 3, 1) := by decide +kernel
theorem dX6_choosePageKinds_73 : decode cX6_choosePageKinds 73 = .ok (.aload_n 0, 1) := by decide +kernel
theorem dX6_choosePageKinds_74 : decode cX6_choosePageKinds 74 = .ok (.getfield 18, 3) := by decide +kernel
theorem dX6_choosePageKinds_77 : decode cX6_choosePageKinds 77 = .ok (.iload_n 1, 1) := by decide +kernel
theorem dX6_choosePageKinds_78 : decode cX6_choosePageKinds 78 = .ok (.bipush 6, 2) := by decide +kernel
theorem dX6_choosePageKinds_80 : decode cX6_choosePageKinds 80 = .ok (.imul, 1) := by decide +kernel
theorem dX6_choosePageKinds_81 : decode cX6_choosePageKinds 81 = .ok (.iload_n 3, 1) := by decide +kernel
theorem dX6_choosePageKinds_82 : decode cX6_choosePageKinds 82 = .ok (.iadd, 1) := by decide +kernel
theorem dX6_choosePageKinds_83 : decode cX6_choosePageKinds 83 = .ok (.iaload, 1) := by decide +kernel
theorem dX6_choosePageKinds_84 : decode cX6_choosePageKinds 84 = .ok (.iastore, 1) := by decide +kernel
theorem dX6_choosePageKinds_85 : decode cX6_choosePageKinds 85 = .ok (.aload_n 0, 1) := by decide +kernel
theorem dX6_choosePageKinds_86 : decode cX6_choosePageKinds 86 = .ok (.getfield 22, 3) := by decide +kernel
theorem dX6_choosePageKinds_89 : decode cX6_choosePageKinds 89 = .ok (.iload_n 1, 1) := by decide +kernel
theorem dX6_choosePageKinds_90 : decode cX6_choosePageKinds 90 = .ok (.bipush 6, 2) := by decide +kernel
theorem dX6_choosePageKinds_92 : decode cX6_choosePageKinds 92 = .ok (.imul, 1) := by decide +kernel
theorem dX6_choosePageKinds_93 : decode cX6_choosePageKinds 93 = .ok (.iload_n 3, 1) := by decide +kernel
theorem dX6_choosePageKinds_94 : decode cX6_choosePageKinds 94 = .ok (.iadd, 1) := by decide +kernel
theorem dX6_choosePageKinds_95 : decode cX6_choosePageKinds 95 = .ok (.iload_n 2, 1) := by decide +kernel
theorem dX6_choosePageKinds_96 : decode cX6_choosePageKinds 96 = .ok (.invokestatic 107, 3) := by decide +kernel
theorem dX6_choosePageKinds_99 : decode cX6_choosePageKinds 99 = .ok (.iastore, 1) := by decide +kernel
theorem dX6_choosePageKinds_100 : decode cX6_choosePageKinds 100 = .ok (.iinc 3 1, 3) := by decide +kernel
theorem dX6_choosePageKinds_103 : decode cX6_choosePageKinds 103 = .ok (.goto (-61), 3) := by decide +kernel
theorem dX6_choosePageKinds_106 : decode cX6_choosePageKinds 106 = .ok (.iinc 2 1, 3) := by decide +kernel
theorem dX6_choosePageKinds_109 : decode cX6_choosePageKinds 109 = .ok (.goto (-84), 3) := by decide +kernel
theorem dX6_choosePageKinds_112 : decode cX6_choosePageKinds 112 = .ok (.iconst 0, 1) := by decide +kernel
theorem dX6_choosePageKinds_113 : decode cX6_choosePageKinds 113 = .ok (.istore_n 2, 1) := by decide +kernel
theorem dX6_choosePageKinds_114 : decode cX6_choosePageKinds 114 = .ok (.iload_n 2, 1) := by decide +kernel
theorem dX6_choosePageKinds_115 : decode cX6_choosePageKinds 115 = .ok (.bipush 6, 2) := by decide +kernel
theorem dX6_choosePageKinds_117 : decode cX6_choosePageKinds 117 = .ok (.if_icmp .ge 26, 3) := by decide +kernel
theorem dX6_choosePageKinds_120 : decode cX6_choosePageKinds 120 = .ok (.aload_n 0, 1) := by decide +kernel
theorem dX6_choosePageKinds_121 : decode cX6_choosePageKinds 121 = .ok (.getfield 18, 3) := by decide +kernel
theorem dX6_choosePageKinds_124 : decode cX6_choosePageKinds 124 = .ok (.iload_n 1, 1) := by decide +kernel
theorem dX6_choosePageKinds_125 : decode cX6_choosePageKinds 125 = .ok (.bipush 6, 2) := by decide +kernel
theorem dX6_choosePageKinds_127 : decode cX6_choosePageKinds 127 = .ok (.imul, 1) := by decide +kernel
theorem dX6_choosePageKinds_128 : decode cX6_choosePageKinds 128 = .ok (.iload_n 2, 1) := by decide +kernel
theorem dX6_choosePageKinds_129 : decode cX6_choosePageKinds 129 = .ok (.iadd, 1) := by decide +kernel
theorem dX6_choosePageKinds_130 : decode cX6_choosePageKinds 130 = .ok (.aload_n 0, 1) := by decide +kernel
theorem dX6_choosePageKinds_131 : decode cX6_choosePageKinds 131 = .ok (.getfield 25, 3) := by decide +kernel
theorem dX6_choosePageKinds_134 : decode cX6_choosePageKinds 134 = .ok (.iload_n 2, 1) := by decide +kernel
theorem dX6_choosePageKinds_135 : decode cX6_choosePageKinds 135 = .ok (.iaload, 1) := by decide +kernel
theorem dX6_choosePageKinds_136 : decode cX6_choosePageKinds 136 = .ok (.iastore, 1) := by decide +kernel
theorem dX6_choosePageKinds_137 : decode cX6_choosePageKinds 137 = .ok (.iinc 2 1, 3) := by decide +kernel
theorem dX6_choosePageKinds_140 : decode cX6_choosePageKinds 140 = .ok (.goto (-26), 3) := by decide +kernel
theorem dX6_choosePageKinds_143 : decode cX6_choosePageKinds 143 = .ok (.return_, 1) := by decide +kernel
theorem dX6_layPage_0 : decode cX6_layPage 0 = .ok (.aload_n 0, 1) := by decide +kernel
theorem dX6_layPage_1 : decode cX6_layPage 1 = .ok (.getfield 22, 3) := by decide +kernel
theorem dX6_layPage_4 : decode cX6_layPage 4 = .ok (.iload_n 1, 1) := by decide +kernel
theorem dX6_layPage_5 : decode cX6_layPage 5 = .ok (.bipush 6, 2) := by decide +kernel
theorem dX6_layPage_7 : decode cX6_layPage 7 = .ok (.imul, 1) := by decide +kernel
theorem dX6_layPage_8 : decode cX6_layPage 8 = .ok (.iload_n 2, 1) := by decide +kernel
theorem dX6_layPage_9 : decode cX6_layPage 9 = .ok (.iadd, 1) := by decide +kernel
theorem dX6_layPage_10 : decode cX6_layPage 10 = .ok (.iaload, 1) := by decide +kernel
theorem dX6_layPage_11 : decode cX6_layPage 11 = .ok (.istore 4, 2) := by decide +kernel
theorem dX6_layPage_13 : decode cX6_layPage 13 = .ok (.aload_n 0, 1) := by decide +kernel
theorem dX6_layPage_14 : decode cX6_layPage 14 = .ok (.getfield 70, 3) := by decide +kernel
theorem dX6_layPage_17 : decode cX6_layPage 17 = .ok (.aload_n 0, 1) := by decide +kernel
theorem dX6_layPage_18 : decode cX6_layPage 18 = .ok (.getfield 12, 3) := by decide +kernel
theorem dX6_layPage_21 : decode cX6_layPage 21 = .ok (.getfield 115, 3) := by decide +kernel
theorem dX6_layPage_24 : decode cX6_layPage 24 = .ok (.iload_n 1, 1) := by decide +kernel
theorem dX6_layPage_25 : decode cX6_layPage 25 = .ok (.iaload, 1) := by decide +kernel
theorem dX6_layPage_26 : decode cX6_layPage 26 = .ok (.bipush 16, 2) := by decide +kernel
theorem dX6_layPage_28 : decode cX6_layPage 28 = .ok (.idiv, 1) := by decide +kernel
theorem dX6_layPage_29 : decode cX6_layPage 29 = .ok (.iload 4, 2) := by decide +kernel
theorem dX6_layPage_31 : decode cX6_layPage 31 = .ok (.iastore, 1) := by decide +kernel
theorem dX6_layPage_32 : decode cX6_layPage 32 = .ok (.aload_n 0, 1) := by decide +kernel
theorem dX6_layPage_33 : decode cX6_layPage 33 = .ok (.iload_n 1, 1) := by decide +kernel
theorem dX6_layPage_34 : decode cX6_layPage 34 = .ok (.iload 4, 2) := by decide +kernel
theorem dX6_layPage_36 : decode cX6_layPage 36 = .ok (.invokevirtual 42, 3) := by decide +kernel
theorem dX6_layPage_39 : decode cX6_layPage 39 = .ok (.aload_n 0, 1) := by decide +kernel
theorem dX6_layPage_40 : decode cX6_layPage 40 = .ok (.iload_n 1, 1) := by decide +kernel
theorem dX6_layPage_41 : decode cX6_layPage 41 = .ok (.iload_n 2, 1) := by decide +kernel
theorem dX6_layPage_42 : decode cX6_layPage 42 = .ok (.iload_n 3, 1) := by decide +kernel
theorem dX6_layPage_43 : decode cX6_layPage 43 = .ok (.invokevirtual 55, 3) := by decide +kernel
theorem dX6_layPage_46 : decode cX6_layPage 46 = .ok (.return_, 1) := by decide +kernel
theorem dX6_layHalvesAbovePages_0 : decode cX6_layHalvesAbovePages 0 = .ok (.aload_n 0, 1) := by decide +kernel
theorem dX6_layHalvesAbovePages_1 : decode cX6_layHalvesAbovePages 1 = .ok (.getfield 12, 3) := by decide +kernel
theorem dX6_layHalvesAbovePages_4 : decode cX6_layHalvesAbovePages 4 = .ok (.getfield 79, 3) := by decide +kernel
theorem dX6_layHalvesAbovePages_7 : decode cX6_layHalvesAbovePages 7 = .ok (.iload_n 1, 1) := by decide +kernel
theorem dX6_layHalvesAbovePages_8 : decode cX6_layHalvesAbovePages 8 = .ok (.iaload, 1) := by decide +kernel
theorem dX6_layHalvesAbovePages_9 : decode cX6_layHalvesAbovePages 9 = .ok (.ifCond .eq 32, 3) := by decide +kernel
theorem dX6_layHalvesAbovePages_12 : decode cX6_layHalvesAbovePages 12 = .ok (.aload_n 0, 1) := by decide +kernel
theorem dX6_layHalvesAbovePages_13 : decode cX6_layHalvesAbovePages 13 = .ok (.iload_n 1, 1) := by decide +kernel
theorem dX6_layHalvesAbovePages_14 : decode cX6_layHalvesAbovePages 14 = .ok (.iconst 1, 1) := by decide +kernel
theorem dX6_layHalvesAbovePages_15 : decode cX6_layHalvesAbovePages 15 = .ok (.iadd, 1) := by decide +kernel
theorem dX6_layHalvesAbovePages_16 : decode cX6_layHalvesAbovePages 16 = .ok (.iload_n 2, 1) := by decide +kernel
theorem dX6_layHalvesAbovePages_17 : decode cX6_layHalvesAbovePages 17 = .ok (.iload_n 3, 1) := by decide +kernel
theorem dX6_layHalvesAbovePages_18 : decode cX6_layHalvesAbovePages 18 = .ok (.iconst 1, 1) := by decide +kernel
theorem dX6_layHalvesAbovePages_19 : decode cX6_layHalvesAbovePages 19 = .ok (.iadd, 1) := by decide +kernel
theorem dX6_layHalvesAbovePages_20 : decode cX6_layHalvesAbovePages 20 = .ok (.invokevirtual 73, 3) := by decide +kernel
theorem dX6_layHalvesAbovePages_23 : decode cX6_layHalvesAbovePages 23 = .ok (.aload_n 0, 1) := by decide +kernel
theorem dX6_layHalvesAbovePages_24 : decode cX6_layHalvesAbovePages 24 = .ok (.aload_n 0, 1) := by decide +kernel
theorem dX6_layHalvesAbovePages_25 : decode cX6_layHalvesAbovePages 25 = .ok (.getfield 12, 3) := by decide +kernel
theorem dX6_layHalvesAbovePages_28 : decode cX6_layHalvesAbovePages 28 = .ok (.getfield 79, 3) := by decide +kernel
theorem dX6_layHalvesAbovePages_31 : decode cX6_layHalvesAbovePages 31 = .ok (.iload_n 1, 1) := by decide +kernel
theorem dX6_layHalvesAbovePages_32 : decode cX6_layHalvesAbovePages 32 = .ok (.iaload, 1) := by decide +kernel
theorem dX6_layHalvesAbovePages_33 : decode cX6_layHalvesAbovePages 33 = .ok (.iload_n 2, 1) := by decide +kernel
theorem dX6_layHalvesAbovePages_34 : decode cX6_layHalvesAbovePages 34 = .ok (.iload_n 3, 1) := by decide +kernel
theorem dX6_layHalvesAbovePages_35 : decode cX6_layHalvesAbovePages 35 = .ok (.iconst 1, 1) := by decide +kernel
theorem dX6_layHalvesAbovePages_36 : decode cX6_layHalvesAbovePages 36 = .ok (.iadd, 1) := by decide +kernel
theorem dX6_layHalvesAbovePages_37 : decode cX6_layHalvesAbovePages 37 = .ok (.invokevirtual 73, 3) := by decide +kernel
theorem dX6_layHalvesAbovePages_40 : decode cX6_layHalvesAbovePages 40 = .ok (.return_, 1) := by decide +kernel
theorem dX6_layHalvesAbovePages_41 : decode cX6_layHalvesAbovePages 41 = .ok (.aload_n 0, 1) := by decide +kernel
theorem dX6_layHalvesAbovePages_42 : decode cX6_layHalvesAbovePages 42 = .ok (.getfield 12, 3) := by decide +kernel
theorem dX6_layHalvesAbovePages_45 : decode cX6_layHalvesAbovePages 45 = .ok (.getfield 115, 3) := by decide +kernel
theorem dX6_layHalvesAbovePages_48 : decode cX6_layHalvesAbovePages 48 = .ok (.iload_n 1, 1) := by decide +kernel
theorem dX6_layHalvesAbovePages_49 : decode cX6_layHalvesAbovePages 49 = .ok (.iaload, 1) := by decide +kernel
theorem dX6_layHalvesAbovePages_50 : decode cX6_layHalvesAbovePages 50 = .ok (.bipush 16, 2) := by decide +kernel
theorem dX6_layHalvesAbovePages_52 : decode cX6_layHalvesAbovePages 52 = .ok (.idiv, 1) := by decide +kernel
theorem dX6_layHalvesAbovePages_53 : decode cX6_layHalvesAbovePages 53 = .ok (.istore 4, 2) := by decide +kernel
theorem dX6_layHalvesAbovePages_55 : decode cX6_layHalvesAbovePages 55 = .ok (.iload 4, 2) := by decide +kernel
theorem dX6_layHalvesAbovePages_57 : decode cX6_layHalvesAbovePages 57 = .ok (.aload_n 0, 1) := by decide +kernel
theorem dX6_layHalvesAbovePages_58 : decode cX6_layHalvesAbovePages 58 = .ok (.getfield 12, 3) := by decide +kernel
theorem dX6_layHalvesAbovePages_61 : decode cX6_layHalvesAbovePages 61 = .ok (.getfield 60, 3) := by decide +kernel
theorem dX6_layHalvesAbovePages_64 : decode cX6_layHalvesAbovePages 64 = .ok (.iload_n 1, 1) := by decide +kernel
theorem dX6_layHalvesAbovePages_65 : decode cX6_layHalvesAbovePages 65 = .ok (.iaload, 1) := by decide +kernel
theorem dX6_layHalvesAbovePages_66 : decode cX6_layHalvesAbovePages 66 = .ok (.bipush 16, 2) := by decide +kernel
theorem dX6_layHalvesAbovePages_68 : decode cX6_layHalvesAbovePages 68 = .ok (.idiv, 1) := by decide +kernel
theorem dX6_layHalvesAbovePages_69 : decode cX6_layHalvesAbovePages 69 = .ok (.iadd, 1) := by decide +kernel
theorem dX6_layHalvesAbovePages_70 : decode cX6_layHalvesAbovePages 70 = .ok (.iconst 1, 1) := by decide +kernel
theorem dX6_layHalvesAbovePages_71 : decode cX6_layHalvesAbovePages 71 = .ok (.isub, 1) := by decide +kernel
theorem dX6_layHalvesAbovePages_72 : decode cX6_layHalvesAbovePages 72 = .ok (.istore 5, 2) := by decide +kernel
theorem dX6_layHalvesAbovePages_74 : decode cX6_layHalvesAbovePages 74 = .ok (.aload_n 0, 1) := by decide +kernel
theorem dX6_layHalvesAbovePages_75 : decode cX6_layHalvesAbovePages 75 = .ok (.getfield 12, 3) := by decide +kernel
theorem dX6_layHalvesAbovePages_78 : decode cX6_layHalvesAbovePages 78 = .ok (.iload_n 1, 1) := by decide +kernel
theorem dX6_layHalvesAbovePages_79 : decode cX6_layHalvesAbovePages 79 = .ok (.iload_n 2, 1) := by decide +kernel
theorem dX6_layHalvesAbovePages_80 : decode cX6_layHalvesAbovePages 80 = .ok (.invokevirtual 101, 3) := by decide +kernel
theorem dX6_layHalvesAbovePages_83 : decode cX6_layHalvesAbovePages 83 = .ok (.istore 6, 2) := by decide +kernel
theorem dX6_layHalvesAbovePages_85 : decode cX6_layHalvesAbovePages 85 = .ok (.iload 4, 2) := by decide +kernel
theorem dX6_layHalvesAbovePages_87 : decode cX6_layHalvesAbovePages 87 = .ok (.istore 7, 2) := by decide +kernel
theorem dX6_layHalvesAbovePages_89 : decode cX6_layHalvesAbovePages 89 = .ok (.iload 7, 2) := by decide +kernel
theorem dX6_layHalvesAbovePages_91 : decode cX6_layHalvesAbovePages 91 = .ok (.iload 5, 2) := by decide +kernel
theorem dX6_layHalvesAbovePages_93 : decode cX6_layHalvesAbovePages 93 = .ok (.if_icmp .gt 28, 3) := by decide +kernel
theorem dX6_layHalvesAbovePages_96 : decode cX6_layHalvesAbovePages 96 = .ok (.iload 7, 2) := by decide +kernel
theorem dX6_layHalvesAbovePages_98 : decode cX6_layHalvesAbovePages 98 = .ok (.aload_n 0, 1) := by decide +kernel
theorem dX6_layHalvesAbovePages_99 : decode cX6_layHalvesAbovePages 99 = .ok (.getfield 70, 3) := by decide +kernel
theorem dX6_layHalvesAbovePages_102 : decode cX6_layHalvesAbovePages 102 = .ok (.arraylength, 1) := by decide +kernel
theorem dX6_layHalvesAbovePages_103 : decode cX6_layHalvesAbovePages 103 = .ok (.if_icmp .ge 18, 3) := by decide +kernel
theorem dX6_layHalvesAbovePages_106 : decode cX6_layHalvesAbovePages 106 = .ok (.aload_n 0, 1) := by decide +kernel
theorem dX6_layHalvesAbovePages_107 : decode cX6_layHalvesAbovePages 107 = .ok (.getfield 70, 3) := by decide +kernel
theorem dX6_layHalvesAbovePages_110 : decode cX6_layHalvesAbovePages 110 = .ok (.iload 7, 2) := by decide +kernel
theorem dX6_layHalvesAbovePages_112 : decode cX6_layHalvesAbovePages 112 = .ok (.iload 6, 2) := by decide +kernel
theorem dX6_layHalvesAbovePages_114 : decode cX6_layHalvesAbovePages 114 = .ok (.iastore, 1) := by decide +kernel
theorem dX6_layHalvesAbovePages_115 : decode cX6_layHalvesAbovePages 115 = .ok (.iinc 7 1, 3) := by decide +kernel
theorem dX6_layHalvesAbovePages_118 : decode cX6_layHalvesAbovePages 118 = .ok (.goto (-29), 3) := by decide +kernel
theorem dX6_layHalvesAbovePages_121 : decode cX6_layHalvesAbovePages 121 = .ok (.return_, 1) := by decide +kernel
theorem dX6_layAbovePages_0 : decode cX6_layAbovePages 0 = .ok (.aload_n 0, 1) := by decide +kernel
theorem dX6_layAbovePages_1 : decode cX6_layAbovePages 1 = .ok (.getfield 12, 3) := by decide +kernel
theorem dX6_layAbovePages_4 : decode cX6_layAbovePages 4 = .ok (.getfield 60, 3) := by decide +kernel
theorem dX6_layAbovePages_7 : decode cX6_layAbovePages 7 = .ok (.iload_n 1, 1) := by decide +kernel
theorem dX6_layAbovePages_8 : decode cX6_layAbovePages 8 = .ok (.iaload, 1) := by decide +kernel
theorem dX6_layAbovePages_9 : decode cX6_layAbovePages 9 = .ok (.bipush 16, 2) := by decide +kernel
theorem dX6_layAbovePages_11 : decode cX6_layAbovePages 11 = .ok (.if_icmp .gt 11, 3) := by decide +kernel
theorem dX6_layAbovePages_14 : decode cX6_layAbovePages 14 = .ok (.aload_n 0, 1) := by decide +kernel
theorem dX6_layAbovePages_15 : decode cX6_layAbovePages 15 = .ok (.iload_n 1, 1) := by decide +kernel
theorem dX6_layAbovePages_16 : decode cX6_layAbovePages 16 = .ok (.iload_n 2, 1) := by decide +kernel
theorem dX6_layAbovePages_17 : decode cX6_layAbovePages 17 = .ok (.iload_n 3, 1) := by decide +kernel
theorem dX6_layAbovePages_18 : decode cX6_layAbovePages 18 = .ok (.invokevirtual 121, 3) := by decide +kernel
theorem dX6_layAbovePages_21 : decode cX6_layAbovePages 21 = .ok (.return_, 1) := by decide +kernel
theorem dX6_layAbovePages_22 : decode cX6_layAbovePages 22 = .ok (.iload_n 2, 1) := by decide +kernel
theorem dX6_layAbovePages_23 : decode cX6_layAbovePages 23 = .ok (.istore 4, 2) := by decide +kernel
theorem dX6_layAbovePages_25 : decode cX6_layAbovePages 25 = .ok (.iconst 0, 1) := by decide +kernel
theorem dX6_layAbovePages_26 : decode cX6_layAbovePages 26 = .ok (.istore 5, 2) := by decide +kernel
theorem dX6_layAbovePages_28 : decode cX6_layAbovePages 28 = .ok (.iload 5, 2) := by decide +kernel
theorem dX6_layAbovePages_30 : decode cX6_layAbovePages 30 = .ok (.bipush 6, 2) := by decide +kernel
theorem dX6_layAbovePages_32 : decode cX6_layAbovePages 32 = .ok (.if_icmp .ge 61, 3) := by decide +kernel
theorem dX6_layAbovePages_35 : decode cX6_layAbovePages 35 = .ok (.iload_n 3, 1) := by decide +kernel
theorem dX6_layAbovePages_36 : decode cX6_layAbovePages 36 = .ok (.bipush 11, 2) := by decide +kernel
theorem dX6_layAbovePages_38 : decode cX6_layAbovePages 38 = .ok (.if_icmp .gt 55, 3) := by decide +kernel
theorem dX6_layAbovePages_41 : decode cX6_layAbovePages 41 = .ok (.aload_n 0, 1) := by decide +kernel
theorem dX6_layAbovePages_42 : decode cX6_layAbovePages 42 = .ok (.getfield 18, 3) := by decide +kernel
theorem dX6_layAbovePages_45 : decode cX6_layAbovePages 45 = .ok (.iload_n 1, 1) := by decide +kernel
theorem dX6_layAbovePages_46 : decode cX6_layAbovePages 46 = .ok (.bipush 6, 2) := by decide +kernel
theorem dX6_layAbovePages_48 : decode cX6_layAbovePages 48 = .ok (.imul, 1) := by decide +kernel
theorem dX6_layAbovePages_49 : decode cX6_layAbovePages 49 = .ok (.iload 4, 2) := by decide +kernel
theorem dX6_layAbovePages_51 : decode cX6_layAbovePages 51 = .ok (.iadd, 1) := by decide +kernel
theorem dX6_layAbovePages_52 : decode cX6_layAbovePages 52 = .ok (.iaload, 1) := by decide +kernel
theorem dX6_layAbovePages_53 : decode cX6_layAbovePages 53 = .ok (.istore 6, 2) := by decide +kernel
theorem dX6_layAbovePages_55 : decode cX6_layAbovePages 55 = .ok (.aload_n 0, 1) := by decide +kernel
theorem dX6_layAbovePages_56 : decode cX6_layAbovePages 56 = .ok (.iload_n 1, 1) := by decide +kernel
theorem dX6_layAbovePages_57 : decode cX6_layAbovePages 57 = .ok (.iload 4, 2) := by decide +kernel
theorem dX6_layAbovePages_59 : decode cX6_layAbovePages 59 = .ok (.invokevirtual 98, 3) := by decide +kernel
theorem dX6_layAbovePages_62 : decode cX6_layAbovePages 62 = .ok (.iload 6, 2) := by decide +kernel
theorem dX6_layAbovePages_64 : decode cX6_layAbovePages 64 = .ok (.if_icmp .ne 12, 3) := by decide +kernel
theorem dX6_layAbovePages_67 : decode cX6_layAbovePages 67 = .ok (.aload_n 0, 1) := by decide +kernel
theorem dX6_layAbovePages_68 : decode cX6_layAbovePages 68 = .ok (.iload_n 1, 1) := by decide +kernel
theorem dX6_layAbovePages_69 : decode cX6_layAbovePages 69 = .ok (.iload 4, 2) := by decide +kernel
theorem dX6_layAbovePages_71 : decode cX6_layAbovePages 71 = .ok (.iload_n 3, 1) := by decide +kernel
theorem dX6_layAbovePages_72 : decode cX6_layAbovePages 72 = .ok (.invokevirtual 124, 3) := by decide +kernel
theorem dX6_layAbovePages_75 : decode cX6_layAbovePages 75 = .ok (.return_, 1) := by decide +kernel
theorem dX6_layAbovePages_76 : decode cX6_layAbovePages 76 = .ok (.aload_n 0, 1) := by decide +kernel
theorem dX6_layAbovePages_77 : decode cX6_layAbovePages 77 = .ok (.iload_n 1, 1) := by decide +kernel
theorem dX6_layAbovePages_78 : decode cX6_layAbovePages 78 = .ok (.iload 4, 2) := by decide +kernel
theorem dX6_layAbovePages_80 : decode cX6_layAbovePages 80 = .ok (.iload 6, 2) := by decide +kernel
theorem dX6_layAbovePages_82 : decode cX6_layAbovePages 82 = .ok (.invokevirtual 111, 3) := by decide +kernel
theorem dX6_layAbovePages_85 : decode cX6_layAbovePages 85 = .ok (.istore 4, 2) := by decide +kernel
theorem dX6_layAbovePages_87 : decode cX6_layAbovePages 87 = .ok (.iinc 5 1, 3) := by decide +kernel
theorem dX6_layAbovePages_90 : decode cX6_layAbovePages 90 = .ok (.goto (-62), 3) := by decide +kernel
theorem dX6_layAbovePages_93 : decode cX6_layAbovePages 93 = .ok (.return_, 1) := by decide +kernel
theorem dX6_layPagedPlan_0 : decode cX6_layPagedPlan 0 = .ok (.aload_n 0, 1) := by decide +kernel
theorem dX6_layPagedPlan_1 : decode cX6_layPagedPlan 1 = .ok (.getfield 12, 3) := by decide +kernel
theorem dX6_layPagedPlan_4 : decode cX6_layPagedPlan 4 = .ok (.aload_n 1, 1) := by decide +kernel
theorem dX6_layPagedPlan_5 : decode cX6_layPagedPlan 5 = .ok (.aload_n 1, 1) := by decide +kernel
theorem dX6_layPagedPlan_6 : decode cX6_layPagedPlan 6 = .ok (.getfield 28, 3) := by decide +kernel
theorem dX6_layPagedPlan_9 : decode cX6_layPagedPlan 9 = .ok (.invokevirtual 34, 3) := by decide +kernel
theorem dX6_layPagedPlan_12 : decode cX6_layPagedPlan 12 = .ok (.aload_n 0, 1) := by decide +kernel
theorem dX6_layPagedPlan_13 : decode cX6_layPagedPlan 13 = .ok (.iconst 1, 1) := by decide +kernel
theorem dX6_layPagedPlan_14 : decode cX6_layPagedPlan 14 = .ok (.putfield 38, 3) := by decide +kernel
theorem dX6_layPagedPlan_17 : decode cX6_layPagedPlan 17 = .ok (.aload_n 0, 1) := by decide +kernel
theorem dX6_layPagedPlan_18 : decode cX6_layPagedPlan 18 = .ok (.getfield 12, 3) := by decide +kernel
theorem dX6_layPagedPlan_21 : decode cX6_layPagedPlan 21 = .ok (.getfield 59, 3) := by decide +kernel
theorem dX6_layPagedPlan_24 : decode cX6_layPagedPlan 24 = .ok (.iconst 1, 1) := by decide +kernel
theorem dX6_layPagedPlan_25 : decode cX6_layPagedPlan 25 = .ok (.isub, 1) := by decide +kernel
theorem dX6_layPagedPlan_26 : decode cX6_layPagedPlan 26 = .ok (.istore 4, 2) := by decide +kernel
theorem dX6_layPagedPlan_28 : decode cX6_layPagedPlan 28 = .ok (.iload 4, 2) := by decide +kernel
theorem dX6_layPagedPlan_30 : decode cX6_layPagedPlan 30 = .ok (.ifCond .lt 54, 3) := by decide +kernel
theorem dX6_layPagedPlan_33 : decode cX6_layPagedPlan 33 = .ok (.aload_n 0, 1) := by decide +kernel
theorem dX6_layPagedPlan_34 : decode cX6_layPagedPlan 34 = .ok (.getfield 12, 3) := by decide +kernel
theorem dX6_layPagedPlan_37 : decode cX6_layPagedPlan 37 = .ok (.getfield 60, 3) := by decide +kernel
theorem dX6_layPagedPlan_40 : decode cX6_layPagedPlan 40 = .ok (.iload 4, 2) := by decide +kernel
theorem dX6_layPagedPlan_42 : decode cX6_layPagedPlan 42 = .ok (.iaload, 1) := by decide +kernel
theorem dX6_layPagedPlan_43 : decode cX6_layPagedPlan 43 = .ok (.bipush 16, 2) := by decide +kernel
theorem dX6_layPagedPlan_45 : decode cX6_layPagedPlan 45 = .ok (.if_icmp .le 12, 3) := by decide +kernel
theorem dX6_layPagedPlan_48 : decode cX6_layPagedPlan 48 = .ok (.aload_n 0, 1) := by decide +kernel
theorem dX6_layPagedPlan_49 : decode cX6_layPagedPlan 49 = .ok (.iload 4, 2) := by decide +kernel
theorem dX6_layPagedPlan_51 : decode cX6_layPagedPlan 51 = .ok (.invokevirtual 63, 3) := by decide +kernel
theorem dX6_layPagedPlan_54 : decode cX6_layPagedPlan 54 = .ok (.goto 24, 3) := by decide +kernel
theorem dX6_layPagedPlan_57 : decode cX6_layPagedPlan 57 = .ok (.aload_n 0, 1) := by decide +kernel
theorem dX6_layPagedPlan_58 : decode cX6_layPagedPlan 58 = .ok (.getfield 12, 3) := by decide +kernel
theorem dX6_layPagedPlan_61 : decode cX6_layPagedPlan 61 = .ok (.getfield 60, 3) := by decide +kernel
theorem dX6_layPagedPlan_64 : decode cX6_layPagedPlan 64 = .ok (.iload 4, 2) := by decide +kernel
theorem dX6_layPagedPlan_66 : decode cX6_layPagedPlan 66 = .ok (.iaload, 1) := by decide +kernel
theorem dX6_layPagedPlan_67 : decode cX6_layPagedPlan 67 = .ok (.bipush 16, 2) := by decide +kernel
theorem dX6_layPagedPlan_69 : decode cX6_layPagedPlan 69 = .ok (.if_icmp .ne 9, 3) := by decide +kernel
theorem dX6_layPagedPlan_72 : decode cX6_layPagedPlan 72 = .ok (.aload_n 0, 1) := by decide +kernel
theorem dX6_layPagedPlan_73 : decode cX6_layPagedPlan 73 = .ok (.iload 4, 2) := by decide +kernel
theorem dX6_layPagedPlan_75 : decode cX6_layPagedPlan 75 = .ok (.invokevirtual 67, 3) := by decide +kernel
theorem dX6_layPagedPlan_78 : decode cX6_layPagedPlan 78 = .ok (.iinc 4 (-1), 3) := by decide +kernel
theorem dX6_layPagedPlan_81 : decode cX6_layPagedPlan 81 = .ok (.goto (-53), 3) := by decide +kernel
theorem dX6_layPagedPlan_84 : decode cX6_layPagedPlan 84 = .ok (.aload_n 0, 1) := by decide +kernel
theorem dX6_layPagedPlan_85 : decode cX6_layPagedPlan 85 = .ok (.aload_n 2, 1) := by decide +kernel
theorem dX6_layPagedPlan_86 : decode cX6_layPagedPlan 86 = .ok (.putfield 46, 3) := by decide +kernel
theorem dX6_layPagedPlan_89 : decode cX6_layPagedPlan 89 = .ok (.aload_n 0, 1) := by decide +kernel
theorem dX6_layPagedPlan_90 : decode cX6_layPagedPlan 90 = .ok (.getfield 46, 3) := by decide +kernel
theorem dX6_layPagedPlan_93 : decode cX6_layPagedPlan 93 = .ok (.iconst 0, 1) := by decide +kernel
theorem dX6_layPagedPlan_94 : decode cX6_layPagedPlan 94 = .ok (.putfield 50, 3) := by decide +kernel
theorem dX6_layPagedPlan_97 : decode cX6_layPagedPlan 97 = .ok (.aload_n 0, 1) := by decide +kernel
theorem dX6_layPagedPlan_98 : decode cX6_layPagedPlan 98 = .ok (.aload_n 3, 1) := by decide +kernel
theorem dX6_layPagedPlan_99 : decode cX6_layPagedPlan 99 = .ok (.putfield 70, 3) := by decide +kernel
theorem dX6_layPagedPlan_102 : decode cX6_layPagedPlan 102 = .ok (.aload_n 0, 1) := by decide +kernel
theorem dX6_layPagedPlan_103 : decode cX6_layPagedPlan 103 = .ok (.iconst 0, 1) := by decide +kernel
theorem dX6_layPagedPlan_104 : decode cX6_layPagedPlan 104 = .ok (.iconst 5, 1) := by decide +kernel
theorem dX6_layPagedPlan_105 : decode cX6_layPagedPlan 105 = .ok (.iconst 0, 1) := by decide +kernel
theorem dX6_layPagedPlan_106 : decode cX6_layPagedPlan 106 = .ok (.invokevirtual 73, 3) := by decide +kernel
theorem dX6_layPagedPlan_109 : decode cX6_layPagedPlan 109 = .ok (.return_, 1) := by decide +kernel
section G16_planner_lean_txt
variable {p : Program} {l : Launch} {e : Env} {s : State} {m : MethodId} {args : Array Value} {below : List Frame} {meth : Method} {c : Code} {H : Heap} {locs : List Loc} {ls : Array Slot} {E : Ge} {L : Lay} {fu d : Nat}
def fX6_byHalves (fu : Nat) (a0 : Nat) (x1 : Int32) (x2 : Int32) (M : Mm) : Option Int32 :=
  if (((x1 + 1) * 6) + x2) < 0 ∨ 1920 ≤ ix (((x1 + 1) * 6) + x2) then none else
  lt ((M.1 (a0 + 11) (ix (((x1 + 1) * 6) + x2)))) fun x3_13 =>
  if x1 < 0 ∨ 320 ≤ ix x1 then none else
  if (((M.1 ((a0 + 1) + 3) (ix x1)) * 6) + x2) < 0 ∨ 1920 ≤ ix (((M.1 ((a0 + 1) + 3) (ix x1)) * 6) + x2) then none else
  some (if (x3_13 + (M.1 (a0 + 11) (ix (((M.1 ((a0 + 1) + 3) (ix x1)) * 6) + x2)))) < 10000 then (x3_13 + (M.1 (a0 + 11) (ix (((M.1 ((a0 + 1) + 3) (ix x1)) * 6) + x2)))) else 10000)
set_option maxRecDepth 100000 in
set_option maxHeartbeats 4000000 in
theorem mX6_byHalves {l : Launch} {E : Ge} {L : Lay} (fu d : Nat) {a0 : Nat} {x1 : Int32} {x2 : Int32} {M : Mm} {r : Int32}  (h0 : At L a0 T6) (h : fX6_byHalves fu a0 x1 x2 M = some r) : Ct l E L yX6_byHalves cX6_byHalves 4 (some .int) (d + 1) [.ref a0, .int x1, .int x2] M (some (.int r)) M := by
  refine Ct.of (by decide) ?_
  intro p e s m below meth c hr hlk B hR
  have B : Bx p s m _ c cX6_byHalves 4 RX6 E L := B
  have hx := B.1
  have hb := B.2.1
  have hl := lv_entry ([.ref a0, .int x1, .int x2]) (n := 4) (Nat.le_of_ble_eq_true rfl)
  rw [lg_entry_eq]
  generalize (lg_sl ([.ref a0, .int x1, .int x2]) ++ List.replicate (4 - (lg_sl ([.ref a0, .int x1, .int x2])).length) Slot.unset).toArray = ls at hl ⊢
  have hl : lv_has ls 4 [(0, .ref a0), (1, .int x1), (2, .int x2)] := hl
  unfold fX6_byHalves at h
  refine lv_aload_n hx hb dX6_byHalves_0 rfl (lv_at hl 0 rfl) ?_
  refine gf_X6_18 B hR (h0.at0 rfl) dX6_byHalves_1 ?_
  refine lv_iload_n hx hb dX6_byHalves_4 rfl (lv_at hl 1 rfl) ?_
  refine lv_iconst (v := 1) hx hb dX6_byHalves_5 (by decide) ?_
  refine lv_iadd hx hb dX6_byHalves_6 ?_
  refine lv_bipush (v := 6) hx hb dX6_byHalves_7 (by decide) ?_
  refine lv_imul hx hb dX6_byHalves_9 ?_
  refine lv_iload_n hx hb dX6_byHalves_10 rfl (lv_at hl 2 rfl) ?_
  refine lv_iadd hx hb dX6_byHalves_11 ?_
  obtain ⟨hi_12, h⟩ := ifn_el h
  refine r_iald B hR (h0.at 11 rfl) hi_12 dX6_byHalves_12 ?_
  obtain ⟨x3_13, ex3_13, h⟩ := lt_el h
  refine r_nmI ex3_13 ?_
  refine lv_istore_n (lv' := [(3, .int x3_13), (0, .ref a0), (1, .int x1), (2, .int x2)]) hx hb dX6_byHalves_13 rfl hl (by decide) rfl (fun ls hl => ?_)
  refine lv_sipush (v := 10000) hx hb dX6_byHalves_14 (by decide) ?_
  refine lv_iload_n hx hb dX6_byHalves_17 rfl (lv_at hl 0 rfl) ?_
  refine lv_aload_n hx hb dX6_byHalves_18 rfl (lv_at hl 1 rfl) ?_
  refine gf_X6_18 B hR (h0.at0 rfl) dX6_byHalves_19 ?_
  refine lv_aload_n hx hb dX6_byHalves_22 rfl (lv_at hl 1 rfl) ?_
  refine gf_X6_12 B hR (h0.at0 rfl) dX6_byHalves_23 ?_
  refine gf_X6_79 B hR ((sb_6_0 h0).at0 rfl) dX6_byHalves_26 ?_
  refine lv_iload_n hx hb dX6_byHalves_29 rfl (lv_at hl 2 rfl) ?_
  obtain ⟨hi_30, h⟩ := ifn_el h
  refine r_iald B hR ((sb_6_0 h0).at 3 rfl) hi_30 dX6_byHalves_30 ?_
  refine lv_bipush (v := 6) hx hb dX6_byHalves_31 (by decide) ?_
  refine lv_imul hx hb dX6_byHalves_33 ?_
  refine lv_iload_n hx hb dX6_byHalves_34 rfl (lv_at hl 3 rfl) ?_
  refine lv_iadd hx hb dX6_byHalves_35 ?_
  obtain ⟨hi_36, h⟩ := ifn_el h
  refine r_iald B hR (h0.at 11 rfl) hi_36 dX6_byHalves_36 ?_
  refine lv_iadd hx hb dX6_byHalves_37 ?_
  refine mm_X6_93 B hl.1 (Nat.le_of_ble_eq_true rfl) dX6_byHalves_38 ?_
  exact r_iretP B hR hr hlk h dX6_byHalves_41
def fX6_byItself_j67 (fu : Nat) (x3 : Int32) (M : Mm) : Option Int32 :=
  some x3
set_option maxRecDepth 100000 in
set_option maxHeartbeats 4000000 in
theorem wX6_byItself_j67 {r : Int32}   {x3 : Int32} {M : Mm} (B : Bx p s m args c cX6_byItself 6 RX6 E L) (hr : meth.sig.returnType = (some .int)) (hlk : meth.locks = false)   (h : fX6_byItself_j67 fu x3 M = some r) (hR : Rx s E L M H locs) (hl : lv_has ls 6 [(3, .int x3)]) : W p l e (rmD (d + 1)) s m args below meth c H locs 0 0 (MQ below (QcM E L (some (.int r)) M) args s 0 0 E.2.2.2) (F0 m 67 ls []) := by
  have hx := B.1
  have hb := B.2.1
  unfold fX6_byItself_j67 at h
  refine lv_iload_n hx hb dX6_byItself_67 rfl (lv_at hl 0 rfl) ?_
  exact r_iretP B hR hr hlk h dX6_byItself_68
def fX6_byItself_j61 (fu : Nat) (k7 : Int32 → Int32 → Option Int32) (a0 : Nat) (x1 : Int32) (x2 : Int32) (x3 : Int32) (x4 : Int32) (M : Mm) : Option Int32 :=
  lt (x4 + 1) fun x4_61 =>
  k7 x3 x4_61
set_option maxRecDepth 100000 in
set_option maxHeartbeats 4000000 in
theorem wX6_byItself_j61 {r : Int32}  {k7 : Int32 → Int32 → Option Int32} {a0 : Nat} {x1 : Int32} {x2 : Int32} {x3 : Int32} {x4 : Int32} {M : Mm} (B : Bx p s m args c cX6_byItself 6 RX6 E L) (hr : meth.sig.returnType = (some .int)) (hlk : meth.locks = false) (ih7 : ∀ (x3 : Int32) (x4 : Int32), k7 x3 x4 = some r → ∀ (H : Heap) (locs : List Loc) (ls : Array Slot), Rx s E L M H locs → lv_has ls 6 [(0, .ref a0), (1, .int x1), (2, .int x2), (3, .int x3), (4, .int x4)] → W p l e (rmD (d + 1)) s m args below meth c H locs 0 0 (MQ below (QcM E L (some (.int r)) M) args s 0 0 E.2.2.2) (F0 m 7 ls [])) (h0 : At L a0 T6) (h : fX6_byItself_j61 fu k7 a0 x1 x2 x3 x4 M = some r) (hR : Rx s E L M H locs) (hl : lv_has ls 6 [(0, .ref a0), (1, .int x1), (2, .int x2), (3, .int x3), (4, .int x4)]) : W p l e (rmD (d + 1)) s m args below meth c H locs 0 0 (MQ below (QcM E L (some (.int r)) M) args s 0 0 E.2.2.2) (F0 m 61 ls []) := by
  have hx := B.1
  have hb := B.2.1
  unfold fX6_byItself_j61 at h
  obtain ⟨x4_61, ex4_61, h⟩ := lt_el h
  refine lv_iinc (v := x4_61) (lv' := [(4, .int x4_61), (0, .ref a0), (1, .int x1), (2, .int x2), (3, .int x3)]) hx hb dX6_byItself_61 hl (k := 4) rfl (by rw [ex4_61]; rfl) (by decide) rfl (fun ls hl => ?_)
  refine lv_goto (tgt := 7) hx hb dX6_byItself_64 (by decide) ?_
  exact ih7 x3 x4_61 h _ _ _ hR (lv_sub hl [1, 2, 3, 4, 0] rfl)
def fX6_byItself_j25 (fu : Nat) (k7 : Int32 → Int32 → Option Int32) (a0 : Nat) (x1 : Int32) (x2 : Int32) (x3 : Int32) (x4 : Int32) (M : Mm) : Option Int32 :=
  if ((x2 * 5) + x4) < 0 ∨ 30 ≤ ix ((x2 * 5) + x4) then none else
  lt ((laidT.getD (ix ((x2 * 5) + x4)) 0)) fun x5_35 =>
  if x5_35 < 0 then
    fX6_byItself_j61 fu k7 a0 x1 x2 x3 x4 M
  else
    if ((x1 * 6) + x5_35) < 0 ∨ 1920 ≤ ix ((x1 * 6) + x5_35) then none else
    lt ((if (1 + (M.1 (a0 + 11) (ix ((x1 * 6) + x5_35)))) < x3 then (1 + (M.1 (a0 + 11) (ix ((x1 * 6) + x5_35)))) else x3)) fun x3_60 =>
    fX6_byItself_j61 fu k7 a0 x1 x2 x3_60 x4 M
set_option maxRecDepth 100000 in
set_option maxHeartbeats 4000000 in
theorem wX6_byItself_j25 {r : Int32}  {k7 : Int32 → Int32 → Option Int32} {a0 : Nat} {x1 : Int32} {x2 : Int32} {x3 : Int32} {x4 : Int32} {M : Mm} (B : Bx p s m args c cX6_byItself 6 RX6 E L) (hr : meth.sig.returnType = (some .int)) (hlk : meth.locks = false) (ih7 : ∀ (x3 : Int32) (x4 : Int32), k7 x3 x4 = some r → ∀ (H : Heap) (locs : List Loc) (ls : Array Slot), Rx s E L M H locs → lv_has ls 6 [(0, .ref a0), (1, .int x1), (2, .int x2), (3, .int x3), (4, .int x4)] → W p l e (rmD (d + 1)) s m args below meth c H locs 0 0 (MQ below (QcM E L (some (.int r)) M) args s 0 0 E.2.2.2) (F0 m 7 ls [])) (h0 : At L a0 T6) (h : fX6_byItself_j25 fu k7 a0 x1 x2 x3 x4 M = some r) (hR : Rx s E L M H locs) (hl : lv_has ls 6 [(0, .ref a0), (1, .int x1), (2, .int x2), (3, .int x3), (4, .int x4)]) : W p l e (rmD (d + 1)) s m args below meth c H locs 0 0 (MQ below (QcM E L (some (.int r)) M) args s 0 0 E.2.2.2) (F0 m 25 ls []) := by
  have hx := B.1
  have hb := B.2.1
  unfold fX6_byItself_j25 at h
  refine gs_X6_104 B hR dX6_byItself_25 ?_
  refine lv_iload_n hx hb dX6_byItself_28 rfl (lv_at hl 2 rfl) ?_
  refine lv_iconst (v := 5) hx hb dX6_byItself_29 (by decide) ?_
  refine lv_imul hx hb dX6_byItself_30 ?_
  refine lv_iload hx hb dX6_byItself_31 (lv_at hl 4 rfl) ?_
  refine lv_iadd hx hb dX6_byItself_33 ?_
  obtain ⟨hi_34, h⟩ := ifn_el h
  refine r_tald B hR B.2.2.2.2.2.2.2.1.2 hi_34 dX6_byItself_34 ?_
  obtain ⟨x5_35, ex5_35, h⟩ := lt_el h
  refine r_nmI ex5_35 ?_
  refine lv_istore (lv' := [(5, .int x5_35), (0, .ref a0), (1, .int x1), (2, .int x2), (3, .int x3), (4, .int x4)]) hx hb dX6_byItself_35 hl (by decide) rfl (fun ls hl => ?_)
  refine lv_iload hx hb dX6_byItself_37 (lv_at hl 0 rfl) ?_
  refine lv_if_lt (tgt := 61) hx hb dX6_byItself_39 (by decide) (fun c_39 => ?_) (fun c_39 => ?_)
  · rw [if_pos c_39] at h
    exact wX6_byItself_j61 B hr hlk ih7 h0 h hR (lv_sub hl [1, 2, 3, 4, 5] rfl)
  · rw [if_neg c_39] at h
    refine lv_iload_n hx hb dX6_byItself_42 rfl (lv_at hl 4 rfl) ?_
    refine lv_iconst (v := 1) hx hb dX6_byItself_43 (by decide) ?_
    refine lv_aload_n hx hb dX6_byItself_44 rfl (lv_at hl 1 rfl) ?_
    refine gf_X6_18 B hR (h0.at0 rfl) dX6_byItself_45 ?_
    refine lv_iload_n hx hb dX6_byItself_48 rfl (lv_at hl 2 rfl) ?_
    refine lv_bipush (v := 6) hx hb dX6_byItself_49 (by decide) ?_
    refine lv_imul hx hb dX6_byItself_51 ?_
    refine lv_iload hx hb dX6_byItself_52 (lv_at hl 0 rfl) ?_
    refine lv_iadd hx hb dX6_byItself_54 ?_
    obtain ⟨hi_55, h⟩ := ifn_el h
    refine r_iald B hR (h0.at 11 rfl) hi_55 dX6_byItself_55 ?_
    refine lv_iadd hx hb dX6_byItself_56 ?_
    refine mm_X6_93 B hl.1 (Nat.le_of_ble_eq_true rfl) dX6_byItself_57 ?_
    obtain ⟨x3_60, ex3_60, h⟩ := lt_el h
    refine r_nmI ex3_60 ?_
    refine lv_istore_n (lv' := [(3, .int x3_60), (5, .int x5_35), (0, .ref a0), (1, .int x1), (2, .int x2), (4, .int x4)]) hx hb dX6_byItself_60 rfl hl (by decide) rfl (fun ls hl => ?_)
    exact wX6_byItself_j61 B hr hlk ih7 h0 h hR (lv_sub hl [2, 3, 4, 0, 5] rfl)
def fX6_byItself_b7 (fu : Nat) (k7 : Int32 → Int32 → Option Int32) (a0 : Nat) (x1 : Int32) (x2 : Int32) (x3 : Int32) (x4 : Int32) (M : Mm) : Option Int32 :=
  if 5 ≤ x4 then
    fX6_byItself_j67 fu x3 M
  else
    if (M.1 a0 4) = 0 then
      if x2 = 5 then
        fX6_byItself_j25 fu k7 a0 x1 x2 x3 x4 M
      else
        fX6_byItself_j67 fu x3 M
    else
      fX6_byItself_j25 fu k7 a0 x1 x2 x3 x4 M
set_option maxRecDepth 100000 in
set_option maxHeartbeats 4000000 in
theorem wX6_byItself_b7 {r : Int32}   {k7 : Int32 → Int32 → Option Int32} {a0 : Nat} {x1 : Int32} {x2 : Int32} {x3 : Int32} {x4 : Int32} {M : Mm} (B : Bx p s m args c cX6_byItself 6 RX6 E L) (hr : meth.sig.returnType = (some .int)) (hlk : meth.locks = false)  (ih7 : ∀ (x3 : Int32) (x4 : Int32), k7 x3 x4 = some r → ∀ (H : Heap) (locs : List Loc) (ls : Array Slot), Rx s E L M H locs → lv_has ls 6 [(0, .ref a0), (1, .int x1), (2, .int x2), (3, .int x3), (4, .int x4)] → W p l e (rmD (d + 1)) s m args below meth c H locs 0 0 (MQ below (QcM E L (some (.int r)) M) args s 0 0 E.2.2.2) (F0 m 7 ls [])) (h0 : At L a0 T6) (h : fX6_byItself_b7 fu k7 a0 x1 x2 x3 x4 M = some r) (hR : Rx s E L M H locs) (hl : lv_has ls 6 [(0, .ref a0), (1, .int x1), (2, .int x2), (3, .int x3), (4, .int x4)]) : W p l e (rmD (d + 1)) s m args below meth c H locs 0 0 (MQ below (QcM E L (some (.int r)) M) args s 0 0 E.2.2.2) (F0 m 7 ls []) := by
  have hx := B.1
  have hb := B.2.1
  unfold fX6_byItself_b7 at h
  refine lv_iload hx hb dX6_byItself_7 (lv_at hl 4 rfl) ?_
  refine lv_iconst (v := 5) hx hb dX6_byItself_9 (by decide) ?_
  refine lv_icmp_ge (tgt := 67) hx hb dX6_byItself_10 (by decide) (fun c_10 => ?_) (fun c_10 => ?_)
  · rw [if_pos c_10] at h
    exact wX6_byItself_j67 B hr hlk  h hR (lv_sub hl [3] rfl)
  · rw [if_neg c_10] at h
    refine lv_aload_n hx hb dX6_byItself_13 rfl (lv_at hl 0 rfl) ?_
    refine gf_X6_38 B hR (h0.at0 rfl) dX6_byItself_14 ?_
    refine lv_if_ne (tgt := 25) hx hb dX6_byItself_17 (by decide) (fun c_17 => ?_) (fun c_17 => ?_)
    · rw [if_neg c_17] at h
      exact wX6_byItself_j25 B hr hlk ih7 h0 h hR hl
    · rw [if_pos c_17] at h
      refine lv_iload_n hx hb dX6_byItself_20 rfl (lv_at hl 2 rfl) ?_
      refine lv_iconst (v := 5) hx hb dX6_byItself_21 (by decide) ?_
      refine lv_icmp_ne (tgt := 67) hx hb dX6_byItself_22 (by decide) (fun c_22 => ?_) (fun c_22 => ?_)
      · rw [if_neg c_22] at h
        exact wX6_byItself_j67 B hr hlk  h hR (lv_sub hl [3] rfl)
      · rw [if_pos c_22] at h
        exact wX6_byItself_j25 B hr hlk ih7 h0 h hR hl
def fX6_byItself_l7 (fu : Nat) (a0 : Nat) (x1 : Int32) (x2 : Int32) (M : Mm) (x3 : Int32) (x4 : Int32) : Option Int32 := lp (fun (rec : (Int32 × Int32) → Option Int32) (s : Int32 × Int32) => fX6_byItself_b7 fu  (fun x3 x4 => rec (x3, x4)) a0 x1 x2 s.1 s.2 M) fu (x3, x4)
set_option maxRecDepth 100000 in
set_option maxHeartbeats 4000000 in
theorem wX6_byItself_l7 {r : Int32}   {a0 : Nat} {x1 : Int32} {x2 : Int32} {x3 : Int32} {x4 : Int32} {M : Mm} (B : Bx p s m args c cX6_byItself 6 RX6 E L) (hr : meth.sig.returnType = (some .int)) (hlk : meth.locks = false)  (h0 : At L a0 T6) (h : fX6_byItself_l7 fu a0 x1 x2 M x3 x4 = some r) (hR : Rx s E L M H locs) (hl : lv_has ls 6 [(0, .ref a0), (1, .int x1), (2, .int x2), (3, .int x3), (4, .int x4)]) : W p l e (rmD (d + 1)) s m args below meth c H locs 0 0 (MQ below (QcM E L (some (.int r)) M) args s 0 0 E.2.2.2) (F0 m 7 ls []) := by
  refine lp_G (G := fun z : Int32 × Int32 => ∀ (H : Heap) (locs : List Loc) (ls : Array Slot), Rx s E L M H locs → lv_has ls 6 [(0, .ref a0), (1, .int x1), (2, .int x2), (3, .int z.1), (4, .int z.2)] → W p l e (rmD (d + 1)) s m args below meth c H locs 0 0 (MQ below (QcM E L (some (.int r)) M) args s 0 0 E.2.2.2) (F0 m 7 ls [])) (fun rec ih z h H locs ls hR hl => ?_) fu _ h H locs ls hR hl
  exact wX6_byItself_b7 B hr hlk  (fun x3 x4 h => ih (x3, x4) h) h0 h hR hl
def fX6_byItself (fu : Nat) (a0 : Nat) (x1 : Int32) (x2 : Int32) (M : Mm) : Option Int32 :=
  fX6_byItself_l7 fu a0 x1 x2 M 10000 0
set_option maxRecDepth 100000 in
set_option maxHeartbeats 4000000 in
theorem mX6_byItself {l : Launch} {E : Ge} {L : Lay} (fu d : Nat) {a0 : Nat} {x1 : Int32} {x2 : Int32} {M : Mm} {r : Int32}  (h0 : At L a0 T6) (h : fX6_byItself fu a0 x1 x2 M = some r) : Ct l E L yX6_byItself cX6_byItself 6 (some .int) (d + 1) [.ref a0, .int x1, .int x2] M (some (.int r)) M := by
  refine Ct.of (by decide) ?_
  intro p e s m below meth c hr hlk B hR
  have B : Bx p s m _ c cX6_byItself 6 RX6 E L := B
  have hx := B.1
  have hb := B.2.1
  have hl := lv_entry ([.ref a0, .int x1, .int x2]) (n := 6) (Nat.le_of_ble_eq_true rfl)
  rw [lg_entry_eq]
  generalize (lg_sl ([.ref a0, .int x1, .int x2]) ++ List.replicate (6 - (lg_sl ([.ref a0, .int x1, .int x2])).length) Slot.unset).toArray = ls at hl ⊢
  have hl : lv_has ls 6 [(0, .ref a0), (1, .int x1), (2, .int x2)] := hl
  unfold fX6_byItself at h
  refine lv_sipush (v := 10000) hx hb dX6_byItself_0 (by decide) ?_
  refine lv_istore_n (lv' := [(3, .int 10000), (0, .ref a0), (1, .int x1), (2, .int x2)]) hx hb dX6_byItself_3 rfl hl (by decide) rfl (fun ls hl => ?_)
  refine lv_iconst (v := 0) hx hb dX6_byItself_4 (by decide) ?_
  refine lv_istore (lv' := [(4, .int 0), (3, .int 10000), (0, .ref a0), (1, .int x1), (2, .int x2)]) hx hb dX6_byItself_5 hl (by decide) rfl (fun ls hl => ?_)
  exact wX6_byItself_l7 B hr hlk h0 h hR (lv_sub hl [2, 3, 4, 1, 0] rfl)
def fX6_weighWithin_j108 (fu : Nat) (M : Mm) : Option Mm :=
  some M
set_option maxRecDepth 100000 in
set_option maxHeartbeats 4000000 in
theorem wX6_weighWithin_j108 {M' : Mm}    {M : Mm} (B : Bx p s m args c cX6_weighWithin 6 RX6 E L) (hr : meth.sig.returnType = none) (hlk : meth.locks = false)   (h : fX6_weighWithin_j108 fu M = some M') (hR : Rx s E L M H locs) (hl : lv_has ls 6 []) : W p l e (rmD (d + 2)) s m args below meth c H locs 0 0 (MQ below (QcM E L none M') args s 0 0 E.2.2.2) (F0 m 108 ls []) := by
  have hx := B.1
  have hb := B.2.1
  unfold fX6_weighWithin_j108 at h
  exact r_vretW B hR hr hlk h dX6_weighWithin_108
def fX6_weighWithin_j102 (fu : Nat) (k12 : Int32 → Mm → Option Mm) (a0 : Nat) (x1 : Int32) (x2 : Int32) (x3 : Int32) (M : Mm) : Option Mm :=
  lt (x3 + (-1)) fun x3_102 =>
  k12 x3_102 M
set_option maxRecDepth 100000 in
set_option maxHeartbeats 4000000 in
theorem wX6_weighWithin_j102 {M' : Mm}  {k12 : Int32 → Mm → Option Mm} {a0 : Nat} {x1 : Int32} {x2 : Int32} {x3 : Int32} {M : Mm} (B : Bx p s m args c cX6_weighWithin 6 RX6 E L) (hr : meth.sig.returnType = none) (hlk : meth.locks = false) (ih12 : ∀ (x3 : Int32) (M : Mm), k12 x3 M = some M' → ∀ (H : Heap) (locs : List Loc) (ls : Array Slot), Rx s E L M H locs → lv_has ls 6 [(0, .ref a0), (1, .int x1), (2, .int x2), (3, .int x3)] → W p l e (rmD (d + 2)) s m args below meth c H locs 0 0 (MQ below (QcM E L none M') args s 0 0 E.2.2.2) (F0 m 12 ls [])) (h0 : At L a0 T6) (h : fX6_weighWithin_j102 fu k12 a0 x1 x2 x3 M = some M') (hR : Rx s E L M H locs) (hl : lv_has ls 6 [(0, .ref a0), (1, .int x1), (2, .int x2), (3, .int x3)]) : W p l e (rmD (d + 2)) s m args below meth c H locs 0 0 (MQ below (QcM E L none M') args s 0 0 E.2.2.2) (F0 m 102 ls []) := by
  have hx := B.1
  have hb := B.2.1
  unfold fX6_weighWithin_j102 at h
  obtain ⟨x3_102, ex3_102, h⟩ := lt_el h
  refine lv_iinc (v := x3_102) (lv' := [(3, .int x3_102), (0, .ref a0), (1, .int x1), (2, .int x2)]) hx hb dX6_weighWithin_102 hl (k := 3) rfl (by rw [ex3_102]; rfl) (by decide) rfl (fun ls hl => ?_)
  refine lv_goto (tgt := 12) hx hb dX6_weighWithin_105 (by decide) ?_
  exact ih12 x3_102 M h _ _ _ hR (lv_sub hl [1, 2, 3, 0] rfl)
def fX6_weighWithin_j70 (fu : Nat) (k12 : Int32 → Mm → Option Mm) (k20 : Int32 → Mm → Option Mm) (a0 : Nat) (x1 : Int32) (x2 : Int32) (x3 : Int32) (x4 : Int32) (t0 : Int32) (M : Mm) : Option Mm :=
  bi (fX6_byItself fu a0 x3 x4 M) fun r_89 =>
  if ((x3 * 6) + x4) < 0 ∨ 1920 ≤ ix ((x3 * 6) + x4) then none else
  lt (wI M (a0 + 11) (ix ((x3 * 6) + x4)) (if r_89 < t0 then r_89 else t0)) fun M_95 =>
  lt (x4 + 1) fun x4_96 =>
  k20 x4_96 M_95
set_option maxRecDepth 100000 in
set_option maxHeartbeats 4000000 in
theorem wX6_weighWithin_j70 {M' : Mm}  {k12 : Int32 → Mm → Option Mm} {k20 : Int32 → Mm → Option Mm} {a0 : Nat} {x1 : Int32} {x2 : Int32} {x3 : Int32} {x4 : Int32} {t0 : Int32} {M : Mm} (B : Bx p s m args c cX6_weighWithin 6 RX6 E L) (hr : meth.sig.returnType = none) (hlk : meth.locks = false) (ih12 : ∀ (x3 : Int32) (M : Mm), k12 x3 M = some M' → ∀ (H : Heap) (locs : List Loc) (ls : Array Slot), Rx s E L M H locs → lv_has ls 6 [(0, .ref a0), (1, .int x1), (2, .int x2), (3, .int x3)] → W p l e (rmD (d + 2)) s m args below meth c H locs 0 0 (MQ below (QcM E L none M') args s 0 0 E.2.2.2) (F0 m 12 ls [])) (ih20 : ∀ (x4 : Int32) (M : Mm), k20 x4 M = some M' → ∀ (H : Heap) (locs : List Loc) (ls : Array Slot), Rx s E L M H locs → lv_has ls 6 [(0, .ref a0), (1, .int x1), (2, .int x2), (3, .int x3), (4, .int x4)] → W p l e (rmD (d + 2)) s m args below meth c H locs 0 0 (MQ below (QcM E L none M') args s 0 0 E.2.2.2) (F0 m 20 ls [])) (h0 : At L a0 T6) (h : fX6_weighWithin_j70 fu k12 k20 a0 x1 x2 x3 x4 t0 M = some M') (hR : Rx s E L M H locs) (hl : lv_has ls 6 [(0, .ref a0), (1, .int x1), (2, .int x2), (3, .int x3), (4, .int x4)]) : W p l e (rmD (d + 2)) s m args below meth c H locs 0 0 (MQ below (QcM E L none M') args s 0 0 E.2.2.2) (F0 m 70 ls [.int t0]) := by
  have hx := B.1
  have hb := B.2.1
  unfold fX6_weighWithin_j70 at h
  refine lv_istore (lv' := [(5, .int t0), (0, .ref a0), (1, .int x1), (2, .int x2), (3, .int x3), (4, .int x4)]) hx hb dX6_weighWithin_70 hl (by decide) rfl (fun ls hl => ?_)
  refine lv_aload_n hx hb dX6_weighWithin_72 rfl (lv_at hl 1 rfl) ?_
  refine gf_X6_18 B hR (h0.at0 rfl) dX6_weighWithin_73 ?_
  refine lv_iload_n hx hb dX6_weighWithin_76 rfl (lv_at hl 4 rfl) ?_
  refine lv_bipush (v := 6) hx hb dX6_weighWithin_77 (by decide) ?_
  refine lv_imul hx hb dX6_weighWithin_79 ?_
  refine lv_iload hx hb dX6_weighWithin_80 (lv_at hl 5 rfl) ?_
  refine lv_iadd hx hb dX6_weighWithin_82 ?_
  refine lv_iload hx hb dX6_weighWithin_83 (lv_at hl 0 rfl) ?_
  refine lv_aload_n hx hb dX6_weighWithin_85 rfl (lv_at hl 1 rfl) ?_
  refine lv_iload_n hx hb dX6_weighWithin_86 rfl (lv_at hl 4 rfl) ?_
  refine lv_iload hx hb dX6_weighWithin_87 (lv_at hl 5 rfl) ?_
  obtain ⟨r_89, hc_89, h⟩ := bi_el h
  refine iv_X6_90 B hR (h0.at0 rfl) hl.1 (mX6_byItself fu _ h0 hc_89) (Nat.le_of_ble_eq_true rfl) dX6_weighWithin_89 (fun H locs hR => ?_)
  refine mm_X6_93 B hl.1 (Nat.le_of_ble_eq_true rfl) dX6_weighWithin_92 ?_
  obtain ⟨hi_95, h⟩ := ifn_el h
  obtain ⟨M_95, eM_95, h⟩ := lt_el h
  refine r_iast B hR (h0.at 11 rfl) hi_95 dX6_weighWithin_95 (fun H locs hR => ?_)
  rw [← eM_95] at hR
  obtain ⟨x4_96, ex4_96, h⟩ := lt_el h
  refine lv_iinc (v := x4_96) (lv' := [(4, .int x4_96), (5, .int t0), (0, .ref a0), (1, .int x1), (2, .int x2), (3, .int x3)]) hx hb dX6_weighWithin_96 hl (k := 5) rfl (by rw [ex4_96]; rfl) (by decide) rfl (fun ls hl => ?_)
  refine lv_goto (tgt := 20) hx hb dX6_weighWithin_99 (by decide) ?_
  exact ih20 x4_96 M_95 h _ _ _ hR (lv_sub hl [2, 3, 4, 5, 0] rfl)
def fX6_weighWithin_b20 (fu : Nat) (k12 : Int32 → Mm → Option Mm) (k20 : Int32 → Mm → Option Mm) (a0 : Nat) (x1 : Int32) (x2 : Int32) (x3 : Int32) (x4 : Int32) (M : Mm) : Option Mm :=
  if 6 ≤ x4 then
    fX6_weighWithin_j102 fu k12 a0 x1 x2 x3 M
  else
    if x3 < 0 ∨ 320 ≤ ix x3 then none else
    if (M.1 ((a0 + 1) + 3) (ix x3)) = 0 then
      bi (fX9_isRight fu (a0 + 1) x3 x4 x2 M) fun r_57 =>
      if r_57 = 0 then
        fX6_weighWithin_j70 fu k12 k20 a0 x1 x2 x3 x4 10000 M
      else
        fX6_weighWithin_j70 fu k12 k20 a0 x1 x2 x3 x4 0 M
    else
      bi (fX6_byHalves fu a0 x3 x4 M) fun r_43 =>
      fX6_weighWithin_j70 fu k12 k20 a0 x1 x2 x3 x4 r_43 M
set_option maxRecDepth 100000 in
set_option maxHeartbeats 4000000 in
theorem wX6_weighWithin_b20 {M' : Mm}  {k12 : Int32 → Mm → Option Mm} {k20 : Int32 → Mm → Option Mm} {a0 : Nat} {x1 : Int32} {x2 : Int32} {x3 : Int32} {x4 : Int32} {M : Mm} (B : Bx p s m args c cX6_weighWithin 6 RX6 E L) (hr : meth.sig.returnType = none) (hlk : meth.locks = false) (ih12 : ∀ (x3 : Int32) (M : Mm), k12 x3 M = some M' → ∀ (H : Heap) (locs : List Loc) (ls : Array Slot), Rx s E L M H locs → lv_has ls 6 [(0, .ref a0), (1, .int x1), (2, .int x2), (3, .int x3)] → W p l e (rmD (d + 2)) s m args below meth c H locs 0 0 (MQ below (QcM E L none M') args s 0 0 E.2.2.2) (F0 m 12 ls [])) (ih20 : ∀ (x4 : Int32) (M : Mm), k20 x4 M = some M' → ∀ (H : Heap) (locs : List Loc) (ls : Array Slot), Rx s E L M H locs → lv_has ls 6 [(0, .ref a0), (1, .int x1), (2, .int x2), (3, .int x3), (4, .int x4)] → W p l e (rmD (d + 2)) s m args below meth c H locs 0 0 (MQ below (QcM E L none M') args s 0 0 E.2.2.2) (F0 m 20 ls [])) (h0 : At L a0 T6) (h : fX6_weighWithin_b20 fu k12 k20 a0 x1 x2 x3 x4 M = some M') (hR : Rx s E L M H locs) (hl : lv_has ls 6 [(0, .ref a0), (1, .int x1), (2, .int x2), (3, .int x3), (4, .int x4)]) : W p l e (rmD (d + 2)) s m args below meth c H locs 0 0 (MQ below (QcM E L none M') args s 0 0 E.2.2.2) (F0 m 20 ls []) := by
  have hx := B.1
  have hb := B.2.1
  unfold fX6_weighWithin_b20 at h
  refine lv_iload hx hb dX6_weighWithin_20 (lv_at hl 4 rfl) ?_
  refine lv_bipush (v := 6) hx hb dX6_weighWithin_22 (by decide) ?_
  refine lv_icmp_ge (tgt := 102) hx hb dX6_weighWithin_24 (by decide) (fun c_24 => ?_) (fun c_24 => ?_)
  · rw [if_pos c_24] at h
    exact wX6_weighWithin_j102 B hr hlk ih12 h0 h hR (lv_sub hl [0, 1, 2, 3] rfl)
  · rw [if_neg c_24] at h
    refine lv_aload_n hx hb dX6_weighWithin_27 rfl (lv_at hl 0 rfl) ?_
    refine gf_X6_12 B hR (h0.at0 rfl) dX6_weighWithin_28 ?_
    refine gf_X6_79 B hR ((sb_6_0 h0).at0 rfl) dX6_weighWithin_31 ?_
    refine lv_iload_n hx hb dX6_weighWithin_34 rfl (lv_at hl 3 rfl) ?_
    obtain ⟨hi_35, h⟩ := ifn_el h
    refine r_iald B hR ((sb_6_0 h0).at 3 rfl) hi_35 dX6_weighWithin_35 ?_
    refine lv_if_eq (tgt := 49) hx hb dX6_weighWithin_36 (by decide) (fun c_36 => ?_) (fun c_36 => ?_)
    · rw [if_pos c_36] at h
      refine lv_aload_n hx hb dX6_weighWithin_49 rfl (lv_at hl 0 rfl) ?_
      refine gf_X6_12 B hR (h0.at0 rfl) dX6_weighWithin_50 ?_
      refine lv_iload_n hx hb dX6_weighWithin_53 rfl (lv_at hl 3 rfl) ?_
      refine lv_iload hx hb dX6_weighWithin_54 (lv_at hl 4 rfl) ?_
      refine lv_iload_n hx hb dX6_weighWithin_56 rfl (lv_at hl 2 rfl) ?_
      obtain ⟨r_57, hc_57, h⟩ := bi_el h
      refine iv_X6_86 B hR ((sb_6_0 h0).at0 rfl) hl.1 (mX9_isRight fu _ (sb_6_0 h0) hc_57) (Nat.le_of_ble_eq_true rfl) dX6_weighWithin_57 (fun H locs hR => ?_)
      refine lv_if_eq (tgt := 67) hx hb dX6_weighWithin_60 (by decide) (fun c_60 => ?_) (fun c_60 => ?_)
      · rw [if_pos c_60] at h
        refine lv_sipush (v := 10000) hx hb dX6_weighWithin_67 (by decide) ?_
        exact wX6_weighWithin_j70 B hr hlk ih12 ih20 h0 h hR hl
      · rw [if_neg c_60] at h
        refine lv_iconst (v := 0) hx hb dX6_weighWithin_63 (by decide) ?_
        refine lv_goto (tgt := 70) hx hb dX6_weighWithin_64 (by decide) ?_
        exact wX6_weighWithin_j70 B hr hlk ih12 ih20 h0 h hR hl
    · rw [if_neg c_36] at h
      refine lv_aload_n hx hb dX6_weighWithin_39 rfl (lv_at hl 0 rfl) ?_
      refine lv_iload_n hx hb dX6_weighWithin_40 rfl (lv_at hl 3 rfl) ?_
      refine lv_iload hx hb dX6_weighWithin_41 (lv_at hl 4 rfl) ?_
      obtain ⟨r_43, hc_43, h⟩ := bi_el h
      refine iv_X6_82 B hR (h0.at0 rfl) hl.1 (mX6_byHalves fu _ h0 hc_43) (Nat.le_of_ble_eq_true rfl) dX6_weighWithin_43 (fun H locs hR => ?_)
      refine lv_goto (tgt := 70) hx hb dX6_weighWithin_46 (by decide) ?_
      exact wX6_weighWithin_j70 B hr hlk ih12 ih20 h0 h hR hl
def fX6_weighWithin_l20 (fu : Nat) (k12 : Int32 → Mm → Option Mm) (a0 : Nat) (x1 : Int32) (x2 : Int32) (x3 : Int32) (x4 : Int32) (M : Mm) : Option Mm := lp (fun (rec : (Int32 × Mm) → Option Mm) (s : Int32 × Mm) => fX6_weighWithin_b20 fu k12 (fun x4 M => rec (x4, M)) a0 x1 x2 x3 s.1 s.2) fu (x4, M)
set_option maxRecDepth 100000 in
set_option maxHeartbeats 4000000 in
theorem wX6_weighWithin_l20 {M' : Mm}  {k12 : Int32 → Mm → Option Mm} {a0 : Nat} {x1 : Int32} {x2 : Int32} {x3 : Int32} {x4 : Int32} {M : Mm} (B : Bx p s m args c cX6_weighWithin 6 RX6 E L) (hr : meth.sig.returnType = none) (hlk : meth.locks = false) (ih12 : ∀ (x3 : Int32) (M : Mm), k12 x3 M = some M' → ∀ (H : Heap) (locs : List Loc) (ls : Array Slot), Rx s E L M H locs → lv_has ls 6 [(0, .ref a0), (1, .int x1), (2, .int x2), (3, .int x3)] → W p l e (rmD (d + 2)) s m args below meth c H locs 0 0 (MQ below (QcM E L none M') args s 0 0 E.2.2.2) (F0 m 12 ls [])) (h0 : At L a0 T6) (h : fX6_weighWithin_l20 fu k12 a0 x1 x2 x3 x4 M = some M') (hR : Rx s E L M H locs) (hl : lv_has ls 6 [(0, .ref a0), (1, .int x1), (2, .int x2), (3, .int x3), (4, .int x4)]) : W p l e (rmD (d + 2)) s m args below meth c H locs 0 0 (MQ below (QcM E L none M') args s 0 0 E.2.2.2) (F0 m 20 ls []) := by
  refine lp_G (G := fun z : Int32 × Mm => ∀ (H : Heap) (locs : List Loc) (ls : Array Slot), Rx s E L z.2 H locs → lv_has ls 6 [(0, .ref a0), (1, .int x1), (2, .int x2), (3, .int x3), (4, .int z.1)] → W p l e (rmD (d + 2)) s m args below meth c H locs 0 0 (MQ below (QcM E L none M') args s 0 0 E.2.2.2) (F0 m 20 ls [])) (fun rec ih z h H locs ls hR hl => ?_) fu _ h H locs ls hR hl
  exact wX6_weighWithin_b20 B hr hlk ih12 (fun x4 M h => ih (x4, M) h) h0 h hR hl
def fX6_weighWithin_b12 (fu : Nat) (k12 : Int32 → Mm → Option Mm) (a0 : Nat) (x1 : Int32) (x2 : Int32) (x3 : Int32) (M : Mm) : Option Mm :=
  if x3 < x1 then
    fX6_weighWithin_j108 fu M
  else
    fX6_weighWithin_l20 fu k12 a0 x1 x2 x3 0 M
set_option maxRecDepth 100000 in
set_option maxHeartbeats 4000000 in
theorem wX6_weighWithin_b12 {M' : Mm}   {k12 : Int32 → Mm → Option Mm} {a0 : Nat} {x1 : Int32} {x2 : Int32} {x3 : Int32} {M : Mm} (B : Bx p s m args c cX6_weighWithin 6 RX6 E L) (hr : meth.sig.returnType = none) (hlk : meth.locks = false)  (ih12 : ∀ (x3 : Int32) (M : Mm), k12 x3 M = some M' → ∀ (H : Heap) (locs : List Loc) (ls : Array Slot), Rx s E L M H locs → lv_has ls 6 [(0, .ref a0), (1, .int x1), (2, .int x2), (3, .int x3)] → W p l e (rmD (d + 2)) s m args below meth c H locs 0 0 (MQ below (QcM E L none M') args s 0 0 E.2.2.2) (F0 m 12 ls [])) (h0 : At L a0 T6) (h : fX6_weighWithin_b12 fu k12 a0 x1 x2 x3 M = some M') (hR : Rx s E L M H locs) (hl : lv_has ls 6 [(0, .ref a0), (1, .int x1), (2, .int x2), (3, .int x3)]) : W p l e (rmD (d + 2)) s m args below meth c H locs 0 0 (MQ below (QcM E L none M') args s 0 0 E.2.2.2) (F0 m 12 ls []) := by
  have hx := B.1
  have hb := B.2.1
  unfold fX6_weighWithin_b12 at h
  refine lv_iload_n hx hb dX6_weighWithin_12 rfl (lv_at hl 3 rfl) ?_
  refine lv_iload_n hx hb dX6_weighWithin_13 rfl (lv_at hl 1 rfl) ?_
  refine lv_icmp_lt (tgt := 108) hx hb dX6_weighWithin_14 (by decide) (fun c_14 => ?_) (fun c_14 => ?_)
  · rw [if_pos c_14] at h
    exact wX6_weighWithin_j108 B hr hlk  h hR (lv_sub hl [] rfl)
  · rw [if_neg c_14] at h
    refine lv_iconst (v := 0) hx hb dX6_weighWithin_17 (by decide) ?_
    refine lv_istore (lv' := [(4, .int 0), (0, .ref a0), (1, .int x1), (2, .int x2), (3, .int x3)]) hx hb dX6_weighWithin_18 hl (by decide) rfl (fun ls hl => ?_)
    exact wX6_weighWithin_l20 B hr hlk ih12 h0 h hR (lv_sub hl [1, 2, 3, 4, 0] rfl)
def fX6_weighWithin_l12 (fu : Nat) (a0 : Nat) (x1 : Int32) (x2 : Int32) (x3 : Int32) (M : Mm) : Option Mm := lp (fun (rec : (Int32 × Mm) → Option Mm) (s : Int32 × Mm) => fX6_weighWithin_b12 fu  (fun x3 M => rec (x3, M)) a0 x1 x2 s.1 s.2) fu (x3, M)
set_option maxRecDepth 100000 in
set_option maxHeartbeats 4000000 in
theorem wX6_weighWithin_l12 {M' : Mm}   {a0 : Nat} {x1 : Int32} {x2 : Int32} {x3 : Int32} {M : Mm} (B : Bx p s m args c cX6_weighWithin 6 RX6 E L) (hr : meth.sig.returnType = none) (hlk : meth.locks = false)  (h0 : At L a0 T6) (h : fX6_weighWithin_l12 fu a0 x1 x2 x3 M = some M') (hR : Rx s E L M H locs) (hl : lv_has ls 6 [(0, .ref a0), (1, .int x1), (2, .int x2), (3, .int x3)]) : W p l e (rmD (d + 2)) s m args below meth c H locs 0 0 (MQ below (QcM E L none M') args s 0 0 E.2.2.2) (F0 m 12 ls []) := by
  refine lp_G (G := fun z : Int32 × Mm => ∀ (H : Heap) (locs : List Loc) (ls : Array Slot), Rx s E L z.2 H locs → lv_has ls 6 [(0, .ref a0), (1, .int x1), (2, .int x2), (3, .int z.1)] → W p l e (rmD (d + 2)) s m args below meth c H locs 0 0 (MQ below (QcM E L none M') args s 0 0 E.2.2.2) (F0 m 12 ls [])) (fun rec ih z h H locs ls hR hl => ?_) fu _ h H locs ls hR hl
  exact wX6_weighWithin_b12 B hr hlk  (fun x3 M h => ih (x3, M) h) h0 h hR hl
def fX6_weighWithin (fu : Nat) (a0 : Nat) (x1 : Int32) (x2 : Int32) (M : Mm) : Option Mm :=
  if x1 < 0 ∨ 320 ≤ ix x1 then none else
  lt (((M.1 ((a0 + 1) + 4) (ix x1)) - 1)) fun x3_11 =>
  fX6_weighWithin_l12 fu a0 x1 x2 x3_11 M
set_option maxRecDepth 100000 in
set_option maxHeartbeats 4000000 in
theorem mX6_weighWithin {l : Launch} {E : Ge} {L : Lay} (fu d : Nat) {a0 : Nat} {x1 : Int32} {x2 : Int32} {M : Mm} {M' : Mm}  (h0 : At L a0 T6) (h : fX6_weighWithin fu a0 x1 x2 M = some M') : Ct l E L yX6_weighWithin cX6_weighWithin 6 none (d + 2) [.ref a0, .int x1, .int x2] M none M' := by
  refine Ct.of (by decide) ?_
  intro p e s m below meth c hr hlk B hR
  have B : Bx p s m _ c cX6_weighWithin 6 RX6 E L := B
  have hx := B.1
  have hb := B.2.1
  have hl := lv_entry ([.ref a0, .int x1, .int x2]) (n := 6) (Nat.le_of_ble_eq_true rfl)
  rw [lg_entry_eq]
  generalize (lg_sl ([.ref a0, .int x1, .int x2]) ++ List.replicate (6 - (lg_sl ([.ref a0, .int x1, .int x2])).length) Slot.unset).toArray = ls at hl ⊢
  have hl : lv_has ls 6 [(0, .ref a0), (1, .int x1), (2, .int x2)] := hl
  unfold fX6_weighWithin at h
  refine lv_aload_n hx hb dX6_weighWithin_0 rfl (lv_at hl 0 rfl) ?_
  refine gf_X6_12 B hR (h0.at0 rfl) dX6_weighWithin_1 ?_
  refine gf_X6_76 B hR ((sb_6_0 h0).at0 rfl) dX6_weighWithin_4 ?_
  refine lv_iload_n hx hb dX6_weighWithin_7 rfl (lv_at hl 1 rfl) ?_
  obtain ⟨hi_8, h⟩ := ifn_el h
  refine r_iald B hR ((sb_6_0 h0).at 4 rfl) hi_8 dX6_weighWithin_8 ?_
  refine lv_iconst (v := 1) hx hb dX6_weighWithin_9 (by decide) ?_
  refine lv_isub hx hb dX6_weighWithin_10 ?_
  obtain ⟨x3_11, ex3_11, h⟩ := lt_el h
  refine r_nmI ex3_11 ?_
  refine lv_istore_n (lv' := [(3, .int x3_11), (0, .ref a0), (1, .int x1), (2, .int x2)]) hx hb dX6_weighWithin_11 rfl hl (by decide) rfl (fun ls hl => ?_)
  exact wX6_weighWithin_l12 B hr hlk h0 h hR (lv_sub hl [1, 2, 3, 0] rfl)
def fX6_fewestAdded (fu : Nat) (a0 : Nat) (a1 : Nat) (M : Mm) : Option (Int32 × Mm) :=
  bm (fX9_make fu (a0 + 1) a1 (M.1 a1 2) M) fun M_9 =>
  lt (wI M_9 a0 4 0) fun M_14 =>
  bm (fX6_weighWithin fu a0 0 5 M_14) fun M_20 =>
  some ((M_20.1 (a0 + 11) (ix 5)), M_20)
set_option maxRecDepth 100000 in
set_option maxHeartbeats 4000000 in
theorem mX6_fewestAdded {l : Launch} {E : Ge} {L : Lay} (fu d : Nat) {a0 : Nat} {a1 : Nat} {M : Mm} {r : Int32} {M' : Mm}  (h0 : At L a0 T6) (h1 : At L a1 T8) (h : fX6_fewestAdded fu a0 a1 M = some (r, M')) : Ct l E L yX6_fewestAdded cX6_fewestAdded 2 (some .int) (d + 18) [.ref a0, .ref a1] M (some (.int r)) M' := by
  refine Ct.of (by decide) ?_
  intro p e s m below meth c hr hlk B hR
  have B : Bx p s m _ c cX6_fewestAdded 2 RX6 E L := B
  have hx := B.1
  have hb := B.2.1
  have hl := lv_entry ([.ref a0, .ref a1]) (n := 2) (Nat.le_of_ble_eq_true rfl)
  rw [lg_entry_eq]
  generalize (lg_sl ([.ref a0, .ref a1]) ++ List.replicate (2 - (lg_sl ([.ref a0, .ref a1])).length) Slot.unset).toArray = ls at hl ⊢
  have hl : lv_has ls 2 [(0, .ref a0), (1, .ref a1)] := hl
  unfold fX6_fewestAdded at h
  refine lv_aload_n hx hb dX6_fewestAdded_0 rfl (lv_at hl 0 rfl) ?_
  refine gf_X6_12 B hR (h0.at0 rfl) dX6_fewestAdded_1 ?_
  refine lv_aload_n hx hb dX6_fewestAdded_4 rfl (lv_at hl 1 rfl) ?_
  refine lv_aload_n hx hb dX6_fewestAdded_5 rfl (lv_at hl 1 rfl) ?_
  refine gf_X6_28 B hR (h1.at0 rfl) dX6_fewestAdded_6 ?_
  obtain ⟨M_9, hc_9, h⟩ := bm_el h
  refine iv_X6_34 B hR ((sb_6_0 h0).at0 rfl) hl.1 (mX9_make fu _ (sb_6_0 h0) h1 hc_9) (Nat.le_of_ble_eq_true rfl) dX6_fewestAdded_9 (fun H locs hR => ?_)
  refine lv_aload_n hx hb dX6_fewestAdded_12 rfl (lv_at hl 0 rfl) ?_
  refine lv_iconst (v := 0) hx hb dX6_fewestAdded_13 (by decide) ?_
  obtain ⟨M_14, eM_14, h⟩ := lt_el h
  refine pz_X6_38 B hR (h0.at0 rfl) (Or.inl rfl) dX6_fewestAdded_14 (fun H locs hR => ?_)
  rw [← eM_14] at hR
  refine lv_aload_n hx hb dX6_fewestAdded_17 rfl (lv_at hl 0 rfl) ?_
  refine lv_iconst (v := 0) hx hb dX6_fewestAdded_18 (by decide) ?_
  refine lv_iconst (v := 5) hx hb dX6_fewestAdded_19 (by decide) ?_
  obtain ⟨M_20, hc_20, h⟩ := bm_el h
  refine iv_X6_42 B hR (h0.at0 rfl) hl.1 (mX6_weighWithin fu _ h0 hc_20) (Nat.le_of_ble_eq_true rfl) dX6_fewestAdded_20 (fun H locs hR => ?_)
  refine lv_aload_n hx hb dX6_fewestAdded_23 rfl (lv_at hl 0 rfl) ?_
  refine gf_X6_18 B hR (h0.at0 rfl) dX6_fewestAdded_24 ?_
  refine lv_iconst (v := 5) hx hb dX6_fewestAdded_27 (by decide) ?_
  refine r_iald B hR (h0.at 11 rfl) (by decide +kernel) dX6_fewestAdded_28 ?_
  exact r_iretW B hR hr hlk h dX6_fewestAdded_29
def fX6_fewestOver (fu : Nat) (a0 : Nat) (a1 : Nat) (x2 : Int32) (M : Mm) : Option (Int32 × Mm) :=
  bm (fX9_make fu (a0 + 1) a1 x2 M) fun M_6 =>
  lt (wI M_6 a0 4 1) fun M_11 =>
  bm (fX6_weighWithin fu a0 0 5 M_11) fun M_17 =>
  some ((M_17.1 (a0 + 11) (ix 5)), M_17)
set_option maxRecDepth 100000 in
set_option maxHeartbeats 4000000 in
theorem mX6_fewestOver {l : Launch} {E : Ge} {L : Lay} (fu d : Nat) {a0 : Nat} {a1 : Nat} {x2 : Int32} {M : Mm} {r : Int32} {M' : Mm}  (h0 : At L a0 T6) (h1 : At L a1 T8) (h : fX6_fewestOver fu a0 a1 x2 M = some (r, M')) : Ct l E L yX6_fewestOver cX6_fewestOver 3 (some .int) (d + 18) [.ref a0, .ref a1, .int x2] M (some (.int r)) M' := by
  refine Ct.of (by decide) ?_
  intro p e s m below meth c hr hlk B hR
  have B : Bx p s m _ c cX6_fewestOver 3 RX6 E L := B
  have hx := B.1
  have hb := B.2.1
  have hl := lv_entry ([.ref a0, .ref a1, .int x2]) (n := 3) (Nat.le_of_ble_eq_true rfl)
  rw [lg_entry_eq]
  generalize (lg_sl ([.ref a0, .ref a1, .int x2]) ++ List.replicate (3 - (lg_sl ([.ref a0, .ref a1, .int x2])).length) Slot.unset).toArray = ls at hl ⊢
  have hl : lv_has ls 3 [(0, .ref a0), (1, .ref a1), (2, .int x2)] := hl
  unfold fX6_fewestOver at h
  refine lv_aload_n hx hb dX6_fewestOver_0 rfl (lv_at hl 0 rfl) ?_
  refine gf_X6_12 B hR (h0.at0 rfl) dX6_fewestOver_1 ?_
  refine lv_aload_n hx hb dX6_fewestOver_4 rfl (lv_at hl 1 rfl) ?_
  refine lv_iload_n hx hb dX6_fewestOver_5 rfl (lv_at hl 2 rfl) ?_
  obtain ⟨M_6, hc_6, h⟩ := bm_el h
  refine iv_X6_34 B hR ((sb_6_0 h0).at0 rfl) hl.1 (mX9_make fu _ (sb_6_0 h0) h1 hc_6) (Nat.le_of_ble_eq_true rfl) dX6_fewestOver_6 (fun H locs hR => ?_)
  refine lv_aload_n hx hb dX6_fewestOver_9 rfl (lv_at hl 0 rfl) ?_
  refine lv_iconst (v := 1) hx hb dX6_fewestOver_10 (by decide) ?_
  obtain ⟨M_11, eM_11, h⟩ := lt_el h
  refine pz_X6_38 B hR (h0.at0 rfl) (Or.inr rfl) dX6_fewestOver_11 (fun H locs hR => ?_)
  rw [← eM_11] at hR
  refine lv_aload_n hx hb dX6_fewestOver_14 rfl (lv_at hl 0 rfl) ?_
  refine lv_iconst (v := 0) hx hb dX6_fewestOver_15 (by decide) ?_
  refine lv_iconst (v := 5) hx hb dX6_fewestOver_16 (by decide) ?_
  obtain ⟨M_17, hc_17, h⟩ := bm_el h
  refine iv_X6_42 B hR (h0.at0 rfl) hl.1 (mX6_weighWithin fu _ h0 hc_17) (Nat.le_of_ble_eq_true rfl) dX6_fewestOver_17 (fun H locs hR => ?_)
  refine lv_aload_n hx hb dX6_fewestOver_20 rfl (lv_at hl 0 rfl) ?_
  refine gf_X6_18 B hR (h0.at0 rfl) dX6_fewestOver_21 ?_
  refine lv_iconst (v := 5) hx hb dX6_fewestOver_24 (by decide) ?_
  refine r_iald B hR (h0.at 11 rfl) (by decide +kernel) dX6_fewestOver_25 ?_
  exact r_iretW B hR hr hlk h dX6_fewestOver_26
def fX6_layItself_j80 (fu : Nat) (L : Lay) (x2 : Int32) (M : Mm) : Option (Int32 × Mm) :=
  some (x2, M)
set_option maxRecDepth 100000 in
set_option maxHeartbeats 4000000 in
theorem wX6_layItself_j80 {r : Int32} {M' : Mm}   {x2 : Int32} {M : Mm} (B : Bx p s m args c cX6_layItself 6 RX6 E L) (hr : meth.sig.returnType = (some .int)) (hlk : meth.locks = false)   (h : fX6_layItself_j80 fu L x2 M = some (r, M')) (hR : Rx s E L M H locs) (hl : lv_has ls 6 [(2, .int x2)]) : W p l e (rmD (d + 1)) s m args below meth c H locs 0 0 (MQ below (QcM E L (some (.int r)) M') args s 0 0 E.2.2.2) (F0 m 80 ls []) := by
  have hx := B.1
  have hb := B.2.1
  unfold fX6_layItself_j80 at h
  refine lv_iload_n hx hb dX6_layItself_80 rfl (lv_at hl 0 rfl) ?_
  exact r_iretW B hR hr hlk h dX6_layItself_81
def fX6_layItself_j74 (fu : Nat) (L : Lay) (k3 : Int32 → Option (Int32 × Mm)) (a0 : Nat) (x1 : Int32) (x2 : Int32) (x3 : Int32) (x4 : Int32) (M : Mm) : Option (Int32 × Mm) :=
  lt (x4 + 1) fun x4_74 =>
  k3 x4_74
set_option maxRecDepth 100000 in
set_option maxHeartbeats 4000000 in
theorem wX6_layItself_j74 {r : Int32} {M' : Mm}  {k3 : Int32 → Option (Int32 × Mm)} {a0 : Nat} {x1 : Int32} {x2 : Int32} {x3 : Int32} {x4 : Int32} {M : Mm} (B : Bx p s m args c cX6_layItself 6 RX6 E L) (hr : meth.sig.returnType = (some .int)) (hlk : meth.locks = false) (ih3 : ∀ (x4 : Int32), k3 x4 = some (r, M') → ∀ (H : Heap) (locs : List Loc) (ls : Array Slot), Rx s E L M H locs → lv_has ls 6 [(0, .ref a0), (1, .int x1), (2, .int x2), (3, .int x3), (4, .int x4)] → W p l e (rmD (d + 1)) s m args below meth c H locs 0 0 (MQ below (QcM E L (some (.int r)) M') args s 0 0 E.2.2.2) (F0 m 3 ls [])) (h0 : At L a0 T6) (h : fX6_layItself_j74 fu L k3 a0 x1 x2 x3 x4 M = some (r, M')) (hR : Rx s E L M H locs) (hl : lv_has ls 6 [(0, .ref a0), (1, .int x1), (2, .int x2), (3, .int x3), (4, .int x4)]) : W p l e (rmD (d + 1)) s m args below meth c H locs 0 0 (MQ below (QcM E L (some (.int r)) M') args s 0 0 E.2.2.2) (F0 m 74 ls []) := by
  have hx := B.1
  have hb := B.2.1
  unfold fX6_layItself_j74 at h
  obtain ⟨x4_74, ex4_74, h⟩ := lt_el h
  refine lv_iinc (v := x4_74) (lv' := [(4, .int x4_74), (0, .ref a0), (1, .int x1), (2, .int x2), (3, .int x3)]) hx hb dX6_layItself_74 hl (k := 4) rfl (by rw [ex4_74]; rfl) (by decide) rfl (fun ls hl => ?_)
  refine lv_goto (tgt := 3) hx hb dX6_layItself_77 (by decide) ?_
  exact ih3 x4_74 h _ _ _ hR (lv_sub hl [1, 2, 3, 4, 0] rfl)
def fX6_layItself_j44 (fu : Nat) (L : Lay) (a0 : Nat) (x1 : Int32) (x4 : Int32) (x5 : Int32) (M : Mm) : Option (Int32 × Mm) :=
  bl (M.2.2 a0 5) fun q_45 =>
  gd (atB L q_45 (T0 160) = true) <|
  if x1 < 0 ∨ 320 ≤ ix x1 then none else
  bm (fX0_add fu 160 q_45 (M.1 ((a0 + 1) + 1) (ix x1)) (M.1 ((a0 + 1) + 2) (ix x1)) x4 M) fun M_68 =>
  some (x5, M_68)
set_option maxRecDepth 100000 in
set_option maxHeartbeats 4000000 in
theorem wX6_layItself_j44 {r : Int32} {M' : Mm}   {a0 : Nat} {x1 : Int32} {x4 : Int32} {x5 : Int32} {M : Mm} (B : Bx p s m args c cX6_layItself 6 RX6 E L) (hr : meth.sig.returnType = (some .int)) (hlk : meth.locks = false)  (h0 : At L a0 T6) (h : fX6_layItself_j44 fu L a0 x1 x4 x5 M = some (r, M')) (hR : Rx s E L M H locs) (hl : lv_has ls 6 [(0, .ref a0), (1, .int x1), (4, .int x4), (5, .int x5)]) : W p l e (rmD (d + 1)) s m args below meth c H locs 0 0 (MQ below (QcM E L (some (.int r)) M') args s 0 0 E.2.2.2) (F0 m 44 ls []) := by
  have hx := B.1
  have hb := B.2.1
  unfold fX6_layItself_j44 at h
  refine lv_aload_n hx hb dX6_layItself_44 rfl (lv_at hl 0 rfl) ?_
  obtain ⟨q_45, hq_45, h⟩ := bl_el h
  obtain ⟨hs_45, h⟩ := gd_el h
  refine gm_X6_46 B hR (h0.at0 rfl) hq_45 dX6_layItself_45 ?_
  refine lv_aload_n hx hb dX6_layItself_48 rfl (lv_at hl 0 rfl) ?_
  refine gf_X6_12 B hR (h0.at0 rfl) dX6_layItself_49 ?_
  refine gf_X6_115 B hR ((sb_6_0 h0).at0 rfl) dX6_layItself_52 ?_
  refine lv_iload_n hx hb dX6_layItself_55 rfl (lv_at hl 1 rfl) ?_
  obtain ⟨hi_56, h⟩ := ifn_el h
  refine r_iald B hR ((sb_6_0 h0).at 1 rfl) hi_56 dX6_layItself_56 ?_
  refine lv_aload_n hx hb dX6_layItself_57 rfl (lv_at hl 0 rfl) ?_
  refine gf_X6_12 B hR (h0.at0 rfl) dX6_layItself_58 ?_
  refine gf_X6_60 B hR ((sb_6_0 h0).at0 rfl) dX6_layItself_61 ?_
  refine lv_iload_n hx hb dX6_layItself_64 rfl (lv_at hl 1 rfl) ?_
  refine r_iald B hR ((sb_6_0 h0).at 2 rfl) hi_56 dX6_layItself_65 ?_
  refine lv_iload hx hb dX6_layItself_66 (lv_at hl 2 rfl) ?_
  obtain ⟨M_68, hc_68, h⟩ := bm_el h
  refine iv_X6_118 B hR ((atB_at hs_45).at0 rfl) hl.1 (mX0_add fu _ (atB_at hs_45) hc_68) (Nat.le_of_ble_eq_true rfl) dX6_layItself_68 (fun H locs hR => ?_)
  refine lv_iload hx hb dX6_layItself_71 (lv_at hl 3 rfl) ?_
  exact r_iretW B hR hr hlk h dX6_layItself_73
def fX6_layItself_b3 (fu : Nat) (L : Lay) (k3 : Int32 → Option (Int32 × Mm)) (a0 : Nat) (x1 : Int32) (x2 : Int32) (x3 : Int32) (x4 : Int32) (M : Mm) : Option (Int32 × Mm) :=
  if 5 ≤ x4 then
    fX6_layItself_j80 fu L x2 M
  else
    if ((x2 * 5) + x4) < 0 ∨ 30 ≤ ix ((x2 * 5) + x4) then none else
    lt ((laidT.getD (ix ((x2 * 5) + x4)) 0)) fun x5_19 =>
    if x5_19 < 0 then
      fX6_layItself_j74 fu L k3 a0 x1 x2 x3 x4 M
    else
      if ((x1 * 6) + x5_19) < 0 ∨ 1920 ≤ ix ((x1 * 6) + x5_19) then none else
      if (1 + (M.1 (a0 + 11) (ix ((x1 * 6) + x5_19)))) = x3 then
        fX6_layItself_j44 fu L a0 x1 x4 x5_19 M
      else
        fX6_layItself_j74 fu L k3 a0 x1 x2 x3 x4 M
set_option maxRecDepth 100000 in
set_option maxHeartbeats 4000000 in
theorem wX6_layItself_b3 {r : Int32} {M' : Mm}   {k3 : Int32 → Option (Int32 × Mm)} {a0 : Nat} {x1 : Int32} {x2 : Int32} {x3 : Int32} {x4 : Int32} {M : Mm} (B : Bx p s m args c cX6_layItself 6 RX6 E L) (hr : meth.sig.returnType = (some .int)) (hlk : meth.locks = false)  (ih3 : ∀ (x4 : Int32), k3 x4 = some (r, M') → ∀ (H : Heap) (locs : List Loc) (ls : Array Slot), Rx s E L M H locs → lv_has ls 6 [(0, .ref a0), (1, .int x1), (2, .int x2), (3, .int x3), (4, .int x4)] → W p l e (rmD (d + 1)) s m args below meth c H locs 0 0 (MQ below (QcM E L (some (.int r)) M') args s 0 0 E.2.2.2) (F0 m 3 ls [])) (h0 : At L a0 T6) (h : fX6_layItself_b3 fu L k3 a0 x1 x2 x3 x4 M = some (r, M')) (hR : Rx s E L M H locs) (hl : lv_has ls 6 [(0, .ref a0), (1, .int x1), (2, .int x2), (3, .int x3), (4, .int x4)]) : W p l e (rmD (d + 1)) s m args below meth c H locs 0 0 (MQ below (QcM E L (some (.int r)) M') args s 0 0 E.2.2.2) (F0 m 3 ls []) := by
  have hx := B.1
  have hb := B.2.1
  unfold fX6_layItself_b3 at h
  refine lv_iload hx hb dX6_layItself_3 (lv_at hl 4 rfl) ?_
  refine lv_iconst (v := 5) hx hb dX6_layItself_5 (by decide) ?_
  refine lv_icmp_ge (tgt := 80) hx hb dX6_layItself_6 (by decide) (fun c_6 => ?_) (fun c_6 => ?_)
  · rw [if_pos c_6] at h
    exact wX6_layItself_j80 B hr hlk  h hR (lv_sub hl [2] rfl)
  · rw [if_neg c_6] at h
    refine gs_X6_104 B hR dX6_layItself_9 ?_
    refine lv_iload_n hx hb dX6_layItself_12 rfl (lv_at hl 2 rfl) ?_
    refine lv_iconst (v := 5) hx hb dX6_layItself_13 (by decide) ?_
    refine lv_imul hx hb dX6_layItself_14 ?_
    refine lv_iload hx hb dX6_layItself_15 (lv_at hl 4 rfl) ?_
    refine lv_iadd hx hb dX6_layItself_17 ?_
    obtain ⟨hi_18, h⟩ := ifn_el h
    refine r_tald B hR B.2.2.2.2.2.2.2.1.2 hi_18 dX6_layItself_18 ?_
    obtain ⟨x5_19, ex5_19, h⟩ := lt_el h
    refine r_nmI ex5_19 ?_
    refine lv_istore (lv' := [(5, .int x5_19), (0, .ref a0), (1, .int x1), (2, .int x2), (3, .int x3), (4, .int x4)]) hx hb dX6_layItself_19 hl (by decide) rfl (fun ls hl => ?_)
    refine lv_iload hx hb dX6_layItself_21 (lv_at hl 0 rfl) ?_
    refine lv_if_lt (tgt := 74) hx hb dX6_layItself_23 (by decide) (fun c_23 => ?_) (fun c_23 => ?_)
    · rw [if_pos c_23] at h
      exact wX6_layItself_j74 B hr hlk ih3 h0 h hR (lv_sub hl [1, 2, 3, 4, 5] rfl)
    · rw [if_neg c_23] at h
      refine lv_iconst (v := 1) hx hb dX6_layItself_26 (by decide) ?_
      refine lv_aload_n hx hb dX6_layItself_27 rfl (lv_at hl 1 rfl) ?_
      refine gf_X6_18 B hR (h0.at0 rfl) dX6_layItself_28 ?_
      refine lv_iload_n hx hb dX6_layItself_31 rfl (lv_at hl 2 rfl) ?_
      refine lv_bipush (v := 6) hx hb dX6_layItself_32 (by decide) ?_
      refine lv_imul hx hb dX6_layItself_34 ?_
      refine lv_iload hx hb dX6_layItself_35 (lv_at hl 0 rfl) ?_
      refine lv_iadd hx hb dX6_layItself_37 ?_
      obtain ⟨hi_38, h⟩ := ifn_el h
      refine r_iald B hR (h0.at 11 rfl) hi_38 dX6_layItself_38 ?_
      refine lv_iadd hx hb dX6_layItself_39 ?_
      refine lv_iload_n hx hb dX6_layItself_40 rfl (lv_at hl 4 rfl) ?_
      refine lv_icmp_ne (tgt := 74) hx hb dX6_layItself_41 (by decide) (fun c_41 => ?_) (fun c_41 => ?_)
      · rw [if_neg c_41] at h
        exact wX6_layItself_j74 B hr hlk ih3 h0 h hR (lv_sub hl [1, 2, 3, 4, 5] rfl)
      · rw [if_pos c_41] at h
        exact wX6_layItself_j44 B hr hlk h0 h hR (lv_sub hl [1, 2, 5, 0] rfl)
def fX6_layItself_l3 (fu : Nat) (L : Lay) (a0 : Nat) (x1 : Int32) (x2 : Int32) (x3 : Int32) (M : Mm) (x4 : Int32) : Option (Int32 × Mm) := lp (fun (rec : Int32 → Option (Int32 × Mm)) (s : Int32) => fX6_layItself_b3 fu L  (fun x4 => rec (x4)) a0 x1 x2 x3 s M) fu (x4)
set_option maxRecDepth 100000 in
set_option maxHeartbeats 4000000 in
theorem wX6_layItself_l3 {r : Int32} {M' : Mm}   {a0 : Nat} {x1 : Int32} {x2 : Int32} {x3 : Int32} {x4 : Int32} {M : Mm} (B : Bx p s m args c cX6_layItself 6 RX6 E L) (hr : meth.sig.returnType = (some .int)) (hlk : meth.locks = false)  (h0 : At L a0 T6) (h : fX6_layItself_l3 fu L a0 x1 x2 x3 M x4 = some (r, M')) (hR : Rx s E L M H locs) (hl : lv_has ls 6 [(0, .ref a0), (1, .int x1), (2, .int x2), (3, .int x3), (4, .int x4)]) : W p l e (rmD (d + 1)) s m args below meth c H locs 0 0 (MQ below (QcM E L (some (.int r)) M') args s 0 0 E.2.2.2) (F0 m 3 ls []) := by
  refine lp_G (G := fun z : Int32 => ∀ (H : Heap) (locs : List Loc) (ls : Array Slot), Rx s E L M H locs → lv_has ls 6 [(0, .ref a0), (1, .int x1), (2, .int x2), (3, .int x3), (4, .int z)] → W p l e (rmD (d + 1)) s m args below meth c H locs 0 0 (MQ below (QcM E L (some (.int r)) M') args s 0 0 E.2.2.2) (F0 m 3 ls [])) (fun rec ih z h H locs ls hR hl => ?_) fu _ h H locs ls hR hl
  exact wX6_layItself_b3 B hr hlk  (fun x4 h => ih (x4) h) h0 h hR hl
def fX6_layItself (fu : Nat) (L : Lay) (a0 : Nat) (x1 : Int32) (x2 : Int32) (x3 : Int32) (M : Mm) : Option (Int32 × Mm) :=
  fX6_layItself_l3 fu L a0 x1 x2 x3 M 0
set_option maxRecDepth 100000 in
set_option maxHeartbeats 4000000 in
theorem mX6_layItself {l : Launch} {E : Ge} {L : Lay} (fu d : Nat) {a0 : Nat} {x1 : Int32} {x2 : Int32} {x3 : Int32} {M : Mm} {r : Int32} {M' : Mm}  (h0 : At L a0 T6) (h : fX6_layItself fu L a0 x1 x2 x3 M = some (r, M')) : Ct l E L yX6_layItself cX6_layItself 6 (some .int) (d + 1) [.ref a0, .int x1, .int x2, .int x3] M (some (.int r)) M' := by
  refine Ct.of (by decide) ?_
  intro p e s m below meth c hr hlk B hR
  have B : Bx p s m _ c cX6_layItself 6 RX6 E L := B
  have hx := B.1
  have hb := B.2.1
  have hl := lv_entry ([.ref a0, .int x1, .int x2, .int x3]) (n := 6) (Nat.le_of_ble_eq_true rfl)
  rw [lg_entry_eq]
  generalize (lg_sl ([.ref a0, .int x1, .int x2, .int x3]) ++ List.replicate (6 - (lg_sl ([.ref a0, .int x1, .int x2, .int x3])).length) Slot.unset).toArray = ls at hl ⊢
  have hl : lv_has ls 6 [(0, .ref a0), (1, .int x1), (2, .int x2), (3, .int x3)] := hl
  unfold fX6_layItself at h
  refine lv_iconst (v := 0) hx hb dX6_layItself_0 (by decide) ?_
  refine lv_istore (lv' := [(4, .int 0), (0, .ref a0), (1, .int x1), (2, .int x2), (3, .int x3)]) hx hb dX6_layItself_1 hl (by decide) rfl (fun ls hl => ?_)
  exact wX6_layItself_l3 B hr hlk h0 h hR (lv_sub hl [1, 2, 3, 4, 0] rfl)
def fX6_layWithin_j119 (fu : Nat) (L : Lay) (fr : Nat → Int32 → Int32 → Int32 → Mm → Option Mm) (M : Mm) : Option Mm :=
  some M
set_option maxRecDepth 100000 in
set_option maxHeartbeats 4000000 in
theorem wX6_layWithin_j119 {M' : Mm} {fr : Nat → Int32 → Int32 → Int32 → Mm → Option Mm}    {M : Mm} (B : Bx p s m args c cX6_layWithin 7 RX6 E L) (hr : meth.sig.returnType = none) (hlk : meth.locks = false) (ihr : ∀ {a0 : Nat} {x1 : Int32} {x2 : Int32} {x3 : Int32} {M : Mm} {M' : Mm}, At L a0 T6 → fr a0 x1 x2 x3 M = some M' → Ct l E L yX6_layWithin cX6_layWithin 7 none (d + 2) [.ref a0, .int x1, .int x2, .int x3] M none M')   (h : fX6_layWithin_j119 fu L fr M = some M') (hR : Rx s E L M H locs) (hl : lv_has ls 7 []) : W p l e (rmD (d + 3)) s m args below meth c H locs 0 0 (MQ below (QcM E L none M') args s 0 0 E.2.2.2) (F0 m 119 ls []) := by
  have hx := B.1
  have hb := B.2.1
  unfold fX6_layWithin_j119 at h
  exact r_vretW B hR hr hlk h dX6_layWithin_119
def fX6_layWithin_j46 (fu : Nat) (L : Lay) (fr : Nat → Int32 → Int32 → Int32 → Mm → Option Mm) (M : Mm) : Option Mm :=
  some M
set_option maxRecDepth 100000 in
set_option maxHeartbeats 4000000 in
theorem wX6_layWithin_j46 {M' : Mm} {fr : Nat → Int32 → Int32 → Int32 → Mm → Option Mm}    {M : Mm} (B : Bx p s m args c cX6_layWithin 7 RX6 E L) (hr : meth.sig.returnType = none) (hlk : meth.locks = false) (ihr : ∀ {a0 : Nat} {x1 : Int32} {x2 : Int32} {x3 : Int32} {M : Mm} {M' : Mm}, At L a0 T6 → fr a0 x1 x2 x3 M = some M' → Ct l E L yX6_layWithin cX6_layWithin 7 none (d + 2) [.ref a0, .int x1, .int x2, .int x3] M none M')   (h : fX6_layWithin_j46 fu L fr M = some M') (hR : Rx s E L M H locs) (hl : lv_has ls 7 []) : W p l e (rmD (d + 3)) s m args below meth c H locs 0 0 (MQ below (QcM E L none M') args s 0 0 E.2.2.2) (F0 m 46 ls []) := by
  have hx := B.1
  have hb := B.2.1
  unfold fX6_layWithin_j46 at h
  exact r_vretW B hR hr hlk h dX6_layWithin_46
def fX6_layWithin_j102 (fu : Nat) (L : Lay) (fr : Nat → Int32 → Int32 → Int32 → Mm → Option Mm) (k6 : Int32 → Int32 → Mm → Option Mm) (a0 : Nat) (x1 : Int32) (x3 : Int32) (x4 : Int32) (x5 : Int32) (x6 : Int32) (M : Mm) : Option Mm :=
  bw (fX6_layItself fu L a0 x1 x4 x6 M) fun r_108 M_108 =>
  lt (x5 + 1) fun x5_113 =>
  k6 r_108 x5_113 M_108
set_option maxRecDepth 100000 in
set_option maxHeartbeats 4000000 in
theorem wX6_layWithin_j102 {M' : Mm} {fr : Nat → Int32 → Int32 → Int32 → Mm → Option Mm}  {k6 : Int32 → Int32 → Mm → Option Mm} {a0 : Nat} {x1 : Int32} {x3 : Int32} {x4 : Int32} {x5 : Int32} {x6 : Int32} {M : Mm} (B : Bx p s m args c cX6_layWithin 7 RX6 E L) (hr : meth.sig.returnType = none) (hlk : meth.locks = false) (ihr : ∀ {a0 : Nat} {x1 : Int32} {x2 : Int32} {x3 : Int32} {M : Mm} {M' : Mm}, At L a0 T6 → fr a0 x1 x2 x3 M = some M' → Ct l E L yX6_layWithin cX6_layWithin 7 none (d + 2) [.ref a0, .int x1, .int x2, .int x3] M none M') (ih6 : ∀ (x4 : Int32) (x5 : Int32) (M : Mm), k6 x4 x5 M = some M' → ∀ (H : Heap) (locs : List Loc) (ls : Array Slot), Rx s E L M H locs → lv_has ls 7 [(0, .ref a0), (1, .int x1), (3, .int x3), (4, .int x4), (5, .int x5)] → W p l e (rmD (d + 3)) s m args below meth c H locs 0 0 (MQ below (QcM E L none M') args s 0 0 E.2.2.2) (F0 m 6 ls [])) (h0 : At L a0 T6) (h : fX6_layWithin_j102 fu L fr k6 a0 x1 x3 x4 x5 x6 M = some M') (hR : Rx s E L M H locs) (hl : lv_has ls 7 [(0, .ref a0), (1, .int x1), (3, .int x3), (4, .int x4), (5, .int x5), (6, .int x6)]) : W p l e (rmD (d + 3)) s m args below meth c H locs 0 0 (MQ below (QcM E L none M') args s 0 0 E.2.2.2) (F0 m 102 ls []) := by
  have hx := B.1
  have hb := B.2.1
  unfold fX6_layWithin_j102 at h
  refine lv_aload_n hx hb dX6_layWithin_102 rfl (lv_at hl 0 rfl) ?_
  refine lv_iload_n hx hb dX6_layWithin_103 rfl (lv_at hl 1 rfl) ?_
  refine lv_iload hx hb dX6_layWithin_104 (lv_at hl 3 rfl) ?_
  refine lv_iload hx hb dX6_layWithin_106 (lv_at hl 5 rfl) ?_
  obtain ⟨r_108, M_108, hc_108, h⟩ := bw_el h
  refine iv_X6_111 B hR (h0.at0 rfl) hl.1 (mX6_layItself fu _ h0 hc_108) (Nat.le_of_ble_eq_true rfl) dX6_layWithin_108 (fun H locs hR => ?_)
  refine lv_istore (lv' := [(4, .int r_108), (0, .ref a0), (1, .int x1), (3, .int x3), (5, .int x5), (6, .int x6)]) hx hb dX6_layWithin_111 hl (by decide) rfl (fun ls hl => ?_)
  obtain ⟨x5_113, ex5_113, h⟩ := lt_el h
  refine lv_iinc (v := x5_113) (lv' := [(5, .int x5_113), (4, .int r_108), (0, .ref a0), (1, .int x1), (3, .int x3), (6, .int x6)]) hx hb dX6_layWithin_113 hl (k := 4) rfl (by rw [ex5_113]; rfl) (by decide) rfl (fun ls hl => ?_)
  refine lv_goto (tgt := 6) hx hb dX6_layWithin_116 (by decide) ?_
  exact ih6 r_108 x5_113 M_108 h _ _ _ hR (lv_sub hl [2, 3, 4, 1, 0] rfl)
def fX6_layWithin_j71 (fu : Nat) (L : Lay) (fr : Nat → Int32 → Int32 → Int32 → Mm → Option Mm) (a0 : Nat) (x1 : Int32) (x3 : Int32) (x4 : Int32) (M : Mm) : Option Mm :=
  bm (fr a0 (x1 + 1) x4 (x3 + 1) M) fun M_80 =>
  if x1 < 0 ∨ 320 ≤ ix x1 then none else
  bm (fr a0 (M_80.1 ((a0 + 1) + 3) (ix x1)) x4 (x3 + 1) M_80) fun M_98 =>
  some M_98
set_option maxRecDepth 100000 in
set_option maxHeartbeats 4000000 in
theorem wX6_layWithin_j71 {M' : Mm} {fr : Nat → Int32 → Int32 → Int32 → Mm → Option Mm}   {a0 : Nat} {x1 : Int32} {x3 : Int32} {x4 : Int32} {M : Mm} (B : Bx p s m args c cX6_layWithin 7 RX6 E L) (hr : meth.sig.returnType = none) (hlk : meth.locks = false) (ihr : ∀ {a0 : Nat} {x1 : Int32} {x2 : Int32} {x3 : Int32} {M : Mm} {M' : Mm}, At L a0 T6 → fr a0 x1 x2 x3 M = some M' → Ct l E L yX6_layWithin cX6_layWithin 7 none (d + 2) [.ref a0, .int x1, .int x2, .int x3] M none M')  (h0 : At L a0 T6) (h : fX6_layWithin_j71 fu L fr a0 x1 x3 x4 M = some M') (hR : Rx s E L M H locs) (hl : lv_has ls 7 [(0, .ref a0), (1, .int x1), (3, .int x3), (4, .int x4)]) : W p l e (rmD (d + 3)) s m args below meth c H locs 0 0 (MQ below (QcM E L none M') args s 0 0 E.2.2.2) (F0 m 71 ls []) := by
  have hx := B.1
  have hb := B.2.1
  unfold fX6_layWithin_j71 at h
  refine lv_aload_n hx hb dX6_layWithin_71 rfl (lv_at hl 0 rfl) ?_
  refine lv_iload_n hx hb dX6_layWithin_72 rfl (lv_at hl 1 rfl) ?_
  refine lv_iconst (v := 1) hx hb dX6_layWithin_73 (by decide) ?_
  refine lv_iadd hx hb dX6_layWithin_74 ?_
  refine lv_iload hx hb dX6_layWithin_75 (lv_at hl 3 rfl) ?_
  refine lv_iload_n hx hb dX6_layWithin_77 rfl (lv_at hl 2 rfl) ?_
  refine lv_iconst (v := 1) hx hb dX6_layWithin_78 (by decide) ?_
  refine lv_iadd hx hb dX6_layWithin_79 ?_
  obtain ⟨M_80, hc_80, h⟩ := bm_el h
  refine iv_X6_55 B hR (h0.at0 rfl) hl.1 (ihr h0 hc_80) (Nat.le_of_ble_eq_true rfl) dX6_layWithin_80 (fun H locs hR => ?_)
  refine lv_aload_n hx hb dX6_layWithin_83 rfl (lv_at hl 0 rfl) ?_
  refine lv_aload_n hx hb dX6_layWithin_84 rfl (lv_at hl 0 rfl) ?_
  refine gf_X6_12 B hR (h0.at0 rfl) dX6_layWithin_85 ?_
  refine gf_X6_79 B hR ((sb_6_0 h0).at0 rfl) dX6_layWithin_88 ?_
  refine lv_iload_n hx hb dX6_layWithin_91 rfl (lv_at hl 1 rfl) ?_
  obtain ⟨hi_92, h⟩ := ifn_el h
  refine r_iald B hR ((sb_6_0 h0).at 3 rfl) hi_92 dX6_layWithin_92 ?_
  refine lv_iload hx hb dX6_layWithin_93 (lv_at hl 3 rfl) ?_
  refine lv_iload_n hx hb dX6_layWithin_95 rfl (lv_at hl 2 rfl) ?_
  refine lv_iconst (v := 1) hx hb dX6_layWithin_96 (by decide) ?_
  refine lv_iadd hx hb dX6_layWithin_97 ?_
  obtain ⟨M_98, hc_98, h⟩ := bm_el h
  refine iv_X6_55 B hR (h0.at0 rfl) hl.1 (ihr h0 hc_98) (Nat.le_of_ble_eq_true rfl) dX6_layWithin_98 (fun H locs hR => ?_)
  exact r_vretW B hR hr hlk h dX6_layWithin_101
def fX6_layWithin_b6 (fu : Nat) (L : Lay) (fr : Nat → Int32 → Int32 → Int32 → Mm → Option Mm) (k6 : Int32 → Int32 → Mm → Option Mm) (a0 : Nat) (x1 : Int32) (x3 : Int32) (x4 : Int32) (x5 : Int32) (M : Mm) : Option Mm :=
  if 6 ≤ x5 then
    fX6_layWithin_j119 fu L fr M
  else
    if 11 < x3 then
      fX6_layWithin_j119 fu L fr M
    else
      if ((x1 * 6) + x4) < 0 ∨ 1920 ≤ ix ((x1 * 6) + x4) then none else
      lt ((M.1 (a0 + 11) (ix ((x1 * 6) + x4)))) fun x6_31 =>
      if x6_31 = 0 then
        fX6_layWithin_j46 fu L fr M
      else
        if x6_31 < 10000 then
          if x1 < 0 ∨ 320 ≤ ix x1 then none else
          if (M.1 ((a0 + 1) + 3) (ix x1)) = 0 then
            fX6_layWithin_j102 fu L fr k6 a0 x1 x3 x4 x5 x6_31 M
          else
            bi (fX6_byHalves fu a0 x1 x4 M) fun r_63 =>
            if r_63 = x6_31 then
              fX6_layWithin_j71 fu L fr a0 x1 x3 x4 M
            else
              fX6_layWithin_j102 fu L fr k6 a0 x1 x3 x4 x5 x6_31 M
        else
          fX6_layWithin_j46 fu L fr M
set_option maxRecDepth 100000 in
set_option maxHeartbeats 4000000 in
theorem wX6_layWithin_b6 {M' : Mm} {fr : Nat → Int32 → Int32 → Int32 → Mm → Option Mm}   {k6 : Int32 → Int32 → Mm → Option Mm} {a0 : Nat} {x1 : Int32} {x3 : Int32} {x4 : Int32} {x5 : Int32} {M : Mm} (B : Bx p s m args c cX6_layWithin 7 RX6 E L) (hr : meth.sig.returnType = none) (hlk : meth.locks = false) (ihr : ∀ {a0 : Nat} {x1 : Int32} {x2 : Int32} {x3 : Int32} {M : Mm} {M' : Mm}, At L a0 T6 → fr a0 x1 x2 x3 M = some M' → Ct l E L yX6_layWithin cX6_layWithin 7 none (d + 2) [.ref a0, .int x1, .int x2, .int x3] M none M')  (ih6 : ∀ (x4 : Int32) (x5 : Int32) (M : Mm), k6 x4 x5 M = some M' → ∀ (H : Heap) (locs : List Loc) (ls : Array Slot), Rx s E L M H locs → lv_has ls 7 [(0, .ref a0), (1, .int x1), (3, .int x3), (4, .int x4), (5, .int x5)] → W p l e (rmD (d + 3)) s m args below meth c H locs 0 0 (MQ below (QcM E L none M') args s 0 0 E.2.2.2) (F0 m 6 ls [])) (h0 : At L a0 T6) (h : fX6_layWithin_b6 fu L fr k6 a0 x1 x3 x4 x5 M = some M') (hR : Rx s E L M H locs) (hl : lv_has ls 7 [(0, .ref a0), (1, .int x1), (3, .int x3), (4, .int x4), (5, .int x5)]) : W p l e (rmD (d + 3)) s m args below meth c H locs 0 0 (MQ below (QcM E L none M') args s 0 0 E.2.2.2) (F0 m 6 ls []) := by
  have hx := B.1
  have hb := B.2.1
  unfold fX6_layWithin_b6 at h
  refine lv_iload hx hb dX6_layWithin_6 (lv_at hl 4 rfl) ?_
  refine lv_bipush (v := 6) hx hb dX6_layWithin_8 (by decide) ?_
  refine lv_icmp_ge (tgt := 119) hx hb dX6_layWithin_10 (by decide) (fun c_10 => ?_) (fun c_10 => ?_)
  · rw [if_pos c_10] at h
    exact wX6_layWithin_j119 B hr hlk ihr h hR (lv_sub hl [] rfl)
  · rw [if_neg c_10] at h
    refine lv_iload_n hx hb dX6_layWithin_13 rfl (lv_at hl 2 rfl) ?_
    refine lv_bipush (v := 11) hx hb dX6_layWithin_14 (by decide) ?_
    refine lv_icmp_gt (tgt := 119) hx hb dX6_layWithin_16 (by decide) (fun c_16 => ?_) (fun c_16 => ?_)
    · rw [if_pos c_16] at h
      exact wX6_layWithin_j119 B hr hlk ihr h hR (lv_sub hl [] rfl)
    · rw [if_neg c_16] at h
      refine lv_aload_n hx hb dX6_layWithin_19 rfl (lv_at hl 0 rfl) ?_
      refine gf_X6_18 B hR (h0.at0 rfl) dX6_layWithin_20 ?_
      refine lv_iload_n hx hb dX6_layWithin_23 rfl (lv_at hl 1 rfl) ?_
      refine lv_bipush (v := 6) hx hb dX6_layWithin_24 (by decide) ?_
      refine lv_imul hx hb dX6_layWithin_26 ?_
      refine lv_iload hx hb dX6_layWithin_27 (lv_at hl 3 rfl) ?_
      refine lv_iadd hx hb dX6_layWithin_29 ?_
      obtain ⟨hi_30, h⟩ := ifn_el h
      refine r_iald B hR (h0.at 11 rfl) hi_30 dX6_layWithin_30 ?_
      obtain ⟨x6_31, ex6_31, h⟩ := lt_el h
      refine r_nmI ex6_31 ?_
      refine lv_istore (lv' := [(6, .int x6_31), (0, .ref a0), (1, .int x1), (3, .int x3), (4, .int x4), (5, .int x5)]) hx hb dX6_layWithin_31 hl (by decide) rfl (fun ls hl => ?_)
      refine lv_iload hx hb dX6_layWithin_33 (lv_at hl 0 rfl) ?_
      refine lv_if_eq (tgt := 46) hx hb dX6_layWithin_35 (by decide) (fun c_35 => ?_) (fun c_35 => ?_)
      · rw [if_pos c_35] at h
        exact wX6_layWithin_j46 B hr hlk ihr h hR (lv_sub hl [] rfl)
      · rw [if_neg c_35] at h
        refine lv_iload hx hb dX6_layWithin_38 (lv_at hl 0 rfl) ?_
        refine lv_sipush (v := 10000) hx hb dX6_layWithin_40 (by decide) ?_
        refine lv_icmp_lt (tgt := 47) hx hb dX6_layWithin_43 (by decide) (fun c_43 => ?_) (fun c_43 => ?_)
        · rw [if_pos c_43] at h
          refine lv_aload_n hx hb dX6_layWithin_47 rfl (lv_at hl 1 rfl) ?_
          refine gf_X6_12 B hR (h0.at0 rfl) dX6_layWithin_48 ?_
          refine gf_X6_79 B hR ((sb_6_0 h0).at0 rfl) dX6_layWithin_51 ?_
          refine lv_iload_n hx hb dX6_layWithin_54 rfl (lv_at hl 2 rfl) ?_
          obtain ⟨hi_55, h⟩ := ifn_el h
          refine r_iald B hR ((sb_6_0 h0).at 3 rfl) hi_55 dX6_layWithin_55 ?_
          refine lv_if_eq (tgt := 102) hx hb dX6_layWithin_56 (by decide) (fun c_56 => ?_) (fun c_56 => ?_)
          · rw [if_pos c_56] at h
            exact wX6_layWithin_j102 B hr hlk ihr ih6 h0 h hR (lv_sub hl [1, 2, 3, 4, 5, 0] rfl)
          · rw [if_neg c_56] at h
            refine lv_aload_n hx hb dX6_layWithin_59 rfl (lv_at hl 1 rfl) ?_
            refine lv_iload_n hx hb dX6_layWithin_60 rfl (lv_at hl 2 rfl) ?_
            refine lv_iload hx hb dX6_layWithin_61 (lv_at hl 4 rfl) ?_
            obtain ⟨r_63, hc_63, h⟩ := bi_el h
            refine iv_X6_82 B hR (h0.at0 rfl) hl.1 (mX6_byHalves fu _ h0 hc_63) (Nat.le_of_ble_eq_true rfl) dX6_layWithin_63 (fun H locs hR => ?_)
            refine lv_iload hx hb dX6_layWithin_66 (lv_at hl 0 rfl) ?_
            refine lv_icmp_ne (tgt := 102) hx hb dX6_layWithin_68 (by decide) (fun c_68 => ?_) (fun c_68 => ?_)
            · rw [if_neg c_68] at h
              exact wX6_layWithin_j102 B hr hlk ihr ih6 h0 h hR (lv_sub hl [1, 2, 3, 4, 5, 0] rfl)
            · rw [if_pos c_68] at h
              exact wX6_layWithin_j71 B hr hlk ihr h0 h hR (lv_sub hl [1, 2, 3, 4] rfl)
        · rw [if_neg c_43] at h
          exact wX6_layWithin_j46 B hr hlk ihr h hR (lv_sub hl [] rfl)
def fX6_layWithin_l6 (fu : Nat) (L : Lay) (fr : Nat → Int32 → Int32 → Int32 → Mm → Option Mm) (a0 : Nat) (x1 : Int32) (x3 : Int32) (x4 : Int32) (x5 : Int32) (M : Mm) : Option Mm := lp (fun (rec : (Int32 × Int32 × Mm) → Option Mm) (s : Int32 × Int32 × Mm) => fX6_layWithin_b6 fu L fr  (fun x4 x5 M => rec (x4, x5, M)) a0 x1 x3 s.1 s.2.1 s.2.2) fu (x4, x5, M)
set_option maxRecDepth 100000 in
set_option maxHeartbeats 4000000 in
theorem wX6_layWithin_l6 {M' : Mm} {fr : Nat → Int32 → Int32 → Int32 → Mm → Option Mm}   {a0 : Nat} {x1 : Int32} {x3 : Int32} {x4 : Int32} {x5 : Int32} {M : Mm} (B : Bx p s m args c cX6_layWithin 7 RX6 E L) (hr : meth.sig.returnType = none) (hlk : meth.locks = false) (ihr : ∀ {a0 : Nat} {x1 : Int32} {x2 : Int32} {x3 : Int32} {M : Mm} {M' : Mm}, At L a0 T6 → fr a0 x1 x2 x3 M = some M' → Ct l E L yX6_layWithin cX6_layWithin 7 none (d + 2) [.ref a0, .int x1, .int x2, .int x3] M none M')  (h0 : At L a0 T6) (h : fX6_layWithin_l6 fu L fr a0 x1 x3 x4 x5 M = some M') (hR : Rx s E L M H locs) (hl : lv_has ls 7 [(0, .ref a0), (1, .int x1), (3, .int x3), (4, .int x4), (5, .int x5)]) : W p l e (rmD (d + 3)) s m args below meth c H locs 0 0 (MQ below (QcM E L none M') args s 0 0 E.2.2.2) (F0 m 6 ls []) := by
  refine lp_G (G := fun z : Int32 × Int32 × Mm => ∀ (H : Heap) (locs : List Loc) (ls : Array Slot), Rx s E L z.2.2 H locs → lv_has ls 7 [(0, .ref a0), (1, .int x1), (3, .int x3), (4, .int z.1), (5, .int z.2.1)] → W p l e (rmD (d + 3)) s m args below meth c H locs 0 0 (MQ below (QcM E L none M') args s 0 0 E.2.2.2) (F0 m 6 ls [])) (fun rec ih z h H locs ls hR hl => ?_) fu _ h H locs ls hR hl
  exact wX6_layWithin_b6 B hr hlk ihr  (fun x4 x5 M h => ih (x4, x5, M) h) h0 h hR hl
def fX6_layWithin_R (fu : Nat) (L : Lay) (fr : Nat → Int32 → Int32 → Int32 → Mm → Option Mm) (a0 : Nat) (x1 : Int32) (x2 : Int32) (x3 : Int32) (M : Mm) : Option Mm :=
  fX6_layWithin_l6 fu L fr a0 x1 x3 x2 0 M
set_option maxRecDepth 100000 in
set_option maxHeartbeats 4000000 in
theorem mX6_layWithin_R {l : Launch} {E : Ge} {L : Lay} (fu d : Nat) {a0 : Nat} {x1 : Int32} {x2 : Int32} {x3 : Int32} {M : Mm} {M' : Mm} {fr : Nat → Int32 → Int32 → Int32 → Mm → Option Mm} (ihr : ∀ {a0 : Nat} {x1 : Int32} {x2 : Int32} {x3 : Int32} {M : Mm} {M' : Mm}, At L a0 T6 → fr a0 x1 x2 x3 M = some M' → Ct l E L yX6_layWithin cX6_layWithin 7 none (d + 2) [.ref a0, .int x1, .int x2, .int x3] M none M') (h0 : At L a0 T6) (h : fX6_layWithin_R fu L fr a0 x1 x2 x3 M = some M') : Ct l E L yX6_layWithin cX6_layWithin 7 none (d + 3) [.ref a0, .int x1, .int x2, .int x3] M none M' := by
  refine Ct.of (by decide) ?_
  intro p e s m below meth c hr hlk B hR
  have B : Bx p s m _ c cX6_layWithin 7 RX6 E L := B
  have hx := B.1
  have hb := B.2.1
  have hl := lv_entry ([.ref a0, .int x1, .int x2, .int x3]) (n := 7) (Nat.le_of_ble_eq_true rfl)
  rw [lg_entry_eq]
  generalize (lg_sl ([.ref a0, .int x1, .int x2, .int x3]) ++ List.replicate (7 - (lg_sl ([.ref a0, .int x1, .int x2, .int x3])).length) Slot.unset).toArray = ls at hl ⊢
  have hl : lv_has ls 7 [(0, .ref a0), (1, .int x1), (2, .int x2), (3, .int x3)] := hl
  unfold fX6_layWithin_R at h
  refine lv_iload_n hx hb dX6_layWithin_0 rfl (lv_at hl 2 rfl) ?_
  refine lv_istore (lv' := [(4, .int x2), (0, .ref a0), (1, .int x1), (2, .int x2), (3, .int x3)]) hx hb dX6_layWithin_1 hl (by decide) rfl (fun ls hl => ?_)
  refine lv_iconst (v := 0) hx hb dX6_layWithin_3 (by decide) ?_
  refine lv_istore (lv' := [(5, .int 0), (4, .int x2), (0, .ref a0), (1, .int x1), (2, .int x2), (3, .int x3)]) hx hb dX6_layWithin_4 hl (by decide) rfl (fun ls hl => ?_)
  exact wX6_layWithin_l6 B hr hlk ihr h0 h hR (lv_sub hl [2, 3, 5, 1, 0] rfl)
def fX6_layWithin (fu : Nat) (L : Lay) : Nat → Nat → Int32 → Int32 → Int32 → Mm → Option Mm
  | 0 => fun _ _ _ _ _ => none
  | dp + 1 => fun a0 x1 x2 x3 M => fX6_layWithin_R fu L (fX6_layWithin fu L dp) a0 x1 x2 x3 M
theorem mX6_layWithin_N {l : Launch} {E : Ge} {L : Lay} (fu dp : Nat) : ∀ (d : Nat) {a0 : Nat} {x1 : Int32} {x2 : Int32} {x3 : Int32} {M : Mm} {M' : Mm} (h0 : At L a0 T6) (h : fX6_layWithin fu L dp a0 x1 x2 x3 M = some M'), Ct l E L yX6_layWithin cX6_layWithin 7 none (d + dp + 2) [.ref a0, .int x1, .int x2, .int x3] M none M' := by
  induction dp with
  | zero => intro d _ _ _ _ _ _ _ h; cases h
  | succ dp ih => intro d _ _ _ _ _ _ h0 h; exact mX6_layWithin_R fu (d + dp) (fr := fX6_layWithin fu L dp) (fun h0 h => ih d h0 h) h0 h
theorem mX6_layWithin {l : Launch} {E : Ge} {L : Lay} (fu d : Nat) {a0 : Nat} {x1 : Int32} {x2 : Int32} {x3 : Int32} {M : Mm} {M' : Mm} (h0 : At L a0 T6) (h : fX6_layWithin fu L 16 a0 x1 x2 x3 M = some M') : Ct l E L yX6_layWithin cX6_layWithin 7 none (d + 18) [.ref a0, .int x1, .int x2, .int x3] M none M' := mX6_layWithin_N fu 16 d h0 h
def fX6_layPlan (fu : Nat) (L : Lay) (a0 : Nat) (a1 : Nat) (a2 : Nat) (M : Mm) : Option Mm :=
  bm (fX9_make fu (a0 + 1) a1 (M.1 a1 2) M) fun M_9 =>
  lt (wI M_9 a0 4 1) fun M_14 =>
  bm (fX6_weighWithin fu a0 0 5 M_14) fun M_20 =>
  lt (wR M_20 a0 5 (some a2)) fun M_25 =>
  bl (M_25.2.2 a0 5) fun q_29 =>
  gd (atB L q_29 (T0 160) = true) <|
  lt (wI M_25 q_29 3 0) fun M_33 =>
  bm (fX6_layWithin fu L 16 a0 0 5 0 M_33) fun M_40 =>
  some M_40
set_option maxRecDepth 100000 in
set_option maxHeartbeats 4000000 in
theorem mX6_layPlan {l : Launch} {E : Ge} {L : Lay} (fu d : Nat) {a0 : Nat} {a1 : Nat} {a2 : Nat} {M : Mm} {M' : Mm}  (h0 : At L a0 T6) (h1 : At L a1 T8) (h2 : At L a2 (T0 160)) (h : fX6_layPlan fu L a0 a1 a2 M = some M') : Ct l E L yX6_layPlan cX6_layPlan 3 none (d + 19) [.ref a0, .ref a1, .ref a2] M none M' := by
  refine Ct.of (by decide) ?_
  intro p e s m below meth c hr hlk B hR
  have B : Bx p s m _ c cX6_layPlan 3 RX6 E L := B
  have hx := B.1
  have hb := B.2.1
  have hl := lv_entry ([.ref a0, .ref a1, .ref a2]) (n := 3) (Nat.le_of_ble_eq_true rfl)
  rw [lg_entry_eq]
  generalize (lg_sl ([.ref a0, .ref a1, .ref a2]) ++ List.replicate (3 - (lg_sl ([.ref a0, .ref a1, .ref a2])).length) Slot.unset).toArray = ls at hl ⊢
  have hl : lv_has ls 3 [(0, .ref a0), (1, .ref a1), (2, .ref a2)] := hl
  unfold fX6_layPlan at h
  refine lv_aload_n hx hb dX6_layPlan_0 rfl (lv_at hl 0 rfl) ?_
  refine gf_X6_12 B hR (h0.at0 rfl) dX6_layPlan_1 ?_
  refine lv_aload_n hx hb dX6_layPlan_4 rfl (lv_at hl 1 rfl) ?_
  refine lv_aload_n hx hb dX6_layPlan_5 rfl (lv_at hl 1 rfl) ?_
  refine gf_X6_28 B hR (h1.at0 rfl) dX6_layPlan_6 ?_
  obtain ⟨M_9, hc_9, h⟩ := bm_el h
  refine iv_X6_34 B hR ((sb_6_0 h0).at0 rfl) hl.1 (mX9_make fu _ (sb_6_0 h0) h1 hc_9) (Nat.le_of_ble_eq_true rfl) dX6_layPlan_9 (fun H locs hR => ?_)
  refine lv_aload_n hx hb dX6_layPlan_12 rfl (lv_at hl 0 rfl) ?_
  refine lv_iconst (v := 1) hx hb dX6_layPlan_13 (by decide) ?_
  obtain ⟨M_14, eM_14, h⟩ := lt_el h
  refine pz_X6_38 B hR (h0.at0 rfl) (Or.inr rfl) dX6_layPlan_14 (fun H locs hR => ?_)
  rw [← eM_14] at hR
  refine lv_aload_n hx hb dX6_layPlan_17 rfl (lv_at hl 0 rfl) ?_
  refine lv_iconst (v := 0) hx hb dX6_layPlan_18 (by decide) ?_
  refine lv_iconst (v := 5) hx hb dX6_layPlan_19 (by decide) ?_
  obtain ⟨M_20, hc_20, h⟩ := bm_el h
  refine iv_X6_42 B hR (h0.at0 rfl) hl.1 (mX6_weighWithin fu _ h0 hc_20) (Nat.le_of_ble_eq_true rfl) dX6_layPlan_20 (fun H locs hR => ?_)
  refine lv_aload_n hx hb dX6_layPlan_23 rfl (lv_at hl 0 rfl) ?_
  refine lv_aload_n hx hb dX6_layPlan_24 rfl (lv_at hl 2 rfl) ?_
  obtain ⟨M_25, eM_25, h⟩ := lt_el h
  refine pm_X6_46 B hR (h0.at0 rfl) dX6_layPlan_25 (fun H locs hR => ?_)
  rw [← eM_25] at hR
  refine lv_aload_n hx hb dX6_layPlan_28 rfl (lv_at hl 0 rfl) ?_
  obtain ⟨q_29, hq_29, h⟩ := bl_el h
  obtain ⟨hs_29, h⟩ := gd_el h
  refine gm_X6_46 B hR (h0.at0 rfl) hq_29 dX6_layPlan_29 ?_
  refine lv_iconst (v := 0) hx hb dX6_layPlan_32 (by decide) ?_
  obtain ⟨M_33, eM_33, h⟩ := lt_el h
  refine pf_X6_50 B hR ((atB_at hs_29).at0 rfl) dX6_layPlan_33 (fun H locs hR => ?_)
  rw [← eM_33] at hR
  refine lv_aload_n hx hb dX6_layPlan_36 rfl (lv_at hl 0 rfl) ?_
  refine lv_iconst (v := 0) hx hb dX6_layPlan_37 (by decide) ?_
  refine lv_iconst (v := 5) hx hb dX6_layPlan_38 (by decide) ?_
  refine lv_iconst (v := 0) hx hb dX6_layPlan_39 (by decide) ?_
  obtain ⟨M_40, hc_40, h⟩ := bm_el h
  refine iv_X6_55 B hR (h0.at0 rfl) hl.1 (mX6_layWithin fu _ h0 hc_40) (Nat.le_of_ble_eq_true rfl) dX6_layPlan_40 (fun H locs hR => ?_)
  exact r_vretW B hR hr hlk h dX6_layPlan_43
def fX6_byPages_j39 (fu : Nat) (t0 : Int32) (M : Mm) : Option Int32 :=
  some t0
set_option maxRecDepth 100000 in
set_option maxHeartbeats 4000000 in
theorem wX6_byPages_j39 {r : Int32}   {t0 : Int32} {M : Mm} (B : Bx p s m args c cX6_byPages 3 RX6 E L) (hr : meth.sig.returnType = (some .int)) (hlk : meth.locks = false)   (h : fX6_byPages_j39 fu t0 M = some r) (hR : Rx s E L M H locs) (hl : lv_has ls 3 []) : W p l e (rmD (d + 2)) s m args below meth c H locs 0 0 (MQ below (QcM E L (some (.int r)) M) args s 0 0 E.2.2.2) (F0 m 39 ls [.int t0]) := by
  have hx := B.1
  have hb := B.2.1
  unfold fX6_byPages_j39 at h
  exact r_iretP B hR hr hlk h dX6_byPages_39
def fX6_byPages (fu : Nat) (a0 : Nat) (x1 : Int32) (x2 : Int32) (M : Mm) : Option Int32 :=
  if x1 < 0 ∨ 320 ≤ ix x1 then none else
  if (M.1 ((a0 + 1) + 3) (ix x1)) = 0 then
    bi (fX9_pageKindFor fu (a0 + 1) x1 x2 M) fun r_25 =>
    if r_25 = (-1) then
      fX6_byPages_j39 fu 10000 M
    else
      fX6_byPages_j39 fu 0 M
  else
    bi (fX6_byHalves fu a0 x1 x2 M) fun r_15 =>
    some r_15
set_option maxRecDepth 100000 in
set_option maxHeartbeats 4000000 in
theorem mX6_byPages {l : Launch} {E : Ge} {L : Lay} (fu d : Nat) {a0 : Nat} {x1 : Int32} {x2 : Int32} {M : Mm} {r : Int32}  (h0 : At L a0 T6) (h : fX6_byPages fu a0 x1 x2 M = some r) : Ct l E L yX6_byPages cX6_byPages 3 (some .int) (d + 2) [.ref a0, .int x1, .int x2] M (some (.int r)) M := by
  refine Ct.of (by decide) ?_
  intro p e s m below meth c hr hlk B hR
  have B : Bx p s m _ c cX6_byPages 3 RX6 E L := B
  have hx := B.1
  have hb := B.2.1
  have hl := lv_entry ([.ref a0, .int x1, .int x2]) (n := 3) (Nat.le_of_ble_eq_true rfl)
  rw [lg_entry_eq]
  generalize (lg_sl ([.ref a0, .int x1, .int x2]) ++ List.replicate (3 - (lg_sl ([.ref a0, .int x1, .int x2])).length) Slot.unset).toArray = ls at hl ⊢
  have hl : lv_has ls 3 [(0, .ref a0), (1, .int x1), (2, .int x2)] := hl
  unfold fX6_byPages at h
  refine lv_aload_n hx hb dX6_byPages_0 rfl (lv_at hl 0 rfl) ?_
  refine gf_X6_12 B hR (h0.at0 rfl) dX6_byPages_1 ?_
  refine gf_X6_79 B hR ((sb_6_0 h0).at0 rfl) dX6_byPages_4 ?_
  refine lv_iload_n hx hb dX6_byPages_7 rfl (lv_at hl 1 rfl) ?_
  obtain ⟨hi_8, h⟩ := ifn_el h
  refine r_iald B hR ((sb_6_0 h0).at 3 rfl) hi_8 dX6_byPages_8 ?_
  refine lv_if_eq (tgt := 19) hx hb dX6_byPages_9 (by decide) (fun c_9 => ?_) (fun c_9 => ?_)
  · rw [if_pos c_9] at h
    refine lv_aload_n hx hb dX6_byPages_19 rfl (lv_at hl 0 rfl) ?_
    refine gf_X6_12 B hR (h0.at0 rfl) dX6_byPages_20 ?_
    refine lv_iload_n hx hb dX6_byPages_23 rfl (lv_at hl 1 rfl) ?_
    refine lv_iload_n hx hb dX6_byPages_24 rfl (lv_at hl 2 rfl) ?_
    obtain ⟨r_25, hc_25, h⟩ := bi_el h
    refine iv_X6_101 B hR ((sb_6_0 h0).at0 rfl) hl.1 (mX9_pageKindFor fu _ (sb_6_0 h0) hc_25) (Nat.le_of_ble_eq_true rfl) dX6_byPages_25 (fun H locs hR => ?_)
    refine lv_iconst (v := (-1)) hx hb dX6_byPages_28 (by decide) ?_
    refine lv_icmp_eq (tgt := 36) hx hb dX6_byPages_29 (by decide) (fun c_29 => ?_) (fun c_29 => ?_)
    · rw [if_pos c_29] at h
      refine lv_sipush (v := 10000) hx hb dX6_byPages_36 (by decide) ?_
      exact wX6_byPages_j39 B hr hlk  h hR (lv_sub hl [] rfl)
    · rw [if_neg c_29] at h
      refine lv_iconst (v := 0) hx hb dX6_byPages_32 (by decide) ?_
      refine lv_goto (tgt := 39) hx hb dX6_byPages_33 (by decide) ?_
      exact wX6_byPages_j39 B hr hlk  h hR (lv_sub hl [] rfl)
  · rw [if_neg c_9] at h
    refine lv_aload_n hx hb dX6_byPages_12 rfl (lv_at hl 0 rfl) ?_
    refine lv_iload_n hx hb dX6_byPages_13 rfl (lv_at hl 1 rfl) ?_
    refine lv_iload_n hx hb dX6_byPages_14 rfl (lv_at hl 2 rfl) ?_
    obtain ⟨r_15, hc_15, h⟩ := bi_el h
    refine iv_X6_82 B hR (h0.at0 rfl) hl.1 (mX6_byHalves fu _ h0 hc_15) (Nat.le_of_ble_eq_true rfl) dX6_byPages_15 (fun H locs hR => ?_)
    exact r_iretP B hR hr hlk h dX6_byPages_18
def fX6_weighAbovePages_j40 (fu : Nat) (M : Mm) : Option Mm :=
  some M
set_option maxRecDepth 100000 in
set_option maxHeartbeats 4000000 in
theorem wX6_weighAbovePages_j40 {M' : Mm}    {M : Mm} (B : Bx p s m args c cX6_weighAbovePages 3 RX6 E L) (hr : meth.sig.returnType = none) (hlk : meth.locks = false)   (h : fX6_weighAbovePages_j40 fu M = some M') (hR : Rx s E L M H locs) (hl : lv_has ls 3 []) : W p l e (rmD (d + 3)) s m args below meth c H locs 0 0 (MQ below (QcM E L none M') args s 0 0 E.2.2.2) (F0 m 40 ls []) := by
  have hx := B.1
  have hb := B.2.1
  unfold fX6_weighAbovePages_j40 at h
  exact r_vretW B hR hr hlk h dX6_weighAbovePages_40
def fX6_weighAbovePages_b2 (fu : Nat) (k2 : Int32 → Mm → Option Mm) (a0 : Nat) (x1 : Int32) (x2 : Int32) (M : Mm) : Option Mm :=
  if 6 ≤ x2 then
    fX6_weighAbovePages_j40 fu M
  else
    bi (fX6_byPages fu a0 x1 x2 M) fun r_21 =>
    bi (fX6_byItself fu a0 x1 x2 M) fun r_27 =>
    if ((x1 * 6) + x2) < 0 ∨ 1920 ≤ ix ((x1 * 6) + x2) then none else
    lt (wI M (a0 + 11) (ix ((x1 * 6) + x2)) (if r_27 < r_21 then r_27 else r_21)) fun M_33 =>
    lt (x2 + 1) fun x2_34 =>
    k2 x2_34 M_33
set_option maxRecDepth 100000 in
set_option maxHeartbeats 4000000 in
theorem wX6_weighAbovePages_b2 {M' : Mm}   {k2 : Int32 → Mm → Option Mm} {a0 : Nat} {x1 : Int32} {x2 : Int32} {M : Mm} (B : Bx p s m args c cX6_weighAbovePages 3 RX6 E L) (hr : meth.sig.returnType = none) (hlk : meth.locks = false)  (ih2 : ∀ (x2 : Int32) (M : Mm), k2 x2 M = some M' → ∀ (H : Heap) (locs : List Loc) (ls : Array Slot), Rx s E L M H locs → lv_has ls 3 [(0, .ref a0), (1, .int x1), (2, .int x2)] → W p l e (rmD (d + 3)) s m args below meth c H locs 0 0 (MQ below (QcM E L none M') args s 0 0 E.2.2.2) (F0 m 2 ls [])) (h0 : At L a0 T6) (h : fX6_weighAbovePages_b2 fu k2 a0 x1 x2 M = some M') (hR : Rx s E L M H locs) (hl : lv_has ls 3 [(0, .ref a0), (1, .int x1), (2, .int x2)]) : W p l e (rmD (d + 3)) s m args below meth c H locs 0 0 (MQ below (QcM E L none M') args s 0 0 E.2.2.2) (F0 m 2 ls []) := by
  have hx := B.1
  have hb := B.2.1
  unfold fX6_weighAbovePages_b2 at h
  refine lv_iload_n hx hb dX6_weighAbovePages_2 rfl (lv_at hl 2 rfl) ?_
  refine lv_bipush (v := 6) hx hb dX6_weighAbovePages_3 (by decide) ?_
  refine lv_icmp_ge (tgt := 40) hx hb dX6_weighAbovePages_5 (by decide) (fun c_5 => ?_) (fun c_5 => ?_)
  · rw [if_pos c_5] at h
    exact wX6_weighAbovePages_j40 B hr hlk  h hR (lv_sub hl [] rfl)
  · rw [if_neg c_5] at h
    refine lv_aload_n hx hb dX6_weighAbovePages_8 rfl (lv_at hl 0 rfl) ?_
    refine gf_X6_18 B hR (h0.at0 rfl) dX6_weighAbovePages_9 ?_
    refine lv_iload_n hx hb dX6_weighAbovePages_12 rfl (lv_at hl 1 rfl) ?_
    refine lv_bipush (v := 6) hx hb dX6_weighAbovePages_13 (by decide) ?_
    refine lv_imul hx hb dX6_weighAbovePages_15 ?_
    refine lv_iload_n hx hb dX6_weighAbovePages_16 rfl (lv_at hl 2 rfl) ?_
    refine lv_iadd hx hb dX6_weighAbovePages_17 ?_
    refine lv_aload_n hx hb dX6_weighAbovePages_18 rfl (lv_at hl 0 rfl) ?_
    refine lv_iload_n hx hb dX6_weighAbovePages_19 rfl (lv_at hl 1 rfl) ?_
    refine lv_iload_n hx hb dX6_weighAbovePages_20 rfl (lv_at hl 2 rfl) ?_
    obtain ⟨r_21, hc_21, h⟩ := bi_el h
    refine iv_X6_98 B hR (h0.at0 rfl) hl.1 (mX6_byPages fu _ h0 hc_21) (Nat.le_of_ble_eq_true rfl) dX6_weighAbovePages_21 (fun H locs hR => ?_)
    refine lv_aload_n hx hb dX6_weighAbovePages_24 rfl (lv_at hl 0 rfl) ?_
    refine lv_iload_n hx hb dX6_weighAbovePages_25 rfl (lv_at hl 1 rfl) ?_
    refine lv_iload_n hx hb dX6_weighAbovePages_26 rfl (lv_at hl 2 rfl) ?_
    obtain ⟨r_27, hc_27, h⟩ := bi_el h
    refine iv_X6_90 B hR (h0.at0 rfl) hl.1 (mX6_byItself fu _ h0 hc_27) (Nat.le_of_ble_eq_true rfl) dX6_weighAbovePages_27 (fun H locs hR => ?_)
    refine mm_X6_93 B hl.1 (Nat.le_of_ble_eq_true rfl) dX6_weighAbovePages_30 ?_
    obtain ⟨hi_33, h⟩ := ifn_el h
    obtain ⟨M_33, eM_33, h⟩ := lt_el h
    refine r_iast B hR (h0.at 11 rfl) hi_33 dX6_weighAbovePages_33 (fun H locs hR => ?_)
    rw [← eM_33] at hR
    obtain ⟨x2_34, ex2_34, h⟩ := lt_el h
    refine lv_iinc (v := x2_34) (lv' := [(2, .int x2_34), (0, .ref a0), (1, .int x1)]) hx hb dX6_weighAbovePages_34 hl (k := 2) rfl (by rw [ex2_34]; rfl) (by decide) rfl (fun ls hl => ?_)
    refine lv_goto (tgt := 2) hx hb dX6_weighAbovePages_37 (by decide) ?_
    exact ih2 x2_34 M_33 h _ _ _ hR (lv_sub hl [1, 2, 0] rfl)
def fX6_weighAbovePages_l2 (fu : Nat) (a0 : Nat) (x1 : Int32) (x2 : Int32) (M : Mm) : Option Mm := lp (fun (rec : (Int32 × Mm) → Option Mm) (s : Int32 × Mm) => fX6_weighAbovePages_b2 fu  (fun x2 M => rec (x2, M)) a0 x1 s.1 s.2) fu (x2, M)
set_option maxRecDepth 100000 in
set_option maxHeartbeats 4000000 in
theorem wX6_weighAbovePages_l2 {M' : Mm}   {a0 : Nat} {x1 : Int32} {x2 : Int32} {M : Mm} (B : Bx p s m args c cX6_weighAbovePages 3 RX6 E L) (hr : meth.sig.returnType = none) (hlk : meth.locks = false)  (h0 : At L a0 T6) (h : fX6_weighAbovePages_l2 fu a0 x1 x2 M = some M') (hR : Rx s E L M H locs) (hl : lv_has ls 3 [(0, .ref a0), (1, .int x1), (2, .int x2)]) : W p l e (rmD (d + 3)) s m args below meth c H locs 0 0 (MQ below (QcM E L none M') args s 0 0 E.2.2.2) (F0 m 2 ls []) := by
  refine lp_G (G := fun z : Int32 × Mm => ∀ (H : Heap) (locs : List Loc) (ls : Array Slot), Rx s E L z.2 H locs → lv_has ls 3 [(0, .ref a0), (1, .int x1), (2, .int z.1)] → W p l e (rmD (d + 3)) s m args below meth c H locs 0 0 (MQ below (QcM E L none M') args s 0 0 E.2.2.2) (F0 m 2 ls [])) (fun rec ih z h H locs ls hR hl => ?_) fu _ h H locs ls hR hl
  exact wX6_weighAbovePages_b2 B hr hlk  (fun x2 M h => ih (x2, M) h) h0 h hR hl
def fX6_weighAbovePages (fu : Nat) (a0 : Nat) (x1 : Int32) (M : Mm) : Option Mm :=
  fX6_weighAbovePages_l2 fu a0 x1 0 M
set_option maxRecDepth 100000 in
set_option maxHeartbeats 4000000 in
theorem mX6_weighAbovePages {l : Launch} {E : Ge} {L : Lay} (fu d : Nat) {a0 : Nat} {x1 : Int32} {M : Mm} {M' : Mm}  (h0 : At L a0 T6) (h : fX6_weighAbovePages fu a0 x1 M = some M') : Ct l E L yX6_weighAbovePages cX6_weighAbovePages 3 none (d + 3) [.ref a0, .int x1] M none M' := by
  refine Ct.of (by decide) ?_
  intro p e s m below meth c hr hlk B hR
  have B : Bx p s m _ c cX6_weighAbovePages 3 RX6 E L := B
  have hx := B.1
  have hb := B.2.1
  have hl := lv_entry ([.ref a0, .int x1]) (n := 3) (Nat.le_of_ble_eq_true rfl)
  rw [lg_entry_eq]
  generalize (lg_sl ([.ref a0, .int x1]) ++ List.replicate (3 - (lg_sl ([.ref a0, .int x1])).length) Slot.unset).toArray = ls at hl ⊢
  have hl : lv_has ls 3 [(0, .ref a0), (1, .int x1)] := hl
  unfold fX6_weighAbovePages at h
  refine lv_iconst (v := 0) hx hb dX6_weighAbovePages_0 (by decide) ?_
  refine lv_istore_n (lv' := [(2, .int 0), (0, .ref a0), (1, .int x1)]) hx hb dX6_weighAbovePages_1 rfl hl (by decide) rfl (fun ls hl => ?_)
  exact wX6_weighAbovePages_l2 B hr hlk h0 h hR (lv_sub hl [1, 2, 0] rfl)
def fX6_choosePageKinds_j143 (fu : Nat) (M : Mm) : Option Mm :=
  some M
set_option maxRecDepth 100000 in
set_option maxHeartbeats 4000000 in
theorem wX6_choosePageKinds_j143 {M' : Mm}    {M : Mm} (B : Bx p s m args c cX6_choosePageKinds 4 RX6 E L) (hr : meth.sig.returnType = none) (hlk : meth.locks = false)   (h : fX6_choosePageKinds_j143 fu M = some M') (hR : Rx s E L M H locs) (hl : lv_has ls 4 []) : W p l e (rmD (d + 3)) s m args below meth c H locs 0 0 (MQ below (QcM E L none M') args s 0 0 E.2.2.2) (F0 m 143 ls []) := by
  have hx := B.1
  have hb := B.2.1
  unfold fX6_choosePageKinds_j143 at h
  exact r_vretW B hR hr hlk h dX6_choosePageKinds_143
def fX6_choosePageKinds_b114 (fu : Nat) (k114 : Int32 → Mm → Option Mm) (a0 : Nat) (x1 : Int32) (x2 : Int32) (M : Mm) : Option Mm :=
  if 6 ≤ x2 then
    fX6_choosePageKinds_j143 fu M
  else
    if x2 < 0 ∨ 6 ≤ ix x2 then none else
    if ((x1 * 6) + x2) < 0 ∨ 1920 ≤ ix ((x1 * 6) + x2) then none else
    lt (wI M (a0 + 11) (ix ((x1 * 6) + x2)) (M.1 (a0 + 13) (ix x2))) fun M_136 =>
    lt (x2 + 1) fun x2_137 =>
    k114 x2_137 M_136
set_option maxRecDepth 100000 in
set_option maxHeartbeats 4000000 in
theorem wX6_choosePageKinds_b114 {M' : Mm}   {k114 : Int32 → Mm → Option Mm} {a0 : Nat} {x1 : Int32} {x2 : Int32} {M : Mm} (B : Bx p s m args c cX6_choosePageKinds 4 RX6 E L) (hr : meth.sig.returnType = none) (hlk : meth.locks = false)  (ih114 : ∀ (x2 : Int32) (M : Mm), k114 x2 M = some M' → ∀ (H : Heap) (locs : List Loc) (ls : Array Slot), Rx s E L M H locs → lv_has ls 4 [(0, .ref a0), (1, .int x1), (2, .int x2)] → W p l e (rmD (d + 3)) s m args below meth c H locs 0 0 (MQ below (QcM E L none M') args s 0 0 E.2.2.2) (F0 m 114 ls [])) (h0 : At L a0 T6) (h : fX6_choosePageKinds_b114 fu k114 a0 x1 x2 M = some M') (hR : Rx s E L M H locs) (hl : lv_has ls 4 [(0, .ref a0), (1, .int x1), (2, .int x2)]) : W p l e (rmD (d + 3)) s m args below meth c H locs 0 0 (MQ below (QcM E L none M') args s 0 0 E.2.2.2) (F0 m 114 ls []) := by
  have hx := B.1
  have hb := B.2.1
  unfold fX6_choosePageKinds_b114 at h
  refine lv_iload_n hx hb dX6_choosePageKinds_114 rfl (lv_at hl 2 rfl) ?_
  refine lv_bipush (v := 6) hx hb dX6_choosePageKinds_115 (by decide) ?_
  refine lv_icmp_ge (tgt := 143) hx hb dX6_choosePageKinds_117 (by decide) (fun c_117 => ?_) (fun c_117 => ?_)
  · rw [if_pos c_117] at h
    exact wX6_choosePageKinds_j143 B hr hlk  h hR (lv_sub hl [] rfl)
  · rw [if_neg c_117] at h
    refine lv_aload_n hx hb dX6_choosePageKinds_120 rfl (lv_at hl 0 rfl) ?_
    refine gf_X6_18 B hR (h0.at0 rfl) dX6_choosePageKinds_121 ?_
    refine lv_iload_n hx hb dX6_choosePageKinds_124 rfl (lv_at hl 1 rfl) ?_
    refine lv_bipush (v := 6) hx hb dX6_choosePageKinds_125 (by decide) ?_
    refine lv_imul hx hb dX6_choosePageKinds_127 ?_
    refine lv_iload_n hx hb dX6_choosePageKinds_128 rfl (lv_at hl 2 rfl) ?_
    refine lv_iadd hx hb dX6_choosePageKinds_129 ?_
    refine lv_aload_n hx hb dX6_choosePageKinds_130 rfl (lv_at hl 0 rfl) ?_
    refine gf_X6_25 B hR (h0.at0 rfl) dX6_choosePageKinds_131 ?_
    refine lv_iload_n hx hb dX6_choosePageKinds_134 rfl (lv_at hl 2 rfl) ?_
    obtain ⟨hi_135, h⟩ := ifn_el h
    refine r_iald B hR (h0.at 13 rfl) hi_135 dX6_choosePageKinds_135 ?_
    obtain ⟨hi_136, h⟩ := ifn_el h
    obtain ⟨M_136, eM_136, h⟩ := lt_el h
    refine r_iast B hR (h0.at 11 rfl) hi_136 dX6_choosePageKinds_136 (fun H locs hR => ?_)
    rw [← eM_136] at hR
    obtain ⟨x2_137, ex2_137, h⟩ := lt_el h
    refine lv_iinc (v := x2_137) (lv' := [(2, .int x2_137), (0, .ref a0), (1, .int x1)]) hx hb dX6_choosePageKinds_137 hl (k := 2) rfl (by rw [ex2_137]; rfl) (by decide) rfl (fun ls hl => ?_)
    refine lv_goto (tgt := 114) hx hb dX6_choosePageKinds_140 (by decide) ?_
    exact ih114 x2_137 M_136 h _ _ _ hR (lv_sub hl [1, 2, 0] rfl)
def fX6_choosePageKinds_l114 (fu : Nat) (a0 : Nat) (x1 : Int32) (x2 : Int32) (M : Mm) : Option Mm := lp (fun (rec : (Int32 × Mm) → Option Mm) (s : Int32 × Mm) => fX6_choosePageKinds_b114 fu  (fun x2 M => rec (x2, M)) a0 x1 s.1 s.2) fu (x2, M)
set_option maxRecDepth 100000 in
set_option maxHeartbeats 4000000 in
theorem wX6_choosePageKinds_l114 {M' : Mm}   {a0 : Nat} {x1 : Int32} {x2 : Int32} {M : Mm} (B : Bx p s m args c cX6_choosePageKinds 4 RX6 E L) (hr : meth.sig.returnType = none) (hlk : meth.locks = false)  (h0 : At L a0 T6) (h : fX6_choosePageKinds_l114 fu a0 x1 x2 M = some M') (hR : Rx s E L M H locs) (hl : lv_has ls 4 [(0, .ref a0), (1, .int x1), (2, .int x2)]) : W p l e (rmD (d + 3)) s m args below meth c H locs 0 0 (MQ below (QcM E L none M') args s 0 0 E.2.2.2) (F0 m 114 ls []) := by
  refine lp_G (G := fun z : Int32 × Mm => ∀ (H : Heap) (locs : List Loc) (ls : Array Slot), Rx s E L z.2 H locs → lv_has ls 4 [(0, .ref a0), (1, .int x1), (2, .int z.1)] → W p l e (rmD (d + 3)) s m args below meth c H locs 0 0 (MQ below (QcM E L none M') args s 0 0 E.2.2.2) (F0 m 114 ls [])) (fun rec ih z h H locs ls hR hl => ?_) fu _ h H locs ls hR hl
  exact wX6_choosePageKinds_b114 B hr hlk  (fun x2 M h => ih (x2, M) h) h0 h hR hl
def fX6_choosePageKinds_j112 (fu : Nat) (a0 : Nat) (x1 : Int32) (M : Mm) : Option Mm :=
  fX6_choosePageKinds_l114 fu a0 x1 0 M
set_option maxRecDepth 100000 in
set_option maxHeartbeats 4000000 in
theorem wX6_choosePageKinds_j112 {M' : Mm}   {a0 : Nat} {x1 : Int32} {M : Mm} (B : Bx p s m args c cX6_choosePageKinds 4 RX6 E L) (hr : meth.sig.returnType = none) (hlk : meth.locks = false)  (h0 : At L a0 T6) (h : fX6_choosePageKinds_j112 fu a0 x1 M = some M') (hR : Rx s E L M H locs) (hl : lv_has ls 4 [(0, .ref a0), (1, .int x1)]) : W p l e (rmD (d + 3)) s m args below meth c H locs 0 0 (MQ below (QcM E L none M') args s 0 0 E.2.2.2) (F0 m 112 ls []) := by
  have hx := B.1
  have hb := B.2.1
  unfold fX6_choosePageKinds_j112 at h
  refine lv_iconst (v := 0) hx hb dX6_choosePageKinds_112 (by decide) ?_
  refine lv_istore_n (lv' := [(2, .int 0), (0, .ref a0), (1, .int x1)]) hx hb dX6_choosePageKinds_113 rfl hl (by decide) rfl (fun ls hl => ?_)
  exact wX6_choosePageKinds_l114 B hr hlk h0 h hR (lv_sub hl [1, 2, 0] rfl)
def fX6_choosePageKinds_j106 (fu : Nat) (k25 : Int32 → Mm → Option Mm) (a0 : Nat) (x1 : Int32) (x2 : Int32) (M : Mm) : Option Mm :=
  lt (x2 + 1) fun x2_106 =>
  k25 x2_106 M
set_option maxRecDepth 100000 in
set_option maxHeartbeats 4000000 in
theorem wX6_choosePageKinds_j106 {M' : Mm}  {k25 : Int32 → Mm → Option Mm} {a0 : Nat} {x1 : Int32} {x2 : Int32} {M : Mm} (B : Bx p s m args c cX6_choosePageKinds 4 RX6 E L) (hr : meth.sig.returnType = none) (hlk : meth.locks = false) (ih25 : ∀ (x2 : Int32) (M : Mm), k25 x2 M = some M' → ∀ (H : Heap) (locs : List Loc) (ls : Array Slot), Rx s E L M H locs → lv_has ls 4 [(0, .ref a0), (1, .int x1), (2, .int x2)] → W p l e (rmD (d + 3)) s m args below meth c H locs 0 0 (MQ below (QcM E L none M') args s 0 0 E.2.2.2) (F0 m 25 ls [])) (h0 : At L a0 T6) (h : fX6_choosePageKinds_j106 fu k25 a0 x1 x2 M = some M') (hR : Rx s E L M H locs) (hl : lv_has ls 4 [(0, .ref a0), (1, .int x1), (2, .int x2)]) : W p l e (rmD (d + 3)) s m args below meth c H locs 0 0 (MQ below (QcM E L none M') args s 0 0 E.2.2.2) (F0 m 106 ls []) := by
  have hx := B.1
  have hb := B.2.1
  unfold fX6_choosePageKinds_j106 at h
  obtain ⟨x2_106, ex2_106, h⟩ := lt_el h
  refine lv_iinc (v := x2_106) (lv' := [(2, .int x2_106), (0, .ref a0), (1, .int x1)]) hx hb dX6_choosePageKinds_106 hl (k := 2) rfl (by rw [ex2_106]; rfl) (by decide) rfl (fun ls hl => ?_)
  refine lv_goto (tgt := 25) hx hb dX6_choosePageKinds_109 (by decide) ?_
  exact ih25 x2_106 M h _ _ _ hR (lv_sub hl [1, 2, 0] rfl)
def fX6_choosePageKinds_j100 (fu : Nat) (k25 : Int32 → Mm → Option Mm) (k42 : Int32 → Mm → Option Mm) (a0 : Nat) (x1 : Int32) (x2 : Int32) (x3 : Int32) (M : Mm) : Option Mm :=
  lt (x3 + 1) fun x3_100 =>
  k42 x3_100 M
set_option maxRecDepth 100000 in
set_option maxHeartbeats 4000000 in
theorem wX6_choosePageKinds_j100 {M' : Mm}  {k25 : Int32 → Mm → Option Mm} {k42 : Int32 → Mm → Option Mm} {a0 : Nat} {x1 : Int32} {x2 : Int32} {x3 : Int32} {M : Mm} (B : Bx p s m args c cX6_choosePageKinds 4 RX6 E L) (hr : meth.sig.returnType = none) (hlk : meth.locks = false) (ih25 : ∀ (x2 : Int32) (M : Mm), k25 x2 M = some M' → ∀ (H : Heap) (locs : List Loc) (ls : Array Slot), Rx s E L M H locs → lv_has ls 4 [(0, .ref a0), (1, .int x1), (2, .int x2)] → W p l e (rmD (d + 3)) s m args below meth c H locs 0 0 (MQ below (QcM E L none M') args s 0 0 E.2.2.2) (F0 m 25 ls [])) (ih42 : ∀ (x3 : Int32) (M : Mm), k42 x3 M = some M' → ∀ (H : Heap) (locs : List Loc) (ls : Array Slot), Rx s E L M H locs → lv_has ls 4 [(0, .ref a0), (1, .int x1), (2, .int x2), (3, .int x3)] → W p l e (rmD (d + 3)) s m args below meth c H locs 0 0 (MQ below (QcM E L none M') args s 0 0 E.2.2.2) (F0 m 42 ls [])) (h0 : At L a0 T6) (h : fX6_choosePageKinds_j100 fu k25 k42 a0 x1 x2 x3 M = some M') (hR : Rx s E L M H locs) (hl : lv_has ls 4 [(0, .ref a0), (1, .int x1), (2, .int x2), (3, .int x3)]) : W p l e (rmD (d + 3)) s m args below meth c H locs 0 0 (MQ below (QcM E L none M') args s 0 0 E.2.2.2) (F0 m 100 ls []) := by
  have hx := B.1
  have hb := B.2.1
  unfold fX6_choosePageKinds_j100 at h
  obtain ⟨x3_100, ex3_100, h⟩ := lt_el h
  refine lv_iinc (v := x3_100) (lv' := [(3, .int x3_100), (0, .ref a0), (1, .int x1), (2, .int x2)]) hx hb dX6_choosePageKinds_100 hl (k := 3) rfl (by rw [ex3_100]; rfl) (by decide) rfl (fun ls hl => ?_)
  refine lv_goto (tgt := 42) hx hb dX6_choosePageKinds_103 (by decide) ?_
  exact ih42 x3_100 M h _ _ _ hR (lv_sub hl [1, 2, 3, 0] rfl)
def fX6_choosePageKinds_b42 (fu : Nat) (k25 : Int32 → Mm → Option Mm) (k42 : Int32 → Mm → Option Mm) (a0 : Nat) (x1 : Int32) (x2 : Int32) (x3 : Int32) (M : Mm) : Option Mm :=
  if 6 ≤ x3 then
    fX6_choosePageKinds_j106 fu k25 a0 x1 x2 M
  else
    if ((x1 * 6) + x3) < 0 ∨ 1920 ≤ ix ((x1 * 6) + x3) then none else
    if x3 < 0 ∨ 6 ≤ ix x3 then none else
    if (M.1 (a0 + 13) (ix x3)) ≤ (M.1 (a0 + 11) (ix ((x1 * 6) + x3))) then
      fX6_choosePageKinds_j100 fu k25 k42 a0 x1 x2 x3 M
    else
      lt (wI M (a0 + 13) (ix x3) (M.1 (a0 + 11) (ix ((x1 * 6) + x3)))) fun M_84 =>
      bi (fX10_pageKindInTurn fu x2) fun r_96 =>
      lt (wI M_84 (a0 + 12) (ix ((x1 * 6) + x3)) r_96) fun M_99 =>
      fX6_choosePageKinds_j100 fu k25 k42 a0 x1 x2 x3 M_99
set_option maxRecDepth 100000 in
set_option maxHeartbeats 4000000 in
theorem wX6_choosePageKinds_b42 {M' : Mm}  {k25 : Int32 → Mm → Option Mm} {k42 : Int32 → Mm → Option Mm} {a0 : Nat} {x1 : Int32} {x2 : Int32} {x3 : Int32} {M : Mm} (B : Bx p s m args c cX6_choosePageKinds 4 RX6 E L) (hr : meth.sig.returnType = none) (hlk : meth.locks = false) (ih25 : ∀ (x2 : Int32) (M : Mm), k25 x2 M = some M' → ∀ (H : Heap) (locs : List Loc) (ls : Array Slot), Rx s E L M H locs → lv_has ls 4 [(0, .ref a0), (1, .int x1), (2, .int x2)] → W p l e (rmD (d + 3)) s m args below meth c H locs 0 0 (MQ below (QcM E L none M') args s 0 0 E.2.2.2) (F0 m 25 ls [])) (ih42 : ∀ (x3 : Int32) (M : Mm), k42 x3 M = some M' → ∀ (H : Heap) (locs : List Loc) (ls : Array Slot), Rx s E L M H locs → lv_has ls 4 [(0, .ref a0), (1, .int x1), (2, .int x2), (3, .int x3)] → W p l e (rmD (d + 3)) s m args below meth c H locs 0 0 (MQ below (QcM E L none M') args s 0 0 E.2.2.2) (F0 m 42 ls [])) (h0 : At L a0 T6) (h : fX6_choosePageKinds_b42 fu k25 k42 a0 x1 x2 x3 M = some M') (hR : Rx s E L M H locs) (hl : lv_has ls 4 [(0, .ref a0), (1, .int x1), (2, .int x2), (3, .int x3)]) : W p l e (rmD (d + 3)) s m args below meth c H locs 0 0 (MQ below (QcM E L none M') args s 0 0 E.2.2.2) (F0 m 42 ls []) := by
  have hx := B.1
  have hb := B.2.1
  unfold fX6_choosePageKinds_b42 at h
  refine lv_iload_n hx hb dX6_choosePageKinds_42 rfl (lv_at hl 3 rfl) ?_
  refine lv_bipush (v := 6) hx hb dX6_choosePageKinds_43 (by decide) ?_
  refine lv_icmp_ge (tgt := 106) hx hb dX6_choosePageKinds_45 (by decide) (fun c_45 => ?_) (fun c_45 => ?_)
  · rw [if_pos c_45] at h
    exact wX6_choosePageKinds_j106 B hr hlk ih25 h0 h hR (lv_sub hl [0, 1, 2] rfl)
  · rw [if_neg c_45] at h
    refine lv_aload_n hx hb dX6_choosePageKinds_48 rfl (lv_at hl 0 rfl) ?_
    refine gf_X6_18 B hR (h0.at0 rfl) dX6_choosePageKinds_49 ?_
    refine lv_iload_n hx hb dX6_choosePageKinds_52 rfl (lv_at hl 1 rfl) ?_
    refine lv_bipush (v := 6) hx hb dX6_choosePageKinds_53 (by decide) ?_
    refine lv_imul hx hb dX6_choosePageKinds_55 ?_
    refine lv_iload_n hx hb dX6_choosePageKinds_56 rfl (lv_at hl 3 rfl) ?_
    refine lv_iadd hx hb dX6_choosePageKinds_57 ?_
    obtain ⟨hi_58, h⟩ := ifn_el h
    refine r_iald B hR (h0.at 11 rfl) hi_58 dX6_choosePageKinds_58 ?_
    refine lv_aload_n hx hb dX6_choosePageKinds_59 rfl (lv_at hl 0 rfl) ?_
    refine gf_X6_25 B hR (h0.at0 rfl) dX6_choosePageKinds_60 ?_
    refine lv_iload_n hx hb dX6_choosePageKinds_63 rfl (lv_at hl 3 rfl) ?_
    obtain ⟨hi_64, h⟩ := ifn_el h
    refine r_iald B hR (h0.at 13 rfl) hi_64 dX6_choosePageKinds_64 ?_
    refine lv_icmp_ge (tgt := 100) hx hb dX6_choosePageKinds_65 (by decide) (fun c_65 => ?_) (fun c_65 => ?_)
    · rw [if_pos c_65] at h
      exact wX6_choosePageKinds_j100 B hr hlk ih25 ih42 h0 h hR hl
    · rw [if_neg c_65] at h
      refine lv_aload_n hx hb dX6_choosePageKinds_68 rfl (lv_at hl 0 rfl) ?_
      refine gf_X6_25 B hR (h0.at0 rfl) dX6_choosePageKinds_69 ?_
      refine lv_iload_n hx hb dX6_choosePageKinds_72 rfl (lv_at hl 3 rfl) ?_
      refine lv_aload_n hx hb dX6_choosePageKinds_73 rfl (lv_at hl 0 rfl) ?_
      refine gf_X6_18 B hR (h0.at0 rfl) dX6_choosePageKinds_74 ?_
      refine lv_iload_n hx hb dX6_choosePageKinds_77 rfl (lv_at hl 1 rfl) ?_
      refine lv_bipush (v := 6) hx hb dX6_choosePageKinds_78 (by decide) ?_
      refine lv_imul hx hb dX6_choosePageKinds_80 ?_
      refine lv_iload_n hx hb dX6_choosePageKinds_81 rfl (lv_at hl 3 rfl) ?_
      refine lv_iadd hx hb dX6_choosePageKinds_82 ?_
      refine r_iald B hR (h0.at 11 rfl) hi_58 dX6_choosePageKinds_83 ?_
      obtain ⟨M_84, eM_84, h⟩ := lt_el h
      refine r_iast B hR (h0.at 13 rfl) hi_64 dX6_choosePageKinds_84 (fun H locs hR => ?_)
      rw [← eM_84] at hR
      refine lv_aload_n hx hb dX6_choosePageKinds_85 rfl (lv_at hl 0 rfl) ?_
      refine gf_X6_22 B hR (h0.at0 rfl) dX6_choosePageKinds_86 ?_
      refine lv_iload_n hx hb dX6_choosePageKinds_89 rfl (lv_at hl 1 rfl) ?_
      refine lv_bipush (v := 6) hx hb dX6_choosePageKinds_90 (by decide) ?_
      refine lv_imul hx hb dX6_choosePageKinds_92 ?_
      refine lv_iload_n hx hb dX6_choosePageKinds_93 rfl (lv_at hl 3 rfl) ?_
      refine lv_iadd hx hb dX6_choosePageKinds_94 ?_
      refine lv_iload_n hx hb dX6_choosePageKinds_95 rfl (lv_at hl 2 rfl) ?_
      obtain ⟨r_96, hc_96, h⟩ := bi_el h
      refine is_X6_107 B hR hl.1 (mX10_pageKindInTurn fu _  hc_96) (Nat.le_of_ble_eq_true rfl) dX6_choosePageKinds_96 (fun H locs hR => ?_)
      obtain ⟨M_99, eM_99, h⟩ := lt_el h
      refine r_iast B hR (h0.at 12 rfl) hi_58 dX6_choosePageKinds_99 (fun H locs hR => ?_)
      rw [← eM_99] at hR
      exact wX6_choosePageKinds_j100 B hr hlk ih25 ih42 h0 h hR hl
def fX6_choosePageKinds_l42 (fu : Nat) (k25 : Int32 → Mm → Option Mm) (a0 : Nat) (x1 : Int32) (x2 : Int32) (x3 : Int32) (M : Mm) : Option Mm := lp (fun (rec : (Int32 × Mm) → Option Mm) (s : Int32 × Mm) => fX6_choosePageKinds_b42 fu k25 (fun x3 M => rec (x3, M)) a0 x1 x2 s.1 s.2) fu (x3, M)
set_option maxRecDepth 100000 in
set_option maxHeartbeats 4000000 in
theorem wX6_choosePageKinds_l42 {M' : Mm}  {k25 : Int32 → Mm → Option Mm} {a0 : Nat} {x1 : Int32} {x2 : Int32} {x3 : Int32} {M : Mm} (B : Bx p s m args c cX6_choosePageKinds 4 RX6 E L) (hr : meth.sig.returnType = none) (hlk : meth.locks = false) (ih25 : ∀ (x2 : Int32) (M : Mm), k25 x2 M = some M' → ∀ (H : Heap) (locs : List Loc) (ls : Array Slot), Rx s E L M H locs → lv_has ls 4 [(0, .ref a0), (1, .int x1), (2, .int x2)] → W p l e (rmD (d + 3)) s m args below meth c H locs 0 0 (MQ below (QcM E L none M') args s 0 0 E.2.2.2) (F0 m 25 ls [])) (h0 : At L a0 T6) (h : fX6_choosePageKinds_l42 fu k25 a0 x1 x2 x3 M = some M') (hR : Rx s E L M H locs) (hl : lv_has ls 4 [(0, .ref a0), (1, .int x1), (2, .int x2), (3, .int x3)]) : W p l e (rmD (d + 3)) s m args below meth c H locs 0 0 (MQ below (QcM E L none M') args s 0 0 E.2.2.2) (F0 m 42 ls []) := by
  refine lp_G (G := fun z : Int32 × Mm => ∀ (H : Heap) (locs : List Loc) (ls : Array Slot), Rx s E L z.2 H locs → lv_has ls 4 [(0, .ref a0), (1, .int x1), (2, .int x2), (3, .int z.1)] → W p l e (rmD (d + 3)) s m args below meth c H locs 0 0 (MQ below (QcM E L none M') args s 0 0 E.2.2.2) (F0 m 42 ls [])) (fun rec ih z h H locs ls hR hl => ?_) fu _ h H locs ls hR hl
  exact wX6_choosePageKinds_b42 B hr hlk ih25 (fun x3 M h => ih (x3, M) h) h0 h hR hl
def fX6_choosePageKinds_b25 (fu : Nat) (k25 : Int32 → Mm → Option Mm) (a0 : Nat) (x1 : Int32) (x2 : Int32) (M : Mm) : Option Mm :=
  if 6 ≤ x2 then
    fX6_choosePageKinds_j112 fu a0 x1 M
  else
    bi (fX10_pageKindInTurn fu x2) fun r_34 =>
    bm (fX6_weighWithin fu a0 x1 r_34 M) fun M_37 =>
    fX6_choosePageKinds_l42 fu k25 a0 x1 x2 0 M_37
set_option maxRecDepth 100000 in
set_option maxHeartbeats 4000000 in
theorem wX6_choosePageKinds_b25 {M' : Mm}   {k25 : Int32 → Mm → Option Mm} {a0 : Nat} {x1 : Int32} {x2 : Int32} {M : Mm} (B : Bx p s m args c cX6_choosePageKinds 4 RX6 E L) (hr : meth.sig.returnType = none) (hlk : meth.locks = false)  (ih25 : ∀ (x2 : Int32) (M : Mm), k25 x2 M = some M' → ∀ (H : Heap) (locs : List Loc) (ls : Array Slot), Rx s E L M H locs → lv_has ls 4 [(0, .ref a0), (1, .int x1), (2, .int x2)] → W p l e (rmD (d + 3)) s m args below meth c H locs 0 0 (MQ below (QcM E L none M') args s 0 0 E.2.2.2) (F0 m 25 ls [])) (h0 : At L a0 T6) (h : fX6_choosePageKinds_b25 fu k25 a0 x1 x2 M = some M') (hR : Rx s E L M H locs) (hl : lv_has ls 4 [(0, .ref a0), (1, .int x1), (2, .int x2)]) : W p l e (rmD (d + 3)) s m args below meth c H locs 0 0 (MQ below (QcM E L none M') args s 0 0 E.2.2.2) (F0 m 25 ls []) := by
  have hx := B.1
  have hb := B.2.1
  unfold fX6_choosePageKinds_b25 at h
  refine lv_iload_n hx hb dX6_choosePageKinds_25 rfl (lv_at hl 2 rfl) ?_
  refine lv_bipush (v := 6) hx hb dX6_choosePageKinds_26 (by decide) ?_
  refine lv_icmp_ge (tgt := 112) hx hb dX6_choosePageKinds_28 (by decide) (fun c_28 => ?_) (fun c_28 => ?_)
  · rw [if_pos c_28] at h
    exact wX6_choosePageKinds_j112 B hr hlk h0 h hR (lv_sub hl [0, 1] rfl)
  · rw [if_neg c_28] at h
    refine lv_aload_n hx hb dX6_choosePageKinds_31 rfl (lv_at hl 0 rfl) ?_
    refine lv_iload_n hx hb dX6_choosePageKinds_32 rfl (lv_at hl 1 rfl) ?_
    refine lv_iload_n hx hb dX6_choosePageKinds_33 rfl (lv_at hl 2 rfl) ?_
    obtain ⟨r_34, hc_34, h⟩ := bi_el h
    refine is_X6_107 B hR hl.1 (mX10_pageKindInTurn fu _  hc_34) (Nat.le_of_ble_eq_true rfl) dX6_choosePageKinds_34 (fun H locs hR => ?_)
    obtain ⟨M_37, hc_37, h⟩ := bm_el h
    refine iv_X6_42 B hR (h0.at0 rfl) hl.1 (mX6_weighWithin fu _ h0 hc_37) (Nat.le_of_ble_eq_true rfl) dX6_choosePageKinds_37 (fun H locs hR => ?_)
    refine lv_iconst (v := 0) hx hb dX6_choosePageKinds_40 (by decide) ?_
    refine lv_istore_n (lv' := [(3, .int 0), (0, .ref a0), (1, .int x1), (2, .int x2)]) hx hb dX6_choosePageKinds_41 rfl hl (by decide) rfl (fun ls hl => ?_)
    exact wX6_choosePageKinds_l42 B hr hlk ih25 h0 h hR (lv_sub hl [1, 2, 3, 0] rfl)
def fX6_choosePageKinds_l25 (fu : Nat) (a0 : Nat) (x1 : Int32) (x2 : Int32) (M : Mm) : Option Mm := lp (fun (rec : (Int32 × Mm) → Option Mm) (s : Int32 × Mm) => fX6_choosePageKinds_b25 fu  (fun x2 M => rec (x2, M)) a0 x1 s.1 s.2) fu (x2, M)
set_option maxRecDepth 100000 in
set_option maxHeartbeats 4000000 in
theorem wX6_choosePageKinds_l25 {M' : Mm}   {a0 : Nat} {x1 : Int32} {x2 : Int32} {M : Mm} (B : Bx p s m args c cX6_choosePageKinds 4 RX6 E L) (hr : meth.sig.returnType = none) (hlk : meth.locks = false)  (h0 : At L a0 T6) (h : fX6_choosePageKinds_l25 fu a0 x1 x2 M = some M') (hR : Rx s E L M H locs) (hl : lv_has ls 4 [(0, .ref a0), (1, .int x1), (2, .int x2)]) : W p l e (rmD (d + 3)) s m args below meth c H locs 0 0 (MQ below (QcM E L none M') args s 0 0 E.2.2.2) (F0 m 25 ls []) := by
  refine lp_G (G := fun z : Int32 × Mm => ∀ (H : Heap) (locs : List Loc) (ls : Array Slot), Rx s E L z.2 H locs → lv_has ls 4 [(0, .ref a0), (1, .int x1), (2, .int z.1)] → W p l e (rmD (d + 3)) s m args below meth c H locs 0 0 (MQ below (QcM E L none M') args s 0 0 E.2.2.2) (F0 m 25 ls [])) (fun rec ih z h H locs ls hR hl => ?_) fu _ h H locs ls hR hl
  exact wX6_choosePageKinds_b25 B hr hlk  (fun x2 M h => ih (x2, M) h) h0 h hR hl
def fX6_choosePageKinds_j23 (fu : Nat) (a0 : Nat) (x1 : Int32) (M : Mm) : Option Mm :=
  fX6_choosePageKinds_l25 fu a0 x1 0 M
set_option maxRecDepth 100000 in
set_option maxHeartbeats 4000000 in
theorem wX6_choosePageKinds_j23 {M' : Mm}   {a0 : Nat} {x1 : Int32} {M : Mm} (B : Bx p s m args c cX6_choosePageKinds 4 RX6 E L) (hr : meth.sig.returnType = none) (hlk : meth.locks = false)  (h0 : At L a0 T6) (h : fX6_choosePageKinds_j23 fu a0 x1 M = some M') (hR : Rx s E L M H locs) (hl : lv_has ls 4 [(0, .ref a0), (1, .int x1)]) : W p l e (rmD (d + 3)) s m args below meth c H locs 0 0 (MQ below (QcM E L none M') args s 0 0 E.2.2.2) (F0 m 23 ls []) := by
  have hx := B.1
  have hb := B.2.1
  unfold fX6_choosePageKinds_j23 at h
  refine lv_iconst (v := 0) hx hb dX6_choosePageKinds_23 (by decide) ?_
  refine lv_istore_n (lv' := [(2, .int 0), (0, .ref a0), (1, .int x1)]) hx hb dX6_choosePageKinds_24 rfl hl (by decide) rfl (fun ls hl => ?_)
  exact wX6_choosePageKinds_l25 B hr hlk h0 h hR (lv_sub hl [1, 2, 0] rfl)
def fX6_choosePageKinds_b2 (fu : Nat) (k2 : Int32 → Mm → Option Mm) (a0 : Nat) (x1 : Int32) (x2 : Int32) (M : Mm) : Option Mm :=
  if 6 ≤ x2 then
    fX6_choosePageKinds_j23 fu a0 x1 M
  else
    if x2 < 0 ∨ 6 ≤ ix x2 then none else
    lt (wI M (a0 + 13) (ix x2) 10001) fun M_16 =>
    lt (x2 + 1) fun x2_17 =>
    k2 x2_17 M_16
set_option maxRecDepth 100000 in
set_option maxHeartbeats 4000000 in
theorem wX6_choosePageKinds_b2 {M' : Mm}   {k2 : Int32 → Mm → Option Mm} {a0 : Nat} {x1 : Int32} {x2 : Int32} {M : Mm} (B : Bx p s m args c cX6_choosePageKinds 4 RX6 E L) (hr : meth.sig.returnType = none) (hlk : meth.locks = false)  (ih2 : ∀ (x2 : Int32) (M : Mm), k2 x2 M = some M' → ∀ (H : Heap) (locs : List Loc) (ls : Array Slot), Rx s E L M H locs → lv_has ls 4 [(0, .ref a0), (1, .int x1), (2, .int x2)] → W p l e (rmD (d + 3)) s m args below meth c H locs 0 0 (MQ below (QcM E L none M') args s 0 0 E.2.2.2) (F0 m 2 ls [])) (h0 : At L a0 T6) (h : fX6_choosePageKinds_b2 fu k2 a0 x1 x2 M = some M') (hR : Rx s E L M H locs) (hl : lv_has ls 4 [(0, .ref a0), (1, .int x1), (2, .int x2)]) : W p l e (rmD (d + 3)) s m args below meth c H locs 0 0 (MQ below (QcM E L none M') args s 0 0 E.2.2.2) (F0 m 2 ls []) := by
  have hx := B.1
  have hb := B.2.1
  unfold fX6_choosePageKinds_b2 at h
  refine lv_iload_n hx hb dX6_choosePageKinds_2 rfl (lv_at hl 2 rfl) ?_
  refine lv_bipush (v := 6) hx hb dX6_choosePageKinds_3 (by decide) ?_
  refine lv_icmp_ge (tgt := 23) hx hb dX6_choosePageKinds_5 (by decide) (fun c_5 => ?_) (fun c_5 => ?_)
  · rw [if_pos c_5] at h
    exact wX6_choosePageKinds_j23 B hr hlk h0 h hR (lv_sub hl [0, 1] rfl)
  · rw [if_neg c_5] at h
    refine lv_aload_n hx hb dX6_choosePageKinds_8 rfl (lv_at hl 0 rfl) ?_
    refine gf_X6_25 B hR (h0.at0 rfl) dX6_choosePageKinds_9 ?_
    refine lv_iload_n hx hb dX6_choosePageKinds_12 rfl (lv_at hl 2 rfl) ?_
    refine lv_sipush (v := 10001) hx hb dX6_choosePageKinds_13 (by decide) ?_
    obtain ⟨hi_16, h⟩ := ifn_el h
    obtain ⟨M_16, eM_16, h⟩ := lt_el h
    refine r_iast B hR (h0.at 13 rfl) hi_16 dX6_choosePageKinds_16 (fun H locs hR => ?_)
    rw [← eM_16] at hR
    obtain ⟨x2_17, ex2_17, h⟩ := lt_el h
    refine lv_iinc (v := x2_17) (lv' := [(2, .int x2_17), (0, .ref a0), (1, .int x1)]) hx hb dX6_choosePageKinds_17 hl (k := 2) rfl (by rw [ex2_17]; rfl) (by decide) rfl (fun ls hl => ?_)
    refine lv_goto (tgt := 2) hx hb dX6_choosePageKinds_20 (by decide) ?_
    exact ih2 x2_17 M_16 h _ _ _ hR (lv_sub hl [1, 2, 0] rfl)
def fX6_choosePageKinds_l2 (fu : Nat) (a0 : Nat) (x1 : Int32) (x2 : Int32) (M : Mm) : Option Mm := lp (fun (rec : (Int32 × Mm) → Option Mm) (s : Int32 × Mm) => fX6_choosePageKinds_b2 fu  (fun x2 M => rec (x2, M)) a0 x1 s.1 s.2) fu (x2, M)
set_option maxRecDepth 100000 in
set_option maxHeartbeats 4000000 in
theorem wX6_choosePageKinds_l2 {M' : Mm}   {a0 : Nat} {x1 : Int32} {x2 : Int32} {M : Mm} (B : Bx p s m args c cX6_choosePageKinds 4 RX6 E L) (hr : meth.sig.returnType = none) (hlk : meth.locks = false)  (h0 : At L a0 T6) (h : fX6_choosePageKinds_l2 fu a0 x1 x2 M = some M') (hR : Rx s E L M H locs) (hl : lv_has ls 4 [(0, .ref a0), (1, .int x1), (2, .int x2)]) : W p l e (rmD (d + 3)) s m args below meth c H locs 0 0 (MQ below (QcM E L none M') args s 0 0 E.2.2.2) (F0 m 2 ls []) := by
  refine lp_G (G := fun z : Int32 × Mm => ∀ (H : Heap) (locs : List Loc) (ls : Array Slot), Rx s E L z.2 H locs → lv_has ls 4 [(0, .ref a0), (1, .int x1), (2, .int z.1)] → W p l e (rmD (d + 3)) s m args below meth c H locs 0 0 (MQ below (QcM E L none M') args s 0 0 E.2.2.2) (F0 m 2 ls [])) (fun rec ih z h H locs ls hR hl => ?_) fu _ h H locs ls hR hl
  exact wX6_choosePageKinds_b2 B hr hlk  (fun x2 M h => ih (x2, M) h) h0 h hR hl
def fX6_choosePageKinds (fu : Nat) (a0 : Nat) (x1 : Int32) (M : Mm) : Option Mm :=
  fX6_choosePageKinds_l2 fu a0 x1 0 M
set_option maxRecDepth 100000 in
set_option maxHeartbeats 4000000 in
theorem mX6_choosePageKinds {l : Launch} {E : Ge} {L : Lay} (fu d : Nat) {a0 : Nat} {x1 : Int32} {M : Mm} {M' : Mm}  (h0 : At L a0 T6) (h : fX6_choosePageKinds fu a0 x1 M = some M') : Ct l E L yX6_choosePageKinds cX6_choosePageKinds 4 none (d + 3) [.ref a0, .int x1] M none M' := by
  refine Ct.of (by decide) ?_
  intro p e s m below meth c hr hlk B hR
  have B : Bx p s m _ c cX6_choosePageKinds 4 RX6 E L := B
  have hx := B.1
  have hb := B.2.1
  have hl := lv_entry ([.ref a0, .int x1]) (n := 4) (Nat.le_of_ble_eq_true rfl)
  rw [lg_entry_eq]
  generalize (lg_sl ([.ref a0, .int x1]) ++ List.replicate (4 - (lg_sl ([.ref a0, .int x1])).length) Slot.unset).toArray = ls at hl ⊢
  have hl : lv_has ls 4 [(0, .ref a0), (1, .int x1)] := hl
  unfold fX6_choosePageKinds at h
  refine lv_iconst (v := 0) hx hb dX6_choosePageKinds_0 (by decide) ?_
  refine lv_istore_n (lv' := [(2, .int 0), (0, .ref a0), (1, .int x1)]) hx hb dX6_choosePageKinds_1 rfl hl (by decide) rfl (fun ls hl => ?_)
  exact wX6_choosePageKinds_l2 B hr hlk h0 h hR (lv_sub hl [1, 2, 0] rfl)
def fX6_layPage (fu : Nat) (L : Lay) (a0 : Nat) (x1 : Int32) (x2 : Int32) (x3 : Int32) (M : Mm) : Option Mm :=
  if ((x1 * 6) + x2) < 0 ∨ 1920 ≤ ix ((x1 * 6) + x2) then none else
  lt ((M.1 (a0 + 12) (ix ((x1 * 6) + x2)))) fun x4_11 =>
  bl (M.2.2 a0 6) fun q_14 =>
  gd (L.contains (q_14, (0, 64)) = true) <|
  if x1 < 0 ∨ 320 ≤ ix x1 then none else
  if ((M.1 ((a0 + 1) + 1) (ix x1)) / 16) < 0 ∨ 64 ≤ ix ((M.1 ((a0 + 1) + 1) (ix x1)) / 16) then none else
  lt (wI M q_14 (ix ((M.1 ((a0 + 1) + 1) (ix x1)) / 16)) x4_11) fun M_31 =>
  bm (fX6_weighWithin fu a0 x1 x4_11 M_31) fun M_36 =>
  bm (fX6_layWithin fu L 16 a0 x1 x2 x3 M_36) fun M_43 =>
  some M_43
set_option maxRecDepth 100000 in
set_option maxHeartbeats 4000000 in
theorem mX6_layPage {l : Launch} {E : Ge} {L : Lay} (fu d : Nat) {a0 : Nat} {x1 : Int32} {x2 : Int32} {x3 : Int32} {M : Mm} {M' : Mm}  (h0 : At L a0 T6) (h : fX6_layPage fu L a0 x1 x2 x3 M = some M') : Ct l E L yX6_layPage cX6_layPage 5 none (d + 19) [.ref a0, .int x1, .int x2, .int x3] M none M' := by
  refine Ct.of (by decide) ?_
  intro p e s m below meth c hr hlk B hR
  have B : Bx p s m _ c cX6_layPage 5 RX6 E L := B
  have hx := B.1
  have hb := B.2.1
  have hl := lv_entry ([.ref a0, .int x1, .int x2, .int x3]) (n := 5) (Nat.le_of_ble_eq_true rfl)
  rw [lg_entry_eq]
  generalize (lg_sl ([.ref a0, .int x1, .int x2, .int x3]) ++ List.replicate (5 - (lg_sl ([.ref a0, .int x1, .int x2, .int x3])).length) Slot.unset).toArray = ls at hl ⊢
  have hl : lv_has ls 5 [(0, .ref a0), (1, .int x1), (2, .int x2), (3, .int x3)] := hl
  unfold fX6_layPage at h
  refine lv_aload_n hx hb dX6_layPage_0 rfl (lv_at hl 0 rfl) ?_
  refine gf_X6_22 B hR (h0.at0 rfl) dX6_layPage_1 ?_
  refine lv_iload_n hx hb dX6_layPage_4 rfl (lv_at hl 1 rfl) ?_
  refine lv_bipush (v := 6) hx hb dX6_layPage_5 (by decide) ?_
  refine lv_imul hx hb dX6_layPage_7 ?_
  refine lv_iload_n hx hb dX6_layPage_8 rfl (lv_at hl 2 rfl) ?_
  refine lv_iadd hx hb dX6_layPage_9 ?_
  obtain ⟨hi_10, h⟩ := ifn_el h
  refine r_iald B hR (h0.at 12 rfl) hi_10 dX6_layPage_10 ?_
  obtain ⟨x4_11, ex4_11, h⟩ := lt_el h
  refine r_nmI ex4_11 ?_
  refine lv_istore (lv' := [(4, .int x4_11), (0, .ref a0), (1, .int x1), (2, .int x2), (3, .int x3)]) hx hb dX6_layPage_11 hl (by decide) rfl (fun ls hl => ?_)
  refine lv_aload_n hx hb dX6_layPage_13 rfl (lv_at hl 1 rfl) ?_
  obtain ⟨q_14, hq_14, h⟩ := bl_el h
  obtain ⟨hs_14, h⟩ := gd_el h
  refine gm_X6_70 B hR (h0.at0 rfl) hq_14 dX6_layPage_14 ?_
  refine lv_aload_n hx hb dX6_layPage_17 rfl (lv_at hl 1 rfl) ?_
  refine gf_X6_12 B hR (h0.at0 rfl) dX6_layPage_18 ?_
  refine gf_X6_115 B hR ((sb_6_0 h0).at0 rfl) dX6_layPage_21 ?_
  refine lv_iload_n hx hb dX6_layPage_24 rfl (lv_at hl 2 rfl) ?_
  obtain ⟨hi_25, h⟩ := ifn_el h
  refine r_iald B hR ((sb_6_0 h0).at 1 rfl) hi_25 dX6_layPage_25 ?_
  refine lv_bipush (v := 16) hx hb dX6_layPage_26 (by decide) ?_
  refine lv_idiv hx hb dX6_layPage_28 (by decide) ?_
  refine lv_iload hx hb dX6_layPage_29 (lv_at hl 0 rfl) ?_
  obtain ⟨hi_31, h⟩ := ifn_el h
  obtain ⟨M_31, eM_31, h⟩ := lt_el h
  refine r_iast B hR (List.contains_iff_mem.mp hs_14) hi_31 dX6_layPage_31 (fun H locs hR => ?_)
  rw [← eM_31] at hR
  refine lv_aload_n hx hb dX6_layPage_32 rfl (lv_at hl 1 rfl) ?_
  refine lv_iload_n hx hb dX6_layPage_33 rfl (lv_at hl 2 rfl) ?_
  refine lv_iload hx hb dX6_layPage_34 (lv_at hl 0 rfl) ?_
  obtain ⟨M_36, hc_36, h⟩ := bm_el h
  refine iv_X6_42 B hR (h0.at0 rfl) hl.1 (mX6_weighWithin fu _ h0 hc_36) (Nat.le_of_ble_eq_true rfl) dX6_layPage_36 (fun H locs hR => ?_)
  refine lv_aload_n hx hb dX6_layPage_39 rfl (lv_at hl 1 rfl) ?_
  refine lv_iload_n hx hb dX6_layPage_40 rfl (lv_at hl 2 rfl) ?_
  refine lv_iload_n hx hb dX6_layPage_41 rfl (lv_at hl 3 rfl) ?_
  refine lv_iload_n hx hb dX6_layPage_42 rfl (lv_at hl 4 rfl) ?_
  obtain ⟨M_43, hc_43, h⟩ := bm_el h
  refine iv_X6_55 B hR (h0.at0 rfl) hl.1 (mX6_layWithin fu _ h0 hc_43) (Nat.le_of_ble_eq_true rfl) dX6_layPage_43 (fun H locs hR => ?_)
  exact r_vretW B hR hr hlk h dX6_layPage_46
def fX6_layHalvesAbovePages_j121 (fu : Nat) (L : Lay) (fr : Nat → Int32 → Int32 → Int32 → Mm → Option Mm) (M : Mm) : Option Mm :=
  some M
set_option maxRecDepth 100000 in
set_option maxHeartbeats 4000000 in
theorem wX6_layHalvesAbovePages_j121 {M' : Mm} {fr : Nat → Int32 → Int32 → Int32 → Mm → Option Mm}    {M : Mm} (B : Bx p s m args c cX6_layHalvesAbovePages 8 RX6 E L) (hr : meth.sig.returnType = none) (hlk : meth.locks = false) (ihr : ∀ {a0 : Nat} {x1 : Int32} {x2 : Int32} {x3 : Int32} {M : Mm} {M' : Mm}, At L a0 T6 → fr a0 x1 x2 x3 M = some M' → Ct l E L yX6_layAbovePages cX6_layAbovePages 7 none (d + 20) [.ref a0, .int x1, .int x2, .int x3] M none M')   (h : fX6_layHalvesAbovePages_j121 fu L fr M = some M') (hR : Rx s E L M H locs) (hl : lv_has ls 8 []) : W p l e (rmD (d + 21)) s m args below meth c H locs 0 0 (MQ below (QcM E L none M') args s 0 0 E.2.2.2) (F0 m 121 ls []) := by
  have hx := B.1
  have hb := B.2.1
  unfold fX6_layHalvesAbovePages_j121 at h
  exact r_vretW B hR hr hlk h dX6_layHalvesAbovePages_121
def fX6_layHalvesAbovePages_b89 (fu : Nat) (L : Lay) (fr : Nat → Int32 → Int32 → Int32 → Mm → Option Mm) (k89 : Int32 → Mm → Option Mm) (a0 : Nat) (x5 : Int32) (x6 : Int32) (x7 : Int32) (M : Mm) : Option Mm :=
  if x5 < x7 then
    fX6_layHalvesAbovePages_j121 fu L fr M
  else
    bl (M.2.2 a0 6) fun q_99 =>
    gd (L.contains (q_99, (0, 64)) = true) <|
    if 64 ≤ x7 then
      fX6_layHalvesAbovePages_j121 fu L fr M
    else
      bl (M.2.2 a0 6) fun q_107 =>
      gd (L.contains (q_107, (0, 64)) = true) <|
      if x7 < 0 ∨ 64 ≤ ix x7 then none else
      lt (wI M q_107 (ix x7) x6) fun M_114 =>
      lt (x7 + 1) fun x7_115 =>
      k89 x7_115 M_114
set_option maxRecDepth 100000 in
set_option maxHeartbeats 4000000 in
theorem wX6_layHalvesAbovePages_b89 {M' : Mm} {fr : Nat → Int32 → Int32 → Int32 → Mm → Option Mm}   {k89 : Int32 → Mm → Option Mm} {a0 : Nat} {x5 : Int32} {x6 : Int32} {x7 : Int32} {M : Mm} (B : Bx p s m args c cX6_layHalvesAbovePages 8 RX6 E L) (hr : meth.sig.returnType = none) (hlk : meth.locks = false) (ihr : ∀ {a0 : Nat} {x1 : Int32} {x2 : Int32} {x3 : Int32} {M : Mm} {M' : Mm}, At L a0 T6 → fr a0 x1 x2 x3 M = some M' → Ct l E L yX6_layAbovePages cX6_layAbovePages 7 none (d + 20) [.ref a0, .int x1, .int x2, .int x3] M none M')  (ih89 : ∀ (x7 : Int32) (M : Mm), k89 x7 M = some M' → ∀ (H : Heap) (locs : List Loc) (ls : Array Slot), Rx s E L M H locs → lv_has ls 8 [(0, .ref a0), (5, .int x5), (6, .int x6), (7, .int x7)] → W p l e (rmD (d + 21)) s m args below meth c H locs 0 0 (MQ below (QcM E L none M') args s 0 0 E.2.2.2) (F0 m 89 ls [])) (h0 : At L a0 T6) (h : fX6_layHalvesAbovePages_b89 fu L fr k89 a0 x5 x6 x7 M = some M') (hR : Rx s E L M H locs) (hl : lv_has ls 8 [(0, .ref a0), (5, .int x5), (6, .int x6), (7, .int x7)]) : W p l e (rmD (d + 21)) s m args below meth c H locs 0 0 (MQ below (QcM E L none M') args s 0 0 E.2.2.2) (F0 m 89 ls []) := by
  have hx := B.1
  have hb := B.2.1
  unfold fX6_layHalvesAbovePages_b89 at h
  refine lv_iload hx hb dX6_layHalvesAbovePages_89 (lv_at hl 3 rfl) ?_
  refine lv_iload hx hb dX6_layHalvesAbovePages_91 (lv_at hl 1 rfl) ?_
  refine lv_icmp_gt (tgt := 121) hx hb dX6_layHalvesAbovePages_93 (by decide) (fun c_93 => ?_) (fun c_93 => ?_)
  · rw [if_pos c_93] at h
    exact wX6_layHalvesAbovePages_j121 B hr hlk ihr h hR (lv_sub hl [] rfl)
  · rw [if_neg c_93] at h
    refine lv_iload hx hb dX6_layHalvesAbovePages_96 (lv_at hl 3 rfl) ?_
    refine lv_aload_n hx hb dX6_layHalvesAbovePages_98 rfl (lv_at hl 0 rfl) ?_
    obtain ⟨q_99, hq_99, h⟩ := bl_el h
    obtain ⟨hs_99, h⟩ := gd_el h
    refine gm_X6_70 B hR (h0.at0 rfl) hq_99 dX6_layHalvesAbovePages_99 ?_
    refine r_alenI B hR (v := 64) (List.contains_iff_mem.mp hs_99) (by decide) dX6_layHalvesAbovePages_102 ?_
    refine lv_icmp_ge (tgt := 121) hx hb dX6_layHalvesAbovePages_103 (by decide) (fun c_103 => ?_) (fun c_103 => ?_)
    · rw [if_pos c_103] at h
      exact wX6_layHalvesAbovePages_j121 B hr hlk ihr h hR (lv_sub hl [] rfl)
    · rw [if_neg c_103] at h
      refine lv_aload_n hx hb dX6_layHalvesAbovePages_106 rfl (lv_at hl 0 rfl) ?_
      obtain ⟨q_107, hq_107, h⟩ := bl_el h
      obtain ⟨hs_107, h⟩ := gd_el h
      refine gm_X6_70 B hR (h0.at0 rfl) hq_107 dX6_layHalvesAbovePages_107 ?_
      refine lv_iload hx hb dX6_layHalvesAbovePages_110 (lv_at hl 3 rfl) ?_
      refine lv_iload hx hb dX6_layHalvesAbovePages_112 (lv_at hl 2 rfl) ?_
      obtain ⟨hi_114, h⟩ := ifn_el h
      obtain ⟨M_114, eM_114, h⟩ := lt_el h
      refine r_iast B hR (List.contains_iff_mem.mp hs_107) hi_114 dX6_layHalvesAbovePages_114 (fun H locs hR => ?_)
      rw [← eM_114] at hR
      obtain ⟨x7_115, ex7_115, h⟩ := lt_el h
      refine lv_iinc (v := x7_115) (lv' := [(7, .int x7_115), (0, .ref a0), (5, .int x5), (6, .int x6)]) hx hb dX6_layHalvesAbovePages_115 hl (k := 3) rfl (by rw [ex7_115]; rfl) (by decide) rfl (fun ls hl => ?_)
      refine lv_goto (tgt := 89) hx hb dX6_layHalvesAbovePages_118 (by decide) ?_
      exact ih89 x7_115 M_114 h _ _ _ hR (lv_sub hl [1, 2, 3, 0] rfl)
def fX6_layHalvesAbovePages_l89 (fu : Nat) (L : Lay) (fr : Nat → Int32 → Int32 → Int32 → Mm → Option Mm) (a0 : Nat) (x5 : Int32) (x6 : Int32) (x7 : Int32) (M : Mm) : Option Mm := lp (fun (rec : (Int32 × Mm) → Option Mm) (s : Int32 × Mm) => fX6_layHalvesAbovePages_b89 fu L fr  (fun x7 M => rec (x7, M)) a0 x5 x6 s.1 s.2) fu (x7, M)
set_option maxRecDepth 100000 in
set_option maxHeartbeats 4000000 in
theorem wX6_layHalvesAbovePages_l89 {M' : Mm} {fr : Nat → Int32 → Int32 → Int32 → Mm → Option Mm}   {a0 : Nat} {x5 : Int32} {x6 : Int32} {x7 : Int32} {M : Mm} (B : Bx p s m args c cX6_layHalvesAbovePages 8 RX6 E L) (hr : meth.sig.returnType = none) (hlk : meth.locks = false) (ihr : ∀ {a0 : Nat} {x1 : Int32} {x2 : Int32} {x3 : Int32} {M : Mm} {M' : Mm}, At L a0 T6 → fr a0 x1 x2 x3 M = some M' → Ct l E L yX6_layAbovePages cX6_layAbovePages 7 none (d + 20) [.ref a0, .int x1, .int x2, .int x3] M none M')  (h0 : At L a0 T6) (h : fX6_layHalvesAbovePages_l89 fu L fr a0 x5 x6 x7 M = some M') (hR : Rx s E L M H locs) (hl : lv_has ls 8 [(0, .ref a0), (5, .int x5), (6, .int x6), (7, .int x7)]) : W p l e (rmD (d + 21)) s m args below meth c H locs 0 0 (MQ below (QcM E L none M') args s 0 0 E.2.2.2) (F0 m 89 ls []) := by
  refine lp_G (G := fun z : Int32 × Mm => ∀ (H : Heap) (locs : List Loc) (ls : Array Slot), Rx s E L z.2 H locs → lv_has ls 8 [(0, .ref a0), (5, .int x5), (6, .int x6), (7, .int z.1)] → W p l e (rmD (d + 21)) s m args below meth c H locs 0 0 (MQ below (QcM E L none M') args s 0 0 E.2.2.2) (F0 m 89 ls [])) (fun rec ih z h H locs ls hR hl => ?_) fu _ h H locs ls hR hl
  exact wX6_layHalvesAbovePages_b89 B hr hlk ihr  (fun x7 M h => ih (x7, M) h) h0 h hR hl
def fX6_layHalvesAbovePages (fu : Nat) (L : Lay) (fr : Nat → Int32 → Int32 → Int32 → Mm → Option Mm) (a0 : Nat) (x1 : Int32) (x2 : Int32) (x3 : Int32) (M : Mm) : Option Mm :=
  if x1 < 0 ∨ 320 ≤ ix x1 then none else
  if (M.1 ((a0 + 1) + 3) (ix x1)) = 0 then
    lt (((M.1 ((a0 + 1) + 1) (ix x1)) / 16)) fun x4_53 =>
    lt (((x4_53 + ((M.1 ((a0 + 1) + 2) (ix x1)) / 16)) - 1)) fun x5_72 =>
    bi (fX9_pageKindFor fu (a0 + 1) x1 x2 M) fun r_80 =>
    fX6_layHalvesAbovePages_l89 fu L fr a0 x5_72 r_80 x4_53 M
  else
    bm (fr a0 (x1 + 1) x2 (x3 + 1) M) fun M_20 =>
    bm (fr a0 (M_20.1 ((a0 + 1) + 3) (ix x1)) x2 (x3 + 1) M_20) fun M_37 =>
    some M_37
set_option maxRecDepth 100000 in
set_option maxHeartbeats 4000000 in
theorem mX6_layHalvesAbovePages {l : Launch} {E : Ge} {L : Lay} (fu d : Nat) {a0 : Nat} {x1 : Int32} {x2 : Int32} {x3 : Int32} {M : Mm} {M' : Mm} {fr : Nat → Int32 → Int32 → Int32 → Mm → Option Mm} (ihr : ∀ {a0 : Nat} {x1 : Int32} {x2 : Int32} {x3 : Int32} {M : Mm} {M' : Mm}, At L a0 T6 → fr a0 x1 x2 x3 M = some M' → Ct l E L yX6_layAbovePages cX6_layAbovePages 7 none (d + 20) [.ref a0, .int x1, .int x2, .int x3] M none M') (h0 : At L a0 T6) (h : fX6_layHalvesAbovePages fu L fr a0 x1 x2 x3 M = some M') : Ct l E L yX6_layHalvesAbovePages cX6_layHalvesAbovePages 8 none (d + 21) [.ref a0, .int x1, .int x2, .int x3] M none M' := by
  refine Ct.of (by decide) ?_
  intro p e s m below meth c hr hlk B hR
  have B : Bx p s m _ c cX6_layHalvesAbovePages 8 RX6 E L := B
  have hx := B.1
  have hb := B.2.1
  have hl := lv_entry ([.ref a0, .int x1, .int x2, .int x3]) (n := 8) (Nat.le_of_ble_eq_true rfl)
  rw [lg_entry_eq]
  generalize (lg_sl ([.ref a0, .int x1, .int x2, .int x3]) ++ List.replicate (8 - (lg_sl ([.ref a0, .int x1, .int x2, .int x3])).length) Slot.unset).toArray = ls at hl ⊢
  have hl : lv_has ls 8 [(0, .ref a0), (1, .int x1), (2, .int x2), (3, .int x3)] := hl
  unfold fX6_layHalvesAbovePages at h
  refine lv_aload_n hx hb dX6_layHalvesAbovePages_0 rfl (lv_at hl 0 rfl) ?_
  refine gf_X6_12 B hR (h0.at0 rfl) dX6_layHalvesAbovePages_1 ?_
  refine gf_X6_79 B hR ((sb_6_0 h0).at0 rfl) dX6_layHalvesAbovePages_4 ?_
  refine lv_iload_n hx hb dX6_layHalvesAbovePages_7 rfl (lv_at hl 1 rfl) ?_
  obtain ⟨hi_8, h⟩ := ifn_el h
  refine r_iald B hR ((sb_6_0 h0).at 3 rfl) hi_8 dX6_layHalvesAbovePages_8 ?_
  refine lv_if_eq (tgt := 41) hx hb dX6_layHalvesAbovePages_9 (by decide) (fun c_9 => ?_) (fun c_9 => ?_)
  · rw [if_pos c_9] at h
    refine lv_aload_n hx hb dX6_layHalvesAbovePages_41 rfl (lv_at hl 0 rfl) ?_
    refine gf_X6_12 B hR (h0.at0 rfl) dX6_layHalvesAbovePages_42 ?_
    refine gf_X6_115 B hR ((sb_6_0 h0).at0 rfl) dX6_layHalvesAbovePages_45 ?_
    refine lv_iload_n hx hb dX6_layHalvesAbovePages_48 rfl (lv_at hl 1 rfl) ?_
    refine r_iald B hR ((sb_6_0 h0).at 1 rfl) hi_8 dX6_layHalvesAbovePages_49 ?_
    refine lv_bipush (v := 16) hx hb dX6_layHalvesAbovePages_50 (by decide) ?_
    refine lv_idiv hx hb dX6_layHalvesAbovePages_52 (by decide) ?_
    obtain ⟨x4_53, ex4_53, h⟩ := lt_el h
    refine r_nmI ex4_53 ?_
    refine lv_istore (lv' := [(4, .int x4_53), (0, .ref a0), (1, .int x1), (2, .int x2), (3, .int x3)]) hx hb dX6_layHalvesAbovePages_53 hl (by decide) rfl (fun ls hl => ?_)
    refine lv_iload hx hb dX6_layHalvesAbovePages_55 (lv_at hl 0 rfl) ?_
    refine lv_aload_n hx hb dX6_layHalvesAbovePages_57 rfl (lv_at hl 1 rfl) ?_
    refine gf_X6_12 B hR (h0.at0 rfl) dX6_layHalvesAbovePages_58 ?_
    refine gf_X6_60 B hR ((sb_6_0 h0).at0 rfl) dX6_layHalvesAbovePages_61 ?_
    refine lv_iload_n hx hb dX6_layHalvesAbovePages_64 rfl (lv_at hl 2 rfl) ?_
    refine r_iald B hR ((sb_6_0 h0).at 2 rfl) hi_8 dX6_layHalvesAbovePages_65 ?_
    refine lv_bipush (v := 16) hx hb dX6_layHalvesAbovePages_66 (by decide) ?_
    refine lv_idiv hx hb dX6_layHalvesAbovePages_68 (by decide) ?_
    refine lv_iadd hx hb dX6_layHalvesAbovePages_69 ?_
    refine lv_iconst (v := 1) hx hb dX6_layHalvesAbovePages_70 (by decide) ?_
    refine lv_isub hx hb dX6_layHalvesAbovePages_71 ?_
    obtain ⟨x5_72, ex5_72, h⟩ := lt_el h
    refine r_nmI ex5_72 ?_
    refine lv_istore (lv' := [(5, .int x5_72), (4, .int x4_53), (0, .ref a0), (1, .int x1), (2, .int x2), (3, .int x3)]) hx hb dX6_layHalvesAbovePages_72 hl (by decide) rfl (fun ls hl => ?_)
    refine lv_aload_n hx hb dX6_layHalvesAbovePages_74 rfl (lv_at hl 2 rfl) ?_
    refine gf_X6_12 B hR (h0.at0 rfl) dX6_layHalvesAbovePages_75 ?_
    refine lv_iload_n hx hb dX6_layHalvesAbovePages_78 rfl (lv_at hl 3 rfl) ?_
    refine lv_iload_n hx hb dX6_layHalvesAbovePages_79 rfl (lv_at hl 4 rfl) ?_
    obtain ⟨r_80, hc_80, h⟩ := bi_el h
    refine iv_X6_101 B hR ((sb_6_0 h0).at0 rfl) hl.1 (mX9_pageKindFor fu _ (sb_6_0 h0) hc_80) (Nat.le_of_ble_eq_true rfl) dX6_layHalvesAbovePages_80 (fun H locs hR => ?_)
    refine lv_istore (lv' := [(6, .int r_80), (5, .int x5_72), (4, .int x4_53), (0, .ref a0), (1, .int x1), (2, .int x2), (3, .int x3)]) hx hb dX6_layHalvesAbovePages_83 hl (by decide) rfl (fun ls hl => ?_)
    refine lv_iload hx hb dX6_layHalvesAbovePages_85 (lv_at hl 2 rfl) ?_
    refine lv_istore (lv' := [(7, .int x4_53), (6, .int r_80), (5, .int x5_72), (4, .int x4_53), (0, .ref a0), (1, .int x1), (2, .int x2), (3, .int x3)]) hx hb dX6_layHalvesAbovePages_87 hl (by decide) rfl (fun ls hl => ?_)
    exact wX6_layHalvesAbovePages_l89 B hr hlk ihr h0 h hR (lv_sub hl [4, 2, 1, 0] rfl)
  · rw [if_neg c_9] at h
    refine lv_aload_n hx hb dX6_layHalvesAbovePages_12 rfl (lv_at hl 0 rfl) ?_
    refine lv_iload_n hx hb dX6_layHalvesAbovePages_13 rfl (lv_at hl 1 rfl) ?_
    refine lv_iconst (v := 1) hx hb dX6_layHalvesAbovePages_14 (by decide) ?_
    refine lv_iadd hx hb dX6_layHalvesAbovePages_15 ?_
    refine lv_iload_n hx hb dX6_layHalvesAbovePages_16 rfl (lv_at hl 2 rfl) ?_
    refine lv_iload_n hx hb dX6_layHalvesAbovePages_17 rfl (lv_at hl 3 rfl) ?_
    refine lv_iconst (v := 1) hx hb dX6_layHalvesAbovePages_18 (by decide) ?_
    refine lv_iadd hx hb dX6_layHalvesAbovePages_19 ?_
    obtain ⟨M_20, hc_20, h⟩ := bm_el h
    refine iv_X6_73 B hR (h0.at0 rfl) hl.1 (ihr h0 hc_20) (Nat.le_of_ble_eq_true rfl) dX6_layHalvesAbovePages_20 (fun H locs hR => ?_)
    refine lv_aload_n hx hb dX6_layHalvesAbovePages_23 rfl (lv_at hl 0 rfl) ?_
    refine lv_aload_n hx hb dX6_layHalvesAbovePages_24 rfl (lv_at hl 0 rfl) ?_
    refine gf_X6_12 B hR (h0.at0 rfl) dX6_layHalvesAbovePages_25 ?_
    refine gf_X6_79 B hR ((sb_6_0 h0).at0 rfl) dX6_layHalvesAbovePages_28 ?_
    refine lv_iload_n hx hb dX6_layHalvesAbovePages_31 rfl (lv_at hl 1 rfl) ?_
    refine r_iald B hR ((sb_6_0 h0).at 3 rfl) hi_8 dX6_layHalvesAbovePages_32 ?_
    refine lv_iload_n hx hb dX6_layHalvesAbovePages_33 rfl (lv_at hl 2 rfl) ?_
    refine lv_iload_n hx hb dX6_layHalvesAbovePages_34 rfl (lv_at hl 3 rfl) ?_
    refine lv_iconst (v := 1) hx hb dX6_layHalvesAbovePages_35 (by decide) ?_
    refine lv_iadd hx hb dX6_layHalvesAbovePages_36 ?_
    obtain ⟨M_37, hc_37, h⟩ := bm_el h
    refine iv_X6_73 B hR (h0.at0 rfl) hl.1 (ihr h0 hc_37) (Nat.le_of_ble_eq_true rfl) dX6_layHalvesAbovePages_37 (fun H locs hR => ?_)
    exact r_vretW B hR hr hlk h dX6_layHalvesAbovePages_40
def fX6_layAbovePages_j93 (fu : Nat) (L : Lay) (fr : Nat → Int32 → Int32 → Int32 → Mm → Option Mm) (M : Mm) : Option Mm :=
  some M
set_option maxRecDepth 100000 in
set_option maxHeartbeats 4000000 in
theorem wX6_layAbovePages_j93 {M' : Mm} {fr : Nat → Int32 → Int32 → Int32 → Mm → Option Mm}    {M : Mm} (B : Bx p s m args c cX6_layAbovePages 7 RX6 E L) (hr : meth.sig.returnType = none) (hlk : meth.locks = false) (ihr : ∀ {a0 : Nat} {x1 : Int32} {x2 : Int32} {x3 : Int32} {M : Mm} {M' : Mm}, At L a0 T6 → fr a0 x1 x2 x3 M = some M' → Ct l E L yX6_layAbovePages cX6_layAbovePages 7 none (d + 20) [.ref a0, .int x1, .int x2, .int x3] M none M')   (h : fX6_layAbovePages_j93 fu L fr M = some M') (hR : Rx s E L M H locs) (hl : lv_has ls 7 []) : W p l e (rmD (d + 22)) s m args below meth c H locs 0 0 (MQ below (QcM E L none M') args s 0 0 E.2.2.2) (F0 m 93 ls []) := by
  have hx := B.1
  have hb := B.2.1
  unfold fX6_layAbovePages_j93 at h
  exact r_vretW B hR hr hlk h dX6_layAbovePages_93
def fX6_layAbovePages_j67 (fu : Nat) (L : Lay) (fr : Nat → Int32 → Int32 → Int32 → Mm → Option Mm) (a0 : Nat) (x1 : Int32) (x3 : Int32) (x4 : Int32) (M : Mm) : Option Mm :=
  bm (fX6_layHalvesAbovePages fu L fr a0 x1 x4 x3 M) fun M_72 =>
  some M_72
set_option maxRecDepth 100000 in
set_option maxHeartbeats 4000000 in
theorem wX6_layAbovePages_j67 {M' : Mm} {fr : Nat → Int32 → Int32 → Int32 → Mm → Option Mm}   {a0 : Nat} {x1 : Int32} {x3 : Int32} {x4 : Int32} {M : Mm} (B : Bx p s m args c cX6_layAbovePages 7 RX6 E L) (hr : meth.sig.returnType = none) (hlk : meth.locks = false) (ihr : ∀ {a0 : Nat} {x1 : Int32} {x2 : Int32} {x3 : Int32} {M : Mm} {M' : Mm}, At L a0 T6 → fr a0 x1 x2 x3 M = some M' → Ct l E L yX6_layAbovePages cX6_layAbovePages 7 none (d + 20) [.ref a0, .int x1, .int x2, .int x3] M none M')  (h0 : At L a0 T6) (h : fX6_layAbovePages_j67 fu L fr a0 x1 x3 x4 M = some M') (hR : Rx s E L M H locs) (hl : lv_has ls 7 [(0, .ref a0), (1, .int x1), (3, .int x3), (4, .int x4)]) : W p l e (rmD (d + 22)) s m args below meth c H locs 0 0 (MQ below (QcM E L none M') args s 0 0 E.2.2.2) (F0 m 67 ls []) := by
  have hx := B.1
  have hb := B.2.1
  unfold fX6_layAbovePages_j67 at h
  refine lv_aload_n hx hb dX6_layAbovePages_67 rfl (lv_at hl 0 rfl) ?_
  refine lv_iload_n hx hb dX6_layAbovePages_68 rfl (lv_at hl 1 rfl) ?_
  refine lv_iload hx hb dX6_layAbovePages_69 (lv_at hl 3 rfl) ?_
  refine lv_iload_n hx hb dX6_layAbovePages_71 rfl (lv_at hl 2 rfl) ?_
  obtain ⟨M_72, hc_72, h⟩ := bm_el h
  refine iv_X6_124 B hR (h0.at0 rfl) hl.1 (mX6_layHalvesAbovePages fu _ ihr h0 hc_72) (Nat.le_of_ble_eq_true rfl) dX6_layAbovePages_72 (fun H locs hR => ?_)
  exact r_vretW B hR hr hlk h dX6_layAbovePages_75
def fX6_layAbovePages_b28 (fu : Nat) (L : Lay) (fr : Nat → Int32 → Int32 → Int32 → Mm → Option Mm) (k28 : Int32 → Int32 → Mm → Option Mm) (a0 : Nat) (x1 : Int32) (x3 : Int32) (x4 : Int32) (x5 : Int32) (M : Mm) : Option Mm :=
  if 6 ≤ x5 then
    fX6_layAbovePages_j93 fu L fr M
  else
    if 11 < x3 then
      fX6_layAbovePages_j93 fu L fr M
    else
      if ((x1 * 6) + x4) < 0 ∨ 1920 ≤ ix ((x1 * 6) + x4) then none else
      lt ((M.1 (a0 + 11) (ix ((x1 * 6) + x4)))) fun x6_53 =>
      bi (fX6_byPages fu a0 x1 x4 M) fun r_59 =>
      if r_59 = x6_53 then
        fX6_layAbovePages_j67 fu L fr a0 x1 x3 x4 M
      else
        bw (fX6_layItself fu L a0 x1 x4 x6_53 M) fun r_82 M_82 =>
        lt (x5 + 1) fun x5_87 =>
        k28 r_82 x5_87 M_82
set_option maxRecDepth 100000 in
set_option maxHeartbeats 4000000 in
theorem wX6_layAbovePages_b28 {M' : Mm} {fr : Nat → Int32 → Int32 → Int32 → Mm → Option Mm}   {k28 : Int32 → Int32 → Mm → Option Mm} {a0 : Nat} {x1 : Int32} {x3 : Int32} {x4 : Int32} {x5 : Int32} {M : Mm} (B : Bx p s m args c cX6_layAbovePages 7 RX6 E L) (hr : meth.sig.returnType = none) (hlk : meth.locks = false) (ihr : ∀ {a0 : Nat} {x1 : Int32} {x2 : Int32} {x3 : Int32} {M : Mm} {M' : Mm}, At L a0 T6 → fr a0 x1 x2 x3 M = some M' → Ct l E L yX6_layAbovePages cX6_layAbovePages 7 none (d + 20) [.ref a0, .int x1, .int x2, .int x3] M none M')  (ih28 : ∀ (x4 : Int32) (x5 : Int32) (M : Mm), k28 x4 x5 M = some M' → ∀ (H : Heap) (locs : List Loc) (ls : Array Slot), Rx s E L M H locs → lv_has ls 7 [(0, .ref a0), (1, .int x1), (3, .int x3), (4, .int x4), (5, .int x5)] → W p l e (rmD (d + 22)) s m args below meth c H locs 0 0 (MQ below (QcM E L none M') args s 0 0 E.2.2.2) (F0 m 28 ls [])) (h0 : At L a0 T6) (h : fX6_layAbovePages_b28 fu L fr k28 a0 x1 x3 x4 x5 M = some M') (hR : Rx s E L M H locs) (hl : lv_has ls 7 [(0, .ref a0), (1, .int x1), (3, .int x3), (4, .int x4), (5, .int x5)]) : W p l e (rmD (d + 22)) s m args below meth c H locs 0 0 (MQ below (QcM E L none M') args s 0 0 E.2.2.2) (F0 m 28 ls []) := by
  have hx := B.1
  have hb := B.2.1
  unfold fX6_layAbovePages_b28 at h
  refine lv_iload hx hb dX6_layAbovePages_28 (lv_at hl 4 rfl) ?_
  refine lv_bipush (v := 6) hx hb dX6_layAbovePages_30 (by decide) ?_
  refine lv_icmp_ge (tgt := 93) hx hb dX6_layAbovePages_32 (by decide) (fun c_32 => ?_) (fun c_32 => ?_)
  · rw [if_pos c_32] at h
    exact wX6_layAbovePages_j93 B hr hlk ihr h hR (lv_sub hl [] rfl)
  · rw [if_neg c_32] at h
    refine lv_iload_n hx hb dX6_layAbovePages_35 rfl (lv_at hl 2 rfl) ?_
    refine lv_bipush (v := 11) hx hb dX6_layAbovePages_36 (by decide) ?_
    refine lv_icmp_gt (tgt := 93) hx hb dX6_layAbovePages_38 (by decide) (fun c_38 => ?_) (fun c_38 => ?_)
    · rw [if_pos c_38] at h
      exact wX6_layAbovePages_j93 B hr hlk ihr h hR (lv_sub hl [] rfl)
    · rw [if_neg c_38] at h
      refine lv_aload_n hx hb dX6_layAbovePages_41 rfl (lv_at hl 0 rfl) ?_
      refine gf_X6_18 B hR (h0.at0 rfl) dX6_layAbovePages_42 ?_
      refine lv_iload_n hx hb dX6_layAbovePages_45 rfl (lv_at hl 1 rfl) ?_
      refine lv_bipush (v := 6) hx hb dX6_layAbovePages_46 (by decide) ?_
      refine lv_imul hx hb dX6_layAbovePages_48 ?_
      refine lv_iload hx hb dX6_layAbovePages_49 (lv_at hl 3 rfl) ?_
      refine lv_iadd hx hb dX6_layAbovePages_51 ?_
      obtain ⟨hi_52, h⟩ := ifn_el h
      refine r_iald B hR (h0.at 11 rfl) hi_52 dX6_layAbovePages_52 ?_
      obtain ⟨x6_53, ex6_53, h⟩ := lt_el h
      refine r_nmI ex6_53 ?_
      refine lv_istore (lv' := [(6, .int x6_53), (0, .ref a0), (1, .int x1), (3, .int x3), (4, .int x4), (5, .int x5)]) hx hb dX6_layAbovePages_53 hl (by decide) rfl (fun ls hl => ?_)
      refine lv_aload_n hx hb dX6_layAbovePages_55 rfl (lv_at hl 1 rfl) ?_
      refine lv_iload_n hx hb dX6_layAbovePages_56 rfl (lv_at hl 2 rfl) ?_
      refine lv_iload hx hb dX6_layAbovePages_57 (lv_at hl 4 rfl) ?_
      obtain ⟨r_59, hc_59, h⟩ := bi_el h
      refine iv_X6_98 B hR (h0.at0 rfl) hl.1 (mX6_byPages fu _ h0 hc_59) (Nat.le_of_ble_eq_true rfl) dX6_layAbovePages_59 (fun H locs hR => ?_)
      refine lv_iload hx hb dX6_layAbovePages_62 (lv_at hl 0 rfl) ?_
      refine lv_icmp_ne (tgt := 76) hx hb dX6_layAbovePages_64 (by decide) (fun c_64 => ?_) (fun c_64 => ?_)
      · rw [if_neg c_64] at h
        refine lv_aload_n hx hb dX6_layAbovePages_76 rfl (lv_at hl 1 rfl) ?_
        refine lv_iload_n hx hb dX6_layAbovePages_77 rfl (lv_at hl 2 rfl) ?_
        refine lv_iload hx hb dX6_layAbovePages_78 (lv_at hl 4 rfl) ?_
        refine lv_iload hx hb dX6_layAbovePages_80 (lv_at hl 0 rfl) ?_
        obtain ⟨r_82, M_82, hc_82, h⟩ := bw_el h
        refine iv_X6_111 B hR (h0.at0 rfl) hl.1 (mX6_layItself fu _ h0 hc_82) (Nat.le_of_ble_eq_true rfl) dX6_layAbovePages_82 (fun H locs hR => ?_)
        refine lv_istore (lv' := [(4, .int r_82), (6, .int x6_53), (0, .ref a0), (1, .int x1), (3, .int x3), (5, .int x5)]) hx hb dX6_layAbovePages_85 hl (by decide) rfl (fun ls hl => ?_)
        obtain ⟨x5_87, ex5_87, h⟩ := lt_el h
        refine lv_iinc (v := x5_87) (lv' := [(5, .int x5_87), (4, .int r_82), (6, .int x6_53), (0, .ref a0), (1, .int x1), (3, .int x3)]) hx hb dX6_layAbovePages_87 hl (k := 5) rfl (by rw [ex5_87]; rfl) (by decide) rfl (fun ls hl => ?_)
        refine lv_goto (tgt := 28) hx hb dX6_layAbovePages_90 (by decide) ?_
        exact ih28 r_82 x5_87 M_82 h _ _ _ hR (lv_sub hl [3, 4, 5, 1, 0] rfl)
      · rw [if_pos c_64] at h
        exact wX6_layAbovePages_j67 B hr hlk ihr h0 h hR (lv_sub hl [1, 2, 3, 4] rfl)
def fX6_layAbovePages_l28 (fu : Nat) (L : Lay) (fr : Nat → Int32 → Int32 → Int32 → Mm → Option Mm) (a0 : Nat) (x1 : Int32) (x3 : Int32) (x4 : Int32) (x5 : Int32) (M : Mm) : Option Mm := lp (fun (rec : (Int32 × Int32 × Mm) → Option Mm) (s : Int32 × Int32 × Mm) => fX6_layAbovePages_b28 fu L fr  (fun x4 x5 M => rec (x4, x5, M)) a0 x1 x3 s.1 s.2.1 s.2.2) fu (x4, x5, M)
set_option maxRecDepth 100000 in
set_option maxHeartbeats 4000000 in
theorem wX6_layAbovePages_l28 {M' : Mm} {fr : Nat → Int32 → Int32 → Int32 → Mm → Option Mm}   {a0 : Nat} {x1 : Int32} {x3 : Int32} {x4 : Int32} {x5 : Int32} {M : Mm} (B : Bx p s m args c cX6_layAbovePages 7 RX6 E L) (hr : meth.sig.returnType = none) (hlk : meth.locks = false) (ihr : ∀ {a0 : Nat} {x1 : Int32} {x2 : Int32} {x3 : Int32} {M : Mm} {M' : Mm}, At L a0 T6 → fr a0 x1 x2 x3 M = some M' → Ct l E L yX6_layAbovePages cX6_layAbovePages 7 none (d + 20) [.ref a0, .int x1, .int x2, .int x3] M none M')  (h0 : At L a0 T6) (h : fX6_layAbovePages_l28 fu L fr a0 x1 x3 x4 x5 M = some M') (hR : Rx s E L M H locs) (hl : lv_has ls 7 [(0, .ref a0), (1, .int x1), (3, .int x3), (4, .int x4), (5, .int x5)]) : W p l e (rmD (d + 22)) s m args below meth c H locs 0 0 (MQ below (QcM E L none M') args s 0 0 E.2.2.2) (F0 m 28 ls []) := by
  refine lp_G (G := fun z : Int32 × Int32 × Mm => ∀ (H : Heap) (locs : List Loc) (ls : Array Slot), Rx s E L z.2.2 H locs → lv_has ls 7 [(0, .ref a0), (1, .int x1), (3, .int x3), (4, .int z.1), (5, .int z.2.1)] → W p l e (rmD (d + 22)) s m args below meth c H locs 0 0 (MQ below (QcM E L none M') args s 0 0 E.2.2.2) (F0 m 28 ls [])) (fun rec ih z h H locs ls hR hl => ?_) fu _ h H locs ls hR hl
  exact wX6_layAbovePages_b28 B hr hlk ihr  (fun x4 x5 M h => ih (x4, x5, M) h) h0 h hR hl
def fX6_layAbovePages_R (fu : Nat) (L : Lay) (fr : Nat → Int32 → Int32 → Int32 → Mm → Option Mm) (a0 : Nat) (x1 : Int32) (x2 : Int32) (x3 : Int32) (M : Mm) : Option Mm :=
  if x1 < 0 ∨ 320 ≤ ix x1 then none else
  if 16 < (M.1 ((a0 + 1) + 2) (ix x1)) then
    fX6_layAbovePages_l28 fu L fr a0 x1 x3 x2 0 M
  else
    bm (fX6_layPage fu L a0 x1 x2 x3 M) fun M_18 =>
    some M_18
set_option maxRecDepth 100000 in
set_option maxHeartbeats 4000000 in
theorem mX6_layAbovePages_R {l : Launch} {E : Ge} {L : Lay} (fu d : Nat) {a0 : Nat} {x1 : Int32} {x2 : Int32} {x3 : Int32} {M : Mm} {M' : Mm} {fr : Nat → Int32 → Int32 → Int32 → Mm → Option Mm} (ihr : ∀ {a0 : Nat} {x1 : Int32} {x2 : Int32} {x3 : Int32} {M : Mm} {M' : Mm}, At L a0 T6 → fr a0 x1 x2 x3 M = some M' → Ct l E L yX6_layAbovePages cX6_layAbovePages 7 none (d + 20) [.ref a0, .int x1, .int x2, .int x3] M none M') (h0 : At L a0 T6) (h : fX6_layAbovePages_R fu L fr a0 x1 x2 x3 M = some M') : Ct l E L yX6_layAbovePages cX6_layAbovePages 7 none (d + 22) [.ref a0, .int x1, .int x2, .int x3] M none M' := by
  refine Ct.of (by decide) ?_
  intro p e s m below meth c hr hlk B hR
  have B : Bx p s m _ c cX6_layAbovePages 7 RX6 E L := B
  have hx := B.1
  have hb := B.2.1
  have hl := lv_entry ([.ref a0, .int x1, .int x2, .int x3]) (n := 7) (Nat.le_of_ble_eq_true rfl)
  rw [lg_entry_eq]
  generalize (lg_sl ([.ref a0, .int x1, .int x2, .int x3]) ++ List.replicate (7 - (lg_sl ([.ref a0, .int x1, .int x2, .int x3])).length) Slot.unset).toArray = ls at hl ⊢
  have hl : lv_has ls 7 [(0, .ref a0), (1, .int x1), (2, .int x2), (3, .int x3)] := hl
  unfold fX6_layAbovePages_R at h
  refine lv_aload_n hx hb dX6_layAbovePages_0 rfl (lv_at hl 0 rfl) ?_
  refine gf_X6_12 B hR (h0.at0 rfl) dX6_layAbovePages_1 ?_
  refine gf_X6_60 B hR ((sb_6_0 h0).at0 rfl) dX6_layAbovePages_4 ?_
  refine lv_iload_n hx hb dX6_layAbovePages_7 rfl (lv_at hl 1 rfl) ?_
  obtain ⟨hi_8, h⟩ := ifn_el h
  refine r_iald B hR ((sb_6_0 h0).at 2 rfl) hi_8 dX6_layAbovePages_8 ?_
  refine lv_bipush (v := 16) hx hb dX6_layAbovePages_9 (by decide) ?_
  refine lv_icmp_gt (tgt := 22) hx hb dX6_layAbovePages_11 (by decide) (fun c_11 => ?_) (fun c_11 => ?_)
  · rw [if_pos c_11] at h
    refine lv_iload_n hx hb dX6_layAbovePages_22 rfl (lv_at hl 2 rfl) ?_
    refine lv_istore (lv' := [(4, .int x2), (0, .ref a0), (1, .int x1), (2, .int x2), (3, .int x3)]) hx hb dX6_layAbovePages_23 hl (by decide) rfl (fun ls hl => ?_)
    refine lv_iconst (v := 0) hx hb dX6_layAbovePages_25 (by decide) ?_
    refine lv_istore (lv' := [(5, .int 0), (4, .int x2), (0, .ref a0), (1, .int x1), (2, .int x2), (3, .int x3)]) hx hb dX6_layAbovePages_26 hl (by decide) rfl (fun ls hl => ?_)
    exact wX6_layAbovePages_l28 B hr hlk ihr h0 h hR (lv_sub hl [2, 3, 5, 1, 0] rfl)
  · rw [if_neg c_11] at h
    refine lv_aload_n hx hb dX6_layAbovePages_14 rfl (lv_at hl 0 rfl) ?_
    refine lv_iload_n hx hb dX6_layAbovePages_15 rfl (lv_at hl 1 rfl) ?_
    refine lv_iload_n hx hb dX6_layAbovePages_16 rfl (lv_at hl 2 rfl) ?_
    refine lv_iload_n hx hb dX6_layAbovePages_17 rfl (lv_at hl 3 rfl) ?_
    obtain ⟨M_18, hc_18, h⟩ := bm_el h
    refine iv_X6_121 B hR (h0.at0 rfl) hl.1 (mX6_layPage fu _ h0 hc_18) (Nat.le_of_ble_eq_true rfl) dX6_layAbovePages_18 (fun H locs hR => ?_)
    exact r_vretW B hR hr hlk h dX6_layAbovePages_21
def fX6_layAbovePages (fu : Nat) (L : Lay) : Nat → Nat → Int32 → Int32 → Int32 → Mm → Option Mm
  | 0 => fun _ _ _ _ _ => none
  | dp + 1 => fun a0 x1 x2 x3 M => fX6_layAbovePages_R fu L (fX6_layAbovePages fu L dp) a0 x1 x2 x3 M
theorem mX6_layAbovePages_N {l : Launch} {E : Ge} {L : Lay} (fu dp : Nat) : ∀ (d : Nat) {a0 : Nat} {x1 : Int32} {x2 : Int32} {x3 : Int32} {M : Mm} {M' : Mm} (h0 : At L a0 T6) (h : fX6_layAbovePages fu L dp a0 x1 x2 x3 M = some M'), Ct l E L yX6_layAbovePages cX6_layAbovePages 7 none (d + 2 * dp + 20) [.ref a0, .int x1, .int x2, .int x3] M none M' := by
  induction dp with
  | zero => intro d _ _ _ _ _ _ _ h; cases h
  | succ dp ih => intro d _ _ _ _ _ _ h0 h; exact mX6_layAbovePages_R fu (d + 2 * dp) (fr := fX6_layAbovePages fu L dp) (fun h0 h => ih d h0 h) h0 h
theorem mX6_layAbovePages {l : Launch} {E : Ge} {L : Lay} (fu d : Nat) {a0 : Nat} {x1 : Int32} {x2 : Int32} {x3 : Int32} {M : Mm} {M' : Mm} (h0 : At L a0 T6) (h : fX6_layAbovePages fu L 16 a0 x1 x2 x3 M = some M') : Ct l E L yX6_layAbovePages cX6_layAbovePages 7 none (d + 52) [.ref a0, .int x1, .int x2, .int x3] M none M' := mX6_layAbovePages_N fu 16 d h0 h
def fX6_layPagedPlan_j84 (fu : Nat) (L : Lay) (a0 : Nat) (a2 : Nat) (a3 : Nat) (M : Mm) : Option Mm :=
  lt (wR M a0 5 (some a2)) fun M_86 =>
  bl (M_86.2.2 a0 5) fun q_90 =>
  gd (atB L q_90 (T0 160) = true) <|
  lt (wI M_86 q_90 3 0) fun M_94 =>
  lt (wR M_94 a0 6 (some a3)) fun M_99 =>
  bm (fX6_layAbovePages fu L 16 a0 0 5 0 M_99) fun M_106 =>
  some M_106
set_option maxRecDepth 100000 in
set_option maxHeartbeats 4000000 in
theorem wX6_layPagedPlan_j84 {M' : Mm}   {a0 : Nat} {a2 : Nat} {a3 : Nat} {M : Mm} (B : Bx p s m args c cX6_layPagedPlan 5 RX6 E L) (hr : meth.sig.returnType = none) (hlk : meth.locks = false)  (h0 : At L a0 T6) (h2 : At L a2 (T0 160)) (h3 : (a3, (0, 64)) ∈ L) (h : fX6_layPagedPlan_j84 fu L a0 a2 a3 M = some M') (hR : Rx s E L M H locs) (hl : lv_has ls 5 [(0, .ref a0), (2, .ref a2), (3, .ref a3)]) : W p l e (rmD (d + 53)) s m args below meth c H locs 0 0 (MQ below (QcM E L none M') args s 0 0 E.2.2.2) (F0 m 84 ls []) := by
  have hx := B.1
  have hb := B.2.1
  unfold fX6_layPagedPlan_j84 at h
  refine lv_aload_n hx hb dX6_layPagedPlan_84 rfl (lv_at hl 0 rfl) ?_
  refine lv_aload_n hx hb dX6_layPagedPlan_85 rfl (lv_at hl 1 rfl) ?_
  obtain ⟨M_86, eM_86, h⟩ := lt_el h
  refine pm_X6_46 B hR (h0.at0 rfl) dX6_layPagedPlan_86 (fun H locs hR => ?_)
  rw [← eM_86] at hR
  refine lv_aload_n hx hb dX6_layPagedPlan_89 rfl (lv_at hl 0 rfl) ?_
  obtain ⟨q_90, hq_90, h⟩ := bl_el h
  obtain ⟨hs_90, h⟩ := gd_el h
  refine gm_X6_46 B hR (h0.at0 rfl) hq_90 dX6_layPagedPlan_90 ?_
  refine lv_iconst (v := 0) hx hb dX6_layPagedPlan_93 (by decide) ?_
  obtain ⟨M_94, eM_94, h⟩ := lt_el h
  refine pf_X6_50 B hR ((atB_at hs_90).at0 rfl) dX6_layPagedPlan_94 (fun H locs hR => ?_)
  rw [← eM_94] at hR
  refine lv_aload_n hx hb dX6_layPagedPlan_97 rfl (lv_at hl 0 rfl) ?_
  refine lv_aload_n hx hb dX6_layPagedPlan_98 rfl (lv_at hl 2 rfl) ?_
  obtain ⟨M_99, eM_99, h⟩ := lt_el h
  refine pm_X6_70 B hR (h0.at0 rfl) dX6_layPagedPlan_99 (fun H locs hR => ?_)
  rw [← eM_99] at hR
  refine lv_aload_n hx hb dX6_layPagedPlan_102 rfl (lv_at hl 0 rfl) ?_
  refine lv_iconst (v := 0) hx hb dX6_layPagedPlan_103 (by decide) ?_
  refine lv_iconst (v := 5) hx hb dX6_layPagedPlan_104 (by decide) ?_
  refine lv_iconst (v := 0) hx hb dX6_layPagedPlan_105 (by decide) ?_
  obtain ⟨M_106, hc_106, h⟩ := bm_el h
  refine iv_X6_73 B hR (h0.at0 rfl) hl.1 (mX6_layAbovePages fu _ h0 hc_106) (Nat.le_of_ble_eq_true rfl) dX6_layPagedPlan_106 (fun H locs hR => ?_)
  exact r_vretW B hR hr hlk h dX6_layPagedPlan_109
def fX6_layPagedPlan_j78 (fu : Nat) (L : Lay) (k28 : Int32 → Mm → Option Mm) (a0 : Nat) (a2 : Nat) (a3 : Nat) (x4 : Int32) (M : Mm) : Option Mm :=
  lt (x4 + (-1)) fun x4_78 =>
  k28 x4_78 M
set_option maxRecDepth 100000 in
set_option maxHeartbeats 4000000 in
theorem wX6_layPagedPlan_j78 {M' : Mm}  {k28 : Int32 → Mm → Option Mm} {a0 : Nat} {a2 : Nat} {a3 : Nat} {x4 : Int32} {M : Mm} (B : Bx p s m args c cX6_layPagedPlan 5 RX6 E L) (hr : meth.sig.returnType = none) (hlk : meth.locks = false) (ih28 : ∀ (x4 : Int32) (M : Mm), k28 x4 M = some M' → ∀ (H : Heap) (locs : List Loc) (ls : Array Slot), Rx s E L M H locs → lv_has ls 5 [(0, .ref a0), (2, .ref a2), (3, .ref a3), (4, .int x4)] → W p l e (rmD (d + 53)) s m args below meth c H locs 0 0 (MQ below (QcM E L none M') args s 0 0 E.2.2.2) (F0 m 28 ls [])) (h0 : At L a0 T6) (h2 : At L a2 (T0 160)) (h3 : (a3, (0, 64)) ∈ L) (h : fX6_layPagedPlan_j78 fu L k28 a0 a2 a3 x4 M = some M') (hR : Rx s E L M H locs) (hl : lv_has ls 5 [(0, .ref a0), (2, .ref a2), (3, .ref a3), (4, .int x4)]) : W p l e (rmD (d + 53)) s m args below meth c H locs 0 0 (MQ below (QcM E L none M') args s 0 0 E.2.2.2) (F0 m 78 ls []) := by
  have hx := B.1
  have hb := B.2.1
  unfold fX6_layPagedPlan_j78 at h
  obtain ⟨x4_78, ex4_78, h⟩ := lt_el h
  refine lv_iinc (v := x4_78) (lv' := [(4, .int x4_78), (0, .ref a0), (2, .ref a2), (3, .ref a3)]) hx hb dX6_layPagedPlan_78 hl (k := 3) rfl (by rw [ex4_78]; rfl) (by decide) rfl (fun ls hl => ?_)
  refine lv_goto (tgt := 28) hx hb dX6_layPagedPlan_81 (by decide) ?_
  exact ih28 x4_78 M h _ _ _ hR (lv_sub hl [1, 2, 3, 0] rfl)
def fX6_layPagedPlan_b28 (fu : Nat) (L : Lay) (k28 : Int32 → Mm → Option Mm) (a0 : Nat) (a2 : Nat) (a3 : Nat) (x4 : Int32) (M : Mm) : Option Mm :=
  if x4 < 0 then
    fX6_layPagedPlan_j84 fu L a0 a2 a3 M
  else
    if x4 < 0 ∨ 320 ≤ ix x4 then none else
    if (M.1 ((a0 + 1) + 2) (ix x4)) ≤ 16 then
      if (M.1 ((a0 + 1) + 2) (ix x4)) = 16 then
        bm (fX6_choosePageKinds fu a0 x4 M) fun M_75 =>
        fX6_layPagedPlan_j78 fu L k28 a0 a2 a3 x4 M_75
      else
        fX6_layPagedPlan_j78 fu L k28 a0 a2 a3 x4 M
    else
      bm (fX6_weighAbovePages fu a0 x4 M) fun M_51 =>
      fX6_layPagedPlan_j78 fu L k28 a0 a2 a3 x4 M_51
set_option maxRecDepth 100000 in
set_option maxHeartbeats 4000000 in
theorem wX6_layPagedPlan_b28 {M' : Mm}   {k28 : Int32 → Mm → Option Mm} {a0 : Nat} {a2 : Nat} {a3 : Nat} {x4 : Int32} {M : Mm} (B : Bx p s m args c cX6_layPagedPlan 5 RX6 E L) (hr : meth.sig.returnType = none) (hlk : meth.locks = false)  (ih28 : ∀ (x4 : Int32) (M : Mm), k28 x4 M = some M' → ∀ (H : Heap) (locs : List Loc) (ls : Array Slot), Rx s E L M H locs → lv_has ls 5 [(0, .ref a0), (2, .ref a2), (3, .ref a3), (4, .int x4)] → W p l e (rmD (d + 53)) s m args below meth c H locs 0 0 (MQ below (QcM E L none M') args s 0 0 E.2.2.2) (F0 m 28 ls [])) (h0 : At L a0 T6) (h2 : At L a2 (T0 160)) (h3 : (a3, (0, 64)) ∈ L) (h : fX6_layPagedPlan_b28 fu L k28 a0 a2 a3 x4 M = some M') (hR : Rx s E L M H locs) (hl : lv_has ls 5 [(0, .ref a0), (2, .ref a2), (3, .ref a3), (4, .int x4)]) : W p l e (rmD (d + 53)) s m args below meth c H locs 0 0 (MQ below (QcM E L none M') args s 0 0 E.2.2.2) (F0 m 28 ls []) := by
  have hx := B.1
  have hb := B.2.1
  unfold fX6_layPagedPlan_b28 at h
  refine lv_iload hx hb dX6_layPagedPlan_28 (lv_at hl 3 rfl) ?_
  refine lv_if_lt (tgt := 84) hx hb dX6_layPagedPlan_30 (by decide) (fun c_30 => ?_) (fun c_30 => ?_)
  · rw [if_pos c_30] at h
    exact wX6_layPagedPlan_j84 B hr hlk h0 h2 h3 h hR (lv_sub hl [0, 1, 2] rfl)
  · rw [if_neg c_30] at h
    refine lv_aload_n hx hb dX6_layPagedPlan_33 rfl (lv_at hl 0 rfl) ?_
    refine gf_X6_12 B hR (h0.at0 rfl) dX6_layPagedPlan_34 ?_
    refine gf_X6_60 B hR ((sb_6_0 h0).at0 rfl) dX6_layPagedPlan_37 ?_
    refine lv_iload hx hb dX6_layPagedPlan_40 (lv_at hl 3 rfl) ?_
    obtain ⟨hi_42, h⟩ := ifn_el h
    refine r_iald B hR ((sb_6_0 h0).at 2 rfl) hi_42 dX6_layPagedPlan_42 ?_
    refine lv_bipush (v := 16) hx hb dX6_layPagedPlan_43 (by decide) ?_
    refine lv_icmp_le (tgt := 57) hx hb dX6_layPagedPlan_45 (by decide) (fun c_45 => ?_) (fun c_45 => ?_)
    · rw [if_pos c_45] at h
      refine lv_aload_n hx hb dX6_layPagedPlan_57 rfl (lv_at hl 0 rfl) ?_
      refine gf_X6_12 B hR (h0.at0 rfl) dX6_layPagedPlan_58 ?_
      refine gf_X6_60 B hR ((sb_6_0 h0).at0 rfl) dX6_layPagedPlan_61 ?_
      refine lv_iload hx hb dX6_layPagedPlan_64 (lv_at hl 3 rfl) ?_
      refine r_iald B hR ((sb_6_0 h0).at 2 rfl) hi_42 dX6_layPagedPlan_66 ?_
      refine lv_bipush (v := 16) hx hb dX6_layPagedPlan_67 (by decide) ?_
      refine lv_icmp_ne (tgt := 78) hx hb dX6_layPagedPlan_69 (by decide) (fun c_69 => ?_) (fun c_69 => ?_)
      · rw [if_neg c_69] at h
        exact wX6_layPagedPlan_j78 B hr hlk ih28 h0 h2 h3 h hR hl
      · rw [if_pos c_69] at h
        refine lv_aload_n hx hb dX6_layPagedPlan_72 rfl (lv_at hl 0 rfl) ?_
        refine lv_iload hx hb dX6_layPagedPlan_73 (lv_at hl 3 rfl) ?_
        obtain ⟨M_75, hc_75, h⟩ := bm_el h
        refine iv_X6_67 B hR (h0.at0 rfl) hl.1 (mX6_choosePageKinds fu _ h0 hc_75) (Nat.le_of_ble_eq_true rfl) dX6_layPagedPlan_75 (fun H locs hR => ?_)
        exact wX6_layPagedPlan_j78 B hr hlk ih28 h0 h2 h3 h hR hl
    · rw [if_neg c_45] at h
      refine lv_aload_n hx hb dX6_layPagedPlan_48 rfl (lv_at hl 0 rfl) ?_
      refine lv_iload hx hb dX6_layPagedPlan_49 (lv_at hl 3 rfl) ?_
      obtain ⟨M_51, hc_51, h⟩ := bm_el h
      refine iv_X6_63 B hR (h0.at0 rfl) hl.1 (mX6_weighAbovePages fu _ h0 hc_51) (Nat.le_of_ble_eq_true rfl) dX6_layPagedPlan_51 (fun H locs hR => ?_)
      refine lv_goto (tgt := 78) hx hb dX6_layPagedPlan_54 (by decide) ?_
      exact wX6_layPagedPlan_j78 B hr hlk ih28 h0 h2 h3 h hR hl
def fX6_layPagedPlan_l28 (fu : Nat) (L : Lay) (a0 : Nat) (a2 : Nat) (a3 : Nat) (x4 : Int32) (M : Mm) : Option Mm := lp (fun (rec : (Int32 × Mm) → Option Mm) (s : Int32 × Mm) => fX6_layPagedPlan_b28 fu L  (fun x4 M => rec (x4, M)) a0 a2 a3 s.1 s.2) fu (x4, M)
set_option maxRecDepth 100000 in
set_option maxHeartbeats 4000000 in
theorem wX6_layPagedPlan_l28 {M' : Mm}   {a0 : Nat} {a2 : Nat} {a3 : Nat} {x4 : Int32} {M : Mm} (B : Bx p s m args c cX6_layPagedPlan 5 RX6 E L) (hr : meth.sig.returnType = none) (hlk : meth.locks = false)  (h0 : At L a0 T6) (h2 : At L a2 (T0 160)) (h3 : (a3, (0, 64)) ∈ L) (h : fX6_layPagedPlan_l28 fu L a0 a2 a3 x4 M = some M') (hR : Rx s E L M H locs) (hl : lv_has ls 5 [(0, .ref a0), (2, .ref a2), (3, .ref a3), (4, .int x4)]) : W p l e (rmD (d + 53)) s m args below meth c H locs 0 0 (MQ below (QcM E L none M') args s 0 0 E.2.2.2) (F0 m 28 ls []) := by
  refine lp_G (G := fun z : Int32 × Mm => ∀ (H : Heap) (locs : List Loc) (ls : Array Slot), Rx s E L z.2 H locs → lv_has ls 5 [(0, .ref a0), (2, .ref a2), (3, .ref a3), (4, .int z.1)] → W p l e (rmD (d + 53)) s m args below meth c H locs 0 0 (MQ below (QcM E L none M') args s 0 0 E.2.2.2) (F0 m 28 ls [])) (fun rec ih z h H locs ls hR hl => ?_) fu _ h H locs ls hR hl
  exact wX6_layPagedPlan_b28 B hr hlk  (fun x4 M h => ih (x4, M) h) h0 h2 h3 h hR hl
def fX6_layPagedPlan (fu : Nat) (L : Lay) (a0 : Nat) (a1 : Nat) (a2 : Nat) (a3 : Nat) (M : Mm) : Option Mm :=
  bm (fX9_make fu (a0 + 1) a1 (M.1 a1 2) M) fun M_9 =>
  lt (wI M_9 a0 4 1) fun M_14 =>
  lt (((M_14.1 (a0 + 1) 5) - 1)) fun x4_26 =>
  fX6_layPagedPlan_l28 fu L a0 a2 a3 x4_26 M_14
set_option maxRecDepth 100000 in
set_option maxHeartbeats 4000000 in
theorem mX6_layPagedPlan {l : Launch} {E : Ge} {L : Lay} (fu d : Nat) {a0 : Nat} {a1 : Nat} {a2 : Nat} {a3 : Nat} {M : Mm} {M' : Mm}  (h0 : At L a0 T6) (h1 : At L a1 T8) (h2 : At L a2 (T0 160)) (h3 : (a3, (0, 64)) ∈ L) (h : fX6_layPagedPlan fu L a0 a1 a2 a3 M = some M') : Ct l E L yX6_layPagedPlan cX6_layPagedPlan 5 none (d + 53) [.ref a0, .ref a1, .ref a2, .ref a3] M none M' := by
  refine Ct.of (by decide) ?_
  intro p e s m below meth c hr hlk B hR
  have B : Bx p s m _ c cX6_layPagedPlan 5 RX6 E L := B
  have hx := B.1
  have hb := B.2.1
  have hl := lv_entry ([.ref a0, .ref a1, .ref a2, .ref a3]) (n := 5) (Nat.le_of_ble_eq_true rfl)
  rw [lg_entry_eq]
  generalize (lg_sl ([.ref a0, .ref a1, .ref a2, .ref a3]) ++ List.replicate (5 - (lg_sl ([.ref a0, .ref a1, .ref a2, .ref a3])).length) Slot.unset).toArray = ls at hl ⊢
  have hl : lv_has ls 5 [(0, .ref a0), (1, .ref a1), (2, .ref a2), (3, .ref a3)] := hl
  unfold fX6_layPagedPlan at h
  refine lv_aload_n hx hb dX6_layPagedPlan_0 rfl (lv_at hl 0 rfl) ?_
  refine gf_X6_12 B hR (h0.at0 rfl) dX6_layPagedPlan_1 ?_
  refine lv_aload_n hx hb dX6_layPagedPlan_4 rfl (lv_at hl 1 rfl) ?_
  refine lv_aload_n hx hb dX6_layPagedPlan_5 rfl (lv_at hl 1 rfl) ?_
  refine gf_X6_28 B hR (h1.at0 rfl) dX6_layPagedPlan_6 ?_
  obtain ⟨M_9, hc_9, h⟩ := bm_el h
  refine iv_X6_34 B hR ((sb_6_0 h0).at0 rfl) hl.1 (mX9_make fu _ (sb_6_0 h0) h1 hc_9) (Nat.le_of_ble_eq_true rfl) dX6_layPagedPlan_9 (fun H locs hR => ?_)
  refine lv_aload_n hx hb dX6_layPagedPlan_12 rfl (lv_at hl 0 rfl) ?_
  refine lv_iconst (v := 1) hx hb dX6_layPagedPlan_13 (by decide) ?_
  obtain ⟨M_14, eM_14, h⟩ := lt_el h
  refine pz_X6_38 B hR (h0.at0 rfl) (Or.inr rfl) dX6_layPagedPlan_14 (fun H locs hR => ?_)
  rw [← eM_14] at hR
  refine lv_aload_n hx hb dX6_layPagedPlan_17 rfl (lv_at hl 0 rfl) ?_
  refine gf_X6_12 B hR (h0.at0 rfl) dX6_layPagedPlan_18 ?_
  refine gf_X6_59 B hR ((sb_6_0 h0).at0 rfl) dX6_layPagedPlan_21 ?_
  refine lv_iconst (v := 1) hx hb dX6_layPagedPlan_24 (by decide) ?_
  refine lv_isub hx hb dX6_layPagedPlan_25 ?_
  obtain ⟨x4_26, ex4_26, h⟩ := lt_el h
  refine r_nmI ex4_26 ?_
  refine lv_istore (lv' := [(4, .int x4_26), (0, .ref a0), (1, .ref a1), (2, .ref a2), (3, .ref a3)]) hx hb dX6_layPagedPlan_26 hl (by decide) rfl (fun ls hl => ?_)
  exact wX6_layPagedPlan_l28 B hr hlk h0 h2 h3 h hR (lv_sub hl [1, 3, 4, 0] rfl)
end G16_planner_lean_txt
