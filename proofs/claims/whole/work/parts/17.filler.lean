theorem dX3_cell_0 : decode cX3_cell 0 = .ok (.iload_n 0, 1) := by decide +kernel
theorem dX3_cell_1 : decode cX3_cell 1 = .ok (.bipush 6, 2) := by decide +kernel
theorem dX3_cell_3 : decode cX3_cell 3 = .ok (.imul, 1) := by decide +kernel
theorem dX3_cell_4 : decode cX3_cell 4 = .ok (.iload_n 1, 1) := by decide +kernel
theorem dX3_cell_5 : decode cX3_cell 5 = .ok (.iadd, 1) := by decide +kernel
theorem dX3_cell_6 : decode cX3_cell 6 = .ok (.bipush 11, 2) := by decide +kernel
theorem dX3_cell_8 : decode cX3_cell 8 = .ok (.imul, 1) := by decide +kernel
theorem dX3_cell_9 : decode cX3_cell 9 = .ok (.iload_n 2, 1) := by decide +kernel
theorem dX3_cell_10 : decode cX3_cell 10 = .ok (.iadd, 1) := by decide +kernel
theorem dX3_cell_11 : decode cX3_cell 11 = .ok (.ireturn, 1) := by decide +kernel
theorem dX3_bestByHalves_0 : decode cX3_bestByHalves 0 = .ok (.iload_n 1, 1) := by decide +kernel
theorem dX3_bestByHalves_1 : decode cX3_bestByHalves 1 = .ok (.iconst 1, 1) := by decide +kernel
theorem dX3_bestByHalves_2 : decode cX3_bestByHalves 2 = .ok (.iadd, 1) := by decide +kernel
theorem dX3_bestByHalves_3 : decode cX3_bestByHalves 3 = .ok (.iload_n 2, 1) := by decide +kernel
theorem dX3_bestByHalves_4 : decode cX3_bestByHalves 4 = .ok (.iconst 0, 1) := by decide +kernel
theorem dX3_bestByHalves_5 : decode cX3_bestByHalves 5 = .ok (.invokestatic 39, 3) := by decide +kernel
theorem dX3_bestByHalves_8 : decode cX3_bestByHalves 8 = .ok (.istore 4, 2) := by decide +kernel
theorem dX3_bestByHalves_10 : decode cX3_bestByHalves 10 = .ok (.aload_n 0, 1) := by decide +kernel
theorem dX3_bestByHalves_11 : decode cX3_bestByHalves 11 = .ok (.getfield 12, 3) := by decide +kernel
theorem dX3_bestByHalves_14 : decode cX3_bestByHalves 14 = .ok (.getfield 70, 3) := by decide +kernel
theorem dX3_bestByHalves_17 : decode cX3_bestByHalves 17 = .ok (.iload_n 1, 1) := by decide +kernel
theorem dX3_bestByHalves_18 : decode cX3_bestByHalves 18 = .ok (.iaload, 1) := by decide +kernel
theorem dX3_bestByHalves_19 : decode cX3_bestByHalves 19 = .ok (.iload_n 2, 1) := by decide +kernel
theorem dX3_bestByHalves_20 : decode cX3_bestByHalves 20 = .ok (.iload_n 3, 1) := by decide +kernel
theorem dX3_bestByHalves_21 : decode cX3_bestByHalves 21 = .ok (.invokestatic 39, 3) := by decide +kernel
theorem dX3_bestByHalves_24 : decode cX3_bestByHalves 24 = .ok (.istore 5, 2) := by decide +kernel
theorem dX3_bestByHalves_26 : decode cX3_bestByHalves 26 = .ok (.iconst 0, 1) := by decide +kernel
theorem dX3_bestByHalves_27 : decode cX3_bestByHalves 27 = .ok (.istore 6, 2) := by decide +kernel
theorem dX3_bestByHalves_29 : decode cX3_bestByHalves 29 = .ok (.iconst 0, 1) := by decide +kernel
theorem dX3_bestByHalves_30 : decode cX3_bestByHalves 30 = .ok (.istore 7, 2) := by decide +kernel
theorem dX3_bestByHalves_32 : decode cX3_bestByHalves 32 = .ok (.iload 7, 2) := by decide +kernel
theorem dX3_bestByHalves_34 : decode cX3_bestByHalves 34 = .ok (.iload_n 3, 1) := by decide +kernel
theorem dX3_bestByHalves_35 : decode cX3_bestByHalves 35 = .ok (.if_icmp .gt 37, 3) := by decide +kernel
theorem dX3_bestByHalves_38 : decode cX3_bestByHalves 38 = .ok (.iload 6, 2) := by decide +kernel
theorem dX3_bestByHalves_40 : decode cX3_bestByHalves 40 = .ok (.aload_n 0, 1) := by decide +kernel
theorem dX3_bestByHalves_41 : decode cX3_bestByHalves 41 = .ok (.getfield 18, 3) := by decide +kernel
theorem dX3_bestByHalves_44 : decode cX3_bestByHalves 44 = .ok (.iload 4, 2) := by decide +kernel
theorem dX3_bestByHalves_46 : decode cX3_bestByHalves 46 = .ok (.iload 7, 2) := by decide +kernel
theorem dX3_bestByHalves_48 : decode cX3_bestByHalves 48 = .ok (.iadd, 1) := by decide +kernel
theorem dX3_bestByHalves_49 : decode cX3_bestByHalves 49 = .ok (.iaload, 1) := by decide +kernel
theorem dX3_bestByHalves_50 : decode cX3_bestByHalves 50 = .ok (.aload_n 0, 1) := by decide +kernel
theorem dX3_bestByHalves_51 : decode cX3_bestByHalves 51 = .ok (.getfield 18, 3) := by decide +kernel
theorem dX3_bestByHalves_54 : decode cX3_bestByHalves 54 = .ok (.iload 5, 2) := by decide +kernel
theorem dX3_bestByHalves_56 : decode cX3_bestByHalves 56 = .ok (.iload 7, 2) := by decide +kernel
theorem dX3_bestByHalves_58 : decode cX3_bestByHalves 58 = .ok (.isub, 1) := by decide +kernel
theorem dX3_bestByHalves_59 : decode cX3_bestByHalves 59 = .ok (.iaload, 1) := by decide +kernel
theorem dX3_bestByHalves_60 : decode cX3_bestByHalves 60 = .ok (.iadd, 1) := by decide +kernel
theorem dX3_bestByHalves_61 : decode cX3_bestByHalves 61 = .ok (.invokestatic 64, 3) := by decide +kernel
theorem dX3_bestByHalves_64 : decode cX3_bestByHalves 64 = .ok (.istore 6, 2) := by decide +kernel
theorem dX3_bestByHalves_66 : decode cX3_bestByHalves 66 = .ok (.iinc 7 1, 3) := by decide +kernel
theorem dX3_bestByHalves_69 : decode cX3_bestByHalves 69 = .ok (.goto (-37), 3) := by decide +kernel
theorem dX3_bestByHalves_72 : decode cX3_bestByHalves 72 = .ok (.iload 6, 2) := by decide +kernel
theorem dX3_bestByHalves_74 : decode cX3_bestByHalves 74 = .ok (.ireturn, 1) := by decide +kernel
theorem dX3_asItIs_0 : decode cX3_asItIs 0 = .ok (.aload_n 0, 1) := by decide +kernel
theorem dX3_asItIs_1 : decode cX3_asItIs 1 = .ok (.getfield 12, 3) := by decide +kernel
theorem dX3_asItIs_4 : decode cX3_asItIs 4 = .ok (.getfield 70, 3) := by decide +kernel
theorem dX3_asItIs_7 : decode cX3_asItIs 7 = .ok (.iload_n 1, 1) := by decide +kernel
theorem dX3_asItIs_8 : decode cX3_asItIs 8 = .ok (.iaload, 1) := by decide +kernel
theorem dX3_asItIs_9 : decode cX3_asItIs 9 = .ok (.ifCond .eq 11, 3) := by decide +kernel
theorem dX3_asItIs_12 : decode cX3_asItIs 12 = .ok (.aload_n 0, 1) := by decide +kernel
theorem dX3_asItIs_13 : decode cX3_asItIs 13 = .ok (.iload_n 1, 1) := by decide +kernel
theorem dX3_asItIs_14 : decode cX3_asItIs 14 = .ok (.iload_n 2, 1) := by decide +kernel
theorem dX3_asItIs_15 : decode cX3_asItIs 15 = .ok (.iload_n 3, 1) := by decide +kernel
theorem dX3_asItIs_16 : decode cX3_asItIs 16 = .ok (.invokevirtual 73, 3) := by decide +kernel
theorem dX3_asItIs_19 : decode cX3_asItIs 19 = .ok (.ireturn, 1) := by decide +kernel
theorem dX3_asItIs_20 : decode cX3_asItIs 20 = .ok (.aload_n 0, 1) := by decide +kernel
theorem dX3_asItIs_21 : decode cX3_asItIs 21 = .ok (.getfield 12, 3) := by decide +kernel
theorem dX3_asItIs_24 : decode cX3_asItIs 24 = .ok (.iload_n 1, 1) := by decide +kernel
theorem dX3_asItIs_25 : decode cX3_asItIs 25 = .ok (.iload_n 2, 1) := by decide +kernel
theorem dX3_asItIs_26 : decode cX3_asItIs 26 = .ok (.iconst 5, 1) := by decide +kernel
theorem dX3_asItIs_27 : decode cX3_asItIs 27 = .ok (.invokevirtual 76, 3) := by decide +kernel
theorem dX3_asItIs_30 : decode cX3_asItIs 30 = .ok (.ifCond .eq 14, 3) := by decide +kernel
theorem dX3_asItIs_33 : decode cX3_asItIs 33 = .ok (.aload_n 0, 1) := by decide +kernel
theorem dX3_asItIs_34 : decode cX3_asItIs 34 = .ok (.getfield 12, 3) := by decide +kernel
theorem dX3_asItIs_37 : decode cX3_asItIs 37 = .ok (.iload_n 1, 1) := by decide +kernel
theorem dX3_asItIs_38 : decode cX3_asItIs 38 = .ok (.invokevirtual 54, 3) := by decide +kernel
theorem dX3_asItIs_41 : decode cX3_asItIs 41 = .ok (.goto 4, 3) := by decide +kernel
theorem dX3_asItIs_44 : decode cX3_asItIs 44 = .ok (.iconst 0, 1) := by decide +kernel
theorem dX3_asItIs_45 : decode cX3_asItIs 45 = .ok (.ireturn, 1) := by decide +kernel
theorem dX3_byItself_0 : decode cX3_byItself 0 = .ok (.iconst 0, 1) := by decide +kernel
theorem dX3_byItself_1 : decode cX3_byItself 1 = .ok (.istore 4, 2) := by decide +kernel
theorem dX3_byItself_3 : decode cX3_byItself 3 = .ok (.iconst 0, 1) := by decide +kernel
theorem dX3_byItself_4 : decode cX3_byItself 4 = .ok (.istore 5, 2) := by decide +kernel
theorem dX3_byItself_6 : decode cX3_byItself 6 = .ok (.iload 5, 2) := by decide +kernel
theorem dX3_byItself_8 : decode cX3_byItself 8 = .ok (.iconst 5, 1) := by decide +kernel
theorem dX3_byItself_9 : decode cX3_byItself 9 = .ok (.if_icmp .ge 51, 3) := by decide +kernel
theorem dX3_byItself_12 : decode cX3_byItself 12 = .ok (.iload_n 3, 1) := by decide +kernel
theorem dX3_byItself_13 : decode cX3_byItself 13 = .ok (.ifCond .le 47, 3) := by decide +kernel
theorem dX3_byItself_16 : decode cX3_byItself 16 = .ok (.getstatic 80, 3) := by decide +kernel
theorem dX3_byItself_19 : decode cX3_byItself 19 = .ok (.iload_n 2, 1) := by decide +kernel
theorem dX3_byItself_20 : decode cX3_byItself 20 = .ok (.iconst 5, 1) := by decide +kernel
theorem dX3_byItself_21 : decode cX3_byItself 21 = .ok (.imul, 1) := by decide +kernel
theorem dX3_byItself_22 : decode cX3_byItself 22 = .ok (.iload 5, 2) := by decide +kernel
theorem dX3_byItself_24 : decode cX3_byItself 24 = .ok (.iadd, 1) := by decide +kernel
theorem dX3_byItself_25 : decode cX3_byItself 25 = .ok (.iaload, 1) := by decide +kernel
theorem dX3_byItself_26 : decode cX3_byItself 26 = .ok (.istore 6, 2) := by decide +kernel
theorem dX3_byItself_28 : decode cX3_byItself 28 = .ok (.iload 6, 2) := by decide +kernel
theorem dX3_byItself_30 : decode cX3_byItself 30 = .ok (.ifCond .lt 24, 3) := by decide +kernel
theorem dX3_byItself_33 : decode cX3_byItself 33 = .ok (.iload 4, 2) := by decide +kernel
theorem dX3_byItself_35 : decode cX3_byItself 35 = .ok (.aload_n 0, 1) := by decide +kernel
theorem dX3_byItself_36 : decode cX3_byItself 36 = .ok (.getfield 18, 3) := by decide +kernel
theorem dX3_byItself_39 : decode cX3_byItself 39 = .ok (.iload_n 1, 1) := by decide +kernel
theorem dX3_byItself_40 : decode cX3_byItself 40 = .ok (.iload 6, 2) := by decide +kernel
theorem dX3_byItself_42 : decode cX3_byItself 42 = .ok (.iload_n 3, 1) := by decide +kernel
theorem dX3_byItself_43 : decode cX3_byItself 43 = .ok (.iconst 1, 1) := by decide +kernel
theorem dX3_byItself_44 : decode cX3_byItself 44 = .ok (.isub, 1) := by decide +kernel
theorem dX3_byItself_45 : decode cX3_byItself 45 = .ok (.invokestatic 39, 3) := by decide +kernel
theorem dX3_byItself_48 : decode cX3_byItself 48 = .ok (.iaload, 1) := by decide +kernel
theorem dX3_byItself_49 : decode cX3_byItself 49 = .ok (.invokestatic 64, 3) := by decide +kernel
theorem dX3_byItself_52 : decode cX3_byItself 52 = .ok (.istore 4, 2) := by decide +kernel
theorem dX3_byItself_54 : decode cX3_byItself 54 = .ok (.iinc 5 1, 3) := by decide +kernel
theorem dX3_byItself_57 : decode cX3_byItself 57 = .ok (.goto (-51), 3) := by decide +kernel
theorem dX3_byItself_60 : decode cX3_byItself 60 = .ok (.iload 4, 2) := by decide +kernel
theorem dX3_byItself_62 : decode cX3_byItself 62 = .ok (.ireturn, 1) := by decide +kernel
theorem dX3_weigh_0 : decode cX3_weigh 0 = .ok (.aload_n 0, 1) := by decide +kernel
theorem dX3_weigh_1 : decode cX3_weigh 1 = .ok (.getfield 12, 3) := by decide +kernel
theorem dX3_weigh_4 : decode cX3_weigh 4 = .ok (.iload_n 1, 1) := by decide +kernel
theorem dX3_weigh_5 : decode cX3_weigh 5 = .ok (.invokevirtual 54, 3) := by decide +kernel
theorem dX3_weigh_8 : decode cX3_weigh 8 = .ok (.istore_n 3, 1) := by decide +kernel
theorem dX3_weigh_9 : decode cX3_weigh 9 = .ok (.iconst (-1), 1) := by decide +kernel
theorem dX3_weigh_10 : decode cX3_weigh 10 = .ok (.istore 4, 2) := by decide +kernel
theorem dX3_weigh_12 : decode cX3_weigh 12 = .ok (.iconst 0, 1) := by decide +kernel
theorem dX3_weigh_13 : decode cX3_weigh 13 = .ok (.istore 5, 2) := by decide +kernel
theorem dX3_weigh_15 : decode cX3_weigh 15 = .ok (.iload 5, 2) := by decide +kernel
theorem dX3_weigh_17 : decode cX3_weigh 17 = .ok (.bipush 11, 2) := by decide +kernel
theorem dX3_weigh_19 : decode cX3_weigh 19 = .ok (.if_icmp .ge 59, 3) := by decide +kernel
theorem dX3_weigh_22 : decode cX3_weigh 22 = .ok (.iload 5, 2) := by decide +kernel
theorem dX3_weigh_24 : decode cX3_weigh 24 = .ok (.ifCond .eq 13, 3) := by decide +kernel
theorem dX3_weigh_27 : decode cX3_weigh 27 = .ok (.iload 4, 2) := by decide +kernel
theorem dX3_weigh_29 : decode cX3_weigh 29 = .ok (.iload_n 3, 1) := by decide +kernel
theorem dX3_weigh_30 : decode cX3_weigh 30 = .ok (.if_icmp .ge 28, 3) := by decide +kernel
theorem dX3_weigh_33 : decode cX3_weigh 33 = .ok (.iload_n 2, 1) := by decide +kernel
theorem dX3_weigh_34 : decode cX3_weigh 34 = .ok (.ifCond .eq 24, 3) := by decide +kernel
theorem dX3_weigh_37 : decode cX3_weigh 37 = .ok (.aload_n 0, 1) := by decide +kernel
theorem dX3_weigh_38 : decode cX3_weigh 38 = .ok (.iload_n 1, 1) := by decide +kernel
theorem dX3_weigh_39 : decode cX3_weigh 39 = .ok (.iload_n 2, 1) := by decide +kernel
theorem dX3_weigh_40 : decode cX3_weigh 40 = .ok (.iload 5, 2) := by decide +kernel
theorem dX3_weigh_42 : decode cX3_weigh 42 = .ok (.invokevirtual 58, 3) := by decide +kernel
theorem dX3_weigh_45 : decode cX3_weigh 45 = .ok (.aload_n 0, 1) := by decide +kernel
theorem dX3_weigh_46 : decode cX3_weigh 46 = .ok (.iload_n 1, 1) := by decide +kernel
theorem dX3_weigh_47 : decode cX3_weigh 47 = .ok (.iload_n 2, 1) := by decide +kernel
theorem dX3_weigh_48 : decode cX3_weigh 48 = .ok (.iload 5, 2) := by decide +kernel
theorem dX3_weigh_50 : decode cX3_weigh 50 = .ok (.invokevirtual 61, 3) := by decide +kernel
theorem dX3_weigh_53 : decode cX3_weigh 53 = .ok (.invokestatic 64, 3) := by decide +kernel
theorem dX3_weigh_56 : decode cX3_weigh 56 = .ok (.istore 4, 2) := by decide +kernel
theorem dX3_weigh_58 : decode cX3_weigh 58 = .ok (.aload_n 0, 1) := by decide +kernel
theorem dX3_weigh_59 : decode cX3_weigh 59 = .ok (.getfield 18, 3) := by decide +kernel
theorem dX3_weigh_62 : decode cX3_weigh 62 = .ok (.iload_n 1, 1) := by decide +kernel
theorem dX3_weigh_63 : decode cX3_weigh 63 = .ok (.iload_n 2, 1) := by decide +kernel
theorem dX3_weigh_64 : decode cX3_weigh 64 = .ok (.iload 5, 2) := by decide +kernel
theorem dX3_weigh_66 : decode cX3_weigh 66 = .ok (.invokestatic 39, 3) := by decide +kernel
theorem dX3_weigh_69 : decode cX3_weigh 69 = .ok (.iload 4, 2) := by decide +kernel
theorem dX3_weigh_71 : decode cX3_weigh 71 = .ok (.iastore, 1) := by decide +kernel
theorem dX3_weigh_72 : decode cX3_weigh 72 = .ok (.iinc 5 1, 3) := by decide +kernel
theorem dX3_weigh_75 : decode cX3_weigh 75 = .ok (.goto (-60), 3) := by decide +kernel
theorem dX3_weigh_78 : decode cX3_weigh 78 = .ok (.return_, 1) := by decide +kernel
theorem dX3_make_0 : decode cX3_make 0 = .ok (.aload_n 0, 1) := by decide +kernel
theorem dX3_make_1 : decode cX3_make 1 = .ok (.getfield 12, 3) := by decide +kernel
theorem dX3_make_4 : decode cX3_make 4 = .ok (.aload_n 1, 1) := by decide +kernel
theorem dX3_make_5 : decode cX3_make 5 = .ok (.aload_n 1, 1) := by decide +kernel
theorem dX3_make_6 : decode cX3_make 6 = .ok (.getfield 22, 3) := by decide +kernel
theorem dX3_make_9 : decode cX3_make 9 = .ok (.invokevirtual 28, 3) := by decide +kernel
theorem dX3_make_12 : decode cX3_make 12 = .ok (.aload_n 0, 1) := by decide +kernel
theorem dX3_make_13 : decode cX3_make 13 = .ok (.getfield 12, 3) := by decide +kernel
theorem dX3_make_16 : decode cX3_make 16 = .ok (.getfield 32, 3) := by decide +kernel
theorem dX3_make_19 : decode cX3_make 19 = .ok (.iconst 1, 1) := by decide +kernel
theorem dX3_make_20 : decode cX3_make 20 = .ok (.isub, 1) := by decide +kernel
theorem dX3_make_21 : decode cX3_make 21 = .ok (.istore_n 2, 1) := by decide +kernel
theorem dX3_make_22 : decode cX3_make 22 = .ok (.iload_n 2, 1) := by decide +kernel
theorem dX3_make_23 : decode cX3_make 23 = .ok (.ifCond .lt 29, 3) := by decide +kernel
theorem dX3_make_26 : decode cX3_make 26 = .ok (.iconst 0, 1) := by decide +kernel
theorem dX3_make_27 : decode cX3_make 27 = .ok (.istore_n 3, 1) := by decide +kernel
theorem dX3_make_28 : decode cX3_make 28 = .ok (.iload_n 3, 1) := by decide +kernel
theorem dX3_make_29 : decode cX3_make 29 = .ok (.bipush 6, 2) := by decide +kernel
theorem dX3_make_31 : decode cX3_make 31 = .ok (.if_icmp .ge 15, 3) := by decide +kernel
theorem dX3_make_34 : decode cX3_make 34 = .ok (.aload_n 0, 1) := by decide +kernel
theorem dX3_make_35 : decode cX3_make 35 = .ok (.iload_n 2, 1) := by decide +kernel
theorem dX3_make_36 : decode cX3_make 36 = .ok (.iload_n 3, 1) := by decide +kernel
theorem dX3_make_37 : decode cX3_make 37 = .ok (.invokevirtual 35, 3) := by decide +kernel
theorem dX3_make_40 : decode cX3_make 40 = .ok (.iinc 3 1, 3) := by decide +kernel
theorem dX3_make_43 : decode cX3_make 43 = .ok (.goto (-15), 3) := by decide +kernel
theorem dX3_make_46 : decode cX3_make 46 = .ok (.iinc 2 (-1), 3) := by decide +kernel
theorem dX3_make_49 : decode cX3_make 49 = .ok (.goto (-27), 3) := by decide +kernel
theorem dX3_make_52 : decode cX3_make 52 = .ok (.return_, 1) := by decide +kernel
theorem dX3_mostRight_0 : decode cX3_mostRight 0 = .ok (.aload_n 0, 1) := by decide +kernel
theorem dX3_mostRight_1 : decode cX3_mostRight 1 = .ok (.getfield 18, 3) := by decide +kernel
theorem dX3_mostRight_4 : decode cX3_mostRight 4 = .ok (.iconst 0, 1) := by decide +kernel
theorem dX3_mostRight_5 : decode cX3_mostRight 5 = .ok (.iconst 5, 1) := by decide +kernel
theorem dX3_mostRight_6 : decode cX3_mostRight 6 = .ok (.iload_n 1, 1) := by decide +kernel
theorem dX3_mostRight_7 : decode cX3_mostRight 7 = .ok (.invokestatic 39, 3) := by decide +kernel
theorem dX3_mostRight_10 : decode cX3_mostRight 10 = .ok (.iaload, 1) := by decide +kernel
theorem dX3_mostRight_11 : decode cX3_mostRight 11 = .ok (.ireturn, 1) := by decide +kernel
theorem dX3_firstKind_0 : decode cX3_firstKind 0 = .ok (.aload_n 0, 1) := by decide +kernel
theorem dX3_firstKind_1 : decode cX3_firstKind 1 = .ok (.getfield 18, 3) := by decide +kernel
theorem dX3_firstKind_4 : decode cX3_firstKind 4 = .ok (.iload_n 1, 1) := by decide +kernel
theorem dX3_firstKind_5 : decode cX3_firstKind 5 = .ok (.iload_n 2, 1) := by decide +kernel
theorem dX3_firstKind_6 : decode cX3_firstKind 6 = .ok (.iload_n 3, 1) := by decide +kernel
theorem dX3_firstKind_7 : decode cX3_firstKind 7 = .ok (.invokestatic 39, 3) := by decide +kernel
theorem dX3_firstKind_10 : decode cX3_firstKind 10 = .ok (.iaload, 1) := by decide +kernel
theorem dX3_firstKind_11 : decode cX3_firstKind 11 = .ok (.istore 4, 2) := by decide +kernel
theorem dX3_firstKind_13 : decode cX3_firstKind 13 = .ok (.iconst 0, 1) := by decide +kernel
theorem dX3_firstKind_14 : decode cX3_firstKind 14 = .ok (.istore 5, 2) := by decide +kernel
theorem dX3_firstKind_16 : decode cX3_firstKind 16 = .ok (.iload 5, 2) := by decide +kernel
theorem dX3_firstKind_18 : decode cX3_firstKind 18 = .ok (.iconst 5, 1) := by decide +kernel
theorem dX3_firstKind_19 : decode cX3_firstKind 19 = .ok (.if_icmp .ge 48, 3) := by decide +kernel
theorem dX3_firstKind_22 : decode cX3_firstKind 22 = .ok (.getstatic 80, 3) := by decide +kernel
theorem dX3_firstKind_25 : decode cX3_firstKind 25 = .ok (.iload_n 2, 1) := by decide +kernel
theorem dX3_firstKind_26 : decode cX3_firstKind 26 = .ok (.iconst 5, 1) := by decide +kernel
theorem dX3_firstKind_27 : decode cX3_firstKind 27 = .ok (.imul, 1) := by decide +kernel
theorem dX3_firstKind_28 : decode cX3_firstKind 28 = .ok (.iload 5, 2) := by decide +kernel
theorem dX3_firstKind_30 : decode cX3_firstKind 30 = .ok (.iadd, 1) := by decide +kernel
theorem dX3_firstKind_31 : decode cX3_firstKind 31 = .ok (.iaload, 1) := by decide +kernel
theorem dX3_firstKind_32 : decode cX3_firstKind 32 = .ok (.istore 6, 2) := by decide +kernel
theorem dX3_firstKind_34 : decode cX3_firstKind 34 = .ok (.iload 6, 2) := by decide +kernel
theorem dX3_firstKind_36 : decode cX3_firstKind 36 = .ok (.ifCond .lt 25, 3) := by decide +kernel
theorem dX3_firstKind_39 : decode cX3_firstKind 39 = .ok (.aload_n 0, 1) := by decide +kernel
theorem dX3_firstKind_40 : decode cX3_firstKind 40 = .ok (.getfield 18, 3) := by decide +kernel
theorem dX3_firstKind_43 : decode cX3_firstKind 43 = .ok (.iload_n 1, 1) := by decide +kernel
theorem dX3_firstKind_44 : decode cX3_firstKind 44 = .ok (.iload 6, 2) := by decide +kernel
theorem dX3_firstKind_46 : decode cX3_firstKind 46 = .ok (.iload_n 3, 1) := by decide +kernel
theorem dX3_firstKind_47 : decode cX3_firstKind 47 = .ok (.iconst 1, 1) := by decide +kernel
theorem dX3_firstKind_48 : decode cX3_firstKind 48 = .ok (.isub, 1) := by decide +kernel
theorem dX3_firstKind_49 : decode cX3_firstKind 49 = .ok (.invokestatic 39, 3) := by decide +kernel
theorem dX3_firstKind_52 : decode cX3_firstKind 52 = .ok (.iaload, 1) := by decide +kernel
theorem dX3_firstKind_53 : decode cX3_firstKind 53 = .ok (.iload 4, 2) := by decide +kernel
theorem dX3_firstKind_55 : decode cX3_firstKind 55 = .ok (.if_icmp .ne 6, 3) := by decide +kernel
theorem dX3_firstKind_58 : decode cX3_firstKind 58 = .ok (.iload 5, 2) := by decide +kernel
theorem dX3_firstKind_60 : decode cX3_firstKind 60 = .ok (.ireturn, 1) := by decide +kernel
theorem dX3_firstKind_61 : decode cX3_firstKind 61 = .ok (.iinc 5 1, 3) := by decide +kernel
theorem dX3_firstKind_64 : decode cX3_firstKind 64 = .ok (.goto (-48), 3) := by decide +kernel
theorem dX3_firstKind_67 : decode cX3_firstKind 67 = .ok (.iconst 0, 1) := by decide +kernel
theorem dX3_firstKind_68 : decode cX3_firstKind 68 = .ok (.ireturn, 1) := by decide +kernel
theorem dX3_layAlike_0 : decode cX3_layAlike 0 = .ok (.iload 4, 2) := by decide +kernel
theorem dX3_layAlike_2 : decode cX3_layAlike 2 = .ok (.istore 7, 2) := by decide +kernel
theorem dX3_layAlike_4 : decode cX3_layAlike 4 = .ok (.iload 5, 2) := by decide +kernel
theorem dX3_layAlike_6 : decode cX3_layAlike 6 = .ok (.istore 8, 2) := by decide +kernel
theorem dX3_layAlike_8 : decode cX3_layAlike 8 = .ok (.iload 8, 2) := by decide +kernel
theorem dX3_layAlike_10 : decode cX3_layAlike 10 = .ok (.ifCond .le 138, 3) := by decide +kernel
theorem dX3_layAlike_13 : decode cX3_layAlike 13 = .ok (.iload 7, 2) := by decide +kernel
theorem dX3_layAlike_15 : decode cX3_layAlike 15 = .ok (.ifCond .lt 133, 3) := by decide +kernel
theorem dX3_layAlike_18 : decode cX3_layAlike 18 = .ok (.iload 6, 2) := by decide +kernel
theorem dX3_layAlike_20 : decode cX3_layAlike 20 = .ok (.bipush 11, 2) := by decide +kernel
theorem dX3_layAlike_22 : decode cX3_layAlike 22 = .ok (.if_icmp .gt 126, 3) := by decide +kernel
theorem dX3_layAlike_25 : decode cX3_layAlike 25 = .ok (.aload_n 0, 1) := by decide +kernel
theorem dX3_layAlike_26 : decode cX3_layAlike 26 = .ok (.getfield 18, 3) := by decide +kernel
theorem dX3_layAlike_29 : decode cX3_layAlike 29 = .ok (.iload_n 1, 1) := by decide +kernel
theorem dX3_layAlike_30 : decode cX3_layAlike 30 = .ok (.iload 7, 2) := by decide +kernel
theorem dX3_layAlike_32 : decode cX3_layAlike 32 = .ok (.iconst 0, 1) := by decide +kernel
theorem dX3_layAlike_33 : decode cX3_layAlike 33 = .ok (.invokestatic 39, 3) := by decide +kernel
theorem dX3_layAlike_36 : decode cX3_layAlike 36 = .ok (.iaload, 1) := by decide +kernel
theorem dX3_layAlike_37 : decode cX3_layAlike 37 = .ok (.aload_n 0, 1) := by decide +kernel
theorem dX3_layAlike_38 : decode cX3_layAlike 38 = .ok (.getfield 18, 3) := by decide +kernel
theorem dX3_layAlike_41 : decode cX3_layAlike 41 = .ok (.iload_n 1, 1) := by decide +kernel
theorem dX3_layAlike_42 : decode cX3_layAlike 42 = .ok (.iload 7, 2) := by decide +kernel
theorem dX3_layAlike_44 : decode cX3_layAlike 44 = .ok (.iload 8, 2) := by decide +kernel
theorem dX3_layAlike_46 : decode cX3_layAlike 46 = .ok (.invokestatic 39, 3) := by decide +kernel
theorem dX3_layAlike_49 : decode cX3_layAlike 49 = .ok (.iaload, 1) := by decide +kernel
theorem dX3_layAlike_50 : decode cX3_layAlike 50 = .ok (.if_icmp .ne 4, 3) := by decide +kernel
theorem dX3_layAlike_53 : decode cX3_layAlike 53 = .ok (.return_, 1) := by decide +kernel
theorem dX3_layAlike_54 : decode cX3_layAlike 54 = .ok (.iload_n 3, 1) := by decide +kernel
theorem dX3_layAlike_55 : decode cX3_layAlike 55 = .ok (.iconst 1, 1) := by decide +kernel
theorem dX3_layAlike_56 : decode cX3_layAlike 56 = .ok (.if_icmp .le 51, 3) := by decide +kernel
theorem dX3_layAlike_59 : decode cX3_layAlike 59 = .ok (.iload 8, 2) := by decide +kernel
theorem dX3_layAlike_61 : decode cX3_layAlike 61 = .ok (.iconst 1, 1) := by decide +kernel
theorem dX3_layAlike_62 : decode cX3_layAlike 62 = .ok (.if_icmp .le 45, 3) := by decide +kernel
theorem dX3_layAlike_65 : decode cX3_layAlike 65 = .ok (.iload_n 3, 1) := by decide +kernel
theorem dX3_layAlike_66 : decode cX3_layAlike 66 = .ok (.iconst 2, 1) := by decide +kernel
theorem dX3_layAlike_67 : decode cX3_layAlike 67 = .ok (.idiv, 1) := by decide +kernel
theorem dX3_layAlike_68 : decode cX3_layAlike 68 = .ok (.istore 9, 2) := by decide +kernel
theorem dX3_layAlike_70 : decode cX3_layAlike 70 = .ok (.aload_n 0, 1) := by decide +kernel
theorem dX3_layAlike_71 : decode cX3_layAlike 71 = .ok (.iload_n 1, 1) := by decide +kernel
theorem dX3_layAlike_72 : decode cX3_layAlike 72 = .ok (.iload_n 2, 1) := by decide +kernel
theorem dX3_layAlike_73 : decode cX3_layAlike 73 = .ok (.iload 9, 2) := by decide +kernel
theorem dX3_layAlike_75 : decode cX3_layAlike 75 = .ok (.iload 7, 2) := by decide +kernel
theorem dX3_layAlike_77 : decode cX3_layAlike 77 = .ok (.iconst 1, 1) := by decide +kernel
theorem dX3_layAlike_78 : decode cX3_layAlike 78 = .ok (.iload 6, 2) := by decide +kernel
theorem dX3_layAlike_80 : decode cX3_layAlike 80 = .ok (.iconst 1, 1) := by decide +kernel
theorem dX3_layAlike_81 : decode cX3_layAlike 81 = .ok (.iadd, 1) := by decide +kernel
theorem dX3_layAlike_82 : decode cX3_layAlike 82 = .ok (.invokevirtual 89, 3) := by decide +kernel
theorem dX3_layAlike_85 : decode cX3_layAlike 85 = .ok (.aload_n 0, 1) := by decide +kernel
theorem dX3_layAlike_86 : decode cX3_layAlike 86 = .ok (.iload_n 1, 1) := by decide +kernel
theorem dX3_layAlike_87 : decode cX3_layAlike 87 = .ok (.iload_n 2, 1) := by decide +kernel
theorem dX3_layAlike_88 : decode cX3_layAlike 88 = .ok (.iload 9, 2) := by decide +kernel
theorem dX3_layAlike_90 : decode cX3_layAlike 90 = .ok (.iadd, 1) := by decide +kernel
theorem dX3_layAlike_91 : decode cX3_layAlike 91 = .ok (.iload 9, 2) := by decide +kernel
theorem dX3_layAlike_93 : decode cX3_layAlike 93 = .ok (.iload 7, 2) := by decide +kernel
theorem dX3_layAlike_95 : decode cX3_layAlike 95 = .ok (.iload 8, 2) := by decide +kernel
theorem dX3_layAlike_97 : decode cX3_layAlike 97 = .ok (.iconst 1, 1) := by decide +kernel
theorem dX3_layAlike_98 : decode cX3_layAlike 98 = .ok (.isub, 1) := by decide +kernel
theorem dX3_layAlike_99 : decode cX3_layAlike 99 = .ok (.iload 6, 2) := by decide +kernel
theorem dX3_layAlike_101 : decode cX3_layAlike 101 = .ok (.iconst 1, 1) := by decide +kernel
theorem dX3_layAlike_102 : decode cX3_layAlike 102 = .ok (.iadd, 1) := by decide +kernel
theorem dX3_layAlike_103 : decode cX3_layAlike 103 = .ok (.invokevirtual 89, 3) := by decide +kernel
theorem dX3_layAlike_106 : decode cX3_layAlike 106 = .ok (.return_, 1) := by decide +kernel
theorem dX3_layAlike_107 : decode cX3_layAlike 107 = .ok (.aload_n 0, 1) := by decide +kernel
theorem dX3_layAlike_108 : decode cX3_layAlike 108 = .ok (.iload_n 1, 1) := by decide +kernel
theorem dX3_layAlike_109 : decode cX3_layAlike 109 = .ok (.iload 7, 2) := by decide +kernel
theorem dX3_layAlike_111 : decode cX3_layAlike 111 = .ok (.iload 8, 2) := by decide +kernel
theorem dX3_layAlike_113 : decode cX3_layAlike 113 = .ok (.invokevirtual 97, 3) := by decide +kernel
theorem dX3_layAlike_116 : decode cX3_layAlike 116 = .ok (.istore 9, 2) := by decide +kernel
theorem dX3_layAlike_118 : decode cX3_layAlike 118 = .ok (.aload_n 0, 1) := by decide +kernel
theorem dX3_layAlike_119 : decode cX3_layAlike 119 = .ok (.getfield 43, 3) := by decide +kernel
theorem dX3_layAlike_122 : decode cX3_layAlike 122 = .ok (.iload_n 2, 1) := by decide +kernel
theorem dX3_layAlike_123 : decode cX3_layAlike 123 = .ok (.iload_n 3, 1) := by decide +kernel
theorem dX3_layAlike_124 : decode cX3_layAlike 124 = .ok (.iload 9, 2) := by decide +kernel
theorem dX3_layAlike_126 : decode cX3_layAlike 126 = .ok (.invokevirtual 100, 3) := by decide +kernel
theorem dX3_layAlike_129 : decode cX3_layAlike 129 = .ok (.getstatic 80, 3) := by decide +kernel
theorem dX3_layAlike_132 : decode cX3_layAlike 132 = .ok (.iload 7, 2) := by decide +kernel
theorem dX3_layAlike_134 : decode cX3_layAlike 134 = .ok (.iconst 5, 1) := by decide +kernel
theorem dX3_layAlike_135 : decode cX3_layAlike 135 = .ok (.imul, 1) := by decide +kernel
theorem dX3_layAlike_136 : decode cX3_layAlike 136 = .ok (.iload 9, 2) := by decide +kernel
theorem dX3_layAlike_138 : decode cX3_layAlike 138 = .ok (.iadd, 1) := by decide +kernel
theorem dX3_layAlike_139 : decode cX3_layAlike 139 = .ok (.iaload, 1) := by decide +kernel
theorem dX3_layAlike_140 : decode cX3_layAlike 140 = .ok (.istore 7, 2) := by decide +kernel
theorem dX3_layAlike_142 : decode cX3_layAlike 142 = .ok (.iinc 8 (-1), 3) := by decide +kernel
theorem dX3_layAlike_145 : decode cX3_layAlike 145 = .ok (.goto (-137), 3) := by decide +kernel
theorem dX3_layAlike_148 : decode cX3_layAlike 148 = .ok (.return_, 1) := by decide +kernel
theorem dX3_byHalves_0 : decode cX3_byHalves 0 = .ok (.aload_n 0, 1) := by decide +kernel
theorem dX3_byHalves_1 : decode cX3_byHalves 1 = .ok (.getfield 18, 3) := by decide +kernel
theorem dX3_byHalves_4 : decode cX3_byHalves 4 = .ok (.iload_n 1, 1) := by decide +kernel
theorem dX3_byHalves_5 : decode cX3_byHalves 5 = .ok (.iconst 1, 1) := by decide +kernel
theorem dX3_byHalves_6 : decode cX3_byHalves 6 = .ok (.iadd, 1) := by decide +kernel
theorem dX3_byHalves_7 : decode cX3_byHalves 7 = .ok (.iload_n 2, 1) := by decide +kernel
theorem dX3_byHalves_8 : decode cX3_byHalves 8 = .ok (.iload_n 3, 1) := by decide +kernel
theorem dX3_byHalves_9 : decode cX3_byHalves 9 = .ok (.invokestatic 39, 3) := by decide +kernel
theorem dX3_byHalves_12 : decode cX3_byHalves 12 = .ok (.iaload, 1) := by decide +kernel
theorem dX3_byHalves_13 : decode cX3_byHalves 13 = .ok (.aload_n 0, 1) := by decide +kernel
theorem dX3_byHalves_14 : decode cX3_byHalves 14 = .ok (.getfield 18, 3) := by decide +kernel
theorem dX3_byHalves_17 : decode cX3_byHalves 17 = .ok (.aload_n 0, 1) := by decide +kernel
theorem dX3_byHalves_18 : decode cX3_byHalves 18 = .ok (.getfield 12, 3) := by decide +kernel
theorem dX3_byHalves_21 : decode cX3_byHalves 21 = .ok (.getfield 70, 3) := by decide +kernel
theorem dX3_byHalves_24 : decode cX3_byHalves 24 = .ok (.iload_n 1, 1) := by decide +kernel
theorem dX3_byHalves_25 : decode cX3_byHalves 25 = .ok (.iaload, 1) := by decide +kernel
theorem dX3_byHalves_26 : decode cX3_byHalves 26 = .ok (.iload_n 2, 1) := by decide +kernel
theorem dX3_byHalves_27 : decode cX3_byHalves 27 = .ok (.iload 4, 2) := by decide +kernel
theorem dX3_byHalves_29 : decode cX3_byHalves 29 = .ok (.invokestatic 39, 3) := by decide +kernel
theorem dX3_byHalves_32 : decode cX3_byHalves 32 = .ok (.iaload, 1) := by decide +kernel
theorem dX3_byHalves_33 : decode cX3_byHalves 33 = .ok (.iadd, 1) := by decide +kernel
theorem dX3_byHalves_34 : decode cX3_byHalves 34 = .ok (.ireturn, 1) := by decide +kernel
theorem dX3_layWithin_0 : decode cX3_layWithin 0 = .ok (.aload_n 0, 1) := by decide +kernel
theorem dX3_layWithin_1 : decode cX3_layWithin 1 = .ok (.getfield 12, 3) := by decide +kernel
theorem dX3_layWithin_4 : decode cX3_layWithin 4 = .ok (.getfield 70, 3) := by decide +kernel
theorem dX3_layWithin_7 : decode cX3_layWithin 7 = .ok (.iload_n 1, 1) := by decide +kernel
theorem dX3_layWithin_8 : decode cX3_layWithin 8 = .ok (.iaload, 1) := by decide +kernel
theorem dX3_layWithin_9 : decode cX3_layWithin 9 = .ok (.ifCond .ne 31, 3) := by decide +kernel
theorem dX3_layWithin_12 : decode cX3_layWithin 12 = .ok (.aload_n 0, 1) := by decide +kernel
theorem dX3_layWithin_13 : decode cX3_layWithin 13 = .ok (.iload_n 1, 1) := by decide +kernel
theorem dX3_layWithin_14 : decode cX3_layWithin 14 = .ok (.aload_n 0, 1) := by decide +kernel
theorem dX3_layWithin_15 : decode cX3_layWithin 15 = .ok (.getfield 12, 3) := by decide +kernel
theorem dX3_layWithin_18 : decode cX3_layWithin 18 = .ok (.getfield 83, 3) := by decide +kernel
theorem dX3_layWithin_21 : decode cX3_layWithin 21 = .ok (.iload_n 1, 1) := by decide +kernel
theorem dX3_layWithin_22 : decode cX3_layWithin 22 = .ok (.iaload, 1) := by decide +kernel
theorem dX3_layWithin_23 : decode cX3_layWithin 23 = .ok (.aload_n 0, 1) := by decide +kernel
theorem dX3_layWithin_24 : decode cX3_layWithin 24 = .ok (.getfield 12, 3) := by decide +kernel
theorem dX3_layWithin_27 : decode cX3_layWithin 27 = .ok (.getfield 86, 3) := by decide +kernel
theorem dX3_layWithin_30 : decode cX3_layWithin 30 = .ok (.iload_n 1, 1) := by decide +kernel
theorem dX3_layWithin_31 : decode cX3_layWithin 31 = .ok (.iaload, 1) := by decide +kernel
theorem dX3_layWithin_32 : decode cX3_layWithin 32 = .ok (.iload_n 2, 1) := by decide +kernel
theorem dX3_layWithin_33 : decode cX3_layWithin 33 = .ok (.iload_n 3, 1) := by decide +kernel
theorem dX3_layWithin_34 : decode cX3_layWithin 34 = .ok (.iload 4, 2) := by decide +kernel
theorem dX3_layWithin_36 : decode cX3_layWithin 36 = .ok (.invokevirtual 89, 3) := by decide +kernel
theorem dX3_layWithin_39 : decode cX3_layWithin 39 = .ok (.return_, 1) := by decide +kernel
theorem dX3_layWithin_40 : decode cX3_layWithin 40 = .ok (.iload_n 2, 1) := by decide +kernel
theorem dX3_layWithin_41 : decode cX3_layWithin 41 = .ok (.istore 5, 2) := by decide +kernel
theorem dX3_layWithin_43 : decode cX3_layWithin 43 = .ok (.iload_n 3, 1) := by decide +kernel
theorem dX3_layWithin_44 : decode cX3_layWithin 44 = .ok (.istore 6, 2) := by decide +kernel
theorem dX3_layWithin_46 : decode cX3_layWithin 46 = .ok (.iload 6, 2) := by decide +kernel
theorem dX3_layWithin_48 : decode cX3_layWithin 48 = .ok (.ifCond .le 180, 3) := by decide +kernel
theorem dX3_layWithin_51 : decode cX3_layWithin 51 = .ok (.iload 5, 2) := by decide +kernel
theorem dX3_layWithin_53 : decode cX3_layWithin 53 = .ok (.ifCond .lt 175, 3) := by decide +kernel
theorem dX3_layWithin_56 : decode cX3_layWithin 56 = .ok (.iload 4, 2) := by decide +kernel
theorem dX3_layWithin_58 : decode cX3_layWithin 58 = .ok (.bipush 11, 2) := by decide +kernel
theorem dX3_layWithin_60 : decode cX3_layWithin 60 = .ok (.if_icmp .gt 168, 3) := by decide +kernel
theorem dX3_layWithin_63 : decode cX3_layWithin 63 = .ok (.aload_n 0, 1) := by decide +kernel
theorem dX3_layWithin_64 : decode cX3_layWithin 64 = .ok (.getfield 18, 3) := by decide +kernel
theorem dX3_layWithin_67 : decode cX3_layWithin 67 = .ok (.iload_n 1, 1) := by decide +kernel
theorem dX3_layWithin_68 : decode cX3_layWithin 68 = .ok (.iload 5, 2) := by decide +kernel
theorem dX3_layWithin_70 : decode cX3_layWithin 70 = .ok (.iload 6, 2) := by decide +kernel
theorem dX3_layWithin_72 : decode cX3_layWithin 72 = .ok (.invokestatic 39, 3) := by decide +kernel
theorem dX3_layWithin_75 : decode cX3_layWithin 75 = .ok (.iaload, 1) := by decide +kernel
theorem dX3_layWithin_76 : decode cX3_layWithin 76 = .ok (.istore 7, 2) := by decide +kernel
theorem dX3_layWithin_78 : decode cX3_layWithin 78 = .ok (.aload_n 0, 1) := by decide +kernel
theorem dX3_layWithin_79 : decode cX3_layWithin 79 = .ok (.getfield 18, 3) := by decide +kernel
theorem dX3_layWithin_82 : decode cX3_layWithin 82 = .ok (.iload_n 1, 1) := by decide +kernel
theorem dX3_layWithin_83 : decode cX3_layWithin 83 = .ok (.iload 5, 2) := by decide +kernel
theorem dX3_layWithin_85 : decode cX3_layWithin 85 = .ok (.iconst 0, 1) := by decide +kernel
theorem dX3_layWithin_86 : decode cX3_layWithin 86 = .ok (.invokestatic 39, 3) := by decide +kernel
theorem dX3_layWithin_89 : decode cX3_layWithin 89 = .ok (.iaload, 1) := by decide +kernel
theorem dX3_layWithin_90 : decode cX3_layWithin 90 = .ok (.iload 7, 2) := by decide +kernel
theorem dX3_layWithin_92 : decode cX3_layWithin 92 = .ok (.if_icmp .ne 4, 3) := by decide +kernel
theorem dX3_layWithin_95 : decode cX3_layWithin 95 = .ok (.return_, 1) := by decide +kernel
theorem dX3_layWithin_96 : decode cX3_layWithin 96 = .ok (.iconst 0, 1) := by decide +kernel
theorem dX3_layWithin_97 : decode cX3_layWithin 97 = .ok (.istore 8, 2) := by decide +kernel
theorem dX3_layWithin_99 : decode cX3_layWithin 99 = .ok (.iload 8, 2) := by decide +kernel
theorem dX3_layWithin_101 : decode cX3_layWithin 101 = .ok (.iload 6, 2) := by decide +kernel
theorem dX3_layWithin_103 : decode cX3_layWithin 103 = .ok (.if_icmp .gt 68, 3) := by decide +kernel
theorem dX3_layWithin_106 : decode cX3_layWithin 106 = .ok (.aload_n 0, 1) := by decide +kernel
theorem dX3_layWithin_107 : decode cX3_layWithin 107 = .ok (.iload_n 1, 1) := by decide +kernel
theorem dX3_layWithin_108 : decode cX3_layWithin 108 = .ok (.iload 5, 2) := by decide +kernel
theorem dX3_layWithin_110 : decode cX3_layWithin 110 = .ok (.iload 8, 2) := by decide +kernel
theorem dX3_layWithin_112 : decode cX3_layWithin 112 = .ok (.iload 6, 2) := by decide +kernel
theorem dX3_layWithin_114 : decode cX3_layWithin 114 = .ok (.iload 8, 2) := by decide +kernel
theorem dX3_layWithin_116 : decode cX3_layWithin 116 = .ok (.isub, 1) := by decide +kernel
theorem dX3_layWithin_117 : decode cX3_layWithin 117 = .ok (.invokevirtual 93, 3) := by decide +kernel
theorem dX3_layWithin_120 : decode cX3_layWithin 120 = .ok (.iload 7, 2) := by decide +kernel
theorem dX3_layWithin_122 : decode cX3_layWithin 122 = .ok (.if_icmp .ne 43, 3) := by decide +kernel
theorem dX3_layWithin_125 : decode cX3_layWithin 125 = .ok (.aload_n 0, 1) := by decide +kernel
theorem dX3_layWithin_126 : decode cX3_layWithin 126 = .ok (.iload_n 1, 1) := by decide +kernel
theorem dX3_layWithin_127 : decode cX3_layWithin 127 = .ok (.iconst 1, 1) := by decide +kernel
theorem dX3_layWithin_128 : decode cX3_layWithin 128 = .ok (.iadd, 1) := by decide +kernel
theorem dX3_layWithin_129 : decode cX3_layWithin 129 = .ok (.iload 5, 2) := by decide +kernel
theorem dX3_layWithin_131 : decode cX3_layWithin 131 = .ok (.iload 8, 2) := by decide +kernel
theorem dX3_layWithin_133 : decode cX3_layWithin 133 = .ok (.iload 4, 2) := by decide +kernel
theorem dX3_layWithin_135 : decode cX3_layWithin 135 = .ok (.iconst 1, 1) := by decide +kernel
theorem dX3_layWithin_136 : decode cX3_layWithin 136 = .ok (.iadd, 1) := by decide +kernel
theorem dX3_layWithin_137 : decode cX3_layWithin 137 = .ok (.invokevirtual 50, 3) := by decide +kernel
theorem dX3_layWithin_140 : decode cX3_layWithin 140 = .ok (.aload_n 0, 1) := by decide +kernel
theorem dX3_layWithin_141 : decode cX3_layWithin 141 = .ok (.aload_n 0, 1) := by decide +kernel
theorem dX3_layWithin_142 : decode cX3_layWithin 142 = .ok (.getfield 12, 3) := by decide +kernel
theorem dX3_layWithin_145 : decode cX3_layWithin 145 = .ok (.getfield 70, 3) := by decide +kernel
theorem dX3_layWithin_148 : decode cX3_layWithin 148 = .ok (.iload_n 1, 1) := by decide +kernel
theorem dX3_layWithin_149 : decode cX3_layWithin 149 = .ok (.iaload, 1) := by decide +kernel
theorem dX3_layWithin_150 : decode cX3_layWithin 150 = .ok (.iload 5, 2) := by decide +kernel
theorem dX3_layWithin_152 : decode cX3_layWithin 152 = .ok (.iload 6, 2) := by decide +kernel
theorem dX3_layWithin_154 : decode cX3_layWithin 154 = .ok (.iload 8, 2) := by decide +kernel
theorem dX3_layWithin_156 : decode cX3_layWithin 156 = .ok (.isub, 1) := by decide +kernel
theorem dX3_layWithin_157 : decode cX3_layWithin 157 = .ok (.iload 4, 2) := by decide +kernel
theorem dX3_layWithin_159 : decode cX3_layWithin 159 = .ok (.iconst 1, 1) := by decide +kernel
theorem dX3_layWithin_160 : decode cX3_layWithin 160 = .ok (.iadd, 1) := by decide +kernel
theorem dX3_layWithin_161 : decode cX3_layWithin 161 = .ok (.invokevirtual 50, 3) := by decide +kernel
theorem dX3_layWithin_164 : decode cX3_layWithin 164 = .ok (.return_, 1) := by decide +kernel
theorem dX3_layWithin_165 : decode cX3_layWithin 165 = .ok (.iinc 8 1, 3) := by decide +kernel
theorem dX3_layWithin_168 : decode cX3_layWithin 168 = .ok (.goto (-69), 3) := by decide +kernel
theorem dX3_layWithin_171 : decode cX3_layWithin 171 = .ok (.aload_n 0, 1) := by decide +kernel
theorem dX3_layWithin_172 : decode cX3_layWithin 172 = .ok (.iload_n 1, 1) := by decide +kernel
theorem dX3_layWithin_173 : decode cX3_layWithin 173 = .ok (.iload 5, 2) := by decide +kernel
theorem dX3_layWithin_175 : decode cX3_layWithin 175 = .ok (.iload 6, 2) := by decide +kernel
theorem dX3_layWithin_177 : decode cX3_layWithin 177 = .ok (.invokevirtual 97, 3) := by decide +kernel
theorem dX3_layWithin_180 : decode cX3_layWithin 180 = .ok (.istore 8, 2) := by decide +kernel
theorem dX3_layWithin_182 : decode cX3_layWithin 182 = .ok (.aload_n 0, 1) := by decide +kernel
theorem dX3_layWithin_183 : decode cX3_layWithin 183 = .ok (.getfield 43, 3) := by decide +kernel
theorem dX3_layWithin_186 : decode cX3_layWithin 186 = .ok (.aload_n 0, 1) := by decide +kernel
theorem dX3_layWithin_187 : decode cX3_layWithin 187 = .ok (.getfield 12, 3) := by decide +kernel
theorem dX3_layWithin_190 : decode cX3_layWithin 190 = .ok (.getfield 83, 3) := by decide +kernel
theorem dX3_layWithin_193 : decode cX3_layWithin 193 = .ok (.iload_n 1, 1) := by decide +kernel
theorem dX3_layWithin_194 : decode cX3_layWithin 194 = .ok (.iaload, 1) := by decide +kernel
theorem dX3_layWithin_195 : decode cX3_layWithin 195 = .ok (.aload_n 0, 1) := by decide +kernel
theorem dX3_layWithin_196 : decode cX3_layWithin 196 = .ok (.getfield 12, 3) := by decide +kernel
theorem dX3_layWithin_199 : decode cX3_layWithin 199 = .ok (.getfield 86, 3) := by decide +kernel
theorem dX3_layWithin_202 : decode cX3_layWithin 202 = .ok (.iload_n 1, 1) := by decide +kernel
theorem dX3_layWithin_203 : decode cX3_layWithin 203 = .ok (.iaload, 1) := by decide +kernel
theorem dX3_layWithin_204 : decode cX3_layWithin 204 = .ok (.iload 8, 2) := by decide +kernel
theorem dX3_layWithin_206 : decode cX3_layWithin 206 = .ok (.invokevirtual 100, 3) := by decide +kernel
theorem dX3_layWithin_209 : decode cX3_layWithin 209 = .ok (.getstatic 80, 3) := by decide +kernel
theorem dX3_layWithin_212 : decode cX3_layWithin 212 = .ok (.iload 5, 2) := by decide +kernel
theorem dX3_layWithin_214 : decode cX3_layWithin 214 = .ok (.iconst 5, 1) := by decide +kernel
theorem dX3_layWithin_215 : decode cX3_layWithin 215 = .ok (.imul, 1) := by decide +kernel
theorem dX3_layWithin_216 : decode cX3_layWithin 216 = .ok (.iload 8, 2) := by decide +kernel
theorem dX3_layWithin_218 : decode cX3_layWithin 218 = .ok (.iadd, 1) := by decide +kernel
theorem dX3_layWithin_219 : decode cX3_layWithin 219 = .ok (.iaload, 1) := by decide +kernel
theorem dX3_layWithin_220 : decode cX3_layWithin 220 = .ok (.istore 5, 2) := by decide +kernel
theorem dX3_layWithin_222 : decode cX3_layWithin 222 = .ok (.iinc 6 (-1), 3) := by decide +kernel
theorem dX3_layWithin_225 : decode cX3_layWithin 225 = .ok (.goto (-179), 3) := by decide +kernel
theorem dX3_layWithin_228 : decode cX3_layWithin 228 = .ok (.return_, 1) := by decide +kernel
theorem dX3_layBest_0 : decode cX3_layBest 0 = .ok (.aload_n 0, 1) := by decide +kernel
theorem dX3_layBest_1 : decode cX3_layBest 1 = .ok (.aload_n 2, 1) := by decide +kernel
theorem dX3_layBest_2 : decode cX3_layBest 2 = .ok (.putfield 43, 3) := by decide +kernel
theorem dX3_layBest_5 : decode cX3_layBest 5 = .ok (.aload_n 0, 1) := by decide +kernel
theorem dX3_layBest_6 : decode cX3_layBest 6 = .ok (.getfield 43, 3) := by decide +kernel
theorem dX3_layBest_9 : decode cX3_layBest 9 = .ok (.iconst 0, 1) := by decide +kernel
theorem dX3_layBest_10 : decode cX3_layBest 10 = .ok (.putfield 47, 3) := by decide +kernel
theorem dX3_layBest_13 : decode cX3_layBest 13 = .ok (.aload_n 0, 1) := by decide +kernel
theorem dX3_layBest_14 : decode cX3_layBest 14 = .ok (.iconst 0, 1) := by decide +kernel
theorem dX3_layBest_15 : decode cX3_layBest 15 = .ok (.iconst 5, 1) := by decide +kernel
theorem dX3_layBest_16 : decode cX3_layBest 16 = .ok (.iload_n 1, 1) := by decide +kernel
theorem dX3_layBest_17 : decode cX3_layBest 17 = .ok (.iconst 0, 1) := by decide +kernel
theorem dX3_layBest_18 : decode cX3_layBest 18 = .ok (.invokevirtual 50, 3) := by decide +kernel
theorem dX3_layBest_21 : decode cX3_layBest 21 = .ok (.return_, 1) := by decide +kernel
section G17_filler_lean_txt
variable {p : Program} {l : Launch} {e : Env} {s : State} {m : MethodId} {args : Array Value} {below : List Frame} {meth : Method} {c : Code} {H : Heap} {locs : List Loc} {ls : Array Slot} {E : Ge} {L : Lay} {fu d : Nat}
def fX3_cell (fu : Nat) (x0 : Int32) (x1 : Int32) (x2 : Int32) : Option Int32 :=
  some ((((x0 * 6) + x1) * 11) + x2)
set_option maxRecDepth 100000 in
set_option maxHeartbeats 4000000 in
theorem mX3_cell {l : Launch} {E : Ge} {L : Lay} (fu d : Nat) {x0 : Int32} {x1 : Int32} {x2 : Int32} {M : Mm} {r : Int32}   (h : fX3_cell fu x0 x1 x2 = some r) : Ct l E L yX3_cell cX3_cell 3 (some .int) (d + 0) [.int x0, .int x1, .int x2] M (some (.int r)) M := by
  refine Ct.of (by decide) ?_
  intro p e s m below meth c hr hlk B hR
  have B : Bx p s m _ c cX3_cell 3 RX3 E L := B
  have hx := B.1
  have hb := B.2.1
  have hl := lv_entry ([.int x0, .int x1, .int x2]) (n := 3) (Nat.le_of_ble_eq_true rfl)
  rw [lg_entry_eq]
  generalize (lg_sl ([.int x0, .int x1, .int x2]) ++ List.replicate (3 - (lg_sl ([.int x0, .int x1, .int x2])).length) Slot.unset).toArray = ls at hl ⊢
  have hl : lv_has ls 3 [(0, .int x0), (1, .int x1), (2, .int x2)] := hl
  unfold fX3_cell at h
  refine lv_iload_n hx hb dX3_cell_0 rfl (lv_at hl 0 rfl) ?_
  refine lv_bipush (v := 6) hx hb dX3_cell_1 (by decide) ?_
  refine lv_imul hx hb dX3_cell_3 ?_
  refine lv_iload_n hx hb dX3_cell_4 rfl (lv_at hl 1 rfl) ?_
  refine lv_iadd hx hb dX3_cell_5 ?_
  refine lv_bipush (v := 11) hx hb dX3_cell_6 (by decide) ?_
  refine lv_imul hx hb dX3_cell_8 ?_
  refine lv_iload_n hx hb dX3_cell_9 rfl (lv_at hl 2 rfl) ?_
  refine lv_iadd hx hb dX3_cell_10 ?_
  exact r_iretP B hR hr hlk h dX3_cell_11
def fX3_bestByHalves_j72 (fu : Nat) (x6 : Int32) (M : Mm) : Option Int32 :=
  some x6
set_option maxRecDepth 100000 in
set_option maxHeartbeats 4000000 in
theorem wX3_bestByHalves_j72 {r : Int32}   {x6 : Int32} {M : Mm} (B : Bx p s m args c cX3_bestByHalves 8 RX3 E L) (hr : meth.sig.returnType = (some .int)) (hlk : meth.locks = false)   (h : fX3_bestByHalves_j72 fu x6 M = some r) (hR : Rx s E L M H locs) (hl : lv_has ls 8 [(6, .int x6)]) : W p l e (rmD (d + 1)) s m args below meth c H locs 0 0 (MQ below (QcM E L (some (.int r)) M) args s 0 0 E.2.2.2) (F0 m 72 ls []) := by
  have hx := B.1
  have hb := B.2.1
  unfold fX3_bestByHalves_j72 at h
  refine lv_iload hx hb dX3_bestByHalves_72 (lv_at hl 0 rfl) ?_
  exact r_iretP B hR hr hlk h dX3_bestByHalves_74
def fX3_bestByHalves_b32 (fu : Nat) (k32 : Int32 → Int32 → Option Int32) (a0 : Nat) (x3 : Int32) (x4 : Int32) (x5 : Int32) (x6 : Int32) (x7 : Int32) (M : Mm) : Option Int32 :=
  if x3 < x7 then
    fX3_bestByHalves_j72 fu x6 M
  else
    if (x4 + x7) < 0 ∨ 21120 ≤ ix (x4 + x7) then none else
    if (x5 - x7) < 0 ∨ 21120 ≤ ix (x5 - x7) then none else
    lt ((if x6 < ((M.1 (a0 + 11) (ix (x4 + x7))) + (M.1 (a0 + 11) (ix (x5 - x7)))) then ((M.1 (a0 + 11) (ix (x4 + x7))) + (M.1 (a0 + 11) (ix (x5 - x7)))) else x6)) fun x6_64 =>
    lt (x7 + 1) fun x7_66 =>
    k32 x6_64 x7_66
set_option maxRecDepth 100000 in
set_option maxHeartbeats 4000000 in
theorem wX3_bestByHalves_b32 {r : Int32}   {k32 : Int32 → Int32 → Option Int32} {a0 : Nat} {x3 : Int32} {x4 : Int32} {x5 : Int32} {x6 : Int32} {x7 : Int32} {M : Mm} (B : Bx p s m args c cX3_bestByHalves 8 RX3 E L) (hr : meth.sig.returnType = (some .int)) (hlk : meth.locks = false)  (ih32 : ∀ (x6 : Int32) (x7 : Int32), k32 x6 x7 = some r → ∀ (H : Heap) (locs : List Loc) (ls : Array Slot), Rx s E L M H locs → lv_has ls 8 [(0, .ref a0), (3, .int x3), (4, .int x4), (5, .int x5), (6, .int x6), (7, .int x7)] → W p l e (rmD (d + 1)) s m args below meth c H locs 0 0 (MQ below (QcM E L (some (.int r)) M) args s 0 0 E.2.2.2) (F0 m 32 ls [])) (h0 : At L a0 T3) (h : fX3_bestByHalves_b32 fu k32 a0 x3 x4 x5 x6 x7 M = some r) (hR : Rx s E L M H locs) (hl : lv_has ls 8 [(0, .ref a0), (3, .int x3), (4, .int x4), (5, .int x5), (6, .int x6), (7, .int x7)]) : W p l e (rmD (d + 1)) s m args below meth c H locs 0 0 (MQ below (QcM E L (some (.int r)) M) args s 0 0 E.2.2.2) (F0 m 32 ls []) := by
  have hx := B.1
  have hb := B.2.1
  unfold fX3_bestByHalves_b32 at h
  refine lv_iload hx hb dX3_bestByHalves_32 (lv_at hl 5 rfl) ?_
  refine lv_iload_n hx hb dX3_bestByHalves_34 rfl (lv_at hl 1 rfl) ?_
  refine lv_icmp_gt (tgt := 72) hx hb dX3_bestByHalves_35 (by decide) (fun c_35 => ?_) (fun c_35 => ?_)
  · rw [if_pos c_35] at h
    exact wX3_bestByHalves_j72 B hr hlk  h hR (lv_sub hl [4] rfl)
  · rw [if_neg c_35] at h
    refine lv_iload hx hb dX3_bestByHalves_38 (lv_at hl 4 rfl) ?_
    refine lv_aload_n hx hb dX3_bestByHalves_40 rfl (lv_at hl 0 rfl) ?_
    refine gf_X3_18 B hR (h0.at0 rfl) dX3_bestByHalves_41 ?_
    refine lv_iload hx hb dX3_bestByHalves_44 (lv_at hl 2 rfl) ?_
    refine lv_iload hx hb dX3_bestByHalves_46 (lv_at hl 5 rfl) ?_
    refine lv_iadd hx hb dX3_bestByHalves_48 ?_
    obtain ⟨hi_49, h⟩ := ifn_el h
    refine r_iald B hR (h0.at 11 rfl) hi_49 dX3_bestByHalves_49 ?_
    refine lv_aload_n hx hb dX3_bestByHalves_50 rfl (lv_at hl 0 rfl) ?_
    refine gf_X3_18 B hR (h0.at0 rfl) dX3_bestByHalves_51 ?_
    refine lv_iload hx hb dX3_bestByHalves_54 (lv_at hl 3 rfl) ?_
    refine lv_iload hx hb dX3_bestByHalves_56 (lv_at hl 5 rfl) ?_
    refine lv_isub hx hb dX3_bestByHalves_58 ?_
    obtain ⟨hi_59, h⟩ := ifn_el h
    refine r_iald B hR (h0.at 11 rfl) hi_59 dX3_bestByHalves_59 ?_
    refine lv_iadd hx hb dX3_bestByHalves_60 ?_
    refine mm_X3_64 B hl.1 (Nat.le_of_ble_eq_true rfl) dX3_bestByHalves_61 ?_
    obtain ⟨x6_64, ex6_64, h⟩ := lt_el h
    refine r_nmI ex6_64 ?_
    refine lv_istore (lv' := [(6, .int x6_64), (0, .ref a0), (3, .int x3), (4, .int x4), (5, .int x5), (7, .int x7)]) hx hb dX3_bestByHalves_64 hl (by decide) rfl (fun ls hl => ?_)
    obtain ⟨x7_66, ex7_66, h⟩ := lt_el h
    refine lv_iinc (v := x7_66) (lv' := [(7, .int x7_66), (6, .int x6_64), (0, .ref a0), (3, .int x3), (4, .int x4), (5, .int x5)]) hx hb dX3_bestByHalves_66 hl (k := 5) rfl (by rw [ex7_66]; rfl) (by decide) rfl (fun ls hl => ?_)
    refine lv_goto (tgt := 32) hx hb dX3_bestByHalves_69 (by decide) ?_
    exact ih32 x6_64 x7_66 h _ _ _ hR (lv_sub hl [2, 3, 4, 5, 1, 0] rfl)
def fX3_bestByHalves_l32 (fu : Nat) (a0 : Nat) (x3 : Int32) (x4 : Int32) (x5 : Int32) (M : Mm) (x6 : Int32) (x7 : Int32) : Option Int32 := lp (fun (rec : (Int32 × Int32) → Option Int32) (s : Int32 × Int32) => fX3_bestByHalves_b32 fu  (fun x6 x7 => rec (x6, x7)) a0 x3 x4 x5 s.1 s.2 M) fu (x6, x7)
set_option maxRecDepth 100000 in
set_option maxHeartbeats 4000000 in
theorem wX3_bestByHalves_l32 {r : Int32}   {a0 : Nat} {x3 : Int32} {x4 : Int32} {x5 : Int32} {x6 : Int32} {x7 : Int32} {M : Mm} (B : Bx p s m args c cX3_bestByHalves 8 RX3 E L) (hr : meth.sig.returnType = (some .int)) (hlk : meth.locks = false)  (h0 : At L a0 T3) (h : fX3_bestByHalves_l32 fu a0 x3 x4 x5 M x6 x7 = some r) (hR : Rx s E L M H locs) (hl : lv_has ls 8 [(0, .ref a0), (3, .int x3), (4, .int x4), (5, .int x5), (6, .int x6), (7, .int x7)]) : W p l e (rmD (d + 1)) s m args below meth c H locs 0 0 (MQ below (QcM E L (some (.int r)) M) args s 0 0 E.2.2.2) (F0 m 32 ls []) := by
  refine lp_G (G := fun z : Int32 × Int32 => ∀ (H : Heap) (locs : List Loc) (ls : Array Slot), Rx s E L M H locs → lv_has ls 8 [(0, .ref a0), (3, .int x3), (4, .int x4), (5, .int x5), (6, .int z.1), (7, .int z.2)] → W p l e (rmD (d + 1)) s m args below meth c H locs 0 0 (MQ below (QcM E L (some (.int r)) M) args s 0 0 E.2.2.2) (F0 m 32 ls [])) (fun rec ih z h H locs ls hR hl => ?_) fu _ h H locs ls hR hl
  exact wX3_bestByHalves_b32 B hr hlk  (fun x6 x7 h => ih (x6, x7) h) h0 h hR hl
def fX3_bestByHalves (fu : Nat) (a0 : Nat) (x1 : Int32) (x2 : Int32) (x3 : Int32) (M : Mm) : Option Int32 :=
  bi (fX3_cell fu (x1 + 1) x2 0) fun r_5 =>
  if x1 < 0 ∨ 320 ≤ ix x1 then none else
  bi (fX3_cell fu (M.1 ((a0 + 1) + 3) (ix x1)) x2 x3) fun r_21 =>
  fX3_bestByHalves_l32 fu a0 x3 r_5 r_21 M 0 0
set_option maxRecDepth 100000 in
set_option maxHeartbeats 4000000 in
theorem mX3_bestByHalves {l : Launch} {E : Ge} {L : Lay} (fu d : Nat) {a0 : Nat} {x1 : Int32} {x2 : Int32} {x3 : Int32} {M : Mm} {r : Int32}  (h0 : At L a0 T3) (h : fX3_bestByHalves fu a0 x1 x2 x3 M = some r) : Ct l E L yX3_bestByHalves cX3_bestByHalves 8 (some .int) (d + 1) [.ref a0, .int x1, .int x2, .int x3] M (some (.int r)) M := by
  refine Ct.of (by decide) ?_
  intro p e s m below meth c hr hlk B hR
  have B : Bx p s m _ c cX3_bestByHalves 8 RX3 E L := B
  have hx := B.1
  have hb := B.2.1
  have hl := lv_entry ([.ref a0, .int x1, .int x2, .int x3]) (n := 8) (Nat.le_of_ble_eq_true rfl)
  rw [lg_entry_eq]
  generalize (lg_sl ([.ref a0, .int x1, .int x2, .int x3]) ++ List.replicate (8 - (lg_sl ([.ref a0, .int x1, .int x2, .int x3])).length) Slot.unset).toArray = ls at hl ⊢
  have hl : lv_has ls 8 [(0, .ref a0), (1, .int x1), (2, .int x2), (3, .int x3)] := hl
  unfold fX3_bestByHalves at h
  refine lv_iload_n hx hb dX3_bestByHalves_0 rfl (lv_at hl 1 rfl) ?_
  refine lv_iconst (v := 1) hx hb dX3_bestByHalves_1 (by decide) ?_
  refine lv_iadd hx hb dX3_bestByHalves_2 ?_
  refine lv_iload_n hx hb dX3_bestByHalves_3 rfl (lv_at hl 2 rfl) ?_
  refine lv_iconst (v := 0) hx hb dX3_bestByHalves_4 (by decide) ?_
  obtain ⟨r_5, hc_5, h⟩ := bi_el h
  refine is_X3_39 B hR hl.1 (mX3_cell fu _  hc_5) (Nat.le_of_ble_eq_true rfl) dX3_bestByHalves_5 (fun H locs hR => ?_)
  refine lv_istore (lv' := [(4, .int r_5), (0, .ref a0), (1, .int x1), (2, .int x2), (3, .int x3)]) hx hb dX3_bestByHalves_8 hl (by decide) rfl (fun ls hl => ?_)
  refine lv_aload_n hx hb dX3_bestByHalves_10 rfl (lv_at hl 1 rfl) ?_
  refine gf_X3_12 B hR (h0.at0 rfl) dX3_bestByHalves_11 ?_
  refine gf_X3_70 B hR ((sb_3_0 h0).at0 rfl) dX3_bestByHalves_14 ?_
  refine lv_iload_n hx hb dX3_bestByHalves_17 rfl (lv_at hl 2 rfl) ?_
  obtain ⟨hi_18, h⟩ := ifn_el h
  refine r_iald B hR ((sb_3_0 h0).at 3 rfl) hi_18 dX3_bestByHalves_18 ?_
  refine lv_iload_n hx hb dX3_bestByHalves_19 rfl (lv_at hl 3 rfl) ?_
  refine lv_iload_n hx hb dX3_bestByHalves_20 rfl (lv_at hl 4 rfl) ?_
  obtain ⟨r_21, hc_21, h⟩ := bi_el h
  refine is_X3_39 B hR hl.1 (mX3_cell fu _  hc_21) (Nat.le_of_ble_eq_true rfl) dX3_bestByHalves_21 (fun H locs hR => ?_)
  refine lv_istore (lv' := [(5, .int r_21), (4, .int r_5), (0, .ref a0), (1, .int x1), (2, .int x2), (3, .int x3)]) hx hb dX3_bestByHalves_24 hl (by decide) rfl (fun ls hl => ?_)
  refine lv_iconst (v := 0) hx hb dX3_bestByHalves_26 (by decide) ?_
  refine lv_istore (lv' := [(6, .int 0), (5, .int r_21), (4, .int r_5), (0, .ref a0), (1, .int x1), (2, .int x2), (3, .int x3)]) hx hb dX3_bestByHalves_27 hl (by decide) rfl (fun ls hl => ?_)
  refine lv_iconst (v := 0) hx hb dX3_bestByHalves_29 (by decide) ?_
  refine lv_istore (lv' := [(7, .int 0), (6, .int 0), (5, .int r_21), (4, .int r_5), (0, .ref a0), (1, .int x1), (2, .int x2), (3, .int x3)]) hx hb dX3_bestByHalves_30 hl (by decide) rfl (fun ls hl => ?_)
  exact wX3_bestByHalves_l32 B hr hlk h0 h hR (lv_sub hl [4, 7, 3, 2, 1, 0] rfl)
def fX3_asItIs_j45 (fu : Nat) (t0 : Int32) (M : Mm) : Option Int32 :=
  some t0
set_option maxRecDepth 100000 in
set_option maxHeartbeats 4000000 in
theorem wX3_asItIs_j45 {r : Int32}   {t0 : Int32} {M : Mm} (B : Bx p s m args c cX3_asItIs 4 RX3 E L) (hr : meth.sig.returnType = (some .int)) (hlk : meth.locks = false)   (h : fX3_asItIs_j45 fu t0 M = some r) (hR : Rx s E L M H locs) (hl : lv_has ls 4 []) : W p l e (rmD (d + 2)) s m args below meth c H locs 0 0 (MQ below (QcM E L (some (.int r)) M) args s 0 0 E.2.2.2) (F0 m 45 ls [.int t0]) := by
  have hx := B.1
  have hb := B.2.1
  unfold fX3_asItIs_j45 at h
  exact r_iretP B hR hr hlk h dX3_asItIs_45
def fX3_asItIs (fu : Nat) (a0 : Nat) (x1 : Int32) (x2 : Int32) (x3 : Int32) (M : Mm) : Option Int32 :=
  if x1 < 0 ∨ 320 ≤ ix x1 then none else
  if (M.1 ((a0 + 1) + 3) (ix x1)) = 0 then
    bi (fX9_isRight fu (a0 + 1) x1 x2 5 M) fun r_27 =>
    if r_27 = 0 then
      fX3_asItIs_j45 fu 0 M
    else
      bi (fX9_open fu (a0 + 1) x1 M) fun r_38 =>
      fX3_asItIs_j45 fu r_38 M
  else
    bi (fX3_bestByHalves fu a0 x1 x2 x3 M) fun r_16 =>
    some r_16
set_option maxRecDepth 100000 in
set_option maxHeartbeats 4000000 in
theorem mX3_asItIs {l : Launch} {E : Ge} {L : Lay} (fu d : Nat) {a0 : Nat} {x1 : Int32} {x2 : Int32} {x3 : Int32} {M : Mm} {r : Int32}  (h0 : At L a0 T3) (h : fX3_asItIs fu a0 x1 x2 x3 M = some r) : Ct l E L yX3_asItIs cX3_asItIs 4 (some .int) (d + 2) [.ref a0, .int x1, .int x2, .int x3] M (some (.int r)) M := by
  refine Ct.of (by decide) ?_
  intro p e s m below meth c hr hlk B hR
  have B : Bx p s m _ c cX3_asItIs 4 RX3 E L := B
  have hx := B.1
  have hb := B.2.1
  have hl := lv_entry ([.ref a0, .int x1, .int x2, .int x3]) (n := 4) (Nat.le_of_ble_eq_true rfl)
  rw [lg_entry_eq]
  generalize (lg_sl ([.ref a0, .int x1, .int x2, .int x3]) ++ List.replicate (4 - (lg_sl ([.ref a0, .int x1, .int x2, .int x3])).length) Slot.unset).toArray = ls at hl ⊢
  have hl : lv_has ls 4 [(0, .ref a0), (1, .int x1), (2, .int x2), (3, .int x3)] := hl
  unfold fX3_asItIs at h
  refine lv_aload_n hx hb dX3_asItIs_0 rfl (lv_at hl 0 rfl) ?_
  refine gf_X3_12 B hR (h0.at0 rfl) dX3_asItIs_1 ?_
  refine gf_X3_70 B hR ((sb_3_0 h0).at0 rfl) dX3_asItIs_4 ?_
  refine lv_iload_n hx hb dX3_asItIs_7 rfl (lv_at hl 1 rfl) ?_
  obtain ⟨hi_8, h⟩ := ifn_el h
  refine r_iald B hR ((sb_3_0 h0).at 3 rfl) hi_8 dX3_asItIs_8 ?_
  refine lv_if_eq (tgt := 20) hx hb dX3_asItIs_9 (by decide) (fun c_9 => ?_) (fun c_9 => ?_)
  · rw [if_pos c_9] at h
    refine lv_aload_n hx hb dX3_asItIs_20 rfl (lv_at hl 0 rfl) ?_
    refine gf_X3_12 B hR (h0.at0 rfl) dX3_asItIs_21 ?_
    refine lv_iload_n hx hb dX3_asItIs_24 rfl (lv_at hl 1 rfl) ?_
    refine lv_iload_n hx hb dX3_asItIs_25 rfl (lv_at hl 2 rfl) ?_
    refine lv_iconst (v := 5) hx hb dX3_asItIs_26 (by decide) ?_
    obtain ⟨r_27, hc_27, h⟩ := bi_el h
    refine iv_X3_76 B hR ((sb_3_0 h0).at0 rfl) hl.1 (mX9_isRight fu _ (sb_3_0 h0) hc_27) (Nat.le_of_ble_eq_true rfl) dX3_asItIs_27 (fun H locs hR => ?_)
    refine lv_if_eq (tgt := 44) hx hb dX3_asItIs_30 (by decide) (fun c_30 => ?_) (fun c_30 => ?_)
    · rw [if_pos c_30] at h
      refine lv_iconst (v := 0) hx hb dX3_asItIs_44 (by decide) ?_
      exact wX3_asItIs_j45 B hr hlk  h hR (lv_sub hl [] rfl)
    · rw [if_neg c_30] at h
      refine lv_aload_n hx hb dX3_asItIs_33 rfl (lv_at hl 0 rfl) ?_
      refine gf_X3_12 B hR (h0.at0 rfl) dX3_asItIs_34 ?_
      refine lv_iload_n hx hb dX3_asItIs_37 rfl (lv_at hl 1 rfl) ?_
      obtain ⟨r_38, hc_38, h⟩ := bi_el h
      refine iv_X3_54 B hR ((sb_3_0 h0).at0 rfl) hl.1 (mX9_open fu _ (sb_3_0 h0) hc_38) (Nat.le_of_ble_eq_true rfl) dX3_asItIs_38 (fun H locs hR => ?_)
      refine lv_goto (tgt := 45) hx hb dX3_asItIs_41 (by decide) ?_
      exact wX3_asItIs_j45 B hr hlk  h hR (lv_sub hl [] rfl)
  · rw [if_neg c_9] at h
    refine lv_aload_n hx hb dX3_asItIs_12 rfl (lv_at hl 0 rfl) ?_
    refine lv_iload_n hx hb dX3_asItIs_13 rfl (lv_at hl 1 rfl) ?_
    refine lv_iload_n hx hb dX3_asItIs_14 rfl (lv_at hl 2 rfl) ?_
    refine lv_iload_n hx hb dX3_asItIs_15 rfl (lv_at hl 3 rfl) ?_
    obtain ⟨r_16, hc_16, h⟩ := bi_el h
    refine iv_X3_73 B hR (h0.at0 rfl) hl.1 (mX3_bestByHalves fu _ h0 hc_16) (Nat.le_of_ble_eq_true rfl) dX3_asItIs_16 (fun H locs hR => ?_)
    exact r_iretP B hR hr hlk h dX3_asItIs_19
def fX3_byItself_j60 (fu : Nat) (x4 : Int32) (M : Mm) : Option Int32 :=
  some x4
set_option maxRecDepth 100000 in
set_option maxHeartbeats 4000000 in
theorem wX3_byItself_j60 {r : Int32}   {x4 : Int32} {M : Mm} (B : Bx p s m args c cX3_byItself 7 RX3 E L) (hr : meth.sig.returnType = (some .int)) (hlk : meth.locks = false)   (h : fX3_byItself_j60 fu x4 M = some r) (hR : Rx s E L M H locs) (hl : lv_has ls 7 [(4, .int x4)]) : W p l e (rmD (d + 1)) s m args below meth c H locs 0 0 (MQ below (QcM E L (some (.int r)) M) args s 0 0 E.2.2.2) (F0 m 60 ls []) := by
  have hx := B.1
  have hb := B.2.1
  unfold fX3_byItself_j60 at h
  refine lv_iload hx hb dX3_byItself_60 (lv_at hl 0 rfl) ?_
  exact r_iretP B hR hr hlk h dX3_byItself_62
def fX3_byItself_j54 (fu : Nat) (k6 : Int32 → Int32 → Option Int32) (a0 : Nat) (x1 : Int32) (x2 : Int32) (x3 : Int32) (x4 : Int32) (x5 : Int32) (M : Mm) : Option Int32 :=
  lt (x5 + 1) fun x5_54 =>
  k6 x4 x5_54
set_option maxRecDepth 100000 in
set_option maxHeartbeats 4000000 in
theorem wX3_byItself_j54 {r : Int32}  {k6 : Int32 → Int32 → Option Int32} {a0 : Nat} {x1 : Int32} {x2 : Int32} {x3 : Int32} {x4 : Int32} {x5 : Int32} {M : Mm} (B : Bx p s m args c cX3_byItself 7 RX3 E L) (hr : meth.sig.returnType = (some .int)) (hlk : meth.locks = false) (ih6 : ∀ (x4 : Int32) (x5 : Int32), k6 x4 x5 = some r → ∀ (H : Heap) (locs : List Loc) (ls : Array Slot), Rx s E L M H locs → lv_has ls 7 [(0, .ref a0), (1, .int x1), (2, .int x2), (3, .int x3), (4, .int x4), (5, .int x5)] → W p l e (rmD (d + 1)) s m args below meth c H locs 0 0 (MQ below (QcM E L (some (.int r)) M) args s 0 0 E.2.2.2) (F0 m 6 ls [])) (h0 : At L a0 T3) (h : fX3_byItself_j54 fu k6 a0 x1 x2 x3 x4 x5 M = some r) (hR : Rx s E L M H locs) (hl : lv_has ls 7 [(0, .ref a0), (1, .int x1), (2, .int x2), (3, .int x3), (4, .int x4), (5, .int x5)]) : W p l e (rmD (d + 1)) s m args below meth c H locs 0 0 (MQ below (QcM E L (some (.int r)) M) args s 0 0 E.2.2.2) (F0 m 54 ls []) := by
  have hx := B.1
  have hb := B.2.1
  unfold fX3_byItself_j54 at h
  obtain ⟨x5_54, ex5_54, h⟩ := lt_el h
  refine lv_iinc (v := x5_54) (lv' := [(5, .int x5_54), (0, .ref a0), (1, .int x1), (2, .int x2), (3, .int x3), (4, .int x4)]) hx hb dX3_byItself_54 hl (k := 5) rfl (by rw [ex5_54]; rfl) (by decide) rfl (fun ls hl => ?_)
  refine lv_goto (tgt := 6) hx hb dX3_byItself_57 (by decide) ?_
  exact ih6 x4 x5_54 h _ _ _ hR (lv_sub hl [1, 2, 3, 4, 5, 0] rfl)
def fX3_byItself_b6 (fu : Nat) (k6 : Int32 → Int32 → Option Int32) (a0 : Nat) (x1 : Int32) (x2 : Int32) (x3 : Int32) (x4 : Int32) (x5 : Int32) (M : Mm) : Option Int32 :=
  if 5 ≤ x5 then
    fX3_byItself_j60 fu x4 M
  else
    if x3 ≤ 0 then
      fX3_byItself_j60 fu x4 M
    else
      if ((x2 * 5) + x5) < 0 ∨ 30 ≤ ix ((x2 * 5) + x5) then none else
      lt ((laidT.getD (ix ((x2 * 5) + x5)) 0)) fun x6_26 =>
      if x6_26 < 0 then
        fX3_byItself_j54 fu k6 a0 x1 x2 x3 x4 x5 M
      else
        bi (fX3_cell fu x1 x6_26 (x3 - 1)) fun r_45 =>
        if r_45 < 0 ∨ 21120 ≤ ix r_45 then none else
        lt ((if x4 < (M.1 (a0 + 11) (ix r_45)) then (M.1 (a0 + 11) (ix r_45)) else x4)) fun x4_52 =>
        fX3_byItself_j54 fu k6 a0 x1 x2 x3 x4_52 x5 M
set_option maxRecDepth 100000 in
set_option maxHeartbeats 4000000 in
theorem wX3_byItself_b6 {r : Int32}   {k6 : Int32 → Int32 → Option Int32} {a0 : Nat} {x1 : Int32} {x2 : Int32} {x3 : Int32} {x4 : Int32} {x5 : Int32} {M : Mm} (B : Bx p s m args c cX3_byItself 7 RX3 E L) (hr : meth.sig.returnType = (some .int)) (hlk : meth.locks = false)  (ih6 : ∀ (x4 : Int32) (x5 : Int32), k6 x4 x5 = some r → ∀ (H : Heap) (locs : List Loc) (ls : Array Slot), Rx s E L M H locs → lv_has ls 7 [(0, .ref a0), (1, .int x1), (2, .int x2), (3, .int x3), (4, .int x4), (5, .int x5)] → W p l e (rmD (d + 1)) s m args below meth c H locs 0 0 (MQ below (QcM E L (some (.int r)) M) args s 0 0 E.2.2.2) (F0 m 6 ls [])) (h0 : At L a0 T3) (h : fX3_byItself_b6 fu k6 a0 x1 x2 x3 x4 x5 M = some r) (hR : Rx s E L M H locs) (hl : lv_has ls 7 [(0, .ref a0), (1, .int x1), (2, .int x2), (3, .int x3), (4, .int x4), (5, .int x5)]) : W p l e (rmD (d + 1)) s m args below meth c H locs 0 0 (MQ below (QcM E L (some (.int r)) M) args s 0 0 E.2.2.2) (F0 m 6 ls []) := by
  have hx := B.1
  have hb := B.2.1
  unfold fX3_byItself_b6 at h
  refine lv_iload hx hb dX3_byItself_6 (lv_at hl 5 rfl) ?_
  refine lv_iconst (v := 5) hx hb dX3_byItself_8 (by decide) ?_
  refine lv_icmp_ge (tgt := 60) hx hb dX3_byItself_9 (by decide) (fun c_9 => ?_) (fun c_9 => ?_)
  · rw [if_pos c_9] at h
    exact wX3_byItself_j60 B hr hlk  h hR (lv_sub hl [4] rfl)
  · rw [if_neg c_9] at h
    refine lv_iload_n hx hb dX3_byItself_12 rfl (lv_at hl 3 rfl) ?_
    refine lv_if_le (tgt := 60) hx hb dX3_byItself_13 (by decide) (fun c_13 => ?_) (fun c_13 => ?_)
    · rw [if_pos c_13] at h
      exact wX3_byItself_j60 B hr hlk  h hR (lv_sub hl [4] rfl)
    · rw [if_neg c_13] at h
      refine gs_X3_80 B hR dX3_byItself_16 ?_
      refine lv_iload_n hx hb dX3_byItself_19 rfl (lv_at hl 2 rfl) ?_
      refine lv_iconst (v := 5) hx hb dX3_byItself_20 (by decide) ?_
      refine lv_imul hx hb dX3_byItself_21 ?_
      refine lv_iload hx hb dX3_byItself_22 (lv_at hl 5 rfl) ?_
      refine lv_iadd hx hb dX3_byItself_24 ?_
      obtain ⟨hi_25, h⟩ := ifn_el h
      refine r_tald B hR B.2.2.2.2.2.2.2.1.2 hi_25 dX3_byItself_25 ?_
      obtain ⟨x6_26, ex6_26, h⟩ := lt_el h
      refine r_nmI ex6_26 ?_
      refine lv_istore (lv' := [(6, .int x6_26), (0, .ref a0), (1, .int x1), (2, .int x2), (3, .int x3), (4, .int x4), (5, .int x5)]) hx hb dX3_byItself_26 hl (by decide) rfl (fun ls hl => ?_)
      refine lv_iload hx hb dX3_byItself_28 (lv_at hl 0 rfl) ?_
      refine lv_if_lt (tgt := 54) hx hb dX3_byItself_30 (by decide) (fun c_30 => ?_) (fun c_30 => ?_)
      · rw [if_pos c_30] at h
        exact wX3_byItself_j54 B hr hlk ih6 h0 h hR (lv_sub hl [1, 2, 3, 4, 5, 6] rfl)
      · rw [if_neg c_30] at h
        refine lv_iload hx hb dX3_byItself_33 (lv_at hl 5 rfl) ?_
        refine lv_aload_n hx hb dX3_byItself_35 rfl (lv_at hl 1 rfl) ?_
        refine gf_X3_18 B hR (h0.at0 rfl) dX3_byItself_36 ?_
        refine lv_iload_n hx hb dX3_byItself_39 rfl (lv_at hl 2 rfl) ?_
        refine lv_iload hx hb dX3_byItself_40 (lv_at hl 0 rfl) ?_
        refine lv_iload_n hx hb dX3_byItself_42 rfl (lv_at hl 4 rfl) ?_
        refine lv_iconst (v := 1) hx hb dX3_byItself_43 (by decide) ?_
        refine lv_isub hx hb dX3_byItself_44 ?_
        obtain ⟨r_45, hc_45, h⟩ := bi_el h
        refine is_X3_39 B hR hl.1 (mX3_cell fu _  hc_45) (Nat.le_of_ble_eq_true rfl) dX3_byItself_45 (fun H locs hR => ?_)
        obtain ⟨hi_48, h⟩ := ifn_el h
        refine r_iald B hR (h0.at 11 rfl) hi_48 dX3_byItself_48 ?_
        refine mm_X3_64 B hl.1 (Nat.le_of_ble_eq_true rfl) dX3_byItself_49 ?_
        obtain ⟨x4_52, ex4_52, h⟩ := lt_el h
        refine r_nmI ex4_52 ?_
        refine lv_istore (lv' := [(4, .int x4_52), (6, .int x6_26), (0, .ref a0), (1, .int x1), (2, .int x2), (3, .int x3), (5, .int x5)]) hx hb dX3_byItself_52 hl (by decide) rfl (fun ls hl => ?_)
        exact wX3_byItself_j54 B hr hlk ih6 h0 h hR (lv_sub hl [2, 3, 4, 5, 0, 6] rfl)
def fX3_byItself_l6 (fu : Nat) (a0 : Nat) (x1 : Int32) (x2 : Int32) (x3 : Int32) (M : Mm) (x4 : Int32) (x5 : Int32) : Option Int32 := lp (fun (rec : (Int32 × Int32) → Option Int32) (s : Int32 × Int32) => fX3_byItself_b6 fu  (fun x4 x5 => rec (x4, x5)) a0 x1 x2 x3 s.1 s.2 M) fu (x4, x5)
set_option maxRecDepth 100000 in
set_option maxHeartbeats 4000000 in
theorem wX3_byItself_l6 {r : Int32}   {a0 : Nat} {x1 : Int32} {x2 : Int32} {x3 : Int32} {x4 : Int32} {x5 : Int32} {M : Mm} (B : Bx p s m args c cX3_byItself 7 RX3 E L) (hr : meth.sig.returnType = (some .int)) (hlk : meth.locks = false)  (h0 : At L a0 T3) (h : fX3_byItself_l6 fu a0 x1 x2 x3 M x4 x5 = some r) (hR : Rx s E L M H locs) (hl : lv_has ls 7 [(0, .ref a0), (1, .int x1), (2, .int x2), (3, .int x3), (4, .int x4), (5, .int x5)]) : W p l e (rmD (d + 1)) s m args below meth c H locs 0 0 (MQ below (QcM E L (some (.int r)) M) args s 0 0 E.2.2.2) (F0 m 6 ls []) := by
  refine lp_G (G := fun z : Int32 × Int32 => ∀ (H : Heap) (locs : List Loc) (ls : Array Slot), Rx s E L M H locs → lv_has ls 7 [(0, .ref a0), (1, .int x1), (2, .int x2), (3, .int x3), (4, .int z.1), (5, .int z.2)] → W p l e (rmD (d + 1)) s m args below meth c H locs 0 0 (MQ below (QcM E L (some (.int r)) M) args s 0 0 E.2.2.2) (F0 m 6 ls [])) (fun rec ih z h H locs ls hR hl => ?_) fu _ h H locs ls hR hl
  exact wX3_byItself_b6 B hr hlk  (fun x4 x5 h => ih (x4, x5) h) h0 h hR hl
def fX3_byItself (fu : Nat) (a0 : Nat) (x1 : Int32) (x2 : Int32) (x3 : Int32) (M : Mm) : Option Int32 :=
  fX3_byItself_l6 fu a0 x1 x2 x3 M 0 0
set_option maxRecDepth 100000 in
set_option maxHeartbeats 4000000 in
theorem mX3_byItself {l : Launch} {E : Ge} {L : Lay} (fu d : Nat) {a0 : Nat} {x1 : Int32} {x2 : Int32} {x3 : Int32} {M : Mm} {r : Int32}  (h0 : At L a0 T3) (h : fX3_byItself fu a0 x1 x2 x3 M = some r) : Ct l E L yX3_byItself cX3_byItself 7 (some .int) (d + 1) [.ref a0, .int x1, .int x2, .int x3] M (some (.int r)) M := by
  refine Ct.of (by decide) ?_
  intro p e s m below meth c hr hlk B hR
  have B : Bx p s m _ c cX3_byItself 7 RX3 E L := B
  have hx := B.1
  have hb := B.2.1
  have hl := lv_entry ([.ref a0, .int x1, .int x2, .int x3]) (n := 7) (Nat.le_of_ble_eq_true rfl)
  rw [lg_entry_eq]
  generalize (lg_sl ([.ref a0, .int x1, .int x2, .int x3]) ++ List.replicate (7 - (lg_sl ([.ref a0, .int x1, .int x2, .int x3])).length) Slot.unset).toArray = ls at hl ⊢
  have hl : lv_has ls 7 [(0, .ref a0), (1, .int x1), (2, .int x2), (3, .int x3)] := hl
  unfold fX3_byItself at h
  refine lv_iconst (v := 0) hx hb dX3_byItself_0 (by decide) ?_
  refine lv_istore (lv' := [(4, .int 0), (0, .ref a0), (1, .int x1), (2, .int x2), (3, .int x3)]) hx hb dX3_byItself_1 hl (by decide) rfl (fun ls hl => ?_)
  refine lv_iconst (v := 0) hx hb dX3_byItself_3 (by decide) ?_
  refine lv_istore (lv' := [(5, .int 0), (4, .int 0), (0, .ref a0), (1, .int x1), (2, .int x2), (3, .int x3)]) hx hb dX3_byItself_4 hl (by decide) rfl (fun ls hl => ?_)
  exact wX3_byItself_l6 B hr hlk h0 h hR (lv_sub hl [2, 3, 4, 5, 1, 0] rfl)
def fX3_weigh_j78 (fu : Nat) (M : Mm) : Option Mm :=
  some M
set_option maxRecDepth 100000 in
set_option maxHeartbeats 4000000 in
theorem wX3_weigh_j78 {M' : Mm}    {M : Mm} (B : Bx p s m args c cX3_weigh 6 RX3 E L) (hr : meth.sig.returnType = none) (hlk : meth.locks = false)   (h : fX3_weigh_j78 fu M = some M') (hR : Rx s E L M H locs) (hl : lv_has ls 6 []) : W p l e (rmD (d + 3)) s m args below meth c H locs 0 0 (MQ below (QcM E L none M') args s 0 0 E.2.2.2) (F0 m 78 ls []) := by
  have hx := B.1
  have hb := B.2.1
  unfold fX3_weigh_j78 at h
  exact r_vretW B hR hr hlk h dX3_weigh_78
def fX3_weigh_j58 (fu : Nat) (k15 : Int32 → Int32 → Mm → Option Mm) (a0 : Nat) (x1 : Int32) (x2 : Int32) (x3 : Int32) (x4 : Int32) (x5 : Int32) (M : Mm) : Option Mm :=
  bi (fX3_cell fu x1 x2 x5) fun r_66 =>
  if r_66 < 0 ∨ 21120 ≤ ix r_66 then none else
  lt (wI M (a0 + 11) (ix r_66) x4) fun M_71 =>
  lt (x5 + 1) fun x5_72 =>
  k15 x4 x5_72 M_71
set_option maxRecDepth 100000 in
set_option maxHeartbeats 4000000 in
theorem wX3_weigh_j58 {M' : Mm}  {k15 : Int32 → Int32 → Mm → Option Mm} {a0 : Nat} {x1 : Int32} {x2 : Int32} {x3 : Int32} {x4 : Int32} {x5 : Int32} {M : Mm} (B : Bx p s m args c cX3_weigh 6 RX3 E L) (hr : meth.sig.returnType = none) (hlk : meth.locks = false) (ih15 : ∀ (x4 : Int32) (x5 : Int32) (M : Mm), k15 x4 x5 M = some M' → ∀ (H : Heap) (locs : List Loc) (ls : Array Slot), Rx s E L M H locs → lv_has ls 6 [(0, .ref a0), (1, .int x1), (2, .int x2), (3, .int x3), (4, .int x4), (5, .int x5)] → W p l e (rmD (d + 3)) s m args below meth c H locs 0 0 (MQ below (QcM E L none M') args s 0 0 E.2.2.2) (F0 m 15 ls [])) (h0 : At L a0 T3) (h : fX3_weigh_j58 fu k15 a0 x1 x2 x3 x4 x5 M = some M') (hR : Rx s E L M H locs) (hl : lv_has ls 6 [(0, .ref a0), (1, .int x1), (2, .int x2), (3, .int x3), (4, .int x4), (5, .int x5)]) : W p l e (rmD (d + 3)) s m args below meth c H locs 0 0 (MQ below (QcM E L none M') args s 0 0 E.2.2.2) (F0 m 58 ls []) := by
  have hx := B.1
  have hb := B.2.1
  unfold fX3_weigh_j58 at h
  refine lv_aload_n hx hb dX3_weigh_58 rfl (lv_at hl 0 rfl) ?_
  refine gf_X3_18 B hR (h0.at0 rfl) dX3_weigh_59 ?_
  refine lv_iload_n hx hb dX3_weigh_62 rfl (lv_at hl 1 rfl) ?_
  refine lv_iload_n hx hb dX3_weigh_63 rfl (lv_at hl 2 rfl) ?_
  refine lv_iload hx hb dX3_weigh_64 (lv_at hl 5 rfl) ?_
  obtain ⟨r_66, hc_66, h⟩ := bi_el h
  refine is_X3_39 B hR hl.1 (mX3_cell fu _  hc_66) (Nat.le_of_ble_eq_true rfl) dX3_weigh_66 (fun H locs hR => ?_)
  refine lv_iload hx hb dX3_weigh_69 (lv_at hl 4 rfl) ?_
  obtain ⟨hi_71, h⟩ := ifn_el h
  obtain ⟨M_71, eM_71, h⟩ := lt_el h
  refine r_iast B hR (h0.at 11 rfl) hi_71 dX3_weigh_71 (fun H locs hR => ?_)
  rw [← eM_71] at hR
  obtain ⟨x5_72, ex5_72, h⟩ := lt_el h
  refine lv_iinc (v := x5_72) (lv' := [(5, .int x5_72), (0, .ref a0), (1, .int x1), (2, .int x2), (3, .int x3), (4, .int x4)]) hx hb dX3_weigh_72 hl (k := 5) rfl (by rw [ex5_72]; rfl) (by decide) rfl (fun ls hl => ?_)
  refine lv_goto (tgt := 15) hx hb dX3_weigh_75 (by decide) ?_
  exact ih15 x4 x5_72 M_71 h _ _ _ hR (lv_sub hl [1, 2, 3, 4, 5, 0] rfl)
def fX3_weigh_j37 (fu : Nat) (k15 : Int32 → Int32 → Mm → Option Mm) (a0 : Nat) (x1 : Int32) (x2 : Int32) (x3 : Int32) (x5 : Int32) (M : Mm) : Option Mm :=
  bi (fX3_asItIs fu a0 x1 x2 x5 M) fun r_42 =>
  bi (fX3_byItself fu a0 x1 x2 x5 M) fun r_50 =>
  lt ((if r_42 < r_50 then r_50 else r_42)) fun x4_56 =>
  fX3_weigh_j58 fu k15 a0 x1 x2 x3 x4_56 x5 M
set_option maxRecDepth 100000 in
set_option maxHeartbeats 4000000 in
theorem wX3_weigh_j37 {M' : Mm}  {k15 : Int32 → Int32 → Mm → Option Mm} {a0 : Nat} {x1 : Int32} {x2 : Int32} {x3 : Int32} {x5 : Int32} {M : Mm} (B : Bx p s m args c cX3_weigh 6 RX3 E L) (hr : meth.sig.returnType = none) (hlk : meth.locks = false) (ih15 : ∀ (x4 : Int32) (x5 : Int32) (M : Mm), k15 x4 x5 M = some M' → ∀ (H : Heap) (locs : List Loc) (ls : Array Slot), Rx s E L M H locs → lv_has ls 6 [(0, .ref a0), (1, .int x1), (2, .int x2), (3, .int x3), (4, .int x4), (5, .int x5)] → W p l e (rmD (d + 3)) s m args below meth c H locs 0 0 (MQ below (QcM E L none M') args s 0 0 E.2.2.2) (F0 m 15 ls [])) (h0 : At L a0 T3) (h : fX3_weigh_j37 fu k15 a0 x1 x2 x3 x5 M = some M') (hR : Rx s E L M H locs) (hl : lv_has ls 6 [(0, .ref a0), (1, .int x1), (2, .int x2), (3, .int x3), (5, .int x5)]) : W p l e (rmD (d + 3)) s m args below meth c H locs 0 0 (MQ below (QcM E L none M') args s 0 0 E.2.2.2) (F0 m 37 ls []) := by
  have hx := B.1
  have hb := B.2.1
  unfold fX3_weigh_j37 at h
  refine lv_aload_n hx hb dX3_weigh_37 rfl (lv_at hl 0 rfl) ?_
  refine lv_iload_n hx hb dX3_weigh_38 rfl (lv_at hl 1 rfl) ?_
  refine lv_iload_n hx hb dX3_weigh_39 rfl (lv_at hl 2 rfl) ?_
  refine lv_iload hx hb dX3_weigh_40 (lv_at hl 4 rfl) ?_
  obtain ⟨r_42, hc_42, h⟩ := bi_el h
  refine iv_X3_58 B hR (h0.at0 rfl) hl.1 (mX3_asItIs fu _ h0 hc_42) (Nat.le_of_ble_eq_true rfl) dX3_weigh_42 (fun H locs hR => ?_)
  refine lv_aload_n hx hb dX3_weigh_45 rfl (lv_at hl 0 rfl) ?_
  refine lv_iload_n hx hb dX3_weigh_46 rfl (lv_at hl 1 rfl) ?_
  refine lv_iload_n hx hb dX3_weigh_47 rfl (lv_at hl 2 rfl) ?_
  refine lv_iload hx hb dX3_weigh_48 (lv_at hl 4 rfl) ?_
  obtain ⟨r_50, hc_50, h⟩ := bi_el h
  refine iv_X3_61 B hR (h0.at0 rfl) hl.1 (mX3_byItself fu _ h0 hc_50) (Nat.le_of_ble_eq_true rfl) dX3_weigh_50 (fun H locs hR => ?_)
  refine mm_X3_64 B hl.1 (Nat.le_of_ble_eq_true rfl) dX3_weigh_53 ?_
  obtain ⟨x4_56, ex4_56, h⟩ := lt_el h
  refine r_nmI ex4_56 ?_
  refine lv_istore (lv' := [(4, .int x4_56), (0, .ref a0), (1, .int x1), (2, .int x2), (3, .int x3), (5, .int x5)]) hx hb dX3_weigh_56 hl (by decide) rfl (fun ls hl => ?_)
  exact wX3_weigh_j58 B hr hlk ih15 h0 h hR (lv_sub hl [1, 2, 3, 4, 0, 5] rfl)
def fX3_weigh_b15 (fu : Nat) (k15 : Int32 → Int32 → Mm → Option Mm) (a0 : Nat) (x1 : Int32) (x2 : Int32) (x3 : Int32) (x4 : Int32) (x5 : Int32) (M : Mm) : Option Mm :=
  if 11 ≤ x5 then
    fX3_weigh_j78 fu M
  else
    if x5 = 0 then
      fX3_weigh_j37 fu k15 a0 x1 x2 x3 x5 M
    else
      if x3 ≤ x4 then
        fX3_weigh_j58 fu k15 a0 x1 x2 x3 x4 x5 M
      else
        if x2 = 0 then
          fX3_weigh_j58 fu k15 a0 x1 x2 x3 x4 x5 M
        else
          fX3_weigh_j37 fu k15 a0 x1 x2 x3 x5 M
set_option maxRecDepth 100000 in
set_option maxHeartbeats 4000000 in
theorem wX3_weigh_b15 {M' : Mm}   {k15 : Int32 → Int32 → Mm → Option Mm} {a0 : Nat} {x1 : Int32} {x2 : Int32} {x3 : Int32} {x4 : Int32} {x5 : Int32} {M : Mm} (B : Bx p s m args c cX3_weigh 6 RX3 E L) (hr : meth.sig.returnType = none) (hlk : meth.locks = false)  (ih15 : ∀ (x4 : Int32) (x5 : Int32) (M : Mm), k15 x4 x5 M = some M' → ∀ (H : Heap) (locs : List Loc) (ls : Array Slot), Rx s E L M H locs → lv_has ls 6 [(0, .ref a0), (1, .int x1), (2, .int x2), (3, .int x3), (4, .int x4), (5, .int x5)] → W p l e (rmD (d + 3)) s m args below meth c H locs 0 0 (MQ below (QcM E L none M') args s 0 0 E.2.2.2) (F0 m 15 ls [])) (h0 : At L a0 T3) (h : fX3_weigh_b15 fu k15 a0 x1 x2 x3 x4 x5 M = some M') (hR : Rx s E L M H locs) (hl : lv_has ls 6 [(0, .ref a0), (1, .int x1), (2, .int x2), (3, .int x3), (4, .int x4), (5, .int x5)]) : W p l e (rmD (d + 3)) s m args below meth c H locs 0 0 (MQ below (QcM E L none M') args s 0 0 E.2.2.2) (F0 m 15 ls []) := by
  have hx := B.1
  have hb := B.2.1
  unfold fX3_weigh_b15 at h
  refine lv_iload hx hb dX3_weigh_15 (lv_at hl 5 rfl) ?_
  refine lv_bipush (v := 11) hx hb dX3_weigh_17 (by decide) ?_
  refine lv_icmp_ge (tgt := 78) hx hb dX3_weigh_19 (by decide) (fun c_19 => ?_) (fun c_19 => ?_)
  · rw [if_pos c_19] at h
    exact wX3_weigh_j78 B hr hlk  h hR (lv_sub hl [] rfl)
  · rw [if_neg c_19] at h
    refine lv_iload hx hb dX3_weigh_22 (lv_at hl 5 rfl) ?_
    refine lv_if_eq (tgt := 37) hx hb dX3_weigh_24 (by decide) (fun c_24 => ?_) (fun c_24 => ?_)
    · rw [if_pos c_24] at h
      exact wX3_weigh_j37 B hr hlk ih15 h0 h hR (lv_sub hl [0, 1, 2, 3, 5] rfl)
    · rw [if_neg c_24] at h
      refine lv_iload hx hb dX3_weigh_27 (lv_at hl 4 rfl) ?_
      refine lv_iload_n hx hb dX3_weigh_29 rfl (lv_at hl 3 rfl) ?_
      refine lv_icmp_ge (tgt := 58) hx hb dX3_weigh_30 (by decide) (fun c_30 => ?_) (fun c_30 => ?_)
      · rw [if_pos c_30] at h
        exact wX3_weigh_j58 B hr hlk ih15 h0 h hR hl
      · rw [if_neg c_30] at h
        refine lv_iload_n hx hb dX3_weigh_33 rfl (lv_at hl 2 rfl) ?_
        refine lv_if_eq (tgt := 58) hx hb dX3_weigh_34 (by decide) (fun c_34 => ?_) (fun c_34 => ?_)
        · rw [if_pos c_34] at h
          exact wX3_weigh_j58 B hr hlk ih15 h0 h hR hl
        · rw [if_neg c_34] at h
          exact wX3_weigh_j37 B hr hlk ih15 h0 h hR (lv_sub hl [0, 1, 2, 3, 5] rfl)
def fX3_weigh_l15 (fu : Nat) (a0 : Nat) (x1 : Int32) (x2 : Int32) (x3 : Int32) (x4 : Int32) (x5 : Int32) (M : Mm) : Option Mm := lp (fun (rec : (Int32 × Int32 × Mm) → Option Mm) (s : Int32 × Int32 × Mm) => fX3_weigh_b15 fu  (fun x4 x5 M => rec (x4, x5, M)) a0 x1 x2 x3 s.1 s.2.1 s.2.2) fu (x4, x5, M)
set_option maxRecDepth 100000 in
set_option maxHeartbeats 4000000 in
theorem wX3_weigh_l15 {M' : Mm}   {a0 : Nat} {x1 : Int32} {x2 : Int32} {x3 : Int32} {x4 : Int32} {x5 : Int32} {M : Mm} (B : Bx p s m args c cX3_weigh 6 RX3 E L) (hr : meth.sig.returnType = none) (hlk : meth.locks = false)  (h0 : At L a0 T3) (h : fX3_weigh_l15 fu a0 x1 x2 x3 x4 x5 M = some M') (hR : Rx s E L M H locs) (hl : lv_has ls 6 [(0, .ref a0), (1, .int x1), (2, .int x2), (3, .int x3), (4, .int x4), (5, .int x5)]) : W p l e (rmD (d + 3)) s m args below meth c H locs 0 0 (MQ below (QcM E L none M') args s 0 0 E.2.2.2) (F0 m 15 ls []) := by
  refine lp_G (G := fun z : Int32 × Int32 × Mm => ∀ (H : Heap) (locs : List Loc) (ls : Array Slot), Rx s E L z.2.2 H locs → lv_has ls 6 [(0, .ref a0), (1, .int x1), (2, .int x2), (3, .int x3), (4, .int z.1), (5, .int z.2.1)] → W p l e (rmD (d + 3)) s m args below meth c H locs 0 0 (MQ below (QcM E L none M') args s 0 0 E.2.2.2) (F0 m 15 ls [])) (fun rec ih z h H locs ls hR hl => ?_) fu _ h H locs ls hR hl
  exact wX3_weigh_b15 B hr hlk  (fun x4 x5 M h => ih (x4, x5, M) h) h0 h hR hl
def fX3_weigh (fu : Nat) (a0 : Nat) (x1 : Int32) (x2 : Int32) (M : Mm) : Option Mm :=
  bi (fX9_open fu (a0 + 1) x1 M) fun r_5 =>
  fX3_weigh_l15 fu a0 x1 x2 r_5 (-1) 0 M
set_option maxRecDepth 100000 in
set_option maxHeartbeats 4000000 in
theorem mX3_weigh {l : Launch} {E : Ge} {L : Lay} (fu d : Nat) {a0 : Nat} {x1 : Int32} {x2 : Int32} {M : Mm} {M' : Mm}  (h0 : At L a0 T3) (h : fX3_weigh fu a0 x1 x2 M = some M') : Ct l E L yX3_weigh cX3_weigh 6 none (d + 3) [.ref a0, .int x1, .int x2] M none M' := by
  refine Ct.of (by decide) ?_
  intro p e s m below meth c hr hlk B hR
  have B : Bx p s m _ c cX3_weigh 6 RX3 E L := B
  have hx := B.1
  have hb := B.2.1
  have hl := lv_entry ([.ref a0, .int x1, .int x2]) (n := 6) (Nat.le_of_ble_eq_true rfl)
  rw [lg_entry_eq]
  generalize (lg_sl ([.ref a0, .int x1, .int x2]) ++ List.replicate (6 - (lg_sl ([.ref a0, .int x1, .int x2])).length) Slot.unset).toArray = ls at hl ⊢
  have hl : lv_has ls 6 [(0, .ref a0), (1, .int x1), (2, .int x2)] := hl
  unfold fX3_weigh at h
  refine lv_aload_n hx hb dX3_weigh_0 rfl (lv_at hl 0 rfl) ?_
  refine gf_X3_12 B hR (h0.at0 rfl) dX3_weigh_1 ?_
  refine lv_iload_n hx hb dX3_weigh_4 rfl (lv_at hl 1 rfl) ?_
  obtain ⟨r_5, hc_5, h⟩ := bi_el h
  refine iv_X3_54 B hR ((sb_3_0 h0).at0 rfl) hl.1 (mX9_open fu _ (sb_3_0 h0) hc_5) (Nat.le_of_ble_eq_true rfl) dX3_weigh_5 (fun H locs hR => ?_)
  refine lv_istore_n (lv' := [(3, .int r_5), (0, .ref a0), (1, .int x1), (2, .int x2)]) hx hb dX3_weigh_8 rfl hl (by decide) rfl (fun ls hl => ?_)
  refine lv_iconst (v := (-1)) hx hb dX3_weigh_9 (by decide) ?_
  refine lv_istore (lv' := [(4, .int (-1)), (3, .int r_5), (0, .ref a0), (1, .int x1), (2, .int x2)]) hx hb dX3_weigh_10 hl (by decide) rfl (fun ls hl => ?_)
  refine lv_iconst (v := 0) hx hb dX3_weigh_12 (by decide) ?_
  refine lv_istore (lv' := [(5, .int 0), (4, .int (-1)), (3, .int r_5), (0, .ref a0), (1, .int x1), (2, .int x2)]) hx hb dX3_weigh_13 hl (by decide) rfl (fun ls hl => ?_)
  exact wX3_weigh_l15 B hr hlk h0 h hR (lv_sub hl [3, 4, 5, 2, 1, 0] rfl)
def fX3_make_j52 (fu : Nat) (M : Mm) : Option Mm :=
  some M
set_option maxRecDepth 100000 in
set_option maxHeartbeats 4000000 in
theorem wX3_make_j52 {M' : Mm}    {M : Mm} (B : Bx p s m args c cX3_make 4 RX3 E L) (hr : meth.sig.returnType = none) (hlk : meth.locks = false)   (h : fX3_make_j52 fu M = some M') (hR : Rx s E L M H locs) (hl : lv_has ls 4 []) : W p l e (rmD (d + 18)) s m args below meth c H locs 0 0 (MQ below (QcM E L none M') args s 0 0 E.2.2.2) (F0 m 52 ls []) := by
  have hx := B.1
  have hb := B.2.1
  unfold fX3_make_j52 at h
  exact r_vretW B hR hr hlk h dX3_make_52
def fX3_make_j46 (fu : Nat) (k22 : Int32 → Mm → Option Mm) (a0 : Nat) (x2 : Int32) (M : Mm) : Option Mm :=
  lt (x2 + (-1)) fun x2_46 =>
  k22 x2_46 M
set_option maxRecDepth 100000 in
set_option maxHeartbeats 4000000 in
theorem wX3_make_j46 {M' : Mm}  {k22 : Int32 → Mm → Option Mm} {a0 : Nat} {x2 : Int32} {M : Mm} (B : Bx p s m args c cX3_make 4 RX3 E L) (hr : meth.sig.returnType = none) (hlk : meth.locks = false) (ih22 : ∀ (x2 : Int32) (M : Mm), k22 x2 M = some M' → ∀ (H : Heap) (locs : List Loc) (ls : Array Slot), Rx s E L M H locs → lv_has ls 4 [(0, .ref a0), (2, .int x2)] → W p l e (rmD (d + 18)) s m args below meth c H locs 0 0 (MQ below (QcM E L none M') args s 0 0 E.2.2.2) (F0 m 22 ls [])) (h0 : At L a0 T3) (h : fX3_make_j46 fu k22 a0 x2 M = some M') (hR : Rx s E L M H locs) (hl : lv_has ls 4 [(0, .ref a0), (2, .int x2)]) : W p l e (rmD (d + 18)) s m args below meth c H locs 0 0 (MQ below (QcM E L none M') args s 0 0 E.2.2.2) (F0 m 46 ls []) := by
  have hx := B.1
  have hb := B.2.1
  unfold fX3_make_j46 at h
  obtain ⟨x2_46, ex2_46, h⟩ := lt_el h
  refine lv_iinc (v := x2_46) (lv' := [(2, .int x2_46), (0, .ref a0)]) hx hb dX3_make_46 hl (k := 1) rfl (by rw [ex2_46]; rfl) (by decide) rfl (fun ls hl => ?_)
  refine lv_goto (tgt := 22) hx hb dX3_make_49 (by decide) ?_
  exact ih22 x2_46 M h _ _ _ hR (lv_sub hl [1, 0] rfl)
def fX3_make_b28 (fu : Nat) (k22 : Int32 → Mm → Option Mm) (k28 : Int32 → Mm → Option Mm) (a0 : Nat) (x2 : Int32) (x3 : Int32) (M : Mm) : Option Mm :=
  if 6 ≤ x3 then
    fX3_make_j46 fu k22 a0 x2 M
  else
    bm (fX3_weigh fu a0 x2 x3 M) fun M_37 =>
    lt (x3 + 1) fun x3_40 =>
    k28 x3_40 M_37
set_option maxRecDepth 100000 in
set_option maxHeartbeats 4000000 in
theorem wX3_make_b28 {M' : Mm}  {k22 : Int32 → Mm → Option Mm} {k28 : Int32 → Mm → Option Mm} {a0 : Nat} {x2 : Int32} {x3 : Int32} {M : Mm} (B : Bx p s m args c cX3_make 4 RX3 E L) (hr : meth.sig.returnType = none) (hlk : meth.locks = false) (ih22 : ∀ (x2 : Int32) (M : Mm), k22 x2 M = some M' → ∀ (H : Heap) (locs : List Loc) (ls : Array Slot), Rx s E L M H locs → lv_has ls 4 [(0, .ref a0), (2, .int x2)] → W p l e (rmD (d + 18)) s m args below meth c H locs 0 0 (MQ below (QcM E L none M') args s 0 0 E.2.2.2) (F0 m 22 ls [])) (ih28 : ∀ (x3 : Int32) (M : Mm), k28 x3 M = some M' → ∀ (H : Heap) (locs : List Loc) (ls : Array Slot), Rx s E L M H locs → lv_has ls 4 [(0, .ref a0), (2, .int x2), (3, .int x3)] → W p l e (rmD (d + 18)) s m args below meth c H locs 0 0 (MQ below (QcM E L none M') args s 0 0 E.2.2.2) (F0 m 28 ls [])) (h0 : At L a0 T3) (h : fX3_make_b28 fu k22 k28 a0 x2 x3 M = some M') (hR : Rx s E L M H locs) (hl : lv_has ls 4 [(0, .ref a0), (2, .int x2), (3, .int x3)]) : W p l e (rmD (d + 18)) s m args below meth c H locs 0 0 (MQ below (QcM E L none M') args s 0 0 E.2.2.2) (F0 m 28 ls []) := by
  have hx := B.1
  have hb := B.2.1
  unfold fX3_make_b28 at h
  refine lv_iload_n hx hb dX3_make_28 rfl (lv_at hl 2 rfl) ?_
  refine lv_bipush (v := 6) hx hb dX3_make_29 (by decide) ?_
  refine lv_icmp_ge (tgt := 46) hx hb dX3_make_31 (by decide) (fun c_31 => ?_) (fun c_31 => ?_)
  · rw [if_pos c_31] at h
    exact wX3_make_j46 B hr hlk ih22 h0 h hR (lv_sub hl [0, 1] rfl)
  · rw [if_neg c_31] at h
    refine lv_aload_n hx hb dX3_make_34 rfl (lv_at hl 0 rfl) ?_
    refine lv_iload_n hx hb dX3_make_35 rfl (lv_at hl 1 rfl) ?_
    refine lv_iload_n hx hb dX3_make_36 rfl (lv_at hl 2 rfl) ?_
    obtain ⟨M_37, hc_37, h⟩ := bm_el h
    refine iv_X3_35 B hR (h0.at0 rfl) hl.1 (mX3_weigh fu _ h0 hc_37) (Nat.le_of_ble_eq_true rfl) dX3_make_37 (fun H locs hR => ?_)
    obtain ⟨x3_40, ex3_40, h⟩ := lt_el h
    refine lv_iinc (v := x3_40) (lv' := [(3, .int x3_40), (0, .ref a0), (2, .int x2)]) hx hb dX3_make_40 hl (k := 2) rfl (by rw [ex3_40]; rfl) (by decide) rfl (fun ls hl => ?_)
    refine lv_goto (tgt := 28) hx hb dX3_make_43 (by decide) ?_
    exact ih28 x3_40 M_37 h _ _ _ hR (lv_sub hl [1, 2, 0] rfl)
def fX3_make_l28 (fu : Nat) (k22 : Int32 → Mm → Option Mm) (a0 : Nat) (x2 : Int32) (x3 : Int32) (M : Mm) : Option Mm := lp (fun (rec : (Int32 × Mm) → Option Mm) (s : Int32 × Mm) => fX3_make_b28 fu k22 (fun x3 M => rec (x3, M)) a0 x2 s.1 s.2) fu (x3, M)
set_option maxRecDepth 100000 in
set_option maxHeartbeats 4000000 in
theorem wX3_make_l28 {M' : Mm}  {k22 : Int32 → Mm → Option Mm} {a0 : Nat} {x2 : Int32} {x3 : Int32} {M : Mm} (B : Bx p s m args c cX3_make 4 RX3 E L) (hr : meth.sig.returnType = none) (hlk : meth.locks = false) (ih22 : ∀ (x2 : Int32) (M : Mm), k22 x2 M = some M' → ∀ (H : Heap) (locs : List Loc) (ls : Array Slot), Rx s E L M H locs → lv_has ls 4 [(0, .ref a0), (2, .int x2)] → W p l e (rmD (d + 18)) s m args below meth c H locs 0 0 (MQ below (QcM E L none M') args s 0 0 E.2.2.2) (F0 m 22 ls [])) (h0 : At L a0 T3) (h : fX3_make_l28 fu k22 a0 x2 x3 M = some M') (hR : Rx s E L M H locs) (hl : lv_has ls 4 [(0, .ref a0), (2, .int x2), (3, .int x3)]) : W p l e (rmD (d + 18)) s m args below meth c H locs 0 0 (MQ below (QcM E L none M') args s 0 0 E.2.2.2) (F0 m 28 ls []) := by
  refine lp_G (G := fun z : Int32 × Mm => ∀ (H : Heap) (locs : List Loc) (ls : Array Slot), Rx s E L z.2 H locs → lv_has ls 4 [(0, .ref a0), (2, .int x2), (3, .int z.1)] → W p l e (rmD (d + 18)) s m args below meth c H locs 0 0 (MQ below (QcM E L none M') args s 0 0 E.2.2.2) (F0 m 28 ls [])) (fun rec ih z h H locs ls hR hl => ?_) fu _ h H locs ls hR hl
  exact wX3_make_b28 B hr hlk ih22 (fun x3 M h => ih (x3, M) h) h0 h hR hl
def fX3_make_b22 (fu : Nat) (k22 : Int32 → Mm → Option Mm) (a0 : Nat) (x2 : Int32) (M : Mm) : Option Mm :=
  if x2 < 0 then
    fX3_make_j52 fu M
  else
    fX3_make_l28 fu k22 a0 x2 0 M
set_option maxRecDepth 100000 in
set_option maxHeartbeats 4000000 in
theorem wX3_make_b22 {M' : Mm}   {k22 : Int32 → Mm → Option Mm} {a0 : Nat} {x2 : Int32} {M : Mm} (B : Bx p s m args c cX3_make 4 RX3 E L) (hr : meth.sig.returnType = none) (hlk : meth.locks = false)  (ih22 : ∀ (x2 : Int32) (M : Mm), k22 x2 M = some M' → ∀ (H : Heap) (locs : List Loc) (ls : Array Slot), Rx s E L M H locs → lv_has ls 4 [(0, .ref a0), (2, .int x2)] → W p l e (rmD (d + 18)) s m args below meth c H locs 0 0 (MQ below (QcM E L none M') args s 0 0 E.2.2.2) (F0 m 22 ls [])) (h0 : At L a0 T3) (h : fX3_make_b22 fu k22 a0 x2 M = some M') (hR : Rx s E L M H locs) (hl : lv_has ls 4 [(0, .ref a0), (2, .int x2)]) : W p l e (rmD (d + 18)) s m args below meth c H locs 0 0 (MQ below (QcM E L none M') args s 0 0 E.2.2.2) (F0 m 22 ls []) := by
  have hx := B.1
  have hb := B.2.1
  unfold fX3_make_b22 at h
  refine lv_iload_n hx hb dX3_make_22 rfl (lv_at hl 1 rfl) ?_
  refine lv_if_lt (tgt := 52) hx hb dX3_make_23 (by decide) (fun c_23 => ?_) (fun c_23 => ?_)
  · rw [if_pos c_23] at h
    exact wX3_make_j52 B hr hlk  h hR (lv_sub hl [] rfl)
  · rw [if_neg c_23] at h
    refine lv_iconst (v := 0) hx hb dX3_make_26 (by decide) ?_
    refine lv_istore_n (lv' := [(3, .int 0), (0, .ref a0), (2, .int x2)]) hx hb dX3_make_27 rfl hl (by decide) rfl (fun ls hl => ?_)
    exact wX3_make_l28 B hr hlk ih22 h0 h hR (lv_sub hl [1, 2, 0] rfl)
def fX3_make_l22 (fu : Nat) (a0 : Nat) (x2 : Int32) (M : Mm) : Option Mm := lp (fun (rec : (Int32 × Mm) → Option Mm) (s : Int32 × Mm) => fX3_make_b22 fu  (fun x2 M => rec (x2, M)) a0 s.1 s.2) fu (x2, M)
set_option maxRecDepth 100000 in
set_option maxHeartbeats 4000000 in
theorem wX3_make_l22 {M' : Mm}   {a0 : Nat} {x2 : Int32} {M : Mm} (B : Bx p s m args c cX3_make 4 RX3 E L) (hr : meth.sig.returnType = none) (hlk : meth.locks = false)  (h0 : At L a0 T3) (h : fX3_make_l22 fu a0 x2 M = some M') (hR : Rx s E L M H locs) (hl : lv_has ls 4 [(0, .ref a0), (2, .int x2)]) : W p l e (rmD (d + 18)) s m args below meth c H locs 0 0 (MQ below (QcM E L none M') args s 0 0 E.2.2.2) (F0 m 22 ls []) := by
  refine lp_G (G := fun z : Int32 × Mm => ∀ (H : Heap) (locs : List Loc) (ls : Array Slot), Rx s E L z.2 H locs → lv_has ls 4 [(0, .ref a0), (2, .int z.1)] → W p l e (rmD (d + 18)) s m args below meth c H locs 0 0 (MQ below (QcM E L none M') args s 0 0 E.2.2.2) (F0 m 22 ls [])) (fun rec ih z h H locs ls hR hl => ?_) fu _ h H locs ls hR hl
  exact wX3_make_b22 B hr hlk  (fun x2 M h => ih (x2, M) h) h0 h hR hl
def fX3_make (fu : Nat) (a0 : Nat) (a1 : Nat) (M : Mm) : Option Mm :=
  bm (fX9_make fu (a0 + 1) a1 (M.1 a1 2) M) fun M_9 =>
  lt (((M_9.1 (a0 + 1) 5) - 1)) fun x2_21 =>
  fX3_make_l22 fu a0 x2_21 M_9
set_option maxRecDepth 100000 in
set_option maxHeartbeats 4000000 in
theorem mX3_make {l : Launch} {E : Ge} {L : Lay} (fu d : Nat) {a0 : Nat} {a1 : Nat} {M : Mm} {M' : Mm}  (h0 : At L a0 T3) (h1 : At L a1 T8) (h : fX3_make fu a0 a1 M = some M') : Ct l E L yX3_make cX3_make 4 none (d + 18) [.ref a0, .ref a1] M none M' := by
  refine Ct.of (by decide) ?_
  intro p e s m below meth c hr hlk B hR
  have B : Bx p s m _ c cX3_make 4 RX3 E L := B
  have hx := B.1
  have hb := B.2.1
  have hl := lv_entry ([.ref a0, .ref a1]) (n := 4) (Nat.le_of_ble_eq_true rfl)
  rw [lg_entry_eq]
  generalize (lg_sl ([.ref a0, .ref a1]) ++ List.replicate (4 - (lg_sl ([.ref a0, .ref a1])).length) Slot.unset).toArray = ls at hl ⊢
  have hl : lv_has ls 4 [(0, .ref a0), (1, .ref a1)] := hl
  unfold fX3_make at h
  refine lv_aload_n hx hb dX3_make_0 rfl (lv_at hl 0 rfl) ?_
  refine gf_X3_12 B hR (h0.at0 rfl) dX3_make_1 ?_
  refine lv_aload_n hx hb dX3_make_4 rfl (lv_at hl 1 rfl) ?_
  refine lv_aload_n hx hb dX3_make_5 rfl (lv_at hl 1 rfl) ?_
  refine gf_X3_22 B hR (h1.at0 rfl) dX3_make_6 ?_
  obtain ⟨M_9, hc_9, h⟩ := bm_el h
  refine iv_X3_28 B hR ((sb_3_0 h0).at0 rfl) hl.1 (mX9_make fu _ (sb_3_0 h0) h1 hc_9) (Nat.le_of_ble_eq_true rfl) dX3_make_9 (fun H locs hR => ?_)
  refine lv_aload_n hx hb dX3_make_12 rfl (lv_at hl 0 rfl) ?_
  refine gf_X3_12 B hR (h0.at0 rfl) dX3_make_13 ?_
  refine gf_X3_32 B hR ((sb_3_0 h0).at0 rfl) dX3_make_16 ?_
  refine lv_iconst (v := 1) hx hb dX3_make_19 (by decide) ?_
  refine lv_isub hx hb dX3_make_20 ?_
  obtain ⟨x2_21, ex2_21, h⟩ := lt_el h
  refine r_nmI ex2_21 ?_
  refine lv_istore_n (lv' := [(2, .int x2_21), (0, .ref a0), (1, .ref a1)]) hx hb dX3_make_21 rfl hl (by decide) rfl (fun ls hl => ?_)
  exact wX3_make_l22 B hr hlk h0 h hR (lv_sub hl [1, 0] rfl)
def fX3_mostRight (fu : Nat) (a0 : Nat) (x1 : Int32) (M : Mm) : Option Int32 :=
  bi (fX3_cell fu 0 5 x1) fun r_7 =>
  if r_7 < 0 ∨ 21120 ≤ ix r_7 then none else
  some (M.1 (a0 + 11) (ix r_7))
set_option maxRecDepth 100000 in
set_option maxHeartbeats 4000000 in
theorem mX3_mostRight {l : Launch} {E : Ge} {L : Lay} (fu d : Nat) {a0 : Nat} {x1 : Int32} {M : Mm} {r : Int32}  (h0 : At L a0 T3) (h : fX3_mostRight fu a0 x1 M = some r) : Ct l E L yX3_mostRight cX3_mostRight 2 (some .int) (d + 1) [.ref a0, .int x1] M (some (.int r)) M := by
  refine Ct.of (by decide) ?_
  intro p e s m below meth c hr hlk B hR
  have B : Bx p s m _ c cX3_mostRight 2 RX3 E L := B
  have hx := B.1
  have hb := B.2.1
  have hl := lv_entry ([.ref a0, .int x1]) (n := 2) (Nat.le_of_ble_eq_true rfl)
  rw [lg_entry_eq]
  generalize (lg_sl ([.ref a0, .int x1]) ++ List.replicate (2 - (lg_sl ([.ref a0, .int x1])).length) Slot.unset).toArray = ls at hl ⊢
  have hl : lv_has ls 2 [(0, .ref a0), (1, .int x1)] := hl
  unfold fX3_mostRight at h
  refine lv_aload_n hx hb dX3_mostRight_0 rfl (lv_at hl 0 rfl) ?_
  refine gf_X3_18 B hR (h0.at0 rfl) dX3_mostRight_1 ?_
  refine lv_iconst (v := 0) hx hb dX3_mostRight_4 (by decide) ?_
  refine lv_iconst (v := 5) hx hb dX3_mostRight_5 (by decide) ?_
  refine lv_iload_n hx hb dX3_mostRight_6 rfl (lv_at hl 1 rfl) ?_
  obtain ⟨r_7, hc_7, h⟩ := bi_el h
  refine is_X3_39 B hR hl.1 (mX3_cell fu _  hc_7) (Nat.le_of_ble_eq_true rfl) dX3_mostRight_7 (fun H locs hR => ?_)
  obtain ⟨hi_10, h⟩ := ifn_el h
  refine r_iald B hR (h0.at 11 rfl) hi_10 dX3_mostRight_10 ?_
  exact r_iretP B hR hr hlk h dX3_mostRight_11
def fX3_firstKind_j67 (fu : Nat) (M : Mm) : Option Int32 :=
  some 0
set_option maxRecDepth 100000 in
set_option maxHeartbeats 4000000 in
theorem wX3_firstKind_j67 {r : Int32}    {M : Mm} (B : Bx p s m args c cX3_firstKind 7 RX3 E L) (hr : meth.sig.returnType = (some .int)) (hlk : meth.locks = false)   (h : fX3_firstKind_j67 fu M = some r) (hR : Rx s E L M H locs) (hl : lv_has ls 7 []) : W p l e (rmD (d + 1)) s m args below meth c H locs 0 0 (MQ below (QcM E L (some (.int r)) M) args s 0 0 E.2.2.2) (F0 m 67 ls []) := by
  have hx := B.1
  have hb := B.2.1
  unfold fX3_firstKind_j67 at h
  refine lv_iconst (v := 0) hx hb dX3_firstKind_67 (by decide) ?_
  exact r_iretP B hR hr hlk h dX3_firstKind_68
def fX3_firstKind_j61 (fu : Nat) (k16 : Int32 → Option Int32) (a0 : Nat) (x1 : Int32) (x2 : Int32) (x3 : Int32) (x4 : Int32) (x5 : Int32) (M : Mm) : Option Int32 :=
  lt (x5 + 1) fun x5_61 =>
  k16 x5_61
set_option maxRecDepth 100000 in
set_option maxHeartbeats 4000000 in
theorem wX3_firstKind_j61 {r : Int32}  {k16 : Int32 → Option Int32} {a0 : Nat} {x1 : Int32} {x2 : Int32} {x3 : Int32} {x4 : Int32} {x5 : Int32} {M : Mm} (B : Bx p s m args c cX3_firstKind 7 RX3 E L) (hr : meth.sig.returnType = (some .int)) (hlk : meth.locks = false) (ih16 : ∀ (x5 : Int32), k16 x5 = some r → ∀ (H : Heap) (locs : List Loc) (ls : Array Slot), Rx s E L M H locs → lv_has ls 7 [(0, .ref a0), (1, .int x1), (2, .int x2), (3, .int x3), (4, .int x4), (5, .int x5)] → W p l e (rmD (d + 1)) s m args below meth c H locs 0 0 (MQ below (QcM E L (some (.int r)) M) args s 0 0 E.2.2.2) (F0 m 16 ls [])) (h0 : At L a0 T3) (h : fX3_firstKind_j61 fu k16 a0 x1 x2 x3 x4 x5 M = some r) (hR : Rx s E L M H locs) (hl : lv_has ls 7 [(0, .ref a0), (1, .int x1), (2, .int x2), (3, .int x3), (4, .int x4), (5, .int x5)]) : W p l e (rmD (d + 1)) s m args below meth c H locs 0 0 (MQ below (QcM E L (some (.int r)) M) args s 0 0 E.2.2.2) (F0 m 61 ls []) := by
  have hx := B.1
  have hb := B.2.1
  unfold fX3_firstKind_j61 at h
  obtain ⟨x5_61, ex5_61, h⟩ := lt_el h
  refine lv_iinc (v := x5_61) (lv' := [(5, .int x5_61), (0, .ref a0), (1, .int x1), (2, .int x2), (3, .int x3), (4, .int x4)]) hx hb dX3_firstKind_61 hl (k := 5) rfl (by rw [ex5_61]; rfl) (by decide) rfl (fun ls hl => ?_)
  refine lv_goto (tgt := 16) hx hb dX3_firstKind_64 (by decide) ?_
  exact ih16 x5_61 h _ _ _ hR (lv_sub hl [1, 2, 3, 4, 5, 0] rfl)
def fX3_firstKind_j58 (fu : Nat) (x5 : Int32) (M : Mm) : Option Int32 :=
  some x5
set_option maxRecDepth 100000 in
set_option maxHeartbeats 4000000 in
theorem wX3_firstKind_j58 {r : Int32}   {x5 : Int32} {M : Mm} (B : Bx p s m args c cX3_firstKind 7 RX3 E L) (hr : meth.sig.returnType = (some .int)) (hlk : meth.locks = false)   (h : fX3_firstKind_j58 fu x5 M = some r) (hR : Rx s E L M H locs) (hl : lv_has ls 7 [(5, .int x5)]) : W p l e (rmD (d + 1)) s m args below meth c H locs 0 0 (MQ below (QcM E L (some (.int r)) M) args s 0 0 E.2.2.2) (F0 m 58 ls []) := by
  have hx := B.1
  have hb := B.2.1
  unfold fX3_firstKind_j58 at h
  refine lv_iload hx hb dX3_firstKind_58 (lv_at hl 0 rfl) ?_
  exact r_iretP B hR hr hlk h dX3_firstKind_60
def fX3_firstKind_b16 (fu : Nat) (k16 : Int32 → Option Int32) (a0 : Nat) (x1 : Int32) (x2 : Int32) (x3 : Int32) (x4 : Int32) (x5 : Int32) (M : Mm) : Option Int32 :=
  if 5 ≤ x5 then
    fX3_firstKind_j67 fu M
  else
    if ((x2 * 5) + x5) < 0 ∨ 30 ≤ ix ((x2 * 5) + x5) then none else
    lt ((laidT.getD (ix ((x2 * 5) + x5)) 0)) fun x6_32 =>
    if x6_32 < 0 then
      fX3_firstKind_j61 fu k16 a0 x1 x2 x3 x4 x5 M
    else
      bi (fX3_cell fu x1 x6_32 (x3 - 1)) fun r_49 =>
      if r_49 < 0 ∨ 21120 ≤ ix r_49 then none else
      if (M.1 (a0 + 11) (ix r_49)) = x4 then
        fX3_firstKind_j58 fu x5 M
      else
        fX3_firstKind_j61 fu k16 a0 x1 x2 x3 x4 x5 M
set_option maxRecDepth 100000 in
set_option maxHeartbeats 4000000 in
theorem wX3_firstKind_b16 {r : Int32}   {k16 : Int32 → Option Int32} {a0 : Nat} {x1 : Int32} {x2 : Int32} {x3 : Int32} {x4 : Int32} {x5 : Int32} {M : Mm} (B : Bx p s m args c cX3_firstKind 7 RX3 E L) (hr : meth.sig.returnType = (some .int)) (hlk : meth.locks = false)  (ih16 : ∀ (x5 : Int32), k16 x5 = some r → ∀ (H : Heap) (locs : List Loc) (ls : Array Slot), Rx s E L M H locs → lv_has ls 7 [(0, .ref a0), (1, .int x1), (2, .int x2), (3, .int x3), (4, .int x4), (5, .int x5)] → W p l e (rmD (d + 1)) s m args below meth c H locs 0 0 (MQ below (QcM E L (some (.int r)) M) args s 0 0 E.2.2.2) (F0 m 16 ls [])) (h0 : At L a0 T3) (h : fX3_firstKind_b16 fu k16 a0 x1 x2 x3 x4 x5 M = some r) (hR : Rx s E L M H locs) (hl : lv_has ls 7 [(0, .ref a0), (1, .int x1), (2, .int x2), (3, .int x3), (4, .int x4), (5, .int x5)]) : W p l e (rmD (d + 1)) s m args below meth c H locs 0 0 (MQ below (QcM E L (some (.int r)) M) args s 0 0 E.2.2.2) (F0 m 16 ls []) := by
  have hx := B.1
  have hb := B.2.1
  unfold fX3_firstKind_b16 at h
  refine lv_iload hx hb dX3_firstKind_16 (lv_at hl 5 rfl) ?_
  refine lv_iconst (v := 5) hx hb dX3_firstKind_18 (by decide) ?_
  refine lv_icmp_ge (tgt := 67) hx hb dX3_firstKind_19 (by decide) (fun c_19 => ?_) (fun c_19 => ?_)
  · rw [if_pos c_19] at h
    exact wX3_firstKind_j67 B hr hlk  h hR (lv_sub hl [] rfl)
  · rw [if_neg c_19] at h
    refine gs_X3_80 B hR dX3_firstKind_22 ?_
    refine lv_iload_n hx hb dX3_firstKind_25 rfl (lv_at hl 2 rfl) ?_
    refine lv_iconst (v := 5) hx hb dX3_firstKind_26 (by decide) ?_
    refine lv_imul hx hb dX3_firstKind_27 ?_
    refine lv_iload hx hb dX3_firstKind_28 (lv_at hl 5 rfl) ?_
    refine lv_iadd hx hb dX3_firstKind_30 ?_
    obtain ⟨hi_31, h⟩ := ifn_el h
    refine r_tald B hR B.2.2.2.2.2.2.2.1.2 hi_31 dX3_firstKind_31 ?_
    obtain ⟨x6_32, ex6_32, h⟩ := lt_el h
    refine r_nmI ex6_32 ?_
    refine lv_istore (lv' := [(6, .int x6_32), (0, .ref a0), (1, .int x1), (2, .int x2), (3, .int x3), (4, .int x4), (5, .int x5)]) hx hb dX3_firstKind_32 hl (by decide) rfl (fun ls hl => ?_)
    refine lv_iload hx hb dX3_firstKind_34 (lv_at hl 0 rfl) ?_
    refine lv_if_lt (tgt := 61) hx hb dX3_firstKind_36 (by decide) (fun c_36 => ?_) (fun c_36 => ?_)
    · rw [if_pos c_36] at h
      exact wX3_firstKind_j61 B hr hlk ih16 h0 h hR (lv_sub hl [1, 2, 3, 4, 5, 6] rfl)
    · rw [if_neg c_36] at h
      refine lv_aload_n hx hb dX3_firstKind_39 rfl (lv_at hl 1 rfl) ?_
      refine gf_X3_18 B hR (h0.at0 rfl) dX3_firstKind_40 ?_
      refine lv_iload_n hx hb dX3_firstKind_43 rfl (lv_at hl 2 rfl) ?_
      refine lv_iload hx hb dX3_firstKind_44 (lv_at hl 0 rfl) ?_
      refine lv_iload_n hx hb dX3_firstKind_46 rfl (lv_at hl 4 rfl) ?_
      refine lv_iconst (v := 1) hx hb dX3_firstKind_47 (by decide) ?_
      refine lv_isub hx hb dX3_firstKind_48 ?_
      obtain ⟨r_49, hc_49, h⟩ := bi_el h
      refine is_X3_39 B hR hl.1 (mX3_cell fu _  hc_49) (Nat.le_of_ble_eq_true rfl) dX3_firstKind_49 (fun H locs hR => ?_)
      obtain ⟨hi_52, h⟩ := ifn_el h
      refine r_iald B hR (h0.at 11 rfl) hi_52 dX3_firstKind_52 ?_
      refine lv_iload hx hb dX3_firstKind_53 (lv_at hl 5 rfl) ?_
      refine lv_icmp_ne (tgt := 61) hx hb dX3_firstKind_55 (by decide) (fun c_55 => ?_) (fun c_55 => ?_)
      · rw [if_neg c_55] at h
        exact wX3_firstKind_j61 B hr hlk ih16 h0 h hR (lv_sub hl [1, 2, 3, 4, 5, 6] rfl)
      · rw [if_pos c_55] at h
        exact wX3_firstKind_j58 B hr hlk  h hR (lv_sub hl [6] rfl)
def fX3_firstKind_l16 (fu : Nat) (a0 : Nat) (x1 : Int32) (x2 : Int32) (x3 : Int32) (x4 : Int32) (M : Mm) (x5 : Int32) : Option Int32 := lp (fun (rec : Int32 → Option Int32) (s : Int32) => fX3_firstKind_b16 fu  (fun x5 => rec (x5)) a0 x1 x2 x3 x4 s M) fu (x5)
set_option maxRecDepth 100000 in
set_option maxHeartbeats 4000000 in
theorem wX3_firstKind_l16 {r : Int32}   {a0 : Nat} {x1 : Int32} {x2 : Int32} {x3 : Int32} {x4 : Int32} {x5 : Int32} {M : Mm} (B : Bx p s m args c cX3_firstKind 7 RX3 E L) (hr : meth.sig.returnType = (some .int)) (hlk : meth.locks = false)  (h0 : At L a0 T3) (h : fX3_firstKind_l16 fu a0 x1 x2 x3 x4 M x5 = some r) (hR : Rx s E L M H locs) (hl : lv_has ls 7 [(0, .ref a0), (1, .int x1), (2, .int x2), (3, .int x3), (4, .int x4), (5, .int x5)]) : W p l e (rmD (d + 1)) s m args below meth c H locs 0 0 (MQ below (QcM E L (some (.int r)) M) args s 0 0 E.2.2.2) (F0 m 16 ls []) := by
  refine lp_G (G := fun z : Int32 => ∀ (H : Heap) (locs : List Loc) (ls : Array Slot), Rx s E L M H locs → lv_has ls 7 [(0, .ref a0), (1, .int x1), (2, .int x2), (3, .int x3), (4, .int x4), (5, .int z)] → W p l e (rmD (d + 1)) s m args below meth c H locs 0 0 (MQ below (QcM E L (some (.int r)) M) args s 0 0 E.2.2.2) (F0 m 16 ls [])) (fun rec ih z h H locs ls hR hl => ?_) fu _ h H locs ls hR hl
  exact wX3_firstKind_b16 B hr hlk  (fun x5 h => ih (x5) h) h0 h hR hl
def fX3_firstKind (fu : Nat) (a0 : Nat) (x1 : Int32) (x2 : Int32) (x3 : Int32) (M : Mm) : Option Int32 :=
  bi (fX3_cell fu x1 x2 x3) fun r_7 =>
  if r_7 < 0 ∨ 21120 ≤ ix r_7 then none else
  lt ((M.1 (a0 + 11) (ix r_7))) fun x4_11 =>
  fX3_firstKind_l16 fu a0 x1 x2 x3 x4_11 M 0
set_option maxRecDepth 100000 in
set_option maxHeartbeats 4000000 in
theorem mX3_firstKind {l : Launch} {E : Ge} {L : Lay} (fu d : Nat) {a0 : Nat} {x1 : Int32} {x2 : Int32} {x3 : Int32} {M : Mm} {r : Int32}  (h0 : At L a0 T3) (h : fX3_firstKind fu a0 x1 x2 x3 M = some r) : Ct l E L yX3_firstKind cX3_firstKind 7 (some .int) (d + 1) [.ref a0, .int x1, .int x2, .int x3] M (some (.int r)) M := by
  refine Ct.of (by decide) ?_
  intro p e s m below meth c hr hlk B hR
  have B : Bx p s m _ c cX3_firstKind 7 RX3 E L := B
  have hx := B.1
  have hb := B.2.1
  have hl := lv_entry ([.ref a0, .int x1, .int x2, .int x3]) (n := 7) (Nat.le_of_ble_eq_true rfl)
  rw [lg_entry_eq]
  generalize (lg_sl ([.ref a0, .int x1, .int x2, .int x3]) ++ List.replicate (7 - (lg_sl ([.ref a0, .int x1, .int x2, .int x3])).length) Slot.unset).toArray = ls at hl ⊢
  have hl : lv_has ls 7 [(0, .ref a0), (1, .int x1), (2, .int x2), (3, .int x3)] := hl
  unfold fX3_firstKind at h
  refine lv_aload_n hx hb dX3_firstKind_0 rfl (lv_at hl 0 rfl) ?_
  refine gf_X3_18 B hR (h0.at0 rfl) dX3_firstKind_1 ?_
  refine lv_iload_n hx hb dX3_firstKind_4 rfl (lv_at hl 1 rfl) ?_
  refine lv_iload_n hx hb dX3_firstKind_5 rfl (lv_at hl 2 rfl) ?_
  refine lv_iload_n hx hb dX3_firstKind_6 rfl (lv_at hl 3 rfl) ?_
  obtain ⟨r_7, hc_7, h⟩ := bi_el h
  refine is_X3_39 B hR hl.1 (mX3_cell fu _  hc_7) (Nat.le_of_ble_eq_true rfl) dX3_firstKind_7 (fun H locs hR => ?_)
  obtain ⟨hi_10, h⟩ := ifn_el h
  refine r_iald B hR (h0.at 11 rfl) hi_10 dX3_firstKind_10 ?_
  obtain ⟨x4_11, ex4_11, h⟩ := lt_el h
  refine r_nmI ex4_11 ?_
  refine lv_istore (lv' := [(4, .int x4_11), (0, .ref a0), (1, .int x1), (2, .int x2), (3, .int x3)]) hx hb dX3_firstKind_11 hl (by decide) rfl (fun ls hl => ?_)
  refine lv_iconst (v := 0) hx hb dX3_firstKind_13 (by decide) ?_
  refine lv_istore (lv' := [(5, .int 0), (4, .int x4_11), (0, .ref a0), (1, .int x1), (2, .int x2), (3, .int x3)]) hx hb dX3_firstKind_14 hl (by decide) rfl (fun ls hl => ?_)
  exact wX3_firstKind_l16 B hr hlk h0 h hR (lv_sub hl [2, 3, 4, 5, 1, 0] rfl)
def fX3_layAlike_j148 (fu : Nat) (L : Lay) (fr : Nat → Int32 → Int32 → Int32 → Int32 → Int32 → Int32 → Mm → Option Mm) (M : Mm) : Option Mm :=
  some M
set_option maxRecDepth 100000 in
set_option maxHeartbeats 4000000 in
theorem wX3_layAlike_j148 {M' : Mm} {fr : Nat → Int32 → Int32 → Int32 → Int32 → Int32 → Int32 → Mm → Option Mm}    {M : Mm} (B : Bx p s m args c cX3_layAlike 10 RX3 E L) (hr : meth.sig.returnType = none) (hlk : meth.locks = false) (ihr : ∀ {a0 : Nat} {x1 : Int32} {x2 : Int32} {x3 : Int32} {x4 : Int32} {x5 : Int32} {x6 : Int32} {M : Mm} {M' : Mm}, At L a0 T3 → fr a0 x1 x2 x3 x4 x5 x6 M = some M' → Ct l E L yX3_layAlike cX3_layAlike 10 none (d + 2) [.ref a0, .int x1, .int x2, .int x3, .int x4, .int x5, .int x6] M none M')   (h : fX3_layAlike_j148 fu L fr M = some M') (hR : Rx s E L M H locs) (hl : lv_has ls 10 []) : W p l e (rmD (d + 3)) s m args below meth c H locs 0 0 (MQ below (QcM E L none M') args s 0 0 E.2.2.2) (F0 m 148 ls []) := by
  have hx := B.1
  have hb := B.2.1
  unfold fX3_layAlike_j148 at h
  exact r_vretW B hR hr hlk h dX3_layAlike_148
def fX3_layAlike_j107 (fu : Nat) (L : Lay) (fr : Nat → Int32 → Int32 → Int32 → Int32 → Int32 → Int32 → Mm → Option Mm) (k8 : Int32 → Int32 → Mm → Option Mm) (a0 : Nat) (x1 : Int32) (x2 : Int32) (x3 : Int32) (x6 : Int32) (x7 : Int32) (x8 : Int32) (M : Mm) : Option Mm :=
  bi (fX3_firstKind fu a0 x1 x7 x8 M) fun r_113 =>
  bl (M.2.2 a0 2) fun q_119 =>
  gd (atB L q_119 (T0 10) = true) <|
  bm (fX0_add fu 10 q_119 x2 x3 r_113 M) fun M_126 =>
  if ((x7 * 5) + r_113) < 0 ∨ 30 ≤ ix ((x7 * 5) + r_113) then none else
  lt ((laidT.getD (ix ((x7 * 5) + r_113)) 0)) fun x7_140 =>
  lt (x8 + (-1)) fun x8_142 =>
  k8 x7_140 x8_142 M_126
set_option maxRecDepth 100000 in
set_option maxHeartbeats 4000000 in
theorem wX3_layAlike_j107 {M' : Mm} {fr : Nat → Int32 → Int32 → Int32 → Int32 → Int32 → Int32 → Mm → Option Mm}  {k8 : Int32 → Int32 → Mm → Option Mm} {a0 : Nat} {x1 : Int32} {x2 : Int32} {x3 : Int32} {x6 : Int32} {x7 : Int32} {x8 : Int32} {M : Mm} (B : Bx p s m args c cX3_layAlike 10 RX3 E L) (hr : meth.sig.returnType = none) (hlk : meth.locks = false) (ihr : ∀ {a0 : Nat} {x1 : Int32} {x2 : Int32} {x3 : Int32} {x4 : Int32} {x5 : Int32} {x6 : Int32} {M : Mm} {M' : Mm}, At L a0 T3 → fr a0 x1 x2 x3 x4 x5 x6 M = some M' → Ct l E L yX3_layAlike cX3_layAlike 10 none (d + 2) [.ref a0, .int x1, .int x2, .int x3, .int x4, .int x5, .int x6] M none M') (ih8 : ∀ (x7 : Int32) (x8 : Int32) (M : Mm), k8 x7 x8 M = some M' → ∀ (H : Heap) (locs : List Loc) (ls : Array Slot), Rx s E L M H locs → lv_has ls 10 [(0, .ref a0), (1, .int x1), (2, .int x2), (3, .int x3), (6, .int x6), (7, .int x7), (8, .int x8)] → W p l e (rmD (d + 3)) s m args below meth c H locs 0 0 (MQ below (QcM E L none M') args s 0 0 E.2.2.2) (F0 m 8 ls [])) (h0 : At L a0 T3) (h : fX3_layAlike_j107 fu L fr k8 a0 x1 x2 x3 x6 x7 x8 M = some M') (hR : Rx s E L M H locs) (hl : lv_has ls 10 [(0, .ref a0), (1, .int x1), (2, .int x2), (3, .int x3), (6, .int x6), (7, .int x7), (8, .int x8)]) : W p l e (rmD (d + 3)) s m args below meth c H locs 0 0 (MQ below (QcM E L none M') args s 0 0 E.2.2.2) (F0 m 107 ls []) := by
  have hx := B.1
  have hb := B.2.1
  unfold fX3_layAlike_j107 at h
  refine lv_aload_n hx hb dX3_layAlike_107 rfl (lv_at hl 0 rfl) ?_
  refine lv_iload_n hx hb dX3_layAlike_108 rfl (lv_at hl 1 rfl) ?_
  refine lv_iload hx hb dX3_layAlike_109 (lv_at hl 5 rfl) ?_
  refine lv_iload hx hb dX3_layAlike_111 (lv_at hl 6 rfl) ?_
  obtain ⟨r_113, hc_113, h⟩ := bi_el h
  refine iv_X3_97 B hR (h0.at0 rfl) hl.1 (mX3_firstKind fu _ h0 hc_113) (Nat.le_of_ble_eq_true rfl) dX3_layAlike_113 (fun H locs hR => ?_)
  refine lv_istore (lv' := [(9, .int r_113), (0, .ref a0), (1, .int x1), (2, .int x2), (3, .int x3), (6, .int x6), (7, .int x7), (8, .int x8)]) hx hb dX3_layAlike_116 hl (by decide) rfl (fun ls hl => ?_)
  refine lv_aload_n hx hb dX3_layAlike_118 rfl (lv_at hl 1 rfl) ?_
  obtain ⟨q_119, hq_119, h⟩ := bl_el h
  obtain ⟨hs_119, h⟩ := gd_el h
  refine gm_X3_43 B hR (h0.at0 rfl) hq_119 dX3_layAlike_119 ?_
  refine lv_iload_n hx hb dX3_layAlike_122 rfl (lv_at hl 3 rfl) ?_
  refine lv_iload_n hx hb dX3_layAlike_123 rfl (lv_at hl 4 rfl) ?_
  refine lv_iload hx hb dX3_layAlike_124 (lv_at hl 0 rfl) ?_
  obtain ⟨M_126, hc_126, h⟩ := bm_el h
  refine iv_X3_100 B hR ((atB_at hs_119).at0 rfl) hl.1 (mX0_add fu _ (atB_at hs_119) hc_126) (Nat.le_of_ble_eq_true rfl) dX3_layAlike_126 (fun H locs hR => ?_)
  refine gs_X3_80 B hR dX3_layAlike_129 ?_
  refine lv_iload hx hb dX3_layAlike_132 (lv_at hl 6 rfl) ?_
  refine lv_iconst (v := 5) hx hb dX3_layAlike_134 (by decide) ?_
  refine lv_imul hx hb dX3_layAlike_135 ?_
  refine lv_iload hx hb dX3_layAlike_136 (lv_at hl 0 rfl) ?_
  refine lv_iadd hx hb dX3_layAlike_138 ?_
  obtain ⟨hi_139, h⟩ := ifn_el h
  refine r_tald B hR B.2.2.2.2.2.2.2.1.2 hi_139 dX3_layAlike_139 ?_
  obtain ⟨x7_140, ex7_140, h⟩ := lt_el h
  refine r_nmI ex7_140 ?_
  refine lv_istore (lv' := [(7, .int x7_140), (9, .int r_113), (0, .ref a0), (1, .int x1), (2, .int x2), (3, .int x3), (6, .int x6), (8, .int x8)]) hx hb dX3_layAlike_140 hl (by decide) rfl (fun ls hl => ?_)
  obtain ⟨x8_142, ex8_142, h⟩ := lt_el h
  refine lv_iinc (v := x8_142) (lv' := [(8, .int x8_142), (7, .int x7_140), (9, .int r_113), (0, .ref a0), (1, .int x1), (2, .int x2), (3, .int x3), (6, .int x6)]) hx hb dX3_layAlike_142 hl (k := 7) rfl (by rw [ex8_142]; rfl) (by decide) rfl (fun ls hl => ?_)
  refine lv_goto (tgt := 8) hx hb dX3_layAlike_145 (by decide) ?_
  exact ih8 x7_140 x8_142 M_126 h _ _ _ hR (lv_sub hl [3, 4, 5, 6, 7, 1, 0] rfl)
def fX3_layAlike_j65 (fu : Nat) (L : Lay) (fr : Nat → Int32 → Int32 → Int32 → Int32 → Int32 → Int32 → Mm → Option Mm) (a0 : Nat) (x1 : Int32) (x2 : Int32) (x3 : Int32) (x6 : Int32) (x7 : Int32) (x8 : Int32) (M : Mm) : Option Mm :=
  lt ((x3 / 2)) fun x9_68 =>
  bm (fr a0 x1 x2 x9_68 x7 1 (x6 + 1) M) fun M_82 =>
  bm (fr a0 x1 (x2 + x9_68) x9_68 x7 (x8 - 1) (x6 + 1) M_82) fun M_103 =>
  some M_103
set_option maxRecDepth 100000 in
set_option maxHeartbeats 4000000 in
theorem wX3_layAlike_j65 {M' : Mm} {fr : Nat → Int32 → Int32 → Int32 → Int32 → Int32 → Int32 → Mm → Option Mm}   {a0 : Nat} {x1 : Int32} {x2 : Int32} {x3 : Int32} {x6 : Int32} {x7 : Int32} {x8 : Int32} {M : Mm} (B : Bx p s m args c cX3_layAlike 10 RX3 E L) (hr : meth.sig.returnType = none) (hlk : meth.locks = false) (ihr : ∀ {a0 : Nat} {x1 : Int32} {x2 : Int32} {x3 : Int32} {x4 : Int32} {x5 : Int32} {x6 : Int32} {M : Mm} {M' : Mm}, At L a0 T3 → fr a0 x1 x2 x3 x4 x5 x6 M = some M' → Ct l E L yX3_layAlike cX3_layAlike 10 none (d + 2) [.ref a0, .int x1, .int x2, .int x3, .int x4, .int x5, .int x6] M none M')  (h0 : At L a0 T3) (h : fX3_layAlike_j65 fu L fr a0 x1 x2 x3 x6 x7 x8 M = some M') (hR : Rx s E L M H locs) (hl : lv_has ls 10 [(0, .ref a0), (1, .int x1), (2, .int x2), (3, .int x3), (6, .int x6), (7, .int x7), (8, .int x8)]) : W p l e (rmD (d + 3)) s m args below meth c H locs 0 0 (MQ below (QcM E L none M') args s 0 0 E.2.2.2) (F0 m 65 ls []) := by
  have hx := B.1
  have hb := B.2.1
  unfold fX3_layAlike_j65 at h
  refine lv_iload_n hx hb dX3_layAlike_65 rfl (lv_at hl 3 rfl) ?_
  refine lv_iconst (v := 2) hx hb dX3_layAlike_66 (by decide) ?_
  refine lv_idiv hx hb dX3_layAlike_67 (by decide) ?_
  obtain ⟨x9_68, ex9_68, h⟩ := lt_el h
  refine r_nmI ex9_68 ?_
  refine lv_istore (lv' := [(9, .int x9_68), (0, .ref a0), (1, .int x1), (2, .int x2), (3, .int x3), (6, .int x6), (7, .int x7), (8, .int x8)]) hx hb dX3_layAlike_68 hl (by decide) rfl (fun ls hl => ?_)
  refine lv_aload_n hx hb dX3_layAlike_70 rfl (lv_at hl 1 rfl) ?_
  refine lv_iload_n hx hb dX3_layAlike_71 rfl (lv_at hl 2 rfl) ?_
  refine lv_iload_n hx hb dX3_layAlike_72 rfl (lv_at hl 3 rfl) ?_
  refine lv_iload hx hb dX3_layAlike_73 (lv_at hl 0 rfl) ?_
  refine lv_iload hx hb dX3_layAlike_75 (lv_at hl 6 rfl) ?_
  refine lv_iconst (v := 1) hx hb dX3_layAlike_77 (by decide) ?_
  refine lv_iload hx hb dX3_layAlike_78 (lv_at hl 5 rfl) ?_
  refine lv_iconst (v := 1) hx hb dX3_layAlike_80 (by decide) ?_
  refine lv_iadd hx hb dX3_layAlike_81 ?_
  obtain ⟨M_82, hc_82, h⟩ := bm_el h
  refine iv_X3_89 B hR (h0.at0 rfl) hl.1 (ihr h0 hc_82) (Nat.le_of_ble_eq_true rfl) dX3_layAlike_82 (fun H locs hR => ?_)
  refine lv_aload_n hx hb dX3_layAlike_85 rfl (lv_at hl 1 rfl) ?_
  refine lv_iload_n hx hb dX3_layAlike_86 rfl (lv_at hl 2 rfl) ?_
  refine lv_iload_n hx hb dX3_layAlike_87 rfl (lv_at hl 3 rfl) ?_
  refine lv_iload hx hb dX3_layAlike_88 (lv_at hl 0 rfl) ?_
  refine lv_iadd hx hb dX3_layAlike_90 ?_
  refine lv_iload hx hb dX3_layAlike_91 (lv_at hl 0 rfl) ?_
  refine lv_iload hx hb dX3_layAlike_93 (lv_at hl 6 rfl) ?_
  refine lv_iload hx hb dX3_layAlike_95 (lv_at hl 7 rfl) ?_
  refine lv_iconst (v := 1) hx hb dX3_layAlike_97 (by decide) ?_
  refine lv_isub hx hb dX3_layAlike_98 ?_
  refine lv_iload hx hb dX3_layAlike_99 (lv_at hl 5 rfl) ?_
  refine lv_iconst (v := 1) hx hb dX3_layAlike_101 (by decide) ?_
  refine lv_iadd hx hb dX3_layAlike_102 ?_
  obtain ⟨M_103, hc_103, h⟩ := bm_el h
  refine iv_X3_89 B hR (h0.at0 rfl) hl.1 (ihr h0 hc_103) (Nat.le_of_ble_eq_true rfl) dX3_layAlike_103 (fun H locs hR => ?_)
  exact r_vretW B hR hr hlk h dX3_layAlike_106
def fX3_layAlike_j53 (fu : Nat) (L : Lay) (fr : Nat → Int32 → Int32 → Int32 → Int32 → Int32 → Int32 → Mm → Option Mm) (M : Mm) : Option Mm :=
  some M
set_option maxRecDepth 100000 in
set_option maxHeartbeats 4000000 in
theorem wX3_layAlike_j53 {M' : Mm} {fr : Nat → Int32 → Int32 → Int32 → Int32 → Int32 → Int32 → Mm → Option Mm}    {M : Mm} (B : Bx p s m args c cX3_layAlike 10 RX3 E L) (hr : meth.sig.returnType = none) (hlk : meth.locks = false) (ihr : ∀ {a0 : Nat} {x1 : Int32} {x2 : Int32} {x3 : Int32} {x4 : Int32} {x5 : Int32} {x6 : Int32} {M : Mm} {M' : Mm}, At L a0 T3 → fr a0 x1 x2 x3 x4 x5 x6 M = some M' → Ct l E L yX3_layAlike cX3_layAlike 10 none (d + 2) [.ref a0, .int x1, .int x2, .int x3, .int x4, .int x5, .int x6] M none M')   (h : fX3_layAlike_j53 fu L fr M = some M') (hR : Rx s E L M H locs) (hl : lv_has ls 10 []) : W p l e (rmD (d + 3)) s m args below meth c H locs 0 0 (MQ below (QcM E L none M') args s 0 0 E.2.2.2) (F0 m 53 ls []) := by
  have hx := B.1
  have hb := B.2.1
  unfold fX3_layAlike_j53 at h
  exact r_vretW B hR hr hlk h dX3_layAlike_53
def fX3_layAlike_b8 (fu : Nat) (L : Lay) (fr : Nat → Int32 → Int32 → Int32 → Int32 → Int32 → Int32 → Mm → Option Mm) (k8 : Int32 → Int32 → Mm → Option Mm) (a0 : Nat) (x1 : Int32) (x2 : Int32) (x3 : Int32) (x6 : Int32) (x7 : Int32) (x8 : Int32) (M : Mm) : Option Mm :=
  if x8 ≤ 0 then
    fX3_layAlike_j148 fu L fr M
  else
    if x7 < 0 then
      fX3_layAlike_j148 fu L fr M
    else
      if 11 < x6 then
        fX3_layAlike_j148 fu L fr M
      else
        bi (fX3_cell fu x1 x7 0) fun r_33 =>
        if r_33 < 0 ∨ 21120 ≤ ix r_33 then none else
        bi (fX3_cell fu x1 x7 x8) fun r_46 =>
        if r_46 < 0 ∨ 21120 ≤ ix r_46 then none else
        if (M.1 (a0 + 11) (ix r_33)) = (M.1 (a0 + 11) (ix r_46)) then
          fX3_layAlike_j53 fu L fr M
        else
          if x3 ≤ 1 then
            fX3_layAlike_j107 fu L fr k8 a0 x1 x2 x3 x6 x7 x8 M
          else
            if x8 ≤ 1 then
              fX3_layAlike_j107 fu L fr k8 a0 x1 x2 x3 x6 x7 x8 M
            else
              fX3_layAlike_j65 fu L fr a0 x1 x2 x3 x6 x7 x8 M
set_option maxRecDepth 100000 in
set_option maxHeartbeats 4000000 in
theorem wX3_layAlike_b8 {M' : Mm} {fr : Nat → Int32 → Int32 → Int32 → Int32 → Int32 → Int32 → Mm → Option Mm}   {k8 : Int32 → Int32 → Mm → Option Mm} {a0 : Nat} {x1 : Int32} {x2 : Int32} {x3 : Int32} {x6 : Int32} {x7 : Int32} {x8 : Int32} {M : Mm} (B : Bx p s m args c cX3_layAlike 10 RX3 E L) (hr : meth.sig.returnType = none) (hlk : meth.locks = false) (ihr : ∀ {a0 : Nat} {x1 : Int32} {x2 : Int32} {x3 : Int32} {x4 : Int32} {x5 : Int32} {x6 : Int32} {M : Mm} {M' : Mm}, At L a0 T3 → fr a0 x1 x2 x3 x4 x5 x6 M = some M' → Ct l E L yX3_layAlike cX3_layAlike 10 none (d + 2) [.ref a0, .int x1, .int x2, .int x3, .int x4, .int x5, .int x6] M none M')  (ih8 : ∀ (x7 : Int32) (x8 : Int32) (M : Mm), k8 x7 x8 M = some M' → ∀ (H : Heap) (locs : List Loc) (ls : Array Slot), Rx s E L M H locs → lv_has ls 10 [(0, .ref a0), (1, .int x1), (2, .int x2), (3, .int x3), (6, .int x6), (7, .int x7), (8, .int x8)] → W p l e (rmD (d + 3)) s m args below meth c H locs 0 0 (MQ below (QcM E L none M') args s 0 0 E.2.2.2) (F0 m 8 ls [])) (h0 : At L a0 T3) (h : fX3_layAlike_b8 fu L fr k8 a0 x1 x2 x3 x6 x7 x8 M = some M') (hR : Rx s E L M H locs) (hl : lv_has ls 10 [(0, .ref a0), (1, .int x1), (2, .int x2), (3, .int x3), (6, .int x6), (7, .int x7), (8, .int x8)]) : W p l e (rmD (d + 3)) s m args below meth c H locs 0 0 (MQ below (QcM E L none M') args s 0 0 E.2.2.2) (F0 m 8 ls []) := by
  have hx := B.1
  have hb := B.2.1
  unfold fX3_layAlike_b8 at h
  refine lv_iload hx hb dX3_layAlike_8 (lv_at hl 6 rfl) ?_
  refine lv_if_le (tgt := 148) hx hb dX3_layAlike_10 (by decide) (fun c_10 => ?_) (fun c_10 => ?_)
  · rw [if_pos c_10] at h
    exact wX3_layAlike_j148 B hr hlk ihr h hR (lv_sub hl [] rfl)
  · rw [if_neg c_10] at h
    refine lv_iload hx hb dX3_layAlike_13 (lv_at hl 5 rfl) ?_
    refine lv_if_lt (tgt := 148) hx hb dX3_layAlike_15 (by decide) (fun c_15 => ?_) (fun c_15 => ?_)
    · rw [if_pos c_15] at h
      exact wX3_layAlike_j148 B hr hlk ihr h hR (lv_sub hl [] rfl)
    · rw [if_neg c_15] at h
      refine lv_iload hx hb dX3_layAlike_18 (lv_at hl 4 rfl) ?_
      refine lv_bipush (v := 11) hx hb dX3_layAlike_20 (by decide) ?_
      refine lv_icmp_gt (tgt := 148) hx hb dX3_layAlike_22 (by decide) (fun c_22 => ?_) (fun c_22 => ?_)
      · rw [if_pos c_22] at h
        exact wX3_layAlike_j148 B hr hlk ihr h hR (lv_sub hl [] rfl)
      · rw [if_neg c_22] at h
        refine lv_aload_n hx hb dX3_layAlike_25 rfl (lv_at hl 0 rfl) ?_
        refine gf_X3_18 B hR (h0.at0 rfl) dX3_layAlike_26 ?_
        refine lv_iload_n hx hb dX3_layAlike_29 rfl (lv_at hl 1 rfl) ?_
        refine lv_iload hx hb dX3_layAlike_30 (lv_at hl 5 rfl) ?_
        refine lv_iconst (v := 0) hx hb dX3_layAlike_32 (by decide) ?_
        obtain ⟨r_33, hc_33, h⟩ := bi_el h
        refine is_X3_39 B hR hl.1 (mX3_cell fu _  hc_33) (Nat.le_of_ble_eq_true rfl) dX3_layAlike_33 (fun H locs hR => ?_)
        obtain ⟨hi_36, h⟩ := ifn_el h
        refine r_iald B hR (h0.at 11 rfl) hi_36 dX3_layAlike_36 ?_
        refine lv_aload_n hx hb dX3_layAlike_37 rfl (lv_at hl 0 rfl) ?_
        refine gf_X3_18 B hR (h0.at0 rfl) dX3_layAlike_38 ?_
        refine lv_iload_n hx hb dX3_layAlike_41 rfl (lv_at hl 1 rfl) ?_
        refine lv_iload hx hb dX3_layAlike_42 (lv_at hl 5 rfl) ?_
        refine lv_iload hx hb dX3_layAlike_44 (lv_at hl 6 rfl) ?_
        obtain ⟨r_46, hc_46, h⟩ := bi_el h
        refine is_X3_39 B hR hl.1 (mX3_cell fu _  hc_46) (Nat.le_of_ble_eq_true rfl) dX3_layAlike_46 (fun H locs hR => ?_)
        obtain ⟨hi_49, h⟩ := ifn_el h
        refine r_iald B hR (h0.at 11 rfl) hi_49 dX3_layAlike_49 ?_
        refine lv_icmp_ne (tgt := 54) hx hb dX3_layAlike_50 (by decide) (fun c_50 => ?_) (fun c_50 => ?_)
        · rw [if_neg c_50] at h
          refine lv_iload_n hx hb dX3_layAlike_54 rfl (lv_at hl 3 rfl) ?_
          refine lv_iconst (v := 1) hx hb dX3_layAlike_55 (by decide) ?_
          refine lv_icmp_le (tgt := 107) hx hb dX3_layAlike_56 (by decide) (fun c_56 => ?_) (fun c_56 => ?_)
          · rw [if_pos c_56] at h
            exact wX3_layAlike_j107 B hr hlk ihr ih8 h0 h hR hl
          · rw [if_neg c_56] at h
            refine lv_iload hx hb dX3_layAlike_59 (lv_at hl 6 rfl) ?_
            refine lv_iconst (v := 1) hx hb dX3_layAlike_61 (by decide) ?_
            refine lv_icmp_le (tgt := 107) hx hb dX3_layAlike_62 (by decide) (fun c_62 => ?_) (fun c_62 => ?_)
            · rw [if_pos c_62] at h
              exact wX3_layAlike_j107 B hr hlk ihr ih8 h0 h hR hl
            · rw [if_neg c_62] at h
              exact wX3_layAlike_j65 B hr hlk ihr h0 h hR hl
        · rw [if_pos c_50] at h
          exact wX3_layAlike_j53 B hr hlk ihr h hR (lv_sub hl [] rfl)
def fX3_layAlike_l8 (fu : Nat) (L : Lay) (fr : Nat → Int32 → Int32 → Int32 → Int32 → Int32 → Int32 → Mm → Option Mm) (a0 : Nat) (x1 : Int32) (x2 : Int32) (x3 : Int32) (x6 : Int32) (x7 : Int32) (x8 : Int32) (M : Mm) : Option Mm := lp (fun (rec : (Int32 × Int32 × Mm) → Option Mm) (s : Int32 × Int32 × Mm) => fX3_layAlike_b8 fu L fr  (fun x7 x8 M => rec (x7, x8, M)) a0 x1 x2 x3 x6 s.1 s.2.1 s.2.2) fu (x7, x8, M)
set_option maxRecDepth 100000 in
set_option maxHeartbeats 4000000 in
theorem wX3_layAlike_l8 {M' : Mm} {fr : Nat → Int32 → Int32 → Int32 → Int32 → Int32 → Int32 → Mm → Option Mm}   {a0 : Nat} {x1 : Int32} {x2 : Int32} {x3 : Int32} {x6 : Int32} {x7 : Int32} {x8 : Int32} {M : Mm} (B : Bx p s m args c cX3_layAlike 10 RX3 E L) (hr : meth.sig.returnType = none) (hlk : meth.locks = false) (ihr : ∀ {a0 : Nat} {x1 : Int32} {x2 : Int32} {x3 : Int32} {x4 : Int32} {x5 : Int32} {x6 : Int32} {M : Mm} {M' : Mm}, At L a0 T3 → fr a0 x1 x2 x3 x4 x5 x6 M = some M' → Ct l E L yX3_layAlike cX3_layAlike 10 none (d + 2) [.ref a0, .int x1, .int x2, .int x3, .int x4, .int x5, .int x6] M none M')  (h0 : At L a0 T3) (h : fX3_layAlike_l8 fu L fr a0 x1 x2 x3 x6 x7 x8 M = some M') (hR : Rx s E L M H locs) (hl : lv_has ls 10 [(0, .ref a0), (1, .int x1), (2, .int x2), (3, .int x3), (6, .int x6), (7, .int x7), (8, .int x8)]) : W p l e (rmD (d + 3)) s m args below meth c H locs 0 0 (MQ below (QcM E L none M') args s 0 0 E.2.2.2) (F0 m 8 ls []) := by
  refine lp_G (G := fun z : Int32 × Int32 × Mm => ∀ (H : Heap) (locs : List Loc) (ls : Array Slot), Rx s E L z.2.2 H locs → lv_has ls 10 [(0, .ref a0), (1, .int x1), (2, .int x2), (3, .int x3), (6, .int x6), (7, .int z.1), (8, .int z.2.1)] → W p l e (rmD (d + 3)) s m args below meth c H locs 0 0 (MQ below (QcM E L none M') args s 0 0 E.2.2.2) (F0 m 8 ls [])) (fun rec ih z h H locs ls hR hl => ?_) fu _ h H locs ls hR hl
  exact wX3_layAlike_b8 B hr hlk ihr  (fun x7 x8 M h => ih (x7, x8, M) h) h0 h hR hl
def fX3_layAlike_R (fu : Nat) (L : Lay) (fr : Nat → Int32 → Int32 → Int32 → Int32 → Int32 → Int32 → Mm → Option Mm) (a0 : Nat) (x1 : Int32) (x2 : Int32) (x3 : Int32) (x4 : Int32) (x5 : Int32) (x6 : Int32) (M : Mm) : Option Mm :=
  fX3_layAlike_l8 fu L fr a0 x1 x2 x3 x6 x4 x5 M
set_option maxRecDepth 100000 in
set_option maxHeartbeats 4000000 in
theorem mX3_layAlike_R {l : Launch} {E : Ge} {L : Lay} (fu d : Nat) {a0 : Nat} {x1 : Int32} {x2 : Int32} {x3 : Int32} {x4 : Int32} {x5 : Int32} {x6 : Int32} {M : Mm} {M' : Mm} {fr : Nat → Int32 → Int32 → Int32 → Int32 → Int32 → Int32 → Mm → Option Mm} (ihr : ∀ {a0 : Nat} {x1 : Int32} {x2 : Int32} {x3 : Int32} {x4 : Int32} {x5 : Int32} {x6 : Int32} {M : Mm} {M' : Mm}, At L a0 T3 → fr a0 x1 x2 x3 x4 x5 x6 M = some M' → Ct l E L yX3_layAlike cX3_layAlike 10 none (d + 2) [.ref a0, .int x1, .int x2, .int x3, .int x4, .int x5, .int x6] M none M') (h0 : At L a0 T3) (h : fX3_layAlike_R fu L fr a0 x1 x2 x3 x4 x5 x6 M = some M') : Ct l E L yX3_layAlike cX3_layAlike 10 none (d + 3) [.ref a0, .int x1, .int x2, .int x3, .int x4, .int x5, .int x6] M none M' := by
  refine Ct.of (by decide) ?_
  intro p e s m below meth c hr hlk B hR
  have B : Bx p s m _ c cX3_layAlike 10 RX3 E L := B
  have hx := B.1
  have hb := B.2.1
  have hl := lv_entry ([.ref a0, .int x1, .int x2, .int x3, .int x4, .int x5, .int x6]) (n := 10) (Nat.le_of_ble_eq_true rfl)
  rw [lg_entry_eq]
  generalize (lg_sl ([.ref a0, .int x1, .int x2, .int x3, .int x4, .int x5, .int x6]) ++ List.replicate (10 - (lg_sl ([.ref a0, .int x1, .int x2, .int x3, .int x4, .int x5, .int x6])).length) Slot.unset).toArray = ls at hl ⊢
  have hl : lv_has ls 10 [(0, .ref a0), (1, .int x1), (2, .int x2), (3, .int x3), (4, .int x4), (5, .int x5), (6, .int x6)] := hl
  unfold fX3_layAlike_R at h
  refine lv_iload hx hb dX3_layAlike_0 (lv_at hl 4 rfl) ?_
  refine lv_istore (lv' := [(7, .int x4), (0, .ref a0), (1, .int x1), (2, .int x2), (3, .int x3), (4, .int x4), (5, .int x5), (6, .int x6)]) hx hb dX3_layAlike_2 hl (by decide) rfl (fun ls hl => ?_)
  refine lv_iload hx hb dX3_layAlike_4 (lv_at hl 6 rfl) ?_
  refine lv_istore (lv' := [(8, .int x5), (7, .int x4), (0, .ref a0), (1, .int x1), (2, .int x2), (3, .int x3), (4, .int x4), (5, .int x5), (6, .int x6)]) hx hb dX3_layAlike_6 hl (by decide) rfl (fun ls hl => ?_)
  exact wX3_layAlike_l8 B hr hlk ihr h0 h hR (lv_sub hl [2, 3, 4, 5, 8, 1, 0] rfl)
def fX3_layAlike (fu : Nat) (L : Lay) : Nat → Nat → Int32 → Int32 → Int32 → Int32 → Int32 → Int32 → Mm → Option Mm
  | 0 => fun _ _ _ _ _ _ _ _ => none
  | dp + 1 => fun a0 x1 x2 x3 x4 x5 x6 M => fX3_layAlike_R fu L (fX3_layAlike fu L dp) a0 x1 x2 x3 x4 x5 x6 M
theorem mX3_layAlike_N {l : Launch} {E : Ge} {L : Lay} (fu dp : Nat) : ∀ (d : Nat) {a0 : Nat} {x1 : Int32} {x2 : Int32} {x3 : Int32} {x4 : Int32} {x5 : Int32} {x6 : Int32} {M : Mm} {M' : Mm} (h0 : At L a0 T3) (h : fX3_layAlike fu L dp a0 x1 x2 x3 x4 x5 x6 M = some M'), Ct l E L yX3_layAlike cX3_layAlike 10 none (d + dp + 2) [.ref a0, .int x1, .int x2, .int x3, .int x4, .int x5, .int x6] M none M' := by
  induction dp with
  | zero => intro d _ _ _ _ _ _ _ _ _ _ h; cases h
  | succ dp ih => intro d _ _ _ _ _ _ _ _ _ h0 h; exact mX3_layAlike_R fu (d + dp) (fr := fX3_layAlike fu L dp) (fun h0 h => ih d h0 h) h0 h
theorem mX3_layAlike {l : Launch} {E : Ge} {L : Lay} (fu d : Nat) {a0 : Nat} {x1 : Int32} {x2 : Int32} {x3 : Int32} {x4 : Int32} {x5 : Int32} {x6 : Int32} {M : Mm} {M' : Mm} (h0 : At L a0 T3) (h : fX3_layAlike fu L 16 a0 x1 x2 x3 x4 x5 x6 M = some M') : Ct l E L yX3_layAlike cX3_layAlike 10 none (d + 18) [.ref a0, .int x1, .int x2, .int x3, .int x4, .int x5, .int x6] M none M' := mX3_layAlike_N fu 16 d h0 h
def fX3_byHalves (fu : Nat) (a0 : Nat) (x1 : Int32) (x2 : Int32) (x3 : Int32) (x4 : Int32) (M : Mm) : Option Int32 :=
  bi (fX3_cell fu (x1 + 1) x2 x3) fun r_9 =>
  if r_9 < 0 ∨ 21120 ≤ ix r_9 then none else
  if x1 < 0 ∨ 320 ≤ ix x1 then none else
  bi (fX3_cell fu (M.1 ((a0 + 1) + 3) (ix x1)) x2 x4) fun r_29 =>
  if r_29 < 0 ∨ 21120 ≤ ix r_29 then none else
  some ((M.1 (a0 + 11) (ix r_9)) + (M.1 (a0 + 11) (ix r_29)))
set_option maxRecDepth 100000 in
set_option maxHeartbeats 4000000 in
theorem mX3_byHalves {l : Launch} {E : Ge} {L : Lay} (fu d : Nat) {a0 : Nat} {x1 : Int32} {x2 : Int32} {x3 : Int32} {x4 : Int32} {M : Mm} {r : Int32}  (h0 : At L a0 T3) (h : fX3_byHalves fu a0 x1 x2 x3 x4 M = some r) : Ct l E L yX3_byHalves cX3_byHalves 5 (some .int) (d + 1) [.ref a0, .int x1, .int x2, .int x3, .int x4] M (some (.int r)) M := by
  refine Ct.of (by decide) ?_
  intro p e s m below meth c hr hlk B hR
  have B : Bx p s m _ c cX3_byHalves 5 RX3 E L := B
  have hx := B.1
  have hb := B.2.1
  have hl := lv_entry ([.ref a0, .int x1, .int x2, .int x3, .int x4]) (n := 5) (Nat.le_of_ble_eq_true rfl)
  rw [lg_entry_eq]
  generalize (lg_sl ([.ref a0, .int x1, .int x2, .int x3, .int x4]) ++ List.replicate (5 - (lg_sl ([.ref a0, .int x1, .int x2, .int x3, .int x4])).length) Slot.unset).toArray = ls at hl ⊢
  have hl : lv_has ls 5 [(0, .ref a0), (1, .int x1), (2, .int x2), (3, .int x3), (4, .int x4)] := hl
  unfold fX3_byHalves at h
  refine lv_aload_n hx hb dX3_byHalves_0 rfl (lv_at hl 0 rfl) ?_
  refine gf_X3_18 B hR (h0.at0 rfl) dX3_byHalves_1 ?_
  refine lv_iload_n hx hb dX3_byHalves_4 rfl (lv_at hl 1 rfl) ?_
  refine lv_iconst (v := 1) hx hb dX3_byHalves_5 (by decide) ?_
  refine lv_iadd hx hb dX3_byHalves_6 ?_
  refine lv_iload_n hx hb dX3_byHalves_7 rfl (lv_at hl 2 rfl) ?_
  refine lv_iload_n hx hb dX3_byHalves_8 rfl (lv_at hl 3 rfl) ?_
  obtain ⟨r_9, hc_9, h⟩ := bi_el h
  refine is_X3_39 B hR hl.1 (mX3_cell fu _  hc_9) (Nat.le_of_ble_eq_true rfl) dX3_byHalves_9 (fun H locs hR => ?_)
  obtain ⟨hi_12, h⟩ := ifn_el h
  refine r_iald B hR (h0.at 11 rfl) hi_12 dX3_byHalves_12 ?_
  refine lv_aload_n hx hb dX3_byHalves_13 rfl (lv_at hl 0 rfl) ?_
  refine gf_X3_18 B hR (h0.at0 rfl) dX3_byHalves_14 ?_
  refine lv_aload_n hx hb dX3_byHalves_17 rfl (lv_at hl 0 rfl) ?_
  refine gf_X3_12 B hR (h0.at0 rfl) dX3_byHalves_18 ?_
  refine gf_X3_70 B hR ((sb_3_0 h0).at0 rfl) dX3_byHalves_21 ?_
  refine lv_iload_n hx hb dX3_byHalves_24 rfl (lv_at hl 1 rfl) ?_
  obtain ⟨hi_25, h⟩ := ifn_el h
  refine r_iald B hR ((sb_3_0 h0).at 3 rfl) hi_25 dX3_byHalves_25 ?_
  refine lv_iload_n hx hb dX3_byHalves_26 rfl (lv_at hl 2 rfl) ?_
  refine lv_iload hx hb dX3_byHalves_27 (lv_at hl 4 rfl) ?_
  obtain ⟨r_29, hc_29, h⟩ := bi_el h
  refine is_X3_39 B hR hl.1 (mX3_cell fu _  hc_29) (Nat.le_of_ble_eq_true rfl) dX3_byHalves_29 (fun H locs hR => ?_)
  obtain ⟨hi_32, h⟩ := ifn_el h
  refine r_iald B hR (h0.at 11 rfl) hi_32 dX3_byHalves_32 ?_
  refine lv_iadd hx hb dX3_byHalves_33 ?_
  exact r_iretP B hR hr hlk h dX3_byHalves_34
def fX3_layWithin_j228 (fu : Nat) (L : Lay) (fr : Nat → Int32 → Int32 → Int32 → Int32 → Mm → Option Mm) (M : Mm) : Option Mm :=
  some M
set_option maxRecDepth 100000 in
set_option maxHeartbeats 4000000 in
theorem wX3_layWithin_j228 {M' : Mm} {fr : Nat → Int32 → Int32 → Int32 → Int32 → Mm → Option Mm}    {M : Mm} (B : Bx p s m args c cX3_layWithin 9 RX3 E L) (hr : meth.sig.returnType = none) (hlk : meth.locks = false) (ihr : ∀ {a0 : Nat} {x1 : Int32} {x2 : Int32} {x3 : Int32} {x4 : Int32} {M : Mm} {M' : Mm}, At L a0 T3 → fr a0 x1 x2 x3 x4 M = some M' → Ct l E L yX3_layWithin cX3_layWithin 9 none (d + 19) [.ref a0, .int x1, .int x2, .int x3, .int x4] M none M')   (h : fX3_layWithin_j228 fu L fr M = some M') (hR : Rx s E L M H locs) (hl : lv_has ls 9 []) : W p l e (rmD (d + 20)) s m args below meth c H locs 0 0 (MQ below (QcM E L none M') args s 0 0 E.2.2.2) (F0 m 228 ls []) := by
  have hx := B.1
  have hb := B.2.1
  unfold fX3_layWithin_j228 at h
  exact r_vretW B hR hr hlk h dX3_layWithin_228
def fX3_layWithin_j171 (fu : Nat) (L : Lay) (fr : Nat → Int32 → Int32 → Int32 → Int32 → Mm → Option Mm) (k46 : Int32 → Int32 → Mm → Option Mm) (a0 : Nat) (x1 : Int32) (x4 : Int32) (x5 : Int32) (x6 : Int32) (M : Mm) : Option Mm :=
  bi (fX3_firstKind fu a0 x1 x5 x6 M) fun r_177 =>
  bl (M.2.2 a0 2) fun q_183 =>
  gd (atB L q_183 (T0 10) = true) <|
  if x1 < 0 ∨ 320 ≤ ix x1 then none else
  bm (fX0_add fu 10 q_183 (M.1 ((a0 + 1) + 1) (ix x1)) (M.1 ((a0 + 1) + 2) (ix x1)) r_177 M) fun M_206 =>
  if ((x5 * 5) + r_177) < 0 ∨ 30 ≤ ix ((x5 * 5) + r_177) then none else
  lt ((laidT.getD (ix ((x5 * 5) + r_177)) 0)) fun x5_220 =>
  lt (x6 + (-1)) fun x6_222 =>
  k46 x5_220 x6_222 M_206
set_option maxRecDepth 100000 in
set_option maxHeartbeats 4000000 in
theorem wX3_layWithin_j171 {M' : Mm} {fr : Nat → Int32 → Int32 → Int32 → Int32 → Mm → Option Mm}  {k46 : Int32 → Int32 → Mm → Option Mm} {a0 : Nat} {x1 : Int32} {x4 : Int32} {x5 : Int32} {x6 : Int32} {M : Mm} (B : Bx p s m args c cX3_layWithin 9 RX3 E L) (hr : meth.sig.returnType = none) (hlk : meth.locks = false) (ihr : ∀ {a0 : Nat} {x1 : Int32} {x2 : Int32} {x3 : Int32} {x4 : Int32} {M : Mm} {M' : Mm}, At L a0 T3 → fr a0 x1 x2 x3 x4 M = some M' → Ct l E L yX3_layWithin cX3_layWithin 9 none (d + 19) [.ref a0, .int x1, .int x2, .int x3, .int x4] M none M') (ih46 : ∀ (x5 : Int32) (x6 : Int32) (M : Mm), k46 x5 x6 M = some M' → ∀ (H : Heap) (locs : List Loc) (ls : Array Slot), Rx s E L M H locs → lv_has ls 9 [(0, .ref a0), (1, .int x1), (4, .int x4), (5, .int x5), (6, .int x6)] → W p l e (rmD (d + 20)) s m args below meth c H locs 0 0 (MQ below (QcM E L none M') args s 0 0 E.2.2.2) (F0 m 46 ls [])) (h0 : At L a0 T3) (h : fX3_layWithin_j171 fu L fr k46 a0 x1 x4 x5 x6 M = some M') (hR : Rx s E L M H locs) (hl : lv_has ls 9 [(0, .ref a0), (1, .int x1), (4, .int x4), (5, .int x5), (6, .int x6)]) : W p l e (rmD (d + 20)) s m args below meth c H locs 0 0 (MQ below (QcM E L none M') args s 0 0 E.2.2.2) (F0 m 171 ls []) := by
  have hx := B.1
  have hb := B.2.1
  unfold fX3_layWithin_j171 at h
  refine lv_aload_n hx hb dX3_layWithin_171 rfl (lv_at hl 0 rfl) ?_
  refine lv_iload_n hx hb dX3_layWithin_172 rfl (lv_at hl 1 rfl) ?_
  refine lv_iload hx hb dX3_layWithin_173 (lv_at hl 3 rfl) ?_
  refine lv_iload hx hb dX3_layWithin_175 (lv_at hl 4 rfl) ?_
  obtain ⟨r_177, hc_177, h⟩ := bi_el h
  refine iv_X3_97 B hR (h0.at0 rfl) hl.1 (mX3_firstKind fu _ h0 hc_177) (Nat.le_of_ble_eq_true rfl) dX3_layWithin_177 (fun H locs hR => ?_)
  refine lv_istore (lv' := [(8, .int r_177), (0, .ref a0), (1, .int x1), (4, .int x4), (5, .int x5), (6, .int x6)]) hx hb dX3_layWithin_180 hl (by decide) rfl (fun ls hl => ?_)
  refine lv_aload_n hx hb dX3_layWithin_182 rfl (lv_at hl 1 rfl) ?_
  obtain ⟨q_183, hq_183, h⟩ := bl_el h
  obtain ⟨hs_183, h⟩ := gd_el h
  refine gm_X3_43 B hR (h0.at0 rfl) hq_183 dX3_layWithin_183 ?_
  refine lv_aload_n hx hb dX3_layWithin_186 rfl (lv_at hl 1 rfl) ?_
  refine gf_X3_12 B hR (h0.at0 rfl) dX3_layWithin_187 ?_
  refine gf_X3_83 B hR ((sb_3_0 h0).at0 rfl) dX3_layWithin_190 ?_
  refine lv_iload_n hx hb dX3_layWithin_193 rfl (lv_at hl 2 rfl) ?_
  obtain ⟨hi_194, h⟩ := ifn_el h
  refine r_iald B hR ((sb_3_0 h0).at 1 rfl) hi_194 dX3_layWithin_194 ?_
  refine lv_aload_n hx hb dX3_layWithin_195 rfl (lv_at hl 1 rfl) ?_
  refine gf_X3_12 B hR (h0.at0 rfl) dX3_layWithin_196 ?_
  refine gf_X3_86 B hR ((sb_3_0 h0).at0 rfl) dX3_layWithin_199 ?_
  refine lv_iload_n hx hb dX3_layWithin_202 rfl (lv_at hl 2 rfl) ?_
  refine r_iald B hR ((sb_3_0 h0).at 2 rfl) hi_194 dX3_layWithin_203 ?_
  refine lv_iload hx hb dX3_layWithin_204 (lv_at hl 0 rfl) ?_
  obtain ⟨M_206, hc_206, h⟩ := bm_el h
  refine iv_X3_100 B hR ((atB_at hs_183).at0 rfl) hl.1 (mX0_add fu _ (atB_at hs_183) hc_206) (Nat.le_of_ble_eq_true rfl) dX3_layWithin_206 (fun H locs hR => ?_)
  refine gs_X3_80 B hR dX3_layWithin_209 ?_
  refine lv_iload hx hb dX3_layWithin_212 (lv_at hl 4 rfl) ?_
  refine lv_iconst (v := 5) hx hb dX3_layWithin_214 (by decide) ?_
  refine lv_imul hx hb dX3_layWithin_215 ?_
  refine lv_iload hx hb dX3_layWithin_216 (lv_at hl 0 rfl) ?_
  refine lv_iadd hx hb dX3_layWithin_218 ?_
  obtain ⟨hi_219, h⟩ := ifn_el h
  refine r_tald B hR B.2.2.2.2.2.2.2.1.2 hi_219 dX3_layWithin_219 ?_
  obtain ⟨x5_220, ex5_220, h⟩ := lt_el h
  refine r_nmI ex5_220 ?_
  refine lv_istore (lv' := [(5, .int x5_220), (8, .int r_177), (0, .ref a0), (1, .int x1), (4, .int x4), (6, .int x6)]) hx hb dX3_layWithin_220 hl (by decide) rfl (fun ls hl => ?_)
  obtain ⟨x6_222, ex6_222, h⟩ := lt_el h
  refine lv_iinc (v := x6_222) (lv' := [(6, .int x6_222), (5, .int x5_220), (8, .int r_177), (0, .ref a0), (1, .int x1), (4, .int x4)]) hx hb dX3_layWithin_222 hl (k := 5) rfl (by rw [ex6_222]; rfl) (by decide) rfl (fun ls hl => ?_)
  refine lv_goto (tgt := 46) hx hb dX3_layWithin_225 (by decide) ?_
  exact ih46 x5_220 x6_222 M_206 h _ _ _ hR (lv_sub hl [3, 4, 5, 1, 0] rfl)
def fX3_layWithin_j125 (fu : Nat) (L : Lay) (fr : Nat → Int32 → Int32 → Int32 → Int32 → Mm → Option Mm) (a0 : Nat) (x1 : Int32) (x4 : Int32) (x5 : Int32) (x6 : Int32) (x8 : Int32) (M : Mm) : Option Mm :=
  bm (fr a0 (x1 + 1) x5 x8 (x4 + 1) M) fun M_137 =>
  if x1 < 0 ∨ 320 ≤ ix x1 then none else
  bm (fr a0 (M_137.1 ((a0 + 1) + 3) (ix x1)) x5 (x6 - x8) (x4 + 1) M_137) fun M_161 =>
  some M_161
set_option maxRecDepth 100000 in
set_option maxHeartbeats 4000000 in
theorem wX3_layWithin_j125 {M' : Mm} {fr : Nat → Int32 → Int32 → Int32 → Int32 → Mm → Option Mm}   {a0 : Nat} {x1 : Int32} {x4 : Int32} {x5 : Int32} {x6 : Int32} {x8 : Int32} {M : Mm} (B : Bx p s m args c cX3_layWithin 9 RX3 E L) (hr : meth.sig.returnType = none) (hlk : meth.locks = false) (ihr : ∀ {a0 : Nat} {x1 : Int32} {x2 : Int32} {x3 : Int32} {x4 : Int32} {M : Mm} {M' : Mm}, At L a0 T3 → fr a0 x1 x2 x3 x4 M = some M' → Ct l E L yX3_layWithin cX3_layWithin 9 none (d + 19) [.ref a0, .int x1, .int x2, .int x3, .int x4] M none M')  (h0 : At L a0 T3) (h : fX3_layWithin_j125 fu L fr a0 x1 x4 x5 x6 x8 M = some M') (hR : Rx s E L M H locs) (hl : lv_has ls 9 [(0, .ref a0), (1, .int x1), (4, .int x4), (5, .int x5), (6, .int x6), (8, .int x8)]) : W p l e (rmD (d + 20)) s m args below meth c H locs 0 0 (MQ below (QcM E L none M') args s 0 0 E.2.2.2) (F0 m 125 ls []) := by
  have hx := B.1
  have hb := B.2.1
  unfold fX3_layWithin_j125 at h
  refine lv_aload_n hx hb dX3_layWithin_125 rfl (lv_at hl 0 rfl) ?_
  refine lv_iload_n hx hb dX3_layWithin_126 rfl (lv_at hl 1 rfl) ?_
  refine lv_iconst (v := 1) hx hb dX3_layWithin_127 (by decide) ?_
  refine lv_iadd hx hb dX3_layWithin_128 ?_
  refine lv_iload hx hb dX3_layWithin_129 (lv_at hl 3 rfl) ?_
  refine lv_iload hx hb dX3_layWithin_131 (lv_at hl 5 rfl) ?_
  refine lv_iload hx hb dX3_layWithin_133 (lv_at hl 2 rfl) ?_
  refine lv_iconst (v := 1) hx hb dX3_layWithin_135 (by decide) ?_
  refine lv_iadd hx hb dX3_layWithin_136 ?_
  obtain ⟨M_137, hc_137, h⟩ := bm_el h
  refine iv_X3_50 B hR (h0.at0 rfl) hl.1 (ihr h0 hc_137) (Nat.le_of_ble_eq_true rfl) dX3_layWithin_137 (fun H locs hR => ?_)
  refine lv_aload_n hx hb dX3_layWithin_140 rfl (lv_at hl 0 rfl) ?_
  refine lv_aload_n hx hb dX3_layWithin_141 rfl (lv_at hl 0 rfl) ?_
  refine gf_X3_12 B hR (h0.at0 rfl) dX3_layWithin_142 ?_
  refine gf_X3_70 B hR ((sb_3_0 h0).at0 rfl) dX3_layWithin_145 ?_
  refine lv_iload_n hx hb dX3_layWithin_148 rfl (lv_at hl 1 rfl) ?_
  obtain ⟨hi_149, h⟩ := ifn_el h
  refine r_iald B hR ((sb_3_0 h0).at 3 rfl) hi_149 dX3_layWithin_149 ?_
  refine lv_iload hx hb dX3_layWithin_150 (lv_at hl 3 rfl) ?_
  refine lv_iload hx hb dX3_layWithin_152 (lv_at hl 4 rfl) ?_
  refine lv_iload hx hb dX3_layWithin_154 (lv_at hl 5 rfl) ?_
  refine lv_isub hx hb dX3_layWithin_156 ?_
  refine lv_iload hx hb dX3_layWithin_157 (lv_at hl 2 rfl) ?_
  refine lv_iconst (v := 1) hx hb dX3_layWithin_159 (by decide) ?_
  refine lv_iadd hx hb dX3_layWithin_160 ?_
  obtain ⟨M_161, hc_161, h⟩ := bm_el h
  refine iv_X3_50 B hR (h0.at0 rfl) hl.1 (ihr h0 hc_161) (Nat.le_of_ble_eq_true rfl) dX3_layWithin_161 (fun H locs hR => ?_)
  exact r_vretW B hR hr hlk h dX3_layWithin_164
def fX3_layWithin_b99 (fu : Nat) (L : Lay) (fr : Nat → Int32 → Int32 → Int32 → Int32 → Mm → Option Mm) (k46 : Int32 → Int32 → Mm → Option Mm) (k99 : Int32 → Option Mm) (a0 : Nat) (x1 : Int32) (x4 : Int32) (x5 : Int32) (x6 : Int32) (x7 : Int32) (x8 : Int32) (M : Mm) : Option Mm :=
  if x6 < x8 then
    fX3_layWithin_j171 fu L fr k46 a0 x1 x4 x5 x6 M
  else
    bi (fX3_byHalves fu a0 x1 x5 x8 (x6 - x8) M) fun r_117 =>
    if r_117 = x7 then
      fX3_layWithin_j125 fu L fr a0 x1 x4 x5 x6 x8 M
    else
      lt (x8 + 1) fun x8_165 =>
      k99 x8_165
set_option maxRecDepth 100000 in
set_option maxHeartbeats 4000000 in
theorem wX3_layWithin_b99 {M' : Mm} {fr : Nat → Int32 → Int32 → Int32 → Int32 → Mm → Option Mm}  {k46 : Int32 → Int32 → Mm → Option Mm} {k99 : Int32 → Option Mm} {a0 : Nat} {x1 : Int32} {x4 : Int32} {x5 : Int32} {x6 : Int32} {x7 : Int32} {x8 : Int32} {M : Mm} (B : Bx p s m args c cX3_layWithin 9 RX3 E L) (hr : meth.sig.returnType = none) (hlk : meth.locks = false) (ihr : ∀ {a0 : Nat} {x1 : Int32} {x2 : Int32} {x3 : Int32} {x4 : Int32} {M : Mm} {M' : Mm}, At L a0 T3 → fr a0 x1 x2 x3 x4 M = some M' → Ct l E L yX3_layWithin cX3_layWithin 9 none (d + 19) [.ref a0, .int x1, .int x2, .int x3, .int x4] M none M') (ih46 : ∀ (x5 : Int32) (x6 : Int32) (M : Mm), k46 x5 x6 M = some M' → ∀ (H : Heap) (locs : List Loc) (ls : Array Slot), Rx s E L M H locs → lv_has ls 9 [(0, .ref a0), (1, .int x1), (4, .int x4), (5, .int x5), (6, .int x6)] → W p l e (rmD (d + 20)) s m args below meth c H locs 0 0 (MQ below (QcM E L none M') args s 0 0 E.2.2.2) (F0 m 46 ls [])) (ih99 : ∀ (x8 : Int32), k99 x8 = some M' → ∀ (H : Heap) (locs : List Loc) (ls : Array Slot), Rx s E L M H locs → lv_has ls 9 [(0, .ref a0), (1, .int x1), (4, .int x4), (5, .int x5), (6, .int x6), (7, .int x7), (8, .int x8)] → W p l e (rmD (d + 20)) s m args below meth c H locs 0 0 (MQ below (QcM E L none M') args s 0 0 E.2.2.2) (F0 m 99 ls [])) (h0 : At L a0 T3) (h : fX3_layWithin_b99 fu L fr k46 k99 a0 x1 x4 x5 x6 x7 x8 M = some M') (hR : Rx s E L M H locs) (hl : lv_has ls 9 [(0, .ref a0), (1, .int x1), (4, .int x4), (5, .int x5), (6, .int x6), (7, .int x7), (8, .int x8)]) : W p l e (rmD (d + 20)) s m args below meth c H locs 0 0 (MQ below (QcM E L none M') args s 0 0 E.2.2.2) (F0 m 99 ls []) := by
  have hx := B.1
  have hb := B.2.1
  unfold fX3_layWithin_b99 at h
  refine lv_iload hx hb dX3_layWithin_99 (lv_at hl 6 rfl) ?_
  refine lv_iload hx hb dX3_layWithin_101 (lv_at hl 4 rfl) ?_
  refine lv_icmp_gt (tgt := 171) hx hb dX3_layWithin_103 (by decide) (fun c_103 => ?_) (fun c_103 => ?_)
  · rw [if_pos c_103] at h
    exact wX3_layWithin_j171 B hr hlk ihr ih46 h0 h hR (lv_sub hl [0, 1, 2, 3, 4] rfl)
  · rw [if_neg c_103] at h
    refine lv_aload_n hx hb dX3_layWithin_106 rfl (lv_at hl 0 rfl) ?_
    refine lv_iload_n hx hb dX3_layWithin_107 rfl (lv_at hl 1 rfl) ?_
    refine lv_iload hx hb dX3_layWithin_108 (lv_at hl 3 rfl) ?_
    refine lv_iload hx hb dX3_layWithin_110 (lv_at hl 6 rfl) ?_
    refine lv_iload hx hb dX3_layWithin_112 (lv_at hl 4 rfl) ?_
    refine lv_iload hx hb dX3_layWithin_114 (lv_at hl 6 rfl) ?_
    refine lv_isub hx hb dX3_layWithin_116 ?_
    obtain ⟨r_117, hc_117, h⟩ := bi_el h
    refine iv_X3_93 B hR (h0.at0 rfl) hl.1 (mX3_byHalves fu _ h0 hc_117) (Nat.le_of_ble_eq_true rfl) dX3_layWithin_117 (fun H locs hR => ?_)
    refine lv_iload hx hb dX3_layWithin_120 (lv_at hl 5 rfl) ?_
    refine lv_icmp_ne (tgt := 165) hx hb dX3_layWithin_122 (by decide) (fun c_122 => ?_) (fun c_122 => ?_)
    · rw [if_neg c_122] at h
      obtain ⟨x8_165, ex8_165, h⟩ := lt_el h
      refine lv_iinc (v := x8_165) (lv' := [(8, .int x8_165), (0, .ref a0), (1, .int x1), (4, .int x4), (5, .int x5), (6, .int x6), (7, .int x7)]) hx hb dX3_layWithin_165 hl (k := 6) rfl (by rw [ex8_165]; rfl) (by decide) rfl (fun ls hl => ?_)
      refine lv_goto (tgt := 99) hx hb dX3_layWithin_168 (by decide) ?_
      exact ih99 x8_165 h _ _ _ hR (lv_sub hl [1, 2, 3, 4, 5, 6, 0] rfl)
    · rw [if_pos c_122] at h
      exact wX3_layWithin_j125 B hr hlk ihr h0 h hR (lv_sub hl [0, 1, 2, 3, 4, 6] rfl)
def fX3_layWithin_l99 (fu : Nat) (L : Lay) (fr : Nat → Int32 → Int32 → Int32 → Int32 → Mm → Option Mm) (k46 : Int32 → Int32 → Mm → Option Mm) (a0 : Nat) (x1 : Int32) (x4 : Int32) (x5 : Int32) (x6 : Int32) (x7 : Int32) (M : Mm) (x8 : Int32) : Option Mm := lp (fun (rec : Int32 → Option Mm) (s : Int32) => fX3_layWithin_b99 fu L fr k46 (fun x8 => rec (x8)) a0 x1 x4 x5 x6 x7 s M) fu (x8)
set_option maxRecDepth 100000 in
set_option maxHeartbeats 4000000 in
theorem wX3_layWithin_l99 {M' : Mm} {fr : Nat → Int32 → Int32 → Int32 → Int32 → Mm → Option Mm}  {k46 : Int32 → Int32 → Mm → Option Mm} {a0 : Nat} {x1 : Int32} {x4 : Int32} {x5 : Int32} {x6 : Int32} {x7 : Int32} {x8 : Int32} {M : Mm} (B : Bx p s m args c cX3_layWithin 9 RX3 E L) (hr : meth.sig.returnType = none) (hlk : meth.locks = false) (ihr : ∀ {a0 : Nat} {x1 : Int32} {x2 : Int32} {x3 : Int32} {x4 : Int32} {M : Mm} {M' : Mm}, At L a0 T3 → fr a0 x1 x2 x3 x4 M = some M' → Ct l E L yX3_layWithin cX3_layWithin 9 none (d + 19) [.ref a0, .int x1, .int x2, .int x3, .int x4] M none M') (ih46 : ∀ (x5 : Int32) (x6 : Int32) (M : Mm), k46 x5 x6 M = some M' → ∀ (H : Heap) (locs : List Loc) (ls : Array Slot), Rx s E L M H locs → lv_has ls 9 [(0, .ref a0), (1, .int x1), (4, .int x4), (5, .int x5), (6, .int x6)] → W p l e (rmD (d + 20)) s m args below meth c H locs 0 0 (MQ below (QcM E L none M') args s 0 0 E.2.2.2) (F0 m 46 ls [])) (h0 : At L a0 T3) (h : fX3_layWithin_l99 fu L fr k46 a0 x1 x4 x5 x6 x7 M x8 = some M') (hR : Rx s E L M H locs) (hl : lv_has ls 9 [(0, .ref a0), (1, .int x1), (4, .int x4), (5, .int x5), (6, .int x6), (7, .int x7), (8, .int x8)]) : W p l e (rmD (d + 20)) s m args below meth c H locs 0 0 (MQ below (QcM E L none M') args s 0 0 E.2.2.2) (F0 m 99 ls []) := by
  refine lp_G (G := fun z : Int32 => ∀ (H : Heap) (locs : List Loc) (ls : Array Slot), Rx s E L M H locs → lv_has ls 9 [(0, .ref a0), (1, .int x1), (4, .int x4), (5, .int x5), (6, .int x6), (7, .int x7), (8, .int z)] → W p l e (rmD (d + 20)) s m args below meth c H locs 0 0 (MQ below (QcM E L none M') args s 0 0 E.2.2.2) (F0 m 99 ls [])) (fun rec ih z h H locs ls hR hl => ?_) fu _ h H locs ls hR hl
  exact wX3_layWithin_b99 B hr hlk ihr ih46 (fun x8 h => ih (x8) h) h0 h hR hl
def fX3_layWithin_j95 (fu : Nat) (L : Lay) (fr : Nat → Int32 → Int32 → Int32 → Int32 → Mm → Option Mm) (M : Mm) : Option Mm :=
  some M
set_option maxRecDepth 100000 in
set_option maxHeartbeats 4000000 in
theorem wX3_layWithin_j95 {M' : Mm} {fr : Nat → Int32 → Int32 → Int32 → Int32 → Mm → Option Mm}    {M : Mm} (B : Bx p s m args c cX3_layWithin 9 RX3 E L) (hr : meth.sig.returnType = none) (hlk : meth.locks = false) (ihr : ∀ {a0 : Nat} {x1 : Int32} {x2 : Int32} {x3 : Int32} {x4 : Int32} {M : Mm} {M' : Mm}, At L a0 T3 → fr a0 x1 x2 x3 x4 M = some M' → Ct l E L yX3_layWithin cX3_layWithin 9 none (d + 19) [.ref a0, .int x1, .int x2, .int x3, .int x4] M none M')   (h : fX3_layWithin_j95 fu L fr M = some M') (hR : Rx s E L M H locs) (hl : lv_has ls 9 []) : W p l e (rmD (d + 20)) s m args below meth c H locs 0 0 (MQ below (QcM E L none M') args s 0 0 E.2.2.2) (F0 m 95 ls []) := by
  have hx := B.1
  have hb := B.2.1
  unfold fX3_layWithin_j95 at h
  exact r_vretW B hR hr hlk h dX3_layWithin_95
def fX3_layWithin_b46 (fu : Nat) (L : Lay) (fr : Nat → Int32 → Int32 → Int32 → Int32 → Mm → Option Mm) (k46 : Int32 → Int32 → Mm → Option Mm) (a0 : Nat) (x1 : Int32) (x4 : Int32) (x5 : Int32) (x6 : Int32) (M : Mm) : Option Mm :=
  if x6 ≤ 0 then
    fX3_layWithin_j228 fu L fr M
  else
    if x5 < 0 then
      fX3_layWithin_j228 fu L fr M
    else
      if 11 < x4 then
        fX3_layWithin_j228 fu L fr M
      else
        bi (fX3_cell fu x1 x5 x6) fun r_72 =>
        if r_72 < 0 ∨ 21120 ≤ ix r_72 then none else
        lt ((M.1 (a0 + 11) (ix r_72))) fun x7_76 =>
        bi (fX3_cell fu x1 x5 0) fun r_86 =>
        if r_86 < 0 ∨ 21120 ≤ ix r_86 then none else
        if (M.1 (a0 + 11) (ix r_86)) = x7_76 then
          fX3_layWithin_j95 fu L fr M
        else
          fX3_layWithin_l99 fu L fr k46 a0 x1 x4 x5 x6 x7_76 M 0
set_option maxRecDepth 100000 in
set_option maxHeartbeats 4000000 in
theorem wX3_layWithin_b46 {M' : Mm} {fr : Nat → Int32 → Int32 → Int32 → Int32 → Mm → Option Mm}   {k46 : Int32 → Int32 → Mm → Option Mm} {a0 : Nat} {x1 : Int32} {x4 : Int32} {x5 : Int32} {x6 : Int32} {M : Mm} (B : Bx p s m args c cX3_layWithin 9 RX3 E L) (hr : meth.sig.returnType = none) (hlk : meth.locks = false) (ihr : ∀ {a0 : Nat} {x1 : Int32} {x2 : Int32} {x3 : Int32} {x4 : Int32} {M : Mm} {M' : Mm}, At L a0 T3 → fr a0 x1 x2 x3 x4 M = some M' → Ct l E L yX3_layWithin cX3_layWithin 9 none (d + 19) [.ref a0, .int x1, .int x2, .int x3, .int x4] M none M')  (ih46 : ∀ (x5 : Int32) (x6 : Int32) (M : Mm), k46 x5 x6 M = some M' → ∀ (H : Heap) (locs : List Loc) (ls : Array Slot), Rx s E L M H locs → lv_has ls 9 [(0, .ref a0), (1, .int x1), (4, .int x4), (5, .int x5), (6, .int x6)] → W p l e (rmD (d + 20)) s m args below meth c H locs 0 0 (MQ below (QcM E L none M') args s 0 0 E.2.2.2) (F0 m 46 ls [])) (h0 : At L a0 T3) (h : fX3_layWithin_b46 fu L fr k46 a0 x1 x4 x5 x6 M = some M') (hR : Rx s E L M H locs) (hl : lv_has ls 9 [(0, .ref a0), (1, .int x1), (4, .int x4), (5, .int x5), (6, .int x6)]) : W p l e (rmD (d + 20)) s m args below meth c H locs 0 0 (MQ below (QcM E L none M') args s 0 0 E.2.2.2) (F0 m 46 ls []) := by
  have hx := B.1
  have hb := B.2.1
  unfold fX3_layWithin_b46 at h
  refine lv_iload hx hb dX3_layWithin_46 (lv_at hl 4 rfl) ?_
  refine lv_if_le (tgt := 228) hx hb dX3_layWithin_48 (by decide) (fun c_48 => ?_) (fun c_48 => ?_)
  · rw [if_pos c_48] at h
    exact wX3_layWithin_j228 B hr hlk ihr h hR (lv_sub hl [] rfl)
  · rw [if_neg c_48] at h
    refine lv_iload hx hb dX3_layWithin_51 (lv_at hl 3 rfl) ?_
    refine lv_if_lt (tgt := 228) hx hb dX3_layWithin_53 (by decide) (fun c_53 => ?_) (fun c_53 => ?_)
    · rw [if_pos c_53] at h
      exact wX3_layWithin_j228 B hr hlk ihr h hR (lv_sub hl [] rfl)
    · rw [if_neg c_53] at h
      refine lv_iload hx hb dX3_layWithin_56 (lv_at hl 2 rfl) ?_
      refine lv_bipush (v := 11) hx hb dX3_layWithin_58 (by decide) ?_
      refine lv_icmp_gt (tgt := 228) hx hb dX3_layWithin_60 (by decide) (fun c_60 => ?_) (fun c_60 => ?_)
      · rw [if_pos c_60] at h
        exact wX3_layWithin_j228 B hr hlk ihr h hR (lv_sub hl [] rfl)
      · rw [if_neg c_60] at h
        refine lv_aload_n hx hb dX3_layWithin_63 rfl (lv_at hl 0 rfl) ?_
        refine gf_X3_18 B hR (h0.at0 rfl) dX3_layWithin_64 ?_
        refine lv_iload_n hx hb dX3_layWithin_67 rfl (lv_at hl 1 rfl) ?_
        refine lv_iload hx hb dX3_layWithin_68 (lv_at hl 3 rfl) ?_
        refine lv_iload hx hb dX3_layWithin_70 (lv_at hl 4 rfl) ?_
        obtain ⟨r_72, hc_72, h⟩ := bi_el h
        refine is_X3_39 B hR hl.1 (mX3_cell fu _  hc_72) (Nat.le_of_ble_eq_true rfl) dX3_layWithin_72 (fun H locs hR => ?_)
        obtain ⟨hi_75, h⟩ := ifn_el h
        refine r_iald B hR (h0.at 11 rfl) hi_75 dX3_layWithin_75 ?_
        obtain ⟨x7_76, ex7_76, h⟩ := lt_el h
        refine r_nmI ex7_76 ?_
        refine lv_istore (lv' := [(7, .int x7_76), (0, .ref a0), (1, .int x1), (4, .int x4), (5, .int x5), (6, .int x6)]) hx hb dX3_layWithin_76 hl (by decide) rfl (fun ls hl => ?_)
        refine lv_aload_n hx hb dX3_layWithin_78 rfl (lv_at hl 1 rfl) ?_
        refine gf_X3_18 B hR (h0.at0 rfl) dX3_layWithin_79 ?_
        refine lv_iload_n hx hb dX3_layWithin_82 rfl (lv_at hl 2 rfl) ?_
        refine lv_iload hx hb dX3_layWithin_83 (lv_at hl 4 rfl) ?_
        refine lv_iconst (v := 0) hx hb dX3_layWithin_85 (by decide) ?_
        obtain ⟨r_86, hc_86, h⟩ := bi_el h
        refine is_X3_39 B hR hl.1 (mX3_cell fu _  hc_86) (Nat.le_of_ble_eq_true rfl) dX3_layWithin_86 (fun H locs hR => ?_)
        obtain ⟨hi_89, h⟩ := ifn_el h
        refine r_iald B hR (h0.at 11 rfl) hi_89 dX3_layWithin_89 ?_
        refine lv_iload hx hb dX3_layWithin_90 (lv_at hl 0 rfl) ?_
        refine lv_icmp_ne (tgt := 96) hx hb dX3_layWithin_92 (by decide) (fun c_92 => ?_) (fun c_92 => ?_)
        · rw [if_neg c_92] at h
          refine lv_iconst (v := 0) hx hb dX3_layWithin_96 (by decide) ?_
          refine lv_istore (lv' := [(8, .int 0), (7, .int x7_76), (0, .ref a0), (1, .int x1), (4, .int x4), (5, .int x5), (6, .int x6)]) hx hb dX3_layWithin_97 hl (by decide) rfl (fun ls hl => ?_)
          exact wX3_layWithin_l99 B hr hlk ihr ih46 h0 h hR (lv_sub hl [2, 3, 4, 5, 6, 1, 0] rfl)
        · rw [if_pos c_92] at h
          exact wX3_layWithin_j95 B hr hlk ihr h hR (lv_sub hl [] rfl)
def fX3_layWithin_l46 (fu : Nat) (L : Lay) (fr : Nat → Int32 → Int32 → Int32 → Int32 → Mm → Option Mm) (a0 : Nat) (x1 : Int32) (x4 : Int32) (x5 : Int32) (x6 : Int32) (M : Mm) : Option Mm := lp (fun (rec : (Int32 × Int32 × Mm) → Option Mm) (s : Int32 × Int32 × Mm) => fX3_layWithin_b46 fu L fr  (fun x5 x6 M => rec (x5, x6, M)) a0 x1 x4 s.1 s.2.1 s.2.2) fu (x5, x6, M)
set_option maxRecDepth 100000 in
set_option maxHeartbeats 4000000 in
theorem wX3_layWithin_l46 {M' : Mm} {fr : Nat → Int32 → Int32 → Int32 → Int32 → Mm → Option Mm}   {a0 : Nat} {x1 : Int32} {x4 : Int32} {x5 : Int32} {x6 : Int32} {M : Mm} (B : Bx p s m args c cX3_layWithin 9 RX3 E L) (hr : meth.sig.returnType = none) (hlk : meth.locks = false) (ihr : ∀ {a0 : Nat} {x1 : Int32} {x2 : Int32} {x3 : Int32} {x4 : Int32} {M : Mm} {M' : Mm}, At L a0 T3 → fr a0 x1 x2 x3 x4 M = some M' → Ct l E L yX3_layWithin cX3_layWithin 9 none (d + 19) [.ref a0, .int x1, .int x2, .int x3, .int x4] M none M')  (h0 : At L a0 T3) (h : fX3_layWithin_l46 fu L fr a0 x1 x4 x5 x6 M = some M') (hR : Rx s E L M H locs) (hl : lv_has ls 9 [(0, .ref a0), (1, .int x1), (4, .int x4), (5, .int x5), (6, .int x6)]) : W p l e (rmD (d + 20)) s m args below meth c H locs 0 0 (MQ below (QcM E L none M') args s 0 0 E.2.2.2) (F0 m 46 ls []) := by
  refine lp_G (G := fun z : Int32 × Int32 × Mm => ∀ (H : Heap) (locs : List Loc) (ls : Array Slot), Rx s E L z.2.2 H locs → lv_has ls 9 [(0, .ref a0), (1, .int x1), (4, .int x4), (5, .int z.1), (6, .int z.2.1)] → W p l e (rmD (d + 20)) s m args below meth c H locs 0 0 (MQ below (QcM E L none M') args s 0 0 E.2.2.2) (F0 m 46 ls [])) (fun rec ih z h H locs ls hR hl => ?_) fu _ h H locs ls hR hl
  exact wX3_layWithin_b46 B hr hlk ihr  (fun x5 x6 M h => ih (x5, x6, M) h) h0 h hR hl
def fX3_layWithin_R (fu : Nat) (L : Lay) (fr : Nat → Int32 → Int32 → Int32 → Int32 → Mm → Option Mm) (a0 : Nat) (x1 : Int32) (x2 : Int32) (x3 : Int32) (x4 : Int32) (M : Mm) : Option Mm :=
  if x1 < 0 ∨ 320 ≤ ix x1 then none else
  if (M.1 ((a0 + 1) + 3) (ix x1)) = 0 then
    bm (fX3_layAlike fu L 16 a0 x1 (M.1 ((a0 + 1) + 1) (ix x1)) (M.1 ((a0 + 1) + 2) (ix x1)) x2 x3 x4 M) fun M_36 =>
    some M_36
  else
    fX3_layWithin_l46 fu L fr a0 x1 x4 x2 x3 M
set_option maxRecDepth 100000 in
set_option maxHeartbeats 4000000 in
theorem mX3_layWithin_R {l : Launch} {E : Ge} {L : Lay} (fu d : Nat) {a0 : Nat} {x1 : Int32} {x2 : Int32} {x3 : Int32} {x4 : Int32} {M : Mm} {M' : Mm} {fr : Nat → Int32 → Int32 → Int32 → Int32 → Mm → Option Mm} (ihr : ∀ {a0 : Nat} {x1 : Int32} {x2 : Int32} {x3 : Int32} {x4 : Int32} {M : Mm} {M' : Mm}, At L a0 T3 → fr a0 x1 x2 x3 x4 M = some M' → Ct l E L yX3_layWithin cX3_layWithin 9 none (d + 19) [.ref a0, .int x1, .int x2, .int x3, .int x4] M none M') (h0 : At L a0 T3) (h : fX3_layWithin_R fu L fr a0 x1 x2 x3 x4 M = some M') : Ct l E L yX3_layWithin cX3_layWithin 9 none (d + 20) [.ref a0, .int x1, .int x2, .int x3, .int x4] M none M' := by
  refine Ct.of (by decide) ?_
  intro p e s m below meth c hr hlk B hR
  have B : Bx p s m _ c cX3_layWithin 9 RX3 E L := B
  have hx := B.1
  have hb := B.2.1
  have hl := lv_entry ([.ref a0, .int x1, .int x2, .int x3, .int x4]) (n := 9) (Nat.le_of_ble_eq_true rfl)
  rw [lg_entry_eq]
  generalize (lg_sl ([.ref a0, .int x1, .int x2, .int x3, .int x4]) ++ List.replicate (9 - (lg_sl ([.ref a0, .int x1, .int x2, .int x3, .int x4])).length) Slot.unset).toArray = ls at hl ⊢
  have hl : lv_has ls 9 [(0, .ref a0), (1, .int x1), (2, .int x2), (3, .int x3), (4, .int x4)] := hl
  unfold fX3_layWithin_R at h
  refine lv_aload_n hx hb dX3_layWithin_0 rfl (lv_at hl 0 rfl) ?_
  refine gf_X3_12 B hR (h0.at0 rfl) dX3_layWithin_1 ?_
  refine gf_X3_70 B hR ((sb_3_0 h0).at0 rfl) dX3_layWithin_4 ?_
  refine lv_iload_n hx hb dX3_layWithin_7 rfl (lv_at hl 1 rfl) ?_
  obtain ⟨hi_8, h⟩ := ifn_el h
  refine r_iald B hR ((sb_3_0 h0).at 3 rfl) hi_8 dX3_layWithin_8 ?_
  refine lv_if_ne (tgt := 40) hx hb dX3_layWithin_9 (by decide) (fun c_9 => ?_) (fun c_9 => ?_)
  · rw [if_neg c_9] at h
    refine lv_iload_n hx hb dX3_layWithin_40 rfl (lv_at hl 2 rfl) ?_
    refine lv_istore (lv' := [(5, .int x2), (0, .ref a0), (1, .int x1), (2, .int x2), (3, .int x3), (4, .int x4)]) hx hb dX3_layWithin_41 hl (by decide) rfl (fun ls hl => ?_)
    refine lv_iload_n hx hb dX3_layWithin_43 rfl (lv_at hl 4 rfl) ?_
    refine lv_istore (lv' := [(6, .int x3), (5, .int x2), (0, .ref a0), (1, .int x1), (2, .int x2), (3, .int x3), (4, .int x4)]) hx hb dX3_layWithin_44 hl (by decide) rfl (fun ls hl => ?_)
    exact wX3_layWithin_l46 B hr hlk ihr h0 h hR (lv_sub hl [2, 3, 6, 1, 0] rfl)
  · rw [if_pos c_9] at h
    refine lv_aload_n hx hb dX3_layWithin_12 rfl (lv_at hl 0 rfl) ?_
    refine lv_iload_n hx hb dX3_layWithin_13 rfl (lv_at hl 1 rfl) ?_
    refine lv_aload_n hx hb dX3_layWithin_14 rfl (lv_at hl 0 rfl) ?_
    refine gf_X3_12 B hR (h0.at0 rfl) dX3_layWithin_15 ?_
    refine gf_X3_83 B hR ((sb_3_0 h0).at0 rfl) dX3_layWithin_18 ?_
    refine lv_iload_n hx hb dX3_layWithin_21 rfl (lv_at hl 1 rfl) ?_
    refine r_iald B hR ((sb_3_0 h0).at 1 rfl) hi_8 dX3_layWithin_22 ?_
    refine lv_aload_n hx hb dX3_layWithin_23 rfl (lv_at hl 0 rfl) ?_
    refine gf_X3_12 B hR (h0.at0 rfl) dX3_layWithin_24 ?_
    refine gf_X3_86 B hR ((sb_3_0 h0).at0 rfl) dX3_layWithin_27 ?_
    refine lv_iload_n hx hb dX3_layWithin_30 rfl (lv_at hl 1 rfl) ?_
    refine r_iald B hR ((sb_3_0 h0).at 2 rfl) hi_8 dX3_layWithin_31 ?_
    refine lv_iload_n hx hb dX3_layWithin_32 rfl (lv_at hl 2 rfl) ?_
    refine lv_iload_n hx hb dX3_layWithin_33 rfl (lv_at hl 3 rfl) ?_
    refine lv_iload hx hb dX3_layWithin_34 (lv_at hl 4 rfl) ?_
    obtain ⟨M_36, hc_36, h⟩ := bm_el h
    refine iv_X3_89 B hR (h0.at0 rfl) hl.1 (mX3_layAlike fu _ h0 hc_36) (Nat.le_of_ble_eq_true rfl) dX3_layWithin_36 (fun H locs hR => ?_)
    exact r_vretW B hR hr hlk h dX3_layWithin_39
def fX3_layWithin (fu : Nat) (L : Lay) : Nat → Nat → Int32 → Int32 → Int32 → Int32 → Mm → Option Mm
  | 0 => fun _ _ _ _ _ _ => none
  | dp + 1 => fun a0 x1 x2 x3 x4 M => fX3_layWithin_R fu L (fX3_layWithin fu L dp) a0 x1 x2 x3 x4 M
theorem mX3_layWithin_N {l : Launch} {E : Ge} {L : Lay} (fu dp : Nat) : ∀ (d : Nat) {a0 : Nat} {x1 : Int32} {x2 : Int32} {x3 : Int32} {x4 : Int32} {M : Mm} {M' : Mm} (h0 : At L a0 T3) (h : fX3_layWithin fu L dp a0 x1 x2 x3 x4 M = some M'), Ct l E L yX3_layWithin cX3_layWithin 9 none (d + dp + 19) [.ref a0, .int x1, .int x2, .int x3, .int x4] M none M' := by
  induction dp with
  | zero => intro d _ _ _ _ _ _ _ _ h; cases h
  | succ dp ih => intro d _ _ _ _ _ _ _ h0 h; exact mX3_layWithin_R fu (d + dp) (fr := fX3_layWithin fu L dp) (fun h0 h => ih d h0 h) h0 h
theorem mX3_layWithin {l : Launch} {E : Ge} {L : Lay} (fu d : Nat) {a0 : Nat} {x1 : Int32} {x2 : Int32} {x3 : Int32} {x4 : Int32} {M : Mm} {M' : Mm} (h0 : At L a0 T3) (h : fX3_layWithin fu L 16 a0 x1 x2 x3 x4 M = some M') : Ct l E L yX3_layWithin cX3_layWithin 9 none (d + 35) [.ref a0, .int x1, .int x2, .int x3, .int x4] M none M' := mX3_layWithin_N fu 16 d h0 h
def fX3_layBest (fu : Nat) (L : Lay) (a0 : Nat) (x1 : Int32) (a2 : Nat) (M : Mm) : Option Mm :=
  lt (wR M a0 2 (some a2)) fun M_2 =>
  bl (M_2.2.2 a0 2) fun q_6 =>
  gd (atB L q_6 (T0 10) = true) <|
  lt (wI M_2 q_6 3 0) fun M_10 =>
  bm (fX3_layWithin fu L 16 a0 0 5 x1 0 M_10) fun M_18 =>
  some M_18
set_option maxRecDepth 100000 in
set_option maxHeartbeats 4000000 in
theorem mX3_layBest {l : Launch} {E : Ge} {L : Lay} (fu d : Nat) {a0 : Nat} {x1 : Int32} {a2 : Nat} {M : Mm} {M' : Mm}  (h0 : At L a0 T3) (h2 : At L a2 (T0 10)) (h : fX3_layBest fu L a0 x1 a2 M = some M') : Ct l E L yX3_layBest cX3_layBest 3 none (d + 36) [.ref a0, .int x1, .ref a2] M none M' := by
  refine Ct.of (by decide) ?_
  intro p e s m below meth c hr hlk B hR
  have B : Bx p s m _ c cX3_layBest 3 RX3 E L := B
  have hx := B.1
  have hb := B.2.1
  have hl := lv_entry ([.ref a0, .int x1, .ref a2]) (n := 3) (Nat.le_of_ble_eq_true rfl)
  rw [lg_entry_eq]
  generalize (lg_sl ([.ref a0, .int x1, .ref a2]) ++ List.replicate (3 - (lg_sl ([.ref a0, .int x1, .ref a2])).length) Slot.unset).toArray = ls at hl ⊢
  have hl : lv_has ls 3 [(0, .ref a0), (1, .int x1), (2, .ref a2)] := hl
  unfold fX3_layBest at h
  refine lv_aload_n hx hb dX3_layBest_0 rfl (lv_at hl 0 rfl) ?_
  refine lv_aload_n hx hb dX3_layBest_1 rfl (lv_at hl 2 rfl) ?_
  obtain ⟨M_2, eM_2, h⟩ := lt_el h
  refine pm_X3_43 B hR (h0.at0 rfl) dX3_layBest_2 (fun H locs hR => ?_)
  rw [← eM_2] at hR
  refine lv_aload_n hx hb dX3_layBest_5 rfl (lv_at hl 0 rfl) ?_
  obtain ⟨q_6, hq_6, h⟩ := bl_el h
  obtain ⟨hs_6, h⟩ := gd_el h
  refine gm_X3_43 B hR (h0.at0 rfl) hq_6 dX3_layBest_6 ?_
  refine lv_iconst (v := 0) hx hb dX3_layBest_9 (by decide) ?_
  obtain ⟨M_10, eM_10, h⟩ := lt_el h
  refine pf_X3_47 B hR ((atB_at hs_6).at0 rfl) dX3_layBest_10 (fun H locs hR => ?_)
  rw [← eM_10] at hR
  refine lv_aload_n hx hb dX3_layBest_13 rfl (lv_at hl 0 rfl) ?_
  refine lv_iconst (v := 0) hx hb dX3_layBest_14 (by decide) ?_
  refine lv_iconst (v := 5) hx hb dX3_layBest_15 (by decide) ?_
  refine lv_iload_n hx hb dX3_layBest_16 rfl (lv_at hl 1 rfl) ?_
  refine lv_iconst (v := 0) hx hb dX3_layBest_17 (by decide) ?_
  obtain ⟨M_18, hc_18, h⟩ := bm_el h
  refine iv_X3_50 B hR (h0.at0 rfl) hl.1 (mX3_layWithin fu _ h0 hc_18) (Nat.le_of_ble_eq_true rfl) dX3_layBest_18 (fun H locs hR => ?_)
  exact r_vretW B hR hr hlk h dX3_layBest_21
end G17_filler_lean_txt
