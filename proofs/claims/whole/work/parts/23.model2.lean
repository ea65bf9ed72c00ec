theorem dX11_costBy_0 : decode cX11_costBy 0 = .ok (.aload_n 0, 1) := by decide +kernel
theorem dX11_costBy_1 : decode cX11_costBy 1 = .ok (.iload_n 1, 1) := by decide +kernel
theorem dX11_costBy_2 : decode cX11_costBy 2 = .ok (.invokevirtual 335, 3) := by decide +kernel
theorem dX11_costBy_5 : decode cX11_costBy 5 = .ok (.aload_n 0, 1) := by decide +kernel
theorem dX11_costBy_6 : decode cX11_costBy 6 = .ok (.iconst 5, 1) := by decide +kernel
theorem dX11_costBy_7 : decode cX11_costBy 7 = .ok (.invokevirtual 338, 3) := by decide +kernel
theorem dX11_costBy_10 : decode cX11_costBy 10 = .ok (.aload_n 0, 1) := by decide +kernel
theorem dX11_costBy_11 : decode cX11_costBy 11 = .ok (.getfield 39, 3) := by decide +kernel
theorem dX11_costBy_14 : decode cX11_costBy 14 = .ok (.bipush 11, 2) := by decide +kernel
theorem dX11_costBy_16 : decode cX11_costBy 16 = .ok (.iaload, 1) := by decide +kernel
theorem dX11_costBy_17 : decode cX11_costBy 17 = .ok (.ireturn, 1) := by decide +kernel
theorem dX11_addedCost_0 : decode cX11_addedCost 0 = .ok (.aload_n 0, 1) := by decide +kernel
theorem dX11_addedCost_1 : decode cX11_addedCost 1 = .ok (.aload_n 0, 1) := by decide +kernel
theorem dX11_addedCost_2 : decode cX11_addedCost 2 = .ok (.getfield 7, 3) := by decide +kernel
theorem dX11_addedCost_5 : decode cX11_addedCost 5 = .ok (.iconst 0, 1) := by decide +kernel
theorem dX11_addedCost_6 : decode cX11_addedCost 6 = .ok (.iaload, 1) := by decide +kernel
theorem dX11_addedCost_7 : decode cX11_addedCost 7 = .ok (.invokevirtual 335, 3) := by decide +kernel
theorem dX11_addedCost_10 : decode cX11_addedCost 10 = .ok (.aload_n 0, 1) := by decide +kernel
theorem dX11_addedCost_11 : decode cX11_addedCost 11 = .ok (.invokevirtual 240, 3) := by decide +kernel
theorem dX11_addedCost_14 : decode cX11_addedCost 14 = .ok (.istore_n 1, 1) := by decide +kernel
theorem dX11_addedCost_15 : decode cX11_addedCost 15 = .ok (.iconst 2, 1) := by decide +kernel
theorem dX11_addedCost_16 : decode cX11_addedCost 16 = .ok (.iload_n 1, 1) := by decide +kernel
theorem dX11_addedCost_17 : decode cX11_addedCost 17 = .ok (.imul, 1) := by decide +kernel
theorem dX11_addedCost_18 : decode cX11_addedCost 18 = .ok (.iconst 1, 1) := by decide +kernel
theorem dX11_addedCost_19 : decode cX11_addedCost 19 = .ok (.isub, 1) := by decide +kernel
theorem dX11_addedCost_20 : decode cX11_addedCost 20 = .ok (.istore_n 2, 1) := by decide +kernel
theorem dX11_addedCost_21 : decode cX11_addedCost 21 = .ok (.iload_n 2, 1) := by decide +kernel
theorem dX11_addedCost_22 : decode cX11_addedCost 22 = .ok (.ifCond .le 75, 3) := by decide +kernel
theorem dX11_addedCost_25 : decode cX11_addedCost 25 = .ok (.aload_n 0, 1) := by decide +kernel
theorem dX11_addedCost_26 : decode cX11_addedCost 26 = .ok (.getfield 42, 3) := by decide +kernel
theorem dX11_addedCost_29 : decode cX11_addedCost 29 = .ok (.iload_n 2, 1) := by decide +kernel
theorem dX11_addedCost_30 : decode cX11_addedCost 30 = .ok (.aload_n 0, 1) := by decide +kernel
theorem dX11_addedCost_31 : decode cX11_addedCost 31 = .ok (.getfield 36, 3) := by decide +kernel
theorem dX11_addedCost_34 : decode cX11_addedCost 34 = .ok (.iload_n 2, 1) := by decide +kernel
theorem dX11_addedCost_35 : decode cX11_addedCost 35 = .ok (.iaload, 1) := by decide +kernel
theorem dX11_addedCost_36 : decode cX11_addedCost 36 = .ok (.bipush (-2), 2) := by decide +kernel
theorem dX11_addedCost_38 : decode cX11_addedCost 38 = .ok (.if_icmp .eq 16, 3) := by decide +kernel
theorem dX11_addedCost_41 : decode cX11_addedCost 41 = .ok (.aload_n 0, 1) := by decide +kernel
theorem dX11_addedCost_42 : decode cX11_addedCost 42 = .ok (.getfield 36, 3) := by decide +kernel
theorem dX11_addedCost_45 : decode cX11_addedCost 45 = .ok (.iload_n 2, 1) := by decide +kernel
theorem dX11_addedCost_46 : decode cX11_addedCost 46 = .ok (.iaload, 1) := by decide +kernel
theorem dX11_addedCost_47 : decode cX11_addedCost 47 = .ok (.aload_n 0, 1) := by decide +kernel
theorem dX11_addedCost_48 : decode cX11_addedCost 48 = .ok (.getfield 315, 3) := by decide +kernel
theorem dX11_addedCost_51 : decode cX11_addedCost 51 = .ok (.if_icmp .ne 7, 3) := by decide +kernel
theorem dX11_addedCost_54 : decode cX11_addedCost 54 = .ok (.iconst 0, 1) := by decide +kernel
theorem dX11_addedCost_55 : decode cX11_addedCost 55 = .ok (.goto 35, 3) := by decide +kernel
theorem dX11_addedCost_58 : decode cX11_addedCost 58 = .ok (.aload_n 0, 1) := by decide +kernel
theorem dX11_addedCost_59 : decode cX11_addedCost 59 = .ok (.getfield 36, 3) := by decide +kernel
theorem dX11_addedCost_62 : decode cX11_addedCost 62 = .ok (.iload_n 2, 1) := by decide +kernel
theorem dX11_addedCost_63 : decode cX11_addedCost 63 = .ok (.iaload, 1) := by decide +kernel
theorem dX11_addedCost_64 : decode cX11_addedCost 64 = .ok (.ifCond .lt 7, 3) := by decide +kernel
theorem dX11_addedCost_67 : decode cX11_addedCost 67 = .ok (.iconst 1, 1) := by decide +kernel
theorem dX11_addedCost_68 : decode cX11_addedCost 68 = .ok (.goto 22, 3) := by decide +kernel
theorem dX11_addedCost_71 : decode cX11_addedCost 71 = .ok (.aload_n 0, 1) := by decide +kernel
theorem dX11_addedCost_72 : decode cX11_addedCost 72 = .ok (.getfield 42, 3) := by decide +kernel
theorem dX11_addedCost_75 : decode cX11_addedCost 75 = .ok (.iconst 2, 1) := by decide +kernel
theorem dX11_addedCost_76 : decode cX11_addedCost 76 = .ok (.iload_n 2, 1) := by decide +kernel
theorem dX11_addedCost_77 : decode cX11_addedCost 77 = .ok (.imul, 1) := by decide +kernel
theorem dX11_addedCost_78 : decode cX11_addedCost 78 = .ok (.iaload, 1) := by decide +kernel
theorem dX11_addedCost_79 : decode cX11_addedCost 79 = .ok (.aload_n 0, 1) := by decide +kernel
theorem dX11_addedCost_80 : decode cX11_addedCost 80 = .ok (.getfield 42, 3) := by decide +kernel
theorem dX11_addedCost_83 : decode cX11_addedCost 83 = .ok (.iconst 2, 1) := by decide +kernel
theorem dX11_addedCost_84 : decode cX11_addedCost 84 = .ok (.iload_n 2, 1) := by decide +kernel
theorem dX11_addedCost_85 : decode cX11_addedCost 85 = .ok (.imul, 1) := by decide +kernel
theorem dX11_addedCost_86 : decode cX11_addedCost 86 = .ok (.iconst 1, 1) := by decide +kernel
theorem dX11_addedCost_87 : decode cX11_addedCost 87 = .ok (.iadd, 1) := by decide +kernel
theorem dX11_addedCost_88 : decode cX11_addedCost 88 = .ok (.iaload, 1) := by decide +kernel
theorem dX11_addedCost_89 : decode cX11_addedCost 89 = .ok (.iadd, 1) := by decide +kernel
theorem dX11_addedCost_90 : decode cX11_addedCost 90 = .ok (.iastore, 1) := by decide +kernel
theorem dX11_addedCost_91 : decode cX11_addedCost 91 = .ok (.iinc 2 (-1), 3) := by decide +kernel
theorem dX11_addedCost_94 : decode cX11_addedCost 94 = .ok (.goto (-73), 3) := by decide +kernel
theorem dX11_addedCost_97 : decode cX11_addedCost 97 = .ok (.aload_n 0, 1) := by decide +kernel
theorem dX11_addedCost_98 : decode cX11_addedCost 98 = .ok (.getfield 42, 3) := by decide +kernel
theorem dX11_addedCost_101 : decode cX11_addedCost 101 = .ok (.iconst 1, 1) := by decide +kernel
theorem dX11_addedCost_102 : decode cX11_addedCost 102 = .ok (.iaload, 1) := by decide +kernel
theorem dX11_addedCost_103 : decode cX11_addedCost 103 = .ok (.ireturn, 1) := by decide +kernel
theorem dX11_cost_0 : decode cX11_cost 0 = .ok (.iload_n 1, 1) := by decide +kernel
theorem dX11_cost_1 : decode cX11_cost 1 = .ok (.ifCond .ne 10, 3) := by decide +kernel
theorem dX11_cost_4 : decode cX11_cost 4 = .ok (.aload_n 0, 1) := by decide +kernel
theorem dX11_cost_5 : decode cX11_cost 5 = .ok (.invokevirtual 341, 3) := by decide +kernel
theorem dX11_cost_8 : decode cX11_cost 8 = .ok (.goto 22, 3) := by decide +kernel
theorem dX11_cost_11 : decode cX11_cost 11 = .ok (.iload_n 1, 1) := by decide +kernel
theorem dX11_cost_12 : decode cX11_cost 12 = .ok (.iconst 1, 1) := by decide +kernel
theorem dX11_cost_13 : decode cX11_cost 13 = .ok (.if_icmp .ne 16, 3) := by decide +kernel
theorem dX11_cost_16 : decode cX11_cost 16 = .ok (.aload_n 0, 1) := by decide +kernel
theorem dX11_cost_17 : decode cX11_cost 17 = .ok (.aload_n 0, 1) := by decide +kernel
theorem dX11_cost_18 : decode cX11_cost 18 = .ok (.getfield 7, 3) := by decide +kernel
theorem dX11_cost_21 : decode cX11_cost 21 = .ok (.iconst 0, 1) := by decide +kernel
theorem dX11_cost_22 : decode cX11_cost 22 = .ok (.iaload, 1) := by decide +kernel
theorem dX11_cost_23 : decode cX11_cost 23 = .ok (.invokevirtual 344, 3) := by decide +kernel
theorem dX11_cost_26 : decode cX11_cost 26 = .ok (.goto 4, 3) := by decide +kernel
theorem dX11_cost_29 : decode cX11_cost 29 = .ok (.iconst (-1), 1) := by decide +kernel
theorem dX11_cost_30 : decode cX11_cost 30 = .ok (.ireturn, 1) := by decide +kernel
theorem dX11_byDefault_0 : decode cX11_byDefault 0 = .ok (.iload_n 1, 1) := by decide +kernel
theorem dX11_byDefault_1 : decode cX11_byDefault 1 = .ok (.invokestatic 306, 3) := by decide +kernel
theorem dX11_byDefault_4 : decode cX11_byDefault 4 = .ok (.ifCond .eq 11, 3) := by decide +kernel
theorem dX11_byDefault_7 : decode cX11_byDefault 7 = .ok (.aload_n 0, 1) := by decide +kernel
theorem dX11_byDefault_8 : decode cX11_byDefault 8 = .ok (.iload_n 1, 1) := by decide +kernel
theorem dX11_byDefault_9 : decode cX11_byDefault 9 = .ok (.invokevirtual 344, 3) := by decide +kernel
theorem dX11_byDefault_12 : decode cX11_byDefault 12 = .ok (.goto 4, 3) := by decide +kernel
theorem dX11_byDefault_15 : decode cX11_byDefault 15 = .ok (.iconst (-1), 1) := by decide +kernel
theorem dX11_byDefault_16 : decode cX11_byDefault 16 = .ok (.ireturn, 1) := by decide +kernel
theorem dX11_bestDefault_0 : decode cX11_bestDefault 0 = .ok (.iconst 0, 1) := by decide +kernel
theorem dX11_bestDefault_1 : decode cX11_bestDefault 1 = .ok (.istore_n 1, 1) := by decide +kernel
theorem dX11_bestDefault_2 : decode cX11_bestDefault 2 = .ok (.iconst 1, 1) := by decide +kernel
theorem dX11_bestDefault_3 : decode cX11_bestDefault 3 = .ok (.istore_n 2, 1) := by decide +kernel
theorem dX11_bestDefault_4 : decode cX11_bestDefault 4 = .ok (.iload_n 2, 1) := by decide +kernel
theorem dX11_bestDefault_5 : decode cX11_bestDefault 5 = .ok (.iconst 5, 1) := by decide +kernel
theorem dX11_bestDefault_6 : decode cX11_bestDefault 6 = .ok (.if_icmp .ge 24, 3) := by decide +kernel
theorem dX11_bestDefault_9 : decode cX11_bestDefault 9 = .ok (.aload_n 0, 1) := by decide +kernel
theorem dX11_bestDefault_10 : decode cX11_bestDefault 10 = .ok (.iload_n 2, 1) := by decide +kernel
theorem dX11_bestDefault_11 : decode cX11_bestDefault 11 = .ok (.invokevirtual 344, 3) := by decide +kernel
theorem dX11_bestDefault_14 : decode cX11_bestDefault 14 = .ok (.aload_n 0, 1) := by decide +kernel
theorem dX11_bestDefault_15 : decode cX11_bestDefault 15 = .ok (.iload_n 1, 1) := by decide +kernel
theorem dX11_bestDefault_16 : decode cX11_bestDefault 16 = .ok (.invokevirtual 344, 3) := by decide +kernel
theorem dX11_bestDefault_19 : decode cX11_bestDefault 19 = .ok (.if_icmp .ge 5, 3) := by decide +kernel
theorem dX11_bestDefault_22 : decode cX11_bestDefault 22 = .ok (.iload_n 2, 1) := by decide +kernel
theorem dX11_bestDefault_23 : decode cX11_bestDefault 23 = .ok (.istore_n 1, 1) := by decide +kernel
theorem dX11_bestDefault_24 : decode cX11_bestDefault 24 = .ok (.iinc 2 1, 3) := by decide +kernel
theorem dX11_bestDefault_27 : decode cX11_bestDefault 27 = .ok (.goto (-23), 3) := by decide +kernel
theorem dX11_bestDefault_30 : decode cX11_bestDefault 30 = .ok (.iload_n 1, 1) := by decide +kernel
theorem dX11_bestDefault_31 : decode cX11_bestDefault 31 = .ok (.ireturn, 1) := by decide +kernel
theorem dX11_waits_0 : decode cX11_waits 0 = .ok (.aload_n 0, 1) := by decide +kernel
theorem dX11_waits_1 : decode cX11_waits 1 = .ok (.getfield 48, 3) := by decide +kernel
theorem dX11_waits_4 : decode cX11_waits 4 = .ok (.aload_n 0, 1) := by decide +kernel
theorem dX11_waits_5 : decode cX11_waits 5 = .ok (.getfield 347, 3) := by decide +kernel
theorem dX11_waits_8 : decode cX11_waits 8 = .ok (.iload_n 1, 1) := by decide +kernel
theorem dX11_waits_9 : decode cX11_waits 9 = .ok (.iastore, 1) := by decide +kernel
theorem dX11_waits_10 : decode cX11_waits 10 = .ok (.aload_n 0, 1) := by decide +kernel
theorem dX11_waits_11 : decode cX11_waits 11 = .ok (.getfield 51, 3) := by decide +kernel
theorem dX11_waits_14 : decode cX11_waits 14 = .ok (.aload_n 0, 1) := by decide +kernel
theorem dX11_waits_15 : decode cX11_waits 15 = .ok (.getfield 347, 3) := by decide +kernel
theorem dX11_waits_18 : decode cX11_waits 18 = .ok (.iload_n 2, 1) := by decide +kernel
theorem dX11_waits_19 : decode cX11_waits 19 = .ok (.iastore, 1) := by decide +kernel
theorem dX11_waits_20 : decode cX11_waits 20 = .ok (.aload_n 0, 1) := by decide +kernel
theorem dX11_waits_21 : decode cX11_waits 21 = .ok (.dup, 1) := by decide +kernel
theorem dX11_waits_22 : decode cX11_waits 22 = .ok (.getfield 347, 3) := by decide +kernel
theorem dX11_waits_25 : decode cX11_waits 25 = .ok (.iconst 1, 1) := by decide +kernel
theorem dX11_waits_26 : decode cX11_waits 26 = .ok (.iadd, 1) := by decide +kernel
theorem dX11_waits_27 : decode cX11_waits 27 = .ok (.putfield 347, 3) := by decide +kernel
theorem dX11_waits_30 : decode cX11_waits 30 = .ok (.return_, 1) := by decide +kernel
theorem dX11_layBlock_0 : decode cX11_layBlock 0 = .ok (.aload_n 0, 1) := by decide +kernel
theorem dX11_layBlock_1 : decode cX11_layBlock 1 = .ok (.getfield 54, 3) := by decide +kernel
theorem dX11_layBlock_4 : decode cX11_layBlock 4 = .ok (.aload_n 0, 1) := by decide +kernel
theorem dX11_layBlock_5 : decode cX11_layBlock 5 = .ok (.getfield 350, 3) := by decide +kernel
theorem dX11_layBlock_8 : decode cX11_layBlock 8 = .ok (.aload_n 0, 1) := by decide +kernel
theorem dX11_layBlock_9 : decode cX11_layBlock 9 = .ok (.iload_n 1, 1) := by decide +kernel
theorem dX11_layBlock_10 : decode cX11_layBlock 10 = .ok (.invokevirtual 353, 3) := by decide +kernel
theorem dX11_layBlock_13 : decode cX11_layBlock 13 = .ok (.iastore, 1) := by decide +kernel
theorem dX11_layBlock_14 : decode cX11_layBlock 14 = .ok (.aload_n 0, 1) := by decide +kernel
theorem dX11_layBlock_15 : decode cX11_layBlock 15 = .ok (.getfield 57, 3) := by decide +kernel
theorem dX11_layBlock_18 : decode cX11_layBlock 18 = .ok (.aload_n 0, 1) := by decide +kernel
theorem dX11_layBlock_19 : decode cX11_layBlock 19 = .ok (.getfield 350, 3) := by decide +kernel
theorem dX11_layBlock_22 : decode cX11_layBlock 22 = .ok (.aload_n 0, 1) := by decide +kernel
theorem dX11_layBlock_23 : decode cX11_layBlock 23 = .ok (.iload_n 1, 1) := by decide +kernel
theorem dX11_layBlock_24 : decode cX11_layBlock 24 = .ok (.invokevirtual 312, 3) := by decide +kernel
theorem dX11_layBlock_27 : decode cX11_layBlock 27 = .ok (.iastore, 1) := by decide +kernel
theorem dX11_layBlock_28 : decode cX11_layBlock 28 = .ok (.aload_n 0, 1) := by decide +kernel
theorem dX11_layBlock_29 : decode cX11_layBlock 29 = .ok (.getfield 60, 3) := by decide +kernel
theorem dX11_layBlock_32 : decode cX11_layBlock 32 = .ok (.aload_n 0, 1) := by decide +kernel
theorem dX11_layBlock_33 : decode cX11_layBlock 33 = .ok (.getfield 350, 3) := by decide +kernel
theorem dX11_layBlock_36 : decode cX11_layBlock 36 = .ok (.iload_n 2, 1) := by decide +kernel
theorem dX11_layBlock_37 : decode cX11_layBlock 37 = .ok (.iastore, 1) := by decide +kernel
theorem dX11_layBlock_38 : decode cX11_layBlock 38 = .ok (.aload_n 0, 1) := by decide +kernel
theorem dX11_layBlock_39 : decode cX11_layBlock 39 = .ok (.dup, 1) := by decide +kernel
theorem dX11_layBlock_40 : decode cX11_layBlock 40 = .ok (.getfield 350, 3) := by decide +kernel
theorem dX11_layBlock_43 : decode cX11_layBlock 43 = .ok (.iconst 1, 1) := by decide +kernel
theorem dX11_layBlock_44 : decode cX11_layBlock 44 = .ok (.iadd, 1) := by decide +kernel
theorem dX11_layBlock_45 : decode cX11_layBlock 45 = .ok (.putfield 350, 3) := by decide +kernel
theorem dX11_layBlock_48 : decode cX11_layBlock 48 = .ok (.return_, 1) := by decide +kernel
theorem dX11_layBy_0 : decode cX11_layBy 0 = .ok (.iload 5, 2) := by decide +kernel
theorem dX11_layBy_2 : decode cX11_layBy 2 = .ok (.ifCond .eq 34, 3) := by decide +kernel
theorem dX11_layBy_5 : decode cX11_layBy 5 = .ok (.aload_n 0, 1) := by decide +kernel
theorem dX11_layBy_6 : decode cX11_layBy 6 = .ok (.aload_n 1, 1) := by decide +kernel
theorem dX11_layBy_7 : decode cX11_layBy 7 = .ok (.iload_n 2, 1) := by decide +kernel
theorem dX11_layBy_8 : decode cX11_layBy 8 = .ok (.iload_n 3, 1) := by decide +kernel
theorem dX11_layBy_9 : decode cX11_layBy 9 = .ok (.invokevirtual 328, 3) := by decide +kernel
theorem dX11_layBy_12 : decode cX11_layBy 12 = .ok (.iload 4, 2) := by decide +kernel
theorem dX11_layBy_14 : decode cX11_layBy 14 = .ok (.if_icmp .ne 22, 3) := by decide +kernel
theorem dX11_layBy_17 : decode cX11_layBy 17 = .ok (.aload_n 0, 1) := by decide +kernel
theorem dX11_layBy_18 : decode cX11_layBy 18 = .ok (.iconst 2, 1) := by decide +kernel
theorem dX11_layBy_19 : decode cX11_layBy 19 = .ok (.iload_n 2, 1) := by decide +kernel
theorem dX11_layBy_20 : decode cX11_layBy 20 = .ok (.imul, 1) := by decide +kernel
theorem dX11_layBy_21 : decode cX11_layBy 21 = .ok (.iconst 1, 1) := by decide +kernel
theorem dX11_layBy_22 : decode cX11_layBy 22 = .ok (.iadd, 1) := by decide +kernel
theorem dX11_layBy_23 : decode cX11_layBy 23 = .ok (.iload_n 3, 1) := by decide +kernel
theorem dX11_layBy_24 : decode cX11_layBy 24 = .ok (.invokevirtual 356, 3) := by decide +kernel
theorem dX11_layBy_27 : decode cX11_layBy 27 = .ok (.aload_n 0, 1) := by decide +kernel
theorem dX11_layBy_28 : decode cX11_layBy 28 = .ok (.iconst 2, 1) := by decide +kernel
theorem dX11_layBy_29 : decode cX11_layBy 29 = .ok (.iload_n 2, 1) := by decide +kernel
theorem dX11_layBy_30 : decode cX11_layBy 30 = .ok (.imul, 1) := by decide +kernel
theorem dX11_layBy_31 : decode cX11_layBy 31 = .ok (.iload_n 3, 1) := by decide +kernel
theorem dX11_layBy_32 : decode cX11_layBy 32 = .ok (.invokevirtual 356, 3) := by decide +kernel
theorem dX11_layBy_35 : decode cX11_layBy 35 = .ok (.return_, 1) := by decide +kernel
theorem dX11_layBy_36 : decode cX11_layBy 36 = .ok (.iconst 0, 1) := by decide +kernel
theorem dX11_layBy_37 : decode cX11_layBy 37 = .ok (.istore 6, 2) := by decide +kernel
theorem dX11_layBy_39 : decode cX11_layBy 39 = .ok (.iload_n 3, 1) := by decide +kernel
theorem dX11_layBy_40 : decode cX11_layBy 40 = .ok (.iload 6, 2) := by decide +kernel
theorem dX11_layBy_42 : decode cX11_layBy 42 = .ok (.invokestatic 332, 3) := by decide +kernel
theorem dX11_layBy_45 : decode cX11_layBy 45 = .ok (.ifCond .lt 23, 3) := by decide +kernel
theorem dX11_layBy_48 : decode cX11_layBy 48 = .ok (.iconst 1, 1) := by decide +kernel
theorem dX11_layBy_49 : decode cX11_layBy 49 = .ok (.aload_n 1, 1) := by decide +kernel
theorem dX11_layBy_50 : decode cX11_layBy 50 = .ok (.bipush 6, 2) := by decide +kernel
theorem dX11_layBy_52 : decode cX11_layBy 52 = .ok (.iload_n 2, 1) := by decide +kernel
theorem dX11_layBy_53 : decode cX11_layBy 53 = .ok (.imul, 1) := by decide +kernel
theorem dX11_layBy_54 : decode cX11_layBy 54 = .ok (.iload_n 3, 1) := by decide +kernel
theorem dX11_layBy_55 : decode cX11_layBy 55 = .ok (.iload 6, 2) := by decide +kernel
theorem dX11_layBy_57 : decode cX11_layBy 57 = .ok (.invokestatic 332, 3) := by decide +kernel
theorem dX11_layBy_60 : decode cX11_layBy 60 = .ok (.iadd, 1) := by decide +kernel
theorem dX11_layBy_61 : decode cX11_layBy 61 = .ok (.iaload, 1) := by decide +kernel
theorem dX11_layBy_62 : decode cX11_layBy 62 = .ok (.iadd, 1) := by decide +kernel
theorem dX11_layBy_63 : decode cX11_layBy 63 = .ok (.iload 4, 2) := by decide +kernel
theorem dX11_layBy_65 : decode cX11_layBy 65 = .ok (.if_icmp .eq 9, 3) := by decide +kernel
theorem dX11_layBy_68 : decode cX11_layBy 68 = .ok (.iinc 6 1, 3) := by decide +kernel
theorem dX11_layBy_71 : decode cX11_layBy 71 = .ok (.goto (-32), 3) := by decide +kernel
theorem dX11_layBy_74 : decode cX11_layBy 74 = .ok (.aload_n 0, 1) := by decide +kernel
theorem dX11_layBy_75 : decode cX11_layBy 75 = .ok (.iload_n 2, 1) := by decide +kernel
theorem dX11_layBy_76 : decode cX11_layBy 76 = .ok (.iload 6, 2) := by decide +kernel
theorem dX11_layBy_78 : decode cX11_layBy 78 = .ok (.invokevirtual 360, 3) := by decide +kernel
theorem dX11_layBy_81 : decode cX11_layBy 81 = .ok (.aload_n 0, 1) := by decide +kernel
theorem dX11_layBy_82 : decode cX11_layBy 82 = .ok (.iload_n 2, 1) := by decide +kernel
theorem dX11_layBy_83 : decode cX11_layBy 83 = .ok (.iload_n 3, 1) := by decide +kernel
theorem dX11_layBy_84 : decode cX11_layBy 84 = .ok (.iload 6, 2) := by decide +kernel
theorem dX11_layBy_86 : decode cX11_layBy 86 = .ok (.invokestatic 332, 3) := by decide +kernel
theorem dX11_layBy_89 : decode cX11_layBy 89 = .ok (.invokevirtual 356, 3) := by decide +kernel
theorem dX11_layBy_92 : decode cX11_layBy 92 = .ok (.return_, 1) := by decide +kernel
theorem dX11_layWaiting_0 : decode cX11_layWaiting 0 = .ok (.aload_n 0, 1) := by decide +kernel
theorem dX11_layWaiting_1 : decode cX11_layWaiting 1 = .ok (.getfield 347, 3) := by decide +kernel
theorem dX11_layWaiting_4 : decode cX11_layWaiting 4 = .ok (.iload_n 1, 1) := by decide +kernel
theorem dX11_layWaiting_5 : decode cX11_layWaiting 5 = .ok (.if_icmp .le 84, 3) := by decide +kernel
theorem dX11_layWaiting_8 : decode cX11_layWaiting 8 = .ok (.aload_n 0, 1) := by decide +kernel
theorem dX11_layWaiting_9 : decode cX11_layWaiting 9 = .ok (.dup, 1) := by decide +kernel
theorem dX11_layWaiting_10 : decode cX11_layWaiting 10 = .ok (.getfield 347, 3) := by decide +kernel
theorem dX11_layWaiting_13 : decode cX11_layWaiting 13 = .ok (.iconst 1, 1) := by decide +kernel
theorem dX11_layWaiting_14 : decode cX11_layWaiting 14 = .ok (.isub, 1) := by decide +kernel
theorem dX11_layWaiting_15 : decode cX11_layWaiting 15 = .ok (.putfield 347, 3) := by decide +kernel
theorem dX11_layWaiting_18 : decode cX11_layWaiting 18 = .ok (.aload_n 0, 1) := by decide +kernel
theorem dX11_layWaiting_19 : decode cX11_layWaiting 19 = .ok (.getfield 48, 3) := by decide +kernel
theorem dX11_layWaiting_22 : decode cX11_layWaiting 22 = .ok (.aload_n 0, 1) := by decide +kernel
theorem dX11_layWaiting_23 : decode cX11_layWaiting 23 = .ok (.getfield 347, 3) := by decide +kernel
theorem dX11_layWaiting_26 : decode cX11_layWaiting 26 = .ok (.iaload, 1) := by decide +kernel
theorem dX11_layWaiting_27 : decode cX11_layWaiting 27 = .ok (.istore_n 3, 1) := by decide +kernel
theorem dX11_layWaiting_28 : decode cX11_layWaiting 28 = .ok (.aload_n 0, 1) := by decide +kernel
theorem dX11_layWaiting_29 : decode cX11_layWaiting 29 = .ok (.getfield 51, 3) := by decide +kernel
theorem dX11_layWaiting_32 : decode cX11_layWaiting 32 = .ok (.aload_n 0, 1) := by decide +kernel
theorem dX11_layWaiting_33 : decode cX11_layWaiting 33 = .ok (.getfield 347, 3) := by decide +kernel
theorem dX11_layWaiting_36 : decode cX11_layWaiting 36 = .ok (.iaload, 1) := by decide +kernel
theorem dX11_layWaiting_37 : decode cX11_layWaiting 37 = .ok (.istore 4, 2) := by decide +kernel
theorem dX11_layWaiting_39 : decode cX11_layWaiting 39 = .ok (.aload_n 0, 1) := by decide +kernel
theorem dX11_layWaiting_40 : decode cX11_layWaiting 40 = .ok (.iload_n 3, 1) := by decide +kernel
theorem dX11_layWaiting_41 : decode cX11_layWaiting 41 = .ok (.iload 4, 2) := by decide +kernel
theorem dX11_layWaiting_43 : decode cX11_layWaiting 43 = .ok (.iload_n 2, 1) := by decide +kernel
theorem dX11_layWaiting_44 : decode cX11_layWaiting 44 = .ok (.invokevirtual 325, 3) := by decide +kernel
theorem dX11_layWaiting_47 : decode cX11_layWaiting 47 = .ok (.ifCond .ne 39, 3) := by decide +kernel
theorem dX11_layWaiting_50 : decode cX11_layWaiting 50 = .ok (.aload_n 0, 1) := by decide +kernel
theorem dX11_layWaiting_51 : decode cX11_layWaiting 51 = .ok (.aload_n 0, 1) := by decide +kernel
theorem dX11_layWaiting_52 : decode cX11_layWaiting 52 = .ok (.getfield 39, 3) := by decide +kernel
theorem dX11_layWaiting_55 : decode cX11_layWaiting 55 = .ok (.iload_n 3, 1) := by decide +kernel
theorem dX11_layWaiting_56 : decode cX11_layWaiting 56 = .ok (.iload 4, 2) := by decide +kernel
theorem dX11_layWaiting_58 : decode cX11_layWaiting 58 = .ok (.aload_n 0, 1) := by decide +kernel
theorem dX11_layWaiting_59 : decode cX11_layWaiting 59 = .ok (.getfield 39, 3) := by decide +kernel
theorem dX11_layWaiting_62 : decode cX11_layWaiting 62 = .ok (.bipush 6, 2) := by decide +kernel
theorem dX11_layWaiting_64 : decode cX11_layWaiting 64 = .ok (.iload_n 3, 1) := by decide +kernel
theorem dX11_layWaiting_65 : decode cX11_layWaiting 65 = .ok (.imul, 1) := by decide +kernel
theorem dX11_layWaiting_66 : decode cX11_layWaiting 66 = .ok (.iload 4, 2) := by decide +kernel
theorem dX11_layWaiting_68 : decode cX11_layWaiting 68 = .ok (.iadd, 1) := by decide +kernel
theorem dX11_layWaiting_69 : decode cX11_layWaiting 69 = .ok (.iaload, 1) := by decide +kernel
theorem dX11_layWaiting_70 : decode cX11_layWaiting 70 = .ok (.iload_n 3, 1) := by decide +kernel
theorem dX11_layWaiting_71 : decode cX11_layWaiting 71 = .ok (.aload_n 0, 1) := by decide +kernel
theorem dX11_layWaiting_72 : decode cX11_layWaiting 72 = .ok (.invokevirtual 240, 3) := by decide +kernel
theorem dX11_layWaiting_75 : decode cX11_layWaiting 75 = .ok (.if_icmp .ge 7, 3) := by decide +kernel
theorem dX11_layWaiting_78 : decode cX11_layWaiting 78 = .ok (.iconst 1, 1) := by decide +kernel
theorem dX11_layWaiting_79 : decode cX11_layWaiting 79 = .ok (.goto 4, 3) := by decide +kernel
theorem dX11_layWaiting_82 : decode cX11_layWaiting 82 = .ok (.iconst 0, 1) := by decide +kernel
theorem dX11_layWaiting_83 : decode cX11_layWaiting 83 = .ok (.invokevirtual 363, 3) := by decide +kernel
theorem dX11_layWaiting_86 : decode cX11_layWaiting 86 = .ok (.goto (-86), 3) := by decide +kernel
theorem dX11_layWaiting_89 : decode cX11_layWaiting 89 = .ok (.return_, 1) := by decide +kernel
theorem dX11_layPlan_0 : decode cX11_layPlan 0 = .ok (.aload_n 0, 1) := by decide +kernel
theorem dX11_layPlan_1 : decode cX11_layPlan 1 = .ok (.aload_n 0, 1) := by decide +kernel
theorem dX11_layPlan_2 : decode cX11_layPlan 2 = .ok (.getfield 7, 3) := by decide +kernel
theorem dX11_layPlan_5 : decode cX11_layPlan 5 = .ok (.iconst 0, 1) := by decide +kernel
theorem dX11_layPlan_6 : decode cX11_layPlan 6 = .ok (.iaload, 1) := by decide +kernel
theorem dX11_layPlan_7 : decode cX11_layPlan 7 = .ok (.invokevirtual 344, 3) := by decide +kernel
theorem dX11_layPlan_10 : decode cX11_layPlan 10 = .ok (.istore_n 1, 1) := by decide +kernel
theorem dX11_layPlan_11 : decode cX11_layPlan 11 = .ok (.aload_n 0, 1) := by decide +kernel
theorem dX11_layPlan_12 : decode cX11_layPlan 12 = .ok (.iconst 0, 1) := by decide +kernel
theorem dX11_layPlan_13 : decode cX11_layPlan 13 = .ok (.putfield 350, 3) := by decide +kernel
theorem dX11_layPlan_16 : decode cX11_layPlan 16 = .ok (.aload_n 0, 1) := by decide +kernel
theorem dX11_layPlan_17 : decode cX11_layPlan 17 = .ok (.iconst 0, 1) := by decide +kernel
theorem dX11_layPlan_18 : decode cX11_layPlan 18 = .ok (.putfield 347, 3) := by decide +kernel
theorem dX11_layPlan_21 : decode cX11_layPlan 21 = .ok (.iload_n 1, 1) := by decide +kernel
theorem dX11_layPlan_22 : decode cX11_layPlan 22 = .ok (.ifCond .lt 9, 3) := by decide +kernel
theorem dX11_layPlan_25 : decode cX11_layPlan 25 = .ok (.aload_n 0, 1) := by decide +kernel
theorem dX11_layPlan_26 : decode cX11_layPlan 26 = .ok (.iconst 1, 1) := by decide +kernel
theorem dX11_layPlan_27 : decode cX11_layPlan 27 = .ok (.iconst 5, 1) := by decide +kernel
theorem dX11_layPlan_28 : decode cX11_layPlan 28 = .ok (.invokevirtual 356, 3) := by decide +kernel
theorem dX11_layPlan_31 : decode cX11_layPlan 31 = .ok (.aload_n 0, 1) := by decide +kernel
theorem dX11_layPlan_32 : decode cX11_layPlan 32 = .ok (.iconst 0, 1) := by decide +kernel
theorem dX11_layPlan_33 : decode cX11_layPlan 33 = .ok (.iconst 5, 1) := by decide +kernel
theorem dX11_layPlan_34 : decode cX11_layPlan 34 = .ok (.invokevirtual 367, 3) := by decide +kernel
theorem dX11_layPlan_37 : decode cX11_layPlan 37 = .ok (.return_, 1) := by decide +kernel
theorem dX11_blockOf_0 : decode cX11_blockOf 0 = .ok (.iload_n 1, 1) := by decide +kernel
theorem dX11_blockOf_1 : decode cX11_blockOf 1 = .ok (.iconst (-1), 1) := by decide +kernel
theorem dX11_blockOf_2 : decode cX11_blockOf 2 = .ok (.if_icmp .ne 8, 3) := by decide +kernel
theorem dX11_blockOf_5 : decode cX11_blockOf 5 = .ok (.aload_n 0, 1) := by decide +kernel
theorem dX11_blockOf_6 : decode cX11_blockOf 6 = .ok (.getfield 350, 3) := by decide +kernel
theorem dX11_blockOf_9 : decode cX11_blockOf 9 = .ok (.ireturn, 1) := by decide +kernel
theorem dX11_blockOf_10 : decode cX11_blockOf 10 = .ok (.iload_n 1, 1) := by decide +kernel
theorem dX11_blockOf_11 : decode cX11_blockOf 11 = .ok (.iconst 0, 1) := by decide +kernel
theorem dX11_blockOf_12 : decode cX11_blockOf 12 = .ok (.aload_n 0, 1) := by decide +kernel
theorem dX11_blockOf_13 : decode cX11_blockOf 13 = .ok (.getfield 350, 3) := by decide +kernel
theorem dX11_blockOf_16 : decode cX11_blockOf 16 = .ok (.iconst 1, 1) := by decide +kernel
theorem dX11_blockOf_17 : decode cX11_blockOf 17 = .ok (.isub, 1) := by decide +kernel
theorem dX11_blockOf_18 : decode cX11_blockOf 18 = .ok (.invokestatic 163, 3) := by decide +kernel
theorem dX11_blockOf_21 : decode cX11_blockOf 21 = .ok (.ifCond .ne 5, 3) := by decide +kernel
theorem dX11_blockOf_24 : decode cX11_blockOf 24 = .ok (.iconst (-1), 1) := by decide +kernel
theorem dX11_blockOf_25 : decode cX11_blockOf 25 = .ok (.ireturn, 1) := by decide +kernel
theorem dX11_blockOf_26 : decode cX11_blockOf 26 = .ok (.iload_n 2, 1) := by decide +kernel
theorem dX11_blockOf_27 : decode cX11_blockOf 27 = .ok (.ifCond .ne 12, 3) := by decide +kernel
theorem dX11_blockOf_30 : decode cX11_blockOf 30 = .ok (.aload_n 0, 1) := by decide +kernel
theorem dX11_blockOf_31 : decode cX11_blockOf 31 = .ok (.getfield 54, 3) := by decide +kernel
theorem dX11_blockOf_34 : decode cX11_blockOf 34 = .ok (.iload_n 1, 1) := by decide +kernel
theorem dX11_blockOf_35 : decode cX11_blockOf 35 = .ok (.iaload, 1) := by decide +kernel
theorem dX11_blockOf_36 : decode cX11_blockOf 36 = .ok (.goto 32, 3) := by decide +kernel
theorem dX11_blockOf_39 : decode cX11_blockOf 39 = .ok (.iload_n 2, 1) := by decide +kernel
theorem dX11_blockOf_40 : decode cX11_blockOf 40 = .ok (.iconst 1, 1) := by decide +kernel
theorem dX11_blockOf_41 : decode cX11_blockOf 41 = .ok (.if_icmp .ne 12, 3) := by decide +kernel
theorem dX11_blockOf_44 : decode cX11_blockOf 44 = .ok (.aload_n 0, 1) := by decide +kernel
theorem dX11_blockOf_45 : decode cX11_blockOf 45 = .ok (.getfield 57, 3) := by decide +kernel
theorem dX11_blockOf_48 : decode cX11_blockOf 48 = .ok (.iload_n 1, 1) := by decide +kernel
theorem dX11_blockOf_49 : decode cX11_blockOf 49 = .ok (.iaload, 1) := by decide +kernel
theorem dX11_blockOf_50 : decode cX11_blockOf 50 = .ok (.goto 18, 3) := by decide +kernel
theorem dX11_blockOf_53 : decode cX11_blockOf 53 = .ok (.iload_n 2, 1) := by decide +kernel
theorem dX11_blockOf_54 : decode cX11_blockOf 54 = .ok (.iconst 2, 1) := by decide +kernel
theorem dX11_blockOf_55 : decode cX11_blockOf 55 = .ok (.if_icmp .ne 12, 3) := by decide +kernel
theorem dX11_blockOf_58 : decode cX11_blockOf 58 = .ok (.aload_n 0, 1) := by decide +kernel
theorem dX11_blockOf_59 : decode cX11_blockOf 59 = .ok (.getfield 60, 3) := by decide +kernel
theorem dX11_blockOf_62 : decode cX11_blockOf 62 = .ok (.iload_n 1, 1) := by decide +kernel
theorem dX11_blockOf_63 : decode cX11_blockOf 63 = .ok (.iaload, 1) := by decide +kernel
theorem dX11_blockOf_64 : decode cX11_blockOf 64 = .ok (.goto 4, 3) := by decide +kernel
theorem dX11_blockOf_67 : decode cX11_blockOf 67 = .ok (.iconst (-1), 1) := by decide +kernel
theorem dX11_blockOf_68 : decode cX11_blockOf 68 = .ok (.ireturn, 1) := by decide +kernel
theorem dX11_plan_0 : decode cX11_plan 0 = .ok (.aload_n 0, 1) := by decide +kernel
theorem dX11_plan_1 : decode cX11_plan 1 = .ok (.invokevirtual 370, 3) := by decide +kernel
theorem dX11_plan_4 : decode cX11_plan 4 = .ok (.aload_n 0, 1) := by decide +kernel
theorem dX11_plan_5 : decode cX11_plan 5 = .ok (.iload_n 1, 1) := by decide +kernel
theorem dX11_plan_6 : decode cX11_plan 6 = .ok (.iload_n 2, 1) := by decide +kernel
theorem dX11_plan_7 : decode cX11_plan 7 = .ok (.invokevirtual 373, 3) := by decide +kernel
theorem dX11_plan_10 : decode cX11_plan 10 = .ok (.ireturn, 1) := by decide +kernel
theorem dX11_triedKind_0 : decode cX11_triedKind 0 = .ok (.iload_n 0, 1) := by decide +kernel
theorem dX11_triedKind_1 : decode cX11_triedKind 1 = .ok (.ifCond .ne 7, 3) := by decide +kernel
theorem dX11_triedKind_4 : decode cX11_triedKind 4 = .ok (.iconst 5, 1) := by decide +kernel
theorem dX11_triedKind_5 : decode cX11_triedKind 5 = .ok (.goto 6, 3) := by decide +kernel
theorem dX11_triedKind_8 : decode cX11_triedKind 8 = .ok (.iload_n 0, 1) := by decide +kernel
theorem dX11_triedKind_9 : decode cX11_triedKind 9 = .ok (.iconst 1, 1) := by decide +kernel
theorem dX11_triedKind_10 : decode cX11_triedKind 10 = .ok (.isub, 1) := by decide +kernel
theorem dX11_triedKind_11 : decode cX11_triedKind 11 = .ok (.ireturn, 1) := by decide +kernel
theorem dX11_pageNode_0 : decode cX11_pageNode 0 = .ok (.aload_n 0, 1) := by decide +kernel
theorem dX11_pageNode_1 : decode cX11_pageNode 1 = .ok (.invokevirtual 291, 3) := by decide +kernel
theorem dX11_pageNode_4 : decode cX11_pageNode 4 = .ok (.iload_n 1, 1) := by decide +kernel
theorem dX11_pageNode_5 : decode cX11_pageNode 5 = .ok (.iadd, 1) := by decide +kernel
theorem dX11_pageNode_6 : decode cX11_pageNode 6 = .ok (.ireturn, 1) := by decide +kernel
theorem dX11_layPageFewest_0 : decode cX11_layPageFewest 0 = .ok (.aload_n 0, 1) := by decide +kernel
theorem dX11_layPageFewest_1 : decode cX11_layPageFewest 1 = .ok (.aload_n 0, 1) := by decide +kernel
theorem dX11_layPageFewest_2 : decode cX11_layPageFewest 2 = .ok (.getfield 7, 3) := by decide +kernel
theorem dX11_layPageFewest_5 : decode cX11_layPageFewest 5 = .ok (.iconst 0, 1) := by decide +kernel
theorem dX11_layPageFewest_6 : decode cX11_layPageFewest 6 = .ok (.iaload, 1) := by decide +kernel
theorem dX11_layPageFewest_7 : decode cX11_layPageFewest 7 = .ok (.invokevirtual 335, 3) := by decide +kernel
theorem dX11_layPageFewest_10 : decode cX11_layPageFewest 10 = .ok (.iconst 0, 1) := by decide +kernel
theorem dX11_layPageFewest_11 : decode cX11_layPageFewest 11 = .ok (.istore_n 1, 1) := by decide +kernel
theorem dX11_layPageFewest_12 : decode cX11_layPageFewest 12 = .ok (.iload_n 1, 1) := by decide +kernel
theorem dX11_layPageFewest_13 : decode cX11_layPageFewest 13 = .ok (.bipush 12, 2) := by decide +kernel
theorem dX11_layPageFewest_15 : decode cX11_layPageFewest 15 = .ok (.aload_n 0, 1) := by decide +kernel
theorem dX11_layPageFewest_16 : decode cX11_layPageFewest 16 = .ok (.invokevirtual 291, 3) := by decide +kernel
theorem dX11_layPageFewest_19 : decode cX11_layPageFewest 19 = .ok (.imul, 1) := by decide +kernel
theorem dX11_layPageFewest_20 : decode cX11_layPageFewest 20 = .ok (.if_icmp .ge 18, 3) := by decide +kernel
theorem dX11_layPageFewest_23 : decode cX11_layPageFewest 23 = .ok (.aload_n 0, 1) := by decide +kernel
theorem dX11_layPageFewest_24 : decode cX11_layPageFewest 24 = .ok (.getfield 45, 3) := by decide +kernel
theorem dX11_layPageFewest_27 : decode cX11_layPageFewest 27 = .ok (.iload_n 1, 1) := by decide +kernel
theorem dX11_layPageFewest_28 : decode cX11_layPageFewest 28 = .ok (.ldc_w 321, 3) := by decide +kernel
theorem dX11_layPageFewest_31 : decode cX11_layPageFewest 31 = .ok (.iastore, 1) := by decide +kernel
theorem dX11_layPageFewest_32 : decode cX11_layPageFewest 32 = .ok (.iinc 1 1, 3) := by decide +kernel
theorem dX11_layPageFewest_35 : decode cX11_layPageFewest 35 = .ok (.goto (-23), 3) := by decide +kernel
theorem dX11_layPageFewest_38 : decode cX11_layPageFewest 38 = .ok (.iconst 0, 1) := by decide +kernel
theorem dX11_layPageFewest_39 : decode cX11_layPageFewest 39 = .ok (.istore_n 1, 1) := by decide +kernel
theorem dX11_layPageFewest_40 : decode cX11_layPageFewest 40 = .ok (.iload_n 1, 1) := by decide +kernel
theorem dX11_layPageFewest_41 : decode cX11_layPageFewest 41 = .ok (.bipush 6, 2) := by decide +kernel
theorem dX11_layPageFewest_43 : decode cX11_layPageFewest 43 = .ok (.if_icmp .ge 63, 3) := by decide +kernel
theorem dX11_layPageFewest_46 : decode cX11_layPageFewest 46 = .ok (.aload_n 0, 1) := by decide +kernel
theorem dX11_layPageFewest_47 : decode cX11_layPageFewest 47 = .ok (.iload_n 1, 1) := by decide +kernel
theorem dX11_layPageFewest_48 : decode cX11_layPageFewest 48 = .ok (.invokestatic 376, 3) := by decide +kernel
theorem dX11_layPageFewest_51 : decode cX11_layPageFewest 51 = .ok (.invokevirtual 338, 3) := by decide +kernel
theorem dX11_layPageFewest_54 : decode cX11_layPageFewest 54 = .ok (.bipush 6, 2) := by decide +kernel
theorem dX11_layPageFewest_56 : decode cX11_layPageFewest 56 = .ok (.aload_n 0, 1) := by decide +kernel
theorem dX11_layPageFewest_57 : decode cX11_layPageFewest 57 = .ok (.invokevirtual 291, 3) := by decide +kernel
theorem dX11_layPageFewest_60 : decode cX11_layPageFewest 60 = .ok (.imul, 1) := by decide +kernel
theorem dX11_layPageFewest_61 : decode cX11_layPageFewest 61 = .ok (.istore_n 2, 1) := by decide +kernel
theorem dX11_layPageFewest_62 : decode cX11_layPageFewest 62 = .ok (.iload_n 2, 1) := by decide +kernel
theorem dX11_layPageFewest_63 : decode cX11_layPageFewest 63 = .ok (.bipush 12, 2) := by decide +kernel
theorem dX11_layPageFewest_65 : decode cX11_layPageFewest 65 = .ok (.aload_n 0, 1) := by decide +kernel
theorem dX11_layPageFewest_66 : decode cX11_layPageFewest 66 = .ok (.invokevirtual 291, 3) := by decide +kernel
theorem dX11_layPageFewest_69 : decode cX11_layPageFewest 69 = .ok (.imul, 1) := by decide +kernel
theorem dX11_layPageFewest_70 : decode cX11_layPageFewest 70 = .ok (.if_icmp .ge 30, 3) := by decide +kernel
theorem dX11_layPageFewest_73 : decode cX11_layPageFewest 73 = .ok (.aload_n 0, 1) := by decide +kernel
theorem dX11_layPageFewest_74 : decode cX11_layPageFewest 74 = .ok (.getfield 45, 3) := by decide +kernel
theorem dX11_layPageFewest_77 : decode cX11_layPageFewest 77 = .ok (.iload_n 2, 1) := by decide +kernel
theorem dX11_layPageFewest_78 : decode cX11_layPageFewest 78 = .ok (.aload_n 0, 1) := by decide +kernel
theorem dX11_layPageFewest_79 : decode cX11_layPageFewest 79 = .ok (.getfield 45, 3) := by decide +kernel
theorem dX11_layPageFewest_82 : decode cX11_layPageFewest 82 = .ok (.iload_n 2, 1) := by decide +kernel
theorem dX11_layPageFewest_83 : decode cX11_layPageFewest 83 = .ok (.iaload, 1) := by decide +kernel
theorem dX11_layPageFewest_84 : decode cX11_layPageFewest 84 = .ok (.aload_n 0, 1) := by decide +kernel
theorem dX11_layPageFewest_85 : decode cX11_layPageFewest 85 = .ok (.getfield 39, 3) := by decide +kernel
theorem dX11_layPageFewest_88 : decode cX11_layPageFewest 88 = .ok (.iload_n 2, 1) := by decide +kernel
theorem dX11_layPageFewest_89 : decode cX11_layPageFewest 89 = .ok (.iaload, 1) := by decide +kernel
theorem dX11_layPageFewest_90 : decode cX11_layPageFewest 90 = .ok (.invokestatic 273, 3) := by decide +kernel
theorem dX11_layPageFewest_93 : decode cX11_layPageFewest 93 = .ok (.iastore, 1) := by decide +kernel
theorem dX11_layPageFewest_94 : decode cX11_layPageFewest 94 = .ok (.iinc 2 1, 3) := by decide +kernel
theorem dX11_layPageFewest_97 : decode cX11_layPageFewest 97 = .ok (.goto (-35), 3) := by decide +kernel
theorem dX11_layPageFewest_100 : decode cX11_layPageFewest 100 = .ok (.iinc 1 1, 3) := by decide +kernel
theorem dX11_layPageFewest_103 : decode cX11_layPageFewest 103 = .ok (.goto (-63), 3) := by decide +kernel
theorem dX11_layPageFewest_106 : decode cX11_layPageFewest 106 = .ok (.aload_n 0, 1) := by decide +kernel
theorem dX11_layPageFewest_107 : decode cX11_layPageFewest 107 = .ok (.invokevirtual 291, 3) := by decide +kernel
theorem dX11_layPageFewest_110 : decode cX11_layPageFewest 110 = .ok (.iconst 1, 1) := by decide +kernel
theorem dX11_layPageFewest_111 : decode cX11_layPageFewest 111 = .ok (.isub, 1) := by decide +kernel
theorem dX11_layPageFewest_112 : decode cX11_layPageFewest 112 = .ok (.istore_n 1, 1) := by decide +kernel
theorem dX11_layPageFewest_113 : decode cX11_layPageFewest 113 = .ok (.iload_n 1, 1) := by decide +kernel
theorem dX11_layPageFewest_114 : decode cX11_layPageFewest 114 = .ok (.ifCond .le 102, 3) := by decide +kernel
theorem dX11_layPageFewest_117 : decode cX11_layPageFewest 117 = .ok (.iconst 0, 1) := by decide +kernel
theorem dX11_layPageFewest_118 : decode cX11_layPageFewest 118 = .ok (.istore_n 2, 1) := by decide +kernel
theorem dX11_layPageFewest_119 : decode cX11_layPageFewest 119 = .ok (.iload_n 2, 1) := by decide +kernel
theorem dX11_layPageFewest_120 : decode cX11_layPageFewest 120 = .ok (.bipush 6, 2) := by decide +kernel
theorem dX11_layPageFewest_122 : decode cX11_layPageFewest 122 = .ok (.if_icmp .ge 88, 3) := by decide +kernel
theorem dX11_layPageFewest_125 : decode cX11_layPageFewest 125 = .ok (.iload_n 2, 1) := by decide +kernel
theorem dX11_layPageFewest_126 : decode cX11_layPageFewest 126 = .ok (.invokestatic 322, 3) := by decide +kernel
theorem dX11_layPageFewest_129 : decode cX11_layPageFewest 129 = .ok (.istore_n 3, 1) := by decide +kernel
theorem dX11_layPageFewest_130 : decode cX11_layPageFewest 130 = .ok (.aload_n 0, 1) := by decide +kernel
theorem dX11_layPageFewest_131 : decode cX11_layPageFewest 131 = .ok (.aload_n 0, 1) := by decide +kernel
theorem dX11_layPageFewest_132 : decode cX11_layPageFewest 132 = .ok (.getfield 45, 3) := by decide +kernel
theorem dX11_layPageFewest_135 : decode cX11_layPageFewest 135 = .ok (.iload_n 1, 1) := by decide +kernel
theorem dX11_layPageFewest_136 : decode cX11_layPageFewest 136 = .ok (.iload_n 3, 1) := by decide +kernel
theorem dX11_layPageFewest_137 : decode cX11_layPageFewest 137 = .ok (.invokevirtual 328, 3) := by decide +kernel
theorem dX11_layPageFewest_140 : decode cX11_layPageFewest 140 = .ok (.istore 4, 2) := by decide +kernel
theorem dX11_layPageFewest_142 : decode cX11_layPageFewest 142 = .ok (.iconst 0, 1) := by decide +kernel
theorem dX11_layPageFewest_143 : decode cX11_layPageFewest 143 = .ok (.istore 5, 2) := by decide +kernel
theorem dX11_layPageFewest_145 : decode cX11_layPageFewest 145 = .ok (.iload 5, 2) := by decide +kernel
theorem dX11_layPageFewest_147 : decode cX11_layPageFewest 147 = .ok (.iconst 5, 1) := by decide +kernel
theorem dX11_layPageFewest_148 : decode cX11_layPageFewest 148 = .ok (.if_icmp .ge 43, 3) := by decide +kernel
theorem dX11_layPageFewest_151 : decode cX11_layPageFewest 151 = .ok (.iload_n 3, 1) := by decide +kernel
theorem dX11_layPageFewest_152 : decode cX11_layPageFewest 152 = .ok (.iload 5, 2) := by decide +kernel
theorem dX11_layPageFewest_154 : decode cX11_layPageFewest 154 = .ok (.invokestatic 332, 3) := by decide +kernel
theorem dX11_layPageFewest_157 : decode cX11_layPageFewest 157 = .ok (.ifCond .lt 28, 3) := by decide +kernel
theorem dX11_layPageFewest_160 : decode cX11_layPageFewest 160 = .ok (.iload 4, 2) := by decide +kernel
theorem dX11_layPageFewest_162 : decode cX11_layPageFewest 162 = .ok (.iconst 1, 1) := by decide +kernel
theorem dX11_layPageFewest_163 : decode cX11_layPageFewest 163 = .ok (.aload_n 0, 1) := by decide +kernel
theorem dX11_layPageFewest_164 : decode cX11_layPageFewest 164 = .ok (.getfield 45, 3) := by decide +kernel
theorem dX11_layPageFewest_167 : decode cX11_layPageFewest 167 = .ok (.bipush 6, 2) := by decide +kernel
theorem dX11_layPageFewest_169 : decode cX11_layPageFewest 169 = .ok (.iload_n 1, 1) := by decide +kernel
theorem dX11_layPageFewest_170 : decode cX11_layPageFewest 170 = .ok (.imul, 1) := by decide +kernel
theorem dX11_layPageFewest_171 : decode cX11_layPageFewest 171 = .ok (.iload_n 3, 1) := by decide +kernel
theorem dX11_layPageFewest_172 : decode cX11_layPageFewest 172 = .ok (.iload 5, 2) := by decide +kernel
theorem dX11_layPageFewest_174 : decode cX11_layPageFewest 174 = .ok (.invokestatic 332, 3) := by decide +kernel
theorem dX11_layPageFewest_177 : decode cX11_layPageFewest 177 = .ok (.iadd, 1) := by decide +kernel
theorem dX11_layPageFewest_178 : decode cX11_layPageFewest 178 = .ok (.iaload, 1) := by decide +kernel
theorem dX11_layPageFewest_179 : decode cX11_layPageFewest 179 = .ok (.iadd, 1) := by decide +kernel
theorem dX11_layPageFewest_180 : decode cX11_layPageFewest 180 = .ok (.invokestatic 273, 3) := by decide +kernel
theorem dX11_layPageFewest_183 : decode cX11_layPageFewest 183 = .ok (.istore 4, 2) := by decide +kernel
theorem dX11_layPageFewest_185 : decode cX11_layPageFewest 185 = .ok (.iinc 5 1, 3) := by decide +kernel
theorem dX11_layPageFewest_188 : decode cX11_layPageFewest 188 = .ok (.goto (-43), 3) := by decide +kernel
theorem dX11_layPageFewest_191 : decode cX11_layPageFewest 191 = .ok (.aload_n 0, 1) := by decide +kernel
theorem dX11_layPageFewest_192 : decode cX11_layPageFewest 192 = .ok (.getfield 45, 3) := by decide +kernel
theorem dX11_layPageFewest_195 : decode cX11_layPageFewest 195 = .ok (.bipush 6, 2) := by decide +kernel
theorem dX11_layPageFewest_197 : decode cX11_layPageFewest 197 = .ok (.iload_n 1, 1) := by decide +kernel
theorem dX11_layPageFewest_198 : decode cX11_layPageFewest 198 = .ok (.imul, 1) := by decide +kernel
theorem dX11_layPageFewest_199 : decode cX11_layPageFewest 199 = .ok (.iload_n 3, 1) := by decide +kernel
theorem dX11_layPageFewest_200 : decode cX11_layPageFewest 200 = .ok (.iadd, 1) := by decide +kernel
theorem dX11_layPageFewest_201 : decode cX11_layPageFewest 201 = .ok (.iload 4, 2) := by decide +kernel
theorem dX11_layPageFewest_203 : decode cX11_layPageFewest 203 = .ok (.iastore, 1) := by decide +kernel
theorem dX11_layPageFewest_204 : decode cX11_layPageFewest 204 = .ok (.iinc 2 1, 3) := by decide +kernel
theorem dX11_layPageFewest_207 : decode cX11_layPageFewest 207 = .ok (.goto (-88), 3) := by decide +kernel
theorem dX11_layPageFewest_210 : decode cX11_layPageFewest 210 = .ok (.iinc 1 (-1), 3) := by decide +kernel
theorem dX11_layPageFewest_213 : decode cX11_layPageFewest 213 = .ok (.goto (-100), 3) := by decide +kernel
theorem dX11_layPageFewest_216 : decode cX11_layPageFewest 216 = .ok (.return_, 1) := by decide +kernel
theorem dX11_layPage_0 : decode cX11_layPage 0 = .ok (.aload_n 0, 1) := by decide +kernel
theorem dX11_layPage_1 : decode cX11_layPage 1 = .ok (.iload_n 1, 1) := by decide +kernel
theorem dX11_layPage_2 : decode cX11_layPage 2 = .ok (.invokevirtual 379, 3) := by decide +kernel
theorem dX11_layPage_5 : decode cX11_layPage 5 = .ok (.istore_n 3, 1) := by decide +kernel
theorem dX11_layPage_6 : decode cX11_layPage 6 = .ok (.iconst 0, 1) := by decide +kernel
theorem dX11_layPage_7 : decode cX11_layPage 7 = .ok (.istore 4, 2) := by decide +kernel
theorem dX11_layPage_9 : decode cX11_layPage 9 = .ok (.aload_n 0, 1) := by decide +kernel
theorem dX11_layPage_10 : decode cX11_layPage 10 = .ok (.iconst 5, 1) := by decide +kernel
theorem dX11_layPage_11 : decode cX11_layPage 11 = .ok (.invokevirtual 338, 3) := by decide +kernel
theorem dX11_layPage_14 : decode cX11_layPage 14 = .ok (.aload_n 0, 1) := by decide +kernel
theorem dX11_layPage_15 : decode cX11_layPage 15 = .ok (.getfield 39, 3) := by decide +kernel
theorem dX11_layPage_18 : decode cX11_layPage 18 = .ok (.bipush 6, 2) := by decide +kernel
theorem dX11_layPage_20 : decode cX11_layPage 20 = .ok (.iload_n 3, 1) := by decide +kernel
theorem dX11_layPage_21 : decode cX11_layPage 21 = .ok (.imul, 1) := by decide +kernel
theorem dX11_layPage_22 : decode cX11_layPage 22 = .ok (.iload_n 2, 1) := by decide +kernel
theorem dX11_layPage_23 : decode cX11_layPage 23 = .ok (.iadd, 1) := by decide +kernel
theorem dX11_layPage_24 : decode cX11_layPage 24 = .ok (.iaload, 1) := by decide +kernel
theorem dX11_layPage_25 : decode cX11_layPage 25 = .ok (.aload_n 0, 1) := by decide +kernel
theorem dX11_layPage_26 : decode cX11_layPage 26 = .ok (.getfield 45, 3) := by decide +kernel
theorem dX11_layPage_29 : decode cX11_layPage 29 = .ok (.bipush 6, 2) := by decide +kernel
theorem dX11_layPage_31 : decode cX11_layPage 31 = .ok (.iload_n 3, 1) := by decide +kernel
theorem dX11_layPage_32 : decode cX11_layPage 32 = .ok (.imul, 1) := by decide +kernel
theorem dX11_layPage_33 : decode cX11_layPage 33 = .ok (.iload_n 2, 1) := by decide +kernel
theorem dX11_layPage_34 : decode cX11_layPage 34 = .ok (.iadd, 1) := by decide +kernel
theorem dX11_layPage_35 : decode cX11_layPage 35 = .ok (.iaload, 1) := by decide +kernel
theorem dX11_layPage_36 : decode cX11_layPage 36 = .ok (.if_icmp .eq 18, 3) := by decide +kernel
theorem dX11_layPage_39 : decode cX11_layPage 39 = .ok (.iinc 4 1, 3) := by decide +kernel
theorem dX11_layPage_42 : decode cX11_layPage 42 = .ok (.aload_n 0, 1) := by decide +kernel
theorem dX11_layPage_43 : decode cX11_layPage 43 = .ok (.iload 4, 2) := by decide +kernel
theorem dX11_layPage_45 : decode cX11_layPage 45 = .ok (.invokestatic 376, 3) := by decide +kernel
theorem dX11_layPage_48 : decode cX11_layPage 48 = .ok (.invokevirtual 338, 3) := by decide +kernel
theorem dX11_layPage_51 : decode cX11_layPage 51 = .ok (.goto (-37), 3) := by decide +kernel
theorem dX11_layPage_54 : decode cX11_layPage 54 = .ok (.aload_n 0, 1) := by decide +kernel
theorem dX11_layPage_55 : decode cX11_layPage 55 = .ok (.getfield 63, 3) := by decide +kernel
theorem dX11_layPage_58 : decode cX11_layPage 58 = .ok (.iload_n 1, 1) := by decide +kernel
theorem dX11_layPage_59 : decode cX11_layPage 59 = .ok (.iload 4, 2) := by decide +kernel
theorem dX11_layPage_61 : decode cX11_layPage 61 = .ok (.invokestatic 376, 3) := by decide +kernel
theorem dX11_layPage_64 : decode cX11_layPage 64 = .ok (.iastore, 1) := by decide +kernel
theorem dX11_layPage_65 : decode cX11_layPage 65 = .ok (.aload_n 0, 1) := by decide +kernel
theorem dX11_layPage_66 : decode cX11_layPage 66 = .ok (.getfield 347, 3) := by decide +kernel
theorem dX11_layPage_69 : decode cX11_layPage 69 = .ok (.istore 5, 2) := by decide +kernel
theorem dX11_layPage_71 : decode cX11_layPage 71 = .ok (.aload_n 0, 1) := by decide +kernel
theorem dX11_layPage_72 : decode cX11_layPage 72 = .ok (.iload_n 3, 1) := by decide +kernel
theorem dX11_layPage_73 : decode cX11_layPage 73 = .ok (.iload_n 2, 1) := by decide +kernel
theorem dX11_layPage_74 : decode cX11_layPage 74 = .ok (.invokevirtual 356, 3) := by decide +kernel
theorem dX11_layPage_77 : decode cX11_layPage 77 = .ok (.aload_n 0, 1) := by decide +kernel
theorem dX11_layPage_78 : decode cX11_layPage 78 = .ok (.iload 5, 2) := by decide +kernel
theorem dX11_layPage_80 : decode cX11_layPage 80 = .ok (.iload 4, 2) := by decide +kernel
theorem dX11_layPage_82 : decode cX11_layPage 82 = .ok (.invokestatic 376, 3) := by decide +kernel
theorem dX11_layPage_85 : decode cX11_layPage 85 = .ok (.invokevirtual 367, 3) := by decide +kernel
theorem dX11_layPage_88 : decode cX11_layPage 88 = .ok (.return_, 1) := by decide +kernel
theorem dX11_layPagedPlan_0 : decode cX11_layPagedPlan 0 = .ok (.aload_n 0, 1) := by decide +kernel
theorem dX11_layPagedPlan_1 : decode cX11_layPagedPlan 1 = .ok (.invokevirtual 382, 3) := by decide +kernel
theorem dX11_layPagedPlan_4 : decode cX11_layPagedPlan 4 = .ok (.aload_n 0, 1) := by decide +kernel
theorem dX11_layPagedPlan_5 : decode cX11_layPagedPlan 5 = .ok (.iconst 0, 1) := by decide +kernel
theorem dX11_layPagedPlan_6 : decode cX11_layPagedPlan 6 = .ok (.putfield 350, 3) := by decide +kernel
theorem dX11_layPagedPlan_9 : decode cX11_layPagedPlan 9 = .ok (.aload_n 0, 1) := by decide +kernel
theorem dX11_layPagedPlan_10 : decode cX11_layPagedPlan 10 = .ok (.iconst 0, 1) := by decide +kernel
theorem dX11_layPagedPlan_11 : decode cX11_layPagedPlan 11 = .ok (.putfield 347, 3) := by decide +kernel
theorem dX11_layPagedPlan_14 : decode cX11_layPagedPlan 14 = .ok (.aload_n 0, 1) := by decide +kernel
theorem dX11_layPagedPlan_15 : decode cX11_layPagedPlan 15 = .ok (.iconst 1, 1) := by decide +kernel
theorem dX11_layPagedPlan_16 : decode cX11_layPagedPlan 16 = .ok (.iconst 5, 1) := by decide +kernel
theorem dX11_layPagedPlan_17 : decode cX11_layPagedPlan 17 = .ok (.invokevirtual 356, 3) := by decide +kernel
theorem dX11_layPagedPlan_20 : decode cX11_layPagedPlan 20 = .ok (.aload_n 0, 1) := by decide +kernel
theorem dX11_layPagedPlan_21 : decode cX11_layPagedPlan 21 = .ok (.getfield 347, 3) := by decide +kernel
theorem dX11_layPagedPlan_24 : decode cX11_layPagedPlan 24 = .ok (.ifCond .le 80, 3) := by decide +kernel
theorem dX11_layPagedPlan_27 : decode cX11_layPagedPlan 27 = .ok (.aload_n 0, 1) := by decide +kernel
theorem dX11_layPagedPlan_28 : decode cX11_layPagedPlan 28 = .ok (.dup, 1) := by decide +kernel
theorem dX11_layPagedPlan_29 : decode cX11_layPagedPlan 29 = .ok (.getfield 347, 3) := by decide +kernel
theorem dX11_layPagedPlan_32 : decode cX11_layPagedPlan 32 = .ok (.iconst 1, 1) := by decide +kernel
theorem dX11_layPagedPlan_33 : decode cX11_layPagedPlan 33 = .ok (.isub, 1) := by decide +kernel
theorem dX11_layPagedPlan_34 : decode cX11_layPagedPlan 34 = .ok (.putfield 347, 3) := by decide +kernel
theorem dX11_layPagedPlan_37 : decode cX11_layPagedPlan 37 = .ok (.aload_n 0, 1) := by decide +kernel
theorem dX11_layPagedPlan_38 : decode cX11_layPagedPlan 38 = .ok (.getfield 48, 3) := by decide +kernel
theorem dX11_layPagedPlan_41 : decode cX11_layPagedPlan 41 = .ok (.aload_n 0, 1) := by decide +kernel
theorem dX11_layPagedPlan_42 : decode cX11_layPagedPlan 42 = .ok (.getfield 347, 3) := by decide +kernel
theorem dX11_layPagedPlan_45 : decode cX11_layPagedPlan 45 = .ok (.iaload, 1) := by decide +kernel
theorem dX11_layPagedPlan_46 : decode cX11_layPagedPlan 46 = .ok (.istore_n 1, 1) := by decide +kernel
theorem dX11_layPagedPlan_47 : decode cX11_layPagedPlan 47 = .ok (.aload_n 0, 1) := by decide +kernel
theorem dX11_layPagedPlan_48 : decode cX11_layPagedPlan 48 = .ok (.getfield 51, 3) := by decide +kernel
theorem dX11_layPagedPlan_51 : decode cX11_layPagedPlan 51 = .ok (.aload_n 0, 1) := by decide +kernel
theorem dX11_layPagedPlan_52 : decode cX11_layPagedPlan 52 = .ok (.getfield 347, 3) := by decide +kernel
theorem dX11_layPagedPlan_55 : decode cX11_layPagedPlan 55 = .ok (.iaload, 1) := by decide +kernel
theorem dX11_layPagedPlan_56 : decode cX11_layPagedPlan 56 = .ok (.istore_n 2, 1) := by decide +kernel
theorem dX11_layPagedPlan_57 : decode cX11_layPagedPlan 57 = .ok (.iload_n 1, 1) := by decide +kernel
theorem dX11_layPagedPlan_58 : decode cX11_layPagedPlan 58 = .ok (.aload_n 0, 1) := by decide +kernel
theorem dX11_layPagedPlan_59 : decode cX11_layPagedPlan 59 = .ok (.invokevirtual 291, 3) := by decide +kernel
theorem dX11_layPagedPlan_62 : decode cX11_layPagedPlan 62 = .ok (.if_icmp .lt 17, 3) := by decide +kernel
theorem dX11_layPagedPlan_65 : decode cX11_layPagedPlan 65 = .ok (.aload_n 0, 1) := by decide +kernel
theorem dX11_layPagedPlan_66 : decode cX11_layPagedPlan 66 = .ok (.iload_n 1, 1) := by decide +kernel
theorem dX11_layPagedPlan_67 : decode cX11_layPagedPlan 67 = .ok (.aload_n 0, 1) := by decide +kernel
theorem dX11_layPagedPlan_68 : decode cX11_layPagedPlan 68 = .ok (.invokevirtual 291, 3) := by decide +kernel
theorem dX11_layPagedPlan_71 : decode cX11_layPagedPlan 71 = .ok (.isub, 1) := by decide +kernel
theorem dX11_layPagedPlan_72 : decode cX11_layPagedPlan 72 = .ok (.iload_n 2, 1) := by decide +kernel
theorem dX11_layPagedPlan_73 : decode cX11_layPagedPlan 73 = .ok (.invokevirtual 385, 3) := by decide +kernel
theorem dX11_layPagedPlan_76 : decode cX11_layPagedPlan 76 = .ok (.goto 25, 3) := by decide +kernel
theorem dX11_layPagedPlan_79 : decode cX11_layPagedPlan 79 = .ok (.aload_n 0, 1) := by decide +kernel
theorem dX11_layPagedPlan_80 : decode cX11_layPagedPlan 80 = .ok (.aload_n 0, 1) := by decide +kernel
theorem dX11_layPagedPlan_81 : decode cX11_layPagedPlan 81 = .ok (.getfield 45, 3) := by decide +kernel
theorem dX11_layPagedPlan_84 : decode cX11_layPagedPlan 84 = .ok (.iload_n 1, 1) := by decide +kernel
theorem dX11_layPagedPlan_85 : decode cX11_layPagedPlan 85 = .ok (.iload_n 2, 1) := by decide +kernel
theorem dX11_layPagedPlan_86 : decode cX11_layPagedPlan 86 = .ok (.aload_n 0, 1) := by decide +kernel
theorem dX11_layPagedPlan_87 : decode cX11_layPagedPlan 87 = .ok (.getfield 45, 3) := by decide +kernel
theorem dX11_layPagedPlan_90 : decode cX11_layPagedPlan 90 = .ok (.bipush 6, 2) := by decide +kernel
theorem dX11_layPagedPlan_92 : decode cX11_layPagedPlan 92 = .ok (.iload_n 1, 1) := by decide +kernel
theorem dX11_layPagedPlan_93 : decode cX11_layPagedPlan 93 = .ok (.imul, 1) := by decide +kernel
theorem dX11_layPagedPlan_94 : decode cX11_layPagedPlan 94 = .ok (.iload_n 2, 1) := by decide +kernel
theorem dX11_layPagedPlan_95 : decode cX11_layPagedPlan 95 = .ok (.iadd, 1) := by decide +kernel
theorem dX11_layPagedPlan_96 : decode cX11_layPagedPlan 96 = .ok (.iaload, 1) := by decide +kernel
theorem dX11_layPagedPlan_97 : decode cX11_layPagedPlan 97 = .ok (.iconst 1, 1) := by decide +kernel
theorem dX11_layPagedPlan_98 : decode cX11_layPagedPlan 98 = .ok (.invokevirtual 363, 3) := by decide +kernel
theorem dX11_layPagedPlan_101 : decode cX11_layPagedPlan 101 = .ok (.goto (-81), 3) := by decide +kernel
theorem dX11_layPagedPlan_104 : decode cX11_layPagedPlan 104 = .ok (.return_, 1) := by decide +kernel
theorem dX11_ownPages_0 : decode cX11_ownPages 0 = .ok (.iconst 0, 1) := by decide +kernel
theorem dX11_ownPages_1 : decode cX11_ownPages 1 = .ok (.istore_n 1, 1) := by decide +kernel
theorem dX11_ownPages_2 : decode cX11_ownPages 2 = .ok (.iconst 0, 1) := by decide +kernel
theorem dX11_ownPages_3 : decode cX11_ownPages 3 = .ok (.istore_n 2, 1) := by decide +kernel
theorem dX11_ownPages_4 : decode cX11_ownPages 4 = .ok (.iload_n 2, 1) := by decide +kernel
theorem dX11_ownPages_5 : decode cX11_ownPages 5 = .ok (.aload_n 0, 1) := by decide +kernel
theorem dX11_ownPages_6 : decode cX11_ownPages 6 = .ok (.invokevirtual 291, 3) := by decide +kernel
theorem dX11_ownPages_9 : decode cX11_ownPages 9 = .ok (.if_icmp .ge 27, 3) := by decide +kernel
theorem dX11_ownPages_12 : decode cX11_ownPages 12 = .ok (.iload_n 1, 1) := by decide +kernel
theorem dX11_ownPages_13 : decode cX11_ownPages 13 = .ok (.aload_n 0, 1) := by decide +kernel
theorem dX11_ownPages_14 : decode cX11_ownPages 14 = .ok (.getfield 63, 3) := by decide +kernel
theorem dX11_ownPages_17 : decode cX11_ownPages 17 = .ok (.iload_n 2, 1) := by decide +kernel
theorem dX11_ownPages_18 : decode cX11_ownPages 18 = .ok (.iaload, 1) := by decide +kernel
theorem dX11_ownPages_19 : decode cX11_ownPages 19 = .ok (.iconst 5, 1) := by decide +kernel
theorem dX11_ownPages_20 : decode cX11_ownPages 20 = .ok (.if_icmp .ne 7, 3) := by decide +kernel
theorem dX11_ownPages_23 : decode cX11_ownPages 23 = .ok (.iconst 0, 1) := by decide +kernel
theorem dX11_ownPages_24 : decode cX11_ownPages 24 = .ok (.goto 4, 3) := by decide +kernel
theorem dX11_ownPages_27 : decode cX11_ownPages 27 = .ok (.iconst 1, 1) := by decide +kernel
theorem dX11_ownPages_28 : decode cX11_ownPages 28 = .ok (.iadd, 1) := by decide +kernel
theorem dX11_ownPages_29 : decode cX11_ownPages 29 = .ok (.istore_n 1, 1) := by decide +kernel
theorem dX11_ownPages_30 : decode cX11_ownPages 30 = .ok (.iinc 2 1, 3) := by decide +kernel
theorem dX11_ownPages_33 : decode cX11_ownPages 33 = .ok (.goto (-29), 3) := by decide +kernel
theorem dX11_ownPages_36 : decode cX11_ownPages 36 = .ok (.iload_n 1, 1) := by decide +kernel
theorem dX11_ownPages_37 : decode cX11_ownPages 37 = .ok (.ireturn, 1) := by decide +kernel
theorem dX11_withPages_0 : decode cX11_withPages 0 = .ok (.iload_n 1, 1) := by decide +kernel
theorem dX11_withPages_1 : decode cX11_withPages 1 = .ok (.iconst 0, 1) := by decide +kernel
theorem dX11_withPages_2 : decode cX11_withPages 2 = .ok (.iconst 1, 1) := by decide +kernel
theorem dX11_withPages_3 : decode cX11_withPages 3 = .ok (.invokestatic 163, 3) := by decide +kernel
theorem dX11_withPages_6 : decode cX11_withPages 6 = .ok (.ifCond .ne 5, 3) := by decide +kernel
theorem dX11_withPages_9 : decode cX11_withPages 9 = .ok (.iconst (-1), 1) := by decide +kernel
theorem dX11_withPages_10 : decode cX11_withPages 10 = .ok (.ireturn, 1) := by decide +kernel
theorem dX11_withPages_11 : decode cX11_withPages 11 = .ok (.aload_n 0, 1) := by decide +kernel
theorem dX11_withPages_12 : decode cX11_withPages 12 = .ok (.invokevirtual 388, 3) := by decide +kernel
theorem dX11_withPages_15 : decode cX11_withPages 15 = .ok (.iload_n 1, 1) := by decide +kernel
theorem dX11_withPages_16 : decode cX11_withPages 16 = .ok (.ifCond .ne 10, 3) := by decide +kernel
theorem dX11_withPages_19 : decode cX11_withPages 19 = .ok (.aload_n 0, 1) := by decide +kernel
theorem dX11_withPages_20 : decode cX11_withPages 20 = .ok (.getfield 350, 3) := by decide +kernel
theorem dX11_withPages_23 : decode cX11_withPages 23 = .ok (.goto 7, 3) := by decide +kernel
theorem dX11_withPages_26 : decode cX11_withPages 26 = .ok (.aload_n 0, 1) := by decide +kernel
theorem dX11_withPages_27 : decode cX11_withPages 27 = .ok (.invokevirtual 391, 3) := by decide +kernel
theorem dX11_withPages_30 : decode cX11_withPages 30 = .ok (.ireturn, 1) := by decide +kernel
theorem dX11_pagedPlan_0 : decode cX11_pagedPlan 0 = .ok (.aload_n 0, 1) := by decide +kernel
theorem dX11_pagedPlan_1 : decode cX11_pagedPlan 1 = .ok (.invokevirtual 388, 3) := by decide +kernel
theorem dX11_pagedPlan_4 : decode cX11_pagedPlan 4 = .ok (.aload_n 0, 1) := by decide +kernel
theorem dX11_pagedPlan_5 : decode cX11_pagedPlan 5 = .ok (.iload_n 1, 1) := by decide +kernel
theorem dX11_pagedPlan_6 : decode cX11_pagedPlan 6 = .ok (.iload_n 2, 1) := by decide +kernel
theorem dX11_pagedPlan_7 : decode cX11_pagedPlan 7 = .ok (.invokevirtual 373, 3) := by decide +kernel
theorem dX11_pagedPlan_10 : decode cX11_pagedPlan 10 = .ok (.ireturn, 1) := by decide +kernel
theorem dX11_pageFor_0 : decode cX11_pageFor 0 = .ok (.iload_n 1, 1) := by decide +kernel
theorem dX11_pageFor_1 : decode cX11_pageFor 1 = .ok (.iconst 0, 1) := by decide +kernel
theorem dX11_pageFor_2 : decode cX11_pageFor 2 = .ok (.aload_n 0, 1) := by decide +kernel
theorem dX11_pageFor_3 : decode cX11_pageFor 3 = .ok (.invokevirtual 291, 3) := by decide +kernel
theorem dX11_pageFor_6 : decode cX11_pageFor 6 = .ok (.iconst 1, 1) := by decide +kernel
theorem dX11_pageFor_7 : decode cX11_pageFor 7 = .ok (.isub, 1) := by decide +kernel
theorem dX11_pageFor_8 : decode cX11_pageFor 8 = .ok (.invokestatic 163, 3) := by decide +kernel
theorem dX11_pageFor_11 : decode cX11_pageFor 11 = .ok (.ifCond .ne 5, 3) := by decide +kernel
theorem dX11_pageFor_14 : decode cX11_pageFor 14 = .ok (.iconst (-1), 1) := by decide +kernel
theorem dX11_pageFor_15 : decode cX11_pageFor 15 = .ok (.ireturn, 1) := by decide +kernel
theorem dX11_pageFor_16 : decode cX11_pageFor 16 = .ok (.aload_n 0, 1) := by decide +kernel
theorem dX11_pageFor_17 : decode cX11_pageFor 17 = .ok (.invokevirtual 388, 3) := by decide +kernel
theorem dX11_pageFor_20 : decode cX11_pageFor 20 = .ok (.aload_n 0, 1) := by decide +kernel
theorem dX11_pageFor_21 : decode cX11_pageFor 21 = .ok (.getfield 63, 3) := by decide +kernel
theorem dX11_pageFor_24 : decode cX11_pageFor 24 = .ok (.iload_n 1, 1) := by decide +kernel
theorem dX11_pageFor_25 : decode cX11_pageFor 25 = .ok (.iaload, 1) := by decide +kernel
theorem dX11_pageFor_26 : decode cX11_pageFor 26 = .ok (.ireturn, 1) := by decide +kernel
theorem dX11_rightIn_0 : decode cX11_rightIn 0 = .ok (.iconst 0, 1) := by decide +kernel
theorem dX11_rightIn_1 : decode cX11_rightIn 1 = .ok (.istore_n 3, 1) := by decide +kernel
theorem dX11_rightIn_2 : decode cX11_rightIn 2 = .ok (.aload_n 0, 1) := by decide +kernel
theorem dX11_rightIn_3 : decode cX11_rightIn 3 = .ok (.iload_n 1, 1) := by decide +kernel
theorem dX11_rightIn_4 : decode cX11_rightIn 4 = .ok (.invokevirtual 353, 3) := by decide +kernel
theorem dX11_rightIn_7 : decode cX11_rightIn 7 = .ok (.istore 4, 2) := by decide +kernel
theorem dX11_rightIn_9 : decode cX11_rightIn 9 = .ok (.iload 4, 2) := by decide +kernel
theorem dX11_rightIn_11 : decode cX11_rightIn 11 = .ok (.istore 5, 2) := by decide +kernel
theorem dX11_rightIn_13 : decode cX11_rightIn 13 = .ok (.iload 5, 2) := by decide +kernel
theorem dX11_rightIn_15 : decode cX11_rightIn 15 = .ok (.iload 4, 2) := by decide +kernel
theorem dX11_rightIn_17 : decode cX11_rightIn 17 = .ok (.aload_n 0, 1) := by decide +kernel
theorem dX11_rightIn_18 : decode cX11_rightIn 18 = .ok (.iload_n 1, 1) := by decide +kernel
theorem dX11_rightIn_19 : decode cX11_rightIn 19 = .ok (.invokevirtual 312, 3) := by decide +kernel
theorem dX11_rightIn_22 : decode cX11_rightIn 22 = .ok (.iadd, 1) := by decide +kernel
theorem dX11_rightIn_23 : decode cX11_rightIn 23 = .ok (.if_icmp .ge 46, 3) := by decide +kernel
theorem dX11_rightIn_26 : decode cX11_rightIn 26 = .ok (.iload_n 3, 1) := by decide +kernel
theorem dX11_rightIn_27 : decode cX11_rightIn 27 = .ok (.aload_n 0, 1) := by decide +kernel
theorem dX11_rightIn_28 : decode cX11_rightIn 28 = .ok (.iload 5, 2) := by decide +kernel
theorem dX11_rightIn_30 : decode cX11_rightIn 30 = .ok (.invokevirtual 255, 3) := by decide +kernel
theorem dX11_rightIn_33 : decode cX11_rightIn 33 = .ok (.ifCond .ne 27, 3) := by decide +kernel
theorem dX11_rightIn_36 : decode cX11_rightIn 36 = .ok (.aload_n 0, 1) := by decide +kernel
theorem dX11_rightIn_37 : decode cX11_rightIn 37 = .ok (.getfield 36, 3) := by decide +kernel
theorem dX11_rightIn_40 : decode cX11_rightIn 40 = .ok (.aload_n 0, 1) := by decide +kernel
theorem dX11_rightIn_41 : decode cX11_rightIn 41 = .ok (.invokevirtual 240, 3) := by decide +kernel
theorem dX11_rightIn_44 : decode cX11_rightIn 44 = .ok (.iload 5, 2) := by decide +kernel
theorem dX11_rightIn_46 : decode cX11_rightIn 46 = .ok (.iadd, 1) := by decide +kernel
theorem dX11_rightIn_47 : decode cX11_rightIn 47 = .ok (.iaload, 1) := by decide +kernel
theorem dX11_rightIn_48 : decode cX11_rightIn 48 = .ok (.aload_n 0, 1) := by decide +kernel
theorem dX11_rightIn_49 : decode cX11_rightIn 49 = .ok (.iload_n 2, 1) := by decide +kernel
theorem dX11_rightIn_50 : decode cX11_rightIn 50 = .ok (.invokevirtual 318, 3) := by decide +kernel
theorem dX11_rightIn_53 : decode cX11_rightIn 53 = .ok (.if_icmp .ne 7, 3) := by decide +kernel
theorem dX11_rightIn_56 : decode cX11_rightIn 56 = .ok (.iconst 1, 1) := by decide +kernel
theorem dX11_rightIn_57 : decode cX11_rightIn 57 = .ok (.goto 4, 3) := by decide +kernel
theorem dX11_rightIn_60 : decode cX11_rightIn 60 = .ok (.iconst 0, 1) := by decide +kernel
theorem dX11_rightIn_61 : decode cX11_rightIn 61 = .ok (.iadd, 1) := by decide +kernel
theorem dX11_rightIn_62 : decode cX11_rightIn 62 = .ok (.istore_n 3, 1) := by decide +kernel
theorem dX11_rightIn_63 : decode cX11_rightIn 63 = .ok (.iinc 5 1, 3) := by decide +kernel
theorem dX11_rightIn_66 : decode cX11_rightIn 66 = .ok (.goto (-53), 3) := by decide +kernel
theorem dX11_rightIn_69 : decode cX11_rightIn 69 = .ok (.iload_n 3, 1) := by decide +kernel
theorem dX11_rightIn_70 : decode cX11_rightIn 70 = .ok (.ireturn, 1) := by decide +kernel
theorem dX11_layMost_0 : decode cX11_layMost 0 = .ok (.bipush 66, 2) := by decide +kernel
theorem dX11_layMost_2 : decode cX11_layMost 2 = .ok (.iload_n 1, 1) := by decide +kernel
theorem dX11_layMost_3 : decode cX11_layMost 3 = .ok (.imul, 1) := by decide +kernel
theorem dX11_layMost_4 : decode cX11_layMost 4 = .ok (.bipush 11, 2) := by decide +kernel
theorem dX11_layMost_6 : decode cX11_layMost 6 = .ok (.iload_n 2, 1) := by decide +kernel
theorem dX11_layMost_7 : decode cX11_layMost 7 = .ok (.imul, 1) := by decide +kernel
theorem dX11_layMost_8 : decode cX11_layMost 8 = .ok (.iadd, 1) := by decide +kernel
theorem dX11_layMost_9 : decode cX11_layMost 9 = .ok (.iload_n 3, 1) := by decide +kernel
theorem dX11_layMost_10 : decode cX11_layMost 10 = .ok (.iadd, 1) := by decide +kernel
theorem dX11_layMost_11 : decode cX11_layMost 11 = .ok (.istore 4, 2) := by decide +kernel
theorem dX11_layMost_13 : decode cX11_layMost 13 = .ok (.iload_n 3, 1) := by decide +kernel
theorem dX11_layMost_14 : decode cX11_layMost 14 = .ok (.ifCond .le 15, 3) := by decide +kernel
theorem dX11_layMost_17 : decode cX11_layMost 17 = .ok (.aload_n 0, 1) := by decide +kernel
theorem dX11_layMost_18 : decode cX11_layMost 18 = .ok (.getfield 67, 3) := by decide +kernel
theorem dX11_layMost_21 : decode cX11_layMost 21 = .ok (.iload 4, 2) := by decide +kernel
theorem dX11_layMost_23 : decode cX11_layMost 23 = .ok (.iconst 1, 1) := by decide +kernel
theorem dX11_layMost_24 : decode cX11_layMost 24 = .ok (.isub, 1) := by decide +kernel
theorem dX11_layMost_25 : decode cX11_layMost 25 = .ok (.iaload, 1) := by decide +kernel
theorem dX11_layMost_26 : decode cX11_layMost 26 = .ok (.goto 9, 3) := by decide +kernel
theorem dX11_layMost_29 : decode cX11_layMost 29 = .ok (.aload_n 0, 1) := by decide +kernel
theorem dX11_layMost_30 : decode cX11_layMost 30 = .ok (.iload_n 1, 1) := by decide +kernel
theorem dX11_layMost_31 : decode cX11_layMost 31 = .ok (.iload_n 2, 1) := by decide +kernel
theorem dX11_layMost_32 : decode cX11_layMost 32 = .ok (.invokevirtual 394, 3) := by decide +kernel
theorem dX11_layMost_35 : decode cX11_layMost 35 = .ok (.istore 5, 2) := by decide +kernel
theorem dX11_layMost_37 : decode cX11_layMost 37 = .ok (.iload_n 1, 1) := by decide +kernel
theorem dX11_layMost_38 : decode cX11_layMost 38 = .ok (.aload_n 0, 1) := by decide +kernel
theorem dX11_layMost_39 : decode cX11_layMost 39 = .ok (.invokevirtual 240, 3) := by decide +kernel
theorem dX11_layMost_42 : decode cX11_layMost 42 = .ok (.if_icmp .ge 67, 3) := by decide +kernel
theorem dX11_layMost_45 : decode cX11_layMost 45 = .ok (.iconst 0, 1) := by decide +kernel
theorem dX11_layMost_46 : decode cX11_layMost 46 = .ok (.istore 6, 2) := by decide +kernel
theorem dX11_layMost_48 : decode cX11_layMost 48 = .ok (.iload 6, 2) := by decide +kernel
theorem dX11_layMost_50 : decode cX11_layMost 50 = .ok (.iload_n 3, 1) := by decide +kernel
theorem dX11_layMost_51 : decode cX11_layMost 51 = .ok (.if_icmp .gt 58, 3) := by decide +kernel
theorem dX11_layMost_54 : decode cX11_layMost 54 = .ok (.iload 5, 2) := by decide +kernel
theorem dX11_layMost_56 : decode cX11_layMost 56 = .ok (.aload_n 0, 1) := by decide +kernel
theorem dX11_layMost_57 : decode cX11_layMost 57 = .ok (.getfield 67, 3) := by decide +kernel
theorem dX11_layMost_60 : decode cX11_layMost 60 = .ok (.sipush 132, 3) := by decide +kernel
theorem dX11_layMost_63 : decode cX11_layMost 63 = .ok (.iload_n 1, 1) := by decide +kernel
theorem dX11_layMost_64 : decode cX11_layMost 64 = .ok (.imul, 1) := by decide +kernel
theorem dX11_layMost_65 : decode cX11_layMost 65 = .ok (.bipush 11, 2) := by decide +kernel
theorem dX11_layMost_67 : decode cX11_layMost 67 = .ok (.iload_n 2, 1) := by decide +kernel
theorem dX11_layMost_68 : decode cX11_layMost 68 = .ok (.imul, 1) := by decide +kernel
theorem dX11_layMost_69 : decode cX11_layMost 69 = .ok (.iadd, 1) := by decide +kernel
theorem dX11_layMost_70 : decode cX11_layMost 70 = .ok (.iload 6, 2) := by decide +kernel
theorem dX11_layMost_72 : decode cX11_layMost 72 = .ok (.iadd, 1) := by decide +kernel
theorem dX11_layMost_73 : decode cX11_layMost 73 = .ok (.iaload, 1) := by decide +kernel
theorem dX11_layMost_74 : decode cX11_layMost 74 = .ok (.aload_n 0, 1) := by decide +kernel
theorem dX11_layMost_75 : decode cX11_layMost 75 = .ok (.getfield 67, 3) := by decide +kernel
theorem dX11_layMost_78 : decode cX11_layMost 78 = .ok (.bipush 66, 2) := by decide +kernel
theorem dX11_layMost_80 : decode cX11_layMost 80 = .ok (.iconst 2, 1) := by decide +kernel
theorem dX11_layMost_81 : decode cX11_layMost 81 = .ok (.iload_n 1, 1) := by decide +kernel
theorem dX11_layMost_82 : decode cX11_layMost 82 = .ok (.imul, 1) := by decide +kernel
theorem dX11_layMost_83 : decode cX11_layMost 83 = .ok (.iconst 1, 1) := by decide +kernel
theorem dX11_layMost_84 : decode cX11_layMost 84 = .ok (.iadd, 1) := by decide +kernel
theorem dX11_layMost_85 : decode cX11_layMost 85 = .ok (.imul, 1) := by decide +kernel
theorem dX11_layMost_86 : decode cX11_layMost 86 = .ok (.bipush 11, 2) := by decide +kernel
theorem dX11_layMost_88 : decode cX11_layMost 88 = .ok (.iload_n 2, 1) := by decide +kernel
theorem dX11_layMost_89 : decode cX11_layMost 89 = .ok (.imul, 1) := by decide +kernel
theorem dX11_layMost_90 : decode cX11_layMost 90 = .ok (.iadd, 1) := by decide +kernel
theorem dX11_layMost_91 : decode cX11_layMost 91 = .ok (.iload_n 3, 1) := by decide +kernel
theorem dX11_layMost_92 : decode cX11_layMost 92 = .ok (.iadd, 1) := by decide +kernel
theorem dX11_layMost_93 : decode cX11_layMost 93 = .ok (.iload 6, 2) := by decide +kernel
theorem dX11_layMost_95 : decode cX11_layMost 95 = .ok (.isub, 1) := by decide +kernel
theorem dX11_layMost_96 : decode cX11_layMost 96 = .ok (.iaload, 1) := by decide +kernel
theorem dX11_layMost_97 : decode cX11_layMost 97 = .ok (.iadd, 1) := by decide +kernel
theorem dX11_layMost_98 : decode cX11_layMost 98 = .ok (.invokestatic 397, 3) := by decide +kernel
theorem dX11_layMost_101 : decode cX11_layMost 101 = .ok (.istore 5, 2) := by decide +kernel
theorem dX11_layMost_103 : decode cX11_layMost 103 = .ok (.iinc 6 1, 3) := by decide +kernel
theorem dX11_layMost_106 : decode cX11_layMost 106 = .ok (.goto (-58), 3) := by decide +kernel
theorem dX11_layMost_109 : decode cX11_layMost 109 = .ok (.iconst 0, 1) := by decide +kernel
theorem dX11_layMost_110 : decode cX11_layMost 110 = .ok (.istore 6, 2) := by decide +kernel
theorem dX11_layMost_112 : decode cX11_layMost 112 = .ok (.iload 6, 2) := by decide +kernel
theorem dX11_layMost_114 : decode cX11_layMost 114 = .ok (.iconst 5, 1) := by decide +kernel
theorem dX11_layMost_115 : decode cX11_layMost 115 = .ok (.if_icmp .ge 52, 3) := by decide +kernel
theorem dX11_layMost_118 : decode cX11_layMost 118 = .ok (.iload_n 3, 1) := by decide +kernel
theorem dX11_layMost_119 : decode cX11_layMost 119 = .ok (.ifCond .le 48, 3) := by decide +kernel
theorem dX11_layMost_122 : decode cX11_layMost 122 = .ok (.iload_n 2, 1) := by decide +kernel
theorem dX11_layMost_123 : decode cX11_layMost 123 = .ok (.iload 6, 2) := by decide +kernel
theorem dX11_layMost_125 : decode cX11_layMost 125 = .ok (.invokestatic 332, 3) := by decide +kernel
theorem dX11_layMost_128 : decode cX11_layMost 128 = .ok (.ifCond .lt 33, 3) := by decide +kernel
theorem dX11_layMost_131 : decode cX11_layMost 131 = .ok (.iload 5, 2) := by decide +kernel
theorem dX11_layMost_133 : decode cX11_layMost 133 = .ok (.aload_n 0, 1) := by decide +kernel
theorem dX11_layMost_134 : decode cX11_layMost 134 = .ok (.getfield 67, 3) := by decide +kernel
theorem dX11_layMost_137 : decode cX11_layMost 137 = .ok (.bipush 66, 2) := by decide +kernel
theorem dX11_layMost_139 : decode cX11_layMost 139 = .ok (.iload_n 1, 1) := by decide +kernel
theorem dX11_layMost_140 : decode cX11_layMost 140 = .ok (.imul, 1) := by decide +kernel
theorem dX11_layMost_141 : decode cX11_layMost 141 = .ok (.bipush 11, 2) := by decide +kernel
theorem dX11_layMost_143 : decode cX11_layMost 143 = .ok (.iload_n 2, 1) := by decide +kernel
theorem dX11_layMost_144 : decode cX11_layMost 144 = .ok (.iload 6, 2) := by decide +kernel
theorem dX11_layMost_146 : decode cX11_layMost 146 = .ok (.invokestatic 332, 3) := by decide +kernel
theorem dX11_layMost_149 : decode cX11_layMost 149 = .ok (.imul, 1) := by decide +kernel
theorem dX11_layMost_150 : decode cX11_layMost 150 = .ok (.iadd, 1) := by decide +kernel
theorem dX11_layMost_151 : decode cX11_layMost 151 = .ok (.iload_n 3, 1) := by decide +kernel
theorem dX11_layMost_152 : decode cX11_layMost 152 = .ok (.iadd, 1) := by decide +kernel
theorem dX11_layMost_153 : decode cX11_layMost 153 = .ok (.iconst 1, 1) := by decide +kernel
theorem dX11_layMost_154 : decode cX11_layMost 154 = .ok (.isub, 1) := by decide +kernel
theorem dX11_layMost_155 : decode cX11_layMost 155 = .ok (.iaload, 1) := by decide +kernel
theorem dX11_layMost_156 : decode cX11_layMost 156 = .ok (.invokestatic 397, 3) := by decide +kernel
theorem dX11_layMost_159 : decode cX11_layMost 159 = .ok (.istore 5, 2) := by decide +kernel
theorem dX11_layMost_161 : decode cX11_layMost 161 = .ok (.iinc 6 1, 3) := by decide +kernel
theorem dX11_layMost_164 : decode cX11_layMost 164 = .ok (.goto (-52), 3) := by decide +kernel
theorem dX11_layMost_167 : decode cX11_layMost 167 = .ok (.aload_n 0, 1) := by decide +kernel
theorem dX11_layMost_168 : decode cX11_layMost 168 = .ok (.getfield 67, 3) := by decide +kernel
theorem dX11_layMost_171 : decode cX11_layMost 171 = .ok (.iload 4, 2) := by decide +kernel
theorem dX11_layMost_173 : decode cX11_layMost 173 = .ok (.iload 5, 2) := by decide +kernel
theorem dX11_layMost_175 : decode cX11_layMost 175 = .ok (.iastore, 1) := by decide +kernel
theorem dX11_layMost_176 : decode cX11_layMost 176 = .ok (.return_, 1) := by decide +kernel
theorem dX11_layAllMost_0 : decode cX11_layAllMost 0 = .ok (.aload_n 0, 1) := by decide +kernel
theorem dX11_layAllMost_1 : decode cX11_layAllMost 1 = .ok (.aload_n 0, 1) := by decide +kernel
theorem dX11_layAllMost_2 : decode cX11_layAllMost 2 = .ok (.getfield 7, 3) := by decide +kernel
theorem dX11_layAllMost_5 : decode cX11_layAllMost 5 = .ok (.iconst 0, 1) := by decide +kernel
theorem dX11_layAllMost_6 : decode cX11_layAllMost 6 = .ok (.iaload, 1) := by decide +kernel
theorem dX11_layAllMost_7 : decode cX11_layAllMost 7 = .ok (.invokevirtual 335, 3) := by decide +kernel
theorem dX11_layAllMost_10 : decode cX11_layAllMost 10 = .ok (.iconst 2, 1) := by decide +kernel
theorem dX11_layAllMost_11 : decode cX11_layAllMost 11 = .ok (.aload_n 0, 1) := by decide +kernel
theorem dX11_layAllMost_12 : decode cX11_layAllMost 12 = .ok (.invokevirtual 240, 3) := by decide +kernel
theorem dX11_layAllMost_15 : decode cX11_layAllMost 15 = .ok (.imul, 1) := by decide +kernel
theorem dX11_layAllMost_16 : decode cX11_layAllMost 16 = .ok (.iconst 1, 1) := by decide +kernel
theorem dX11_layAllMost_17 : decode cX11_layAllMost 17 = .ok (.isub, 1) := by decide +kernel
theorem dX11_layAllMost_18 : decode cX11_layAllMost 18 = .ok (.istore_n 2, 1) := by decide +kernel
theorem dX11_layAllMost_19 : decode cX11_layAllMost 19 = .ok (.iload_n 2, 1) := by decide +kernel
theorem dX11_layAllMost_20 : decode cX11_layAllMost 20 = .ok (.ifCond .le 49, 3) := by decide +kernel
theorem dX11_layAllMost_23 : decode cX11_layAllMost 23 = .ok (.iconst 0, 1) := by decide +kernel
theorem dX11_layAllMost_24 : decode cX11_layAllMost 24 = .ok (.istore_n 3, 1) := by decide +kernel
theorem dX11_layAllMost_25 : decode cX11_layAllMost 25 = .ok (.iload_n 3, 1) := by decide +kernel
theorem dX11_layAllMost_26 : decode cX11_layAllMost 26 = .ok (.bipush 6, 2) := by decide +kernel
theorem dX11_layAllMost_28 : decode cX11_layAllMost 28 = .ok (.if_icmp .ge 35, 3) := by decide +kernel
theorem dX11_layAllMost_31 : decode cX11_layAllMost 31 = .ok (.iconst 0, 1) := by decide +kernel
theorem dX11_layAllMost_32 : decode cX11_layAllMost 32 = .ok (.istore 4, 2) := by decide +kernel
theorem dX11_layAllMost_34 : decode cX11_layAllMost 34 = .ok (.iload 4, 2) := by decide +kernel
theorem dX11_layAllMost_36 : decode cX11_layAllMost 36 = .ok (.iload_n 1, 1) := by decide +kernel
theorem dX11_layAllMost_37 : decode cX11_layAllMost 37 = .ok (.if_icmp .gt 20, 3) := by decide +kernel
theorem dX11_layAllMost_40 : decode cX11_layAllMost 40 = .ok (.aload_n 0, 1) := by decide +kernel
theorem dX11_layAllMost_41 : decode cX11_layAllMost 41 = .ok (.iload_n 2, 1) := by decide +kernel
theorem dX11_layAllMost_42 : decode cX11_layAllMost 42 = .ok (.iload_n 3, 1) := by decide +kernel
theorem dX11_layAllMost_43 : decode cX11_layAllMost 43 = .ok (.invokestatic 322, 3) := by decide +kernel
theorem dX11_layAllMost_46 : decode cX11_layAllMost 46 = .ok (.iload 4, 2) := by decide +kernel
theorem dX11_layAllMost_48 : decode cX11_layAllMost 48 = .ok (.invokevirtual 400, 3) := by decide +kernel
theorem dX11_layAllMost_51 : decode cX11_layAllMost 51 = .ok (.iinc 4 1, 3) := by decide +kernel
theorem dX11_layAllMost_54 : decode cX11_layAllMost 54 = .ok (.goto (-20), 3) := by decide +kernel
theorem dX11_layAllMost_57 : decode cX11_layAllMost 57 = .ok (.iinc 3 1, 3) := by decide +kernel
theorem dX11_layAllMost_60 : decode cX11_layAllMost 60 = .ok (.goto (-35), 3) := by decide +kernel
theorem dX11_layAllMost_63 : decode cX11_layAllMost 63 = .ok (.iinc 2 (-1), 3) := by decide +kernel
theorem dX11_layAllMost_66 : decode cX11_layAllMost 66 = .ok (.goto (-47), 3) := by decide +kernel
theorem dX11_layAllMost_69 : decode cX11_layAllMost 69 = .ok (.aload_n 0, 1) := by decide +kernel
theorem dX11_layAllMost_70 : decode cX11_layAllMost 70 = .ok (.getfield 67, 3) := by decide +kernel
theorem dX11_layAllMost_73 : decode cX11_layAllMost 73 = .ok (.bipush 121, 2) := by decide +kernel
theorem dX11_layAllMost_75 : decode cX11_layAllMost 75 = .ok (.iload_n 1, 1) := by decide +kernel
theorem dX11_layAllMost_76 : decode cX11_layAllMost 76 = .ok (.iadd, 1) := by decide +kernel
theorem dX11_layAllMost_77 : decode cX11_layAllMost 77 = .ok (.iaload, 1) := by decide +kernel
theorem dX11_layAllMost_78 : decode cX11_layAllMost 78 = .ok (.ireturn, 1) := by decide +kernel
theorem dX11_most_0 : decode cX11_most 0 = .ok (.iload_n 1, 1) := by decide +kernel
theorem dX11_most_1 : decode cX11_most 1 = .ok (.iconst 0, 1) := by decide +kernel
theorem dX11_most_2 : decode cX11_most 2 = .ok (.bipush 10, 2) := by decide +kernel
theorem dX11_most_4 : decode cX11_most 4 = .ok (.invokestatic 163, 3) := by decide +kernel
theorem dX11_most_7 : decode cX11_most 7 = .ok (.ifCond .eq 11, 3) := by decide +kernel
theorem dX11_most_10 : decode cX11_most 10 = .ok (.aload_n 0, 1) := by decide +kernel
theorem dX11_most_11 : decode cX11_most 11 = .ok (.iload_n 1, 1) := by decide +kernel
theorem dX11_most_12 : decode cX11_most 12 = .ok (.invokevirtual 404, 3) := by decide +kernel
theorem dX11_most_15 : decode cX11_most 15 = .ok (.goto 4, 3) := by decide +kernel
theorem dX11_most_18 : decode cX11_most 18 = .ok (.iconst (-1), 1) := by decide +kernel
theorem dX11_most_19 : decode cX11_most 19 = .ok (.ireturn, 1) := by decide +kernel
theorem dX11_mostAt_0 : decode cX11_mostAt 0 = .ok (.aload_n 0, 1) := by decide +kernel
theorem dX11_mostAt_1 : decode cX11_mostAt 1 = .ok (.getfield 67, 3) := by decide +kernel
theorem dX11_mostAt_4 : decode cX11_mostAt 4 = .ok (.bipush 66, 2) := by decide +kernel
theorem dX11_mostAt_6 : decode cX11_mostAt 6 = .ok (.iload_n 1, 1) := by decide +kernel
theorem dX11_mostAt_7 : decode cX11_mostAt 7 = .ok (.imul, 1) := by decide +kernel
theorem dX11_mostAt_8 : decode cX11_mostAt 8 = .ok (.bipush 11, 2) := by decide +kernel
theorem dX11_mostAt_10 : decode cX11_mostAt 10 = .ok (.iload_n 2, 1) := by decide +kernel
theorem dX11_mostAt_11 : decode cX11_mostAt 11 = .ok (.imul, 1) := by decide +kernel
theorem dX11_mostAt_12 : decode cX11_mostAt 12 = .ok (.iadd, 1) := by decide +kernel
theorem dX11_mostAt_13 : decode cX11_mostAt 13 = .ok (.iload_n 3, 1) := by decide +kernel
theorem dX11_mostAt_14 : decode cX11_mostAt 14 = .ok (.iadd, 1) := by decide +kernel
theorem dX11_mostAt_15 : decode cX11_mostAt 15 = .ok (.iaload, 1) := by decide +kernel
theorem dX11_mostAt_16 : decode cX11_mostAt 16 = .ok (.ireturn, 1) := by decide +kernel
theorem dX11_waitsWith_0 : decode cX11_waitsWith 0 = .ok (.aload_n 0, 1) := by decide +kernel
theorem dX11_waitsWith_1 : decode cX11_waitsWith 1 = .ok (.getfield 70, 3) := by decide +kernel
theorem dX11_waitsWith_4 : decode cX11_waitsWith 4 = .ok (.aload_n 0, 1) := by decide +kernel
theorem dX11_waitsWith_5 : decode cX11_waitsWith 5 = .ok (.getfield 347, 3) := by decide +kernel
theorem dX11_waitsWith_8 : decode cX11_waitsWith 8 = .ok (.iload_n 3, 1) := by decide +kernel
theorem dX11_waitsWith_9 : decode cX11_waitsWith 9 = .ok (.iastore, 1) := by decide +kernel
theorem dX11_waitsWith_10 : decode cX11_waitsWith 10 = .ok (.aload_n 0, 1) := by decide +kernel
theorem dX11_waitsWith_11 : decode cX11_waitsWith 11 = .ok (.iload_n 1, 1) := by decide +kernel
theorem dX11_waitsWith_12 : decode cX11_waitsWith 12 = .ok (.iload_n 2, 1) := by decide +kernel
theorem dX11_waitsWith_13 : decode cX11_waitsWith 13 = .ok (.invokevirtual 356, 3) := by decide +kernel
theorem dX11_waitsWith_16 : decode cX11_waitsWith 16 = .ok (.return_, 1) := by decide +kernel
theorem dX11_laySetAt_0 : decode cX11_laySetAt 0 = .ok (.aload_n 0, 1) := by decide +kernel
theorem dX11_laySetAt_1 : decode cX11_laySetAt 1 = .ok (.iload_n 1, 1) := by decide +kernel
theorem dX11_laySetAt_2 : decode cX11_laySetAt 2 = .ok (.iload_n 2, 1) := by decide +kernel
theorem dX11_laySetAt_3 : decode cX11_laySetAt 3 = .ok (.iload_n 3, 1) := by decide +kernel
theorem dX11_laySetAt_4 : decode cX11_laySetAt 4 = .ok (.invokevirtual 413, 3) := by decide +kernel
theorem dX11_laySetAt_7 : decode cX11_laySetAt 7 = .ok (.istore 4, 2) := by decide +kernel
theorem dX11_laySetAt_9 : decode cX11_laySetAt 9 = .ok (.aload_n 0, 1) := by decide +kernel
theorem dX11_laySetAt_10 : decode cX11_laySetAt 10 = .ok (.iload_n 1, 1) := by decide +kernel
theorem dX11_laySetAt_11 : decode cX11_laySetAt 11 = .ok (.iload_n 2, 1) := by decide +kernel
theorem dX11_laySetAt_12 : decode cX11_laySetAt 12 = .ok (.invokevirtual 394, 3) := by decide +kernel
theorem dX11_laySetAt_15 : decode cX11_laySetAt 15 = .ok (.iload 4, 2) := by decide +kernel
theorem dX11_laySetAt_17 : decode cX11_laySetAt 17 = .ok (.if_icmp .ne 4, 3) := by decide +kernel
theorem dX11_laySetAt_20 : decode cX11_laySetAt 20 = .ok (.return_, 1) := by decide +kernel
theorem dX11_laySetAt_21 : decode cX11_laySetAt 21 = .ok (.iconst 0, 1) := by decide +kernel
theorem dX11_laySetAt_22 : decode cX11_laySetAt 22 = .ok (.istore 5, 2) := by decide +kernel
theorem dX11_laySetAt_24 : decode cX11_laySetAt 24 = .ok (.iload 5, 2) := by decide +kernel
theorem dX11_laySetAt_26 : decode cX11_laySetAt 26 = .ok (.iload_n 3, 1) := by decide +kernel
theorem dX11_laySetAt_27 : decode cX11_laySetAt 27 = .ok (.if_icmp .gt 75, 3) := by decide +kernel
theorem dX11_laySetAt_30 : decode cX11_laySetAt 30 = .ok (.iload_n 1, 1) := by decide +kernel
theorem dX11_laySetAt_31 : decode cX11_laySetAt 31 = .ok (.aload_n 0, 1) := by decide +kernel
theorem dX11_laySetAt_32 : decode cX11_laySetAt 32 = .ok (.invokevirtual 240, 3) := by decide +kernel
theorem dX11_laySetAt_35 : decode cX11_laySetAt 35 = .ok (.if_icmp .ge 67, 3) := by decide +kernel
theorem dX11_laySetAt_38 : decode cX11_laySetAt 38 = .ok (.aload_n 0, 1) := by decide +kernel
theorem dX11_laySetAt_39 : decode cX11_laySetAt 39 = .ok (.iconst 2, 1) := by decide +kernel
theorem dX11_laySetAt_40 : decode cX11_laySetAt 40 = .ok (.iload_n 1, 1) := by decide +kernel
theorem dX11_laySetAt_41 : decode cX11_laySetAt 41 = .ok (.imul, 1) := by decide +kernel
theorem dX11_laySetAt_42 : decode cX11_laySetAt 42 = .ok (.iload_n 2, 1) := by decide +kernel
theorem dX11_laySetAt_43 : decode cX11_laySetAt 43 = .ok (.iload 5, 2) := by decide +kernel
theorem dX11_laySetAt_45 : decode cX11_laySetAt 45 = .ok (.invokevirtual 413, 3) := by decide +kernel
theorem dX11_laySetAt_48 : decode cX11_laySetAt 48 = .ok (.aload_n 0, 1) := by decide +kernel
theorem dX11_laySetAt_49 : decode cX11_laySetAt 49 = .ok (.iconst 2, 1) := by decide +kernel
theorem dX11_laySetAt_50 : decode cX11_laySetAt 50 = .ok (.iload_n 1, 1) := by decide +kernel
theorem dX11_laySetAt_51 : decode cX11_laySetAt 51 = .ok (.imul, 1) := by decide +kernel
theorem dX11_laySetAt_52 : decode cX11_laySetAt 52 = .ok (.iconst 1, 1) := by decide +kernel
theorem dX11_laySetAt_53 : decode cX11_laySetAt 53 = .ok (.iadd, 1) := by decide +kernel
theorem dX11_laySetAt_54 : decode cX11_laySetAt 54 = .ok (.iload_n 2, 1) := by decide +kernel
theorem dX11_laySetAt_55 : decode cX11_laySetAt 55 = .ok (.iload_n 3, 1) := by decide +kernel
theorem dX11_laySetAt_56 : decode cX11_laySetAt 56 = .ok (.iload 5, 2) := by decide +kernel
theorem dX11_laySetAt_58 : decode cX11_laySetAt 58 = .ok (.isub, 1) := by decide +kernel
theorem dX11_laySetAt_59 : decode cX11_laySetAt 59 = .ok (.invokevirtual 413, 3) := by decide +kernel
theorem dX11_laySetAt_62 : decode cX11_laySetAt 62 = .ok (.iadd, 1) := by decide +kernel
theorem dX11_laySetAt_63 : decode cX11_laySetAt 63 = .ok (.iload 4, 2) := by decide +kernel
theorem dX11_laySetAt_65 : decode cX11_laySetAt 65 = .ok (.if_icmp .eq 6, 3) := by decide +kernel
theorem dX11_laySetAt_68 : decode cX11_laySetAt 68 = .ok (.goto 28, 3) := by decide +kernel
theorem dX11_laySetAt_71 : decode cX11_laySetAt 71 = .ok (.aload_n 0, 1) := by decide +kernel
theorem dX11_laySetAt_72 : decode cX11_laySetAt 72 = .ok (.iconst 2, 1) := by decide +kernel
theorem dX11_laySetAt_73 : decode cX11_laySetAt 73 = .ok (.iload_n 1, 1) := by decide +kernel
theorem dX11_laySetAt_74 : decode cX11_laySetAt 74 = .ok (.imul, 1) := by decide +kernel
theorem dX11_laySetAt_75 : decode cX11_laySetAt 75 = .ok (.iconst 1, 1) := by decide +kernel
theorem dX11_laySetAt_76 : decode cX11_laySetAt 76 = .ok (.iadd, 1) := by decide +kernel
theorem dX11_laySetAt_77 : decode cX11_laySetAt 77 = .ok (.iload_n 2, 1) := by decide +kernel
theorem dX11_laySetAt_78 : decode cX11_laySetAt 78 = .ok (.iload_n 3, 1) := by decide +kernel
theorem dX11_laySetAt_79 : decode cX11_laySetAt 79 = .ok (.iload 5, 2) := by decide +kernel
theorem dX11_laySetAt_81 : decode cX11_laySetAt 81 = .ok (.isub, 1) := by decide +kernel
theorem dX11_laySetAt_82 : decode cX11_laySetAt 82 = .ok (.invokevirtual 407, 3) := by decide +kernel
theorem dX11_laySetAt_85 : decode cX11_laySetAt 85 = .ok (.aload_n 0, 1) := by decide +kernel
theorem dX11_laySetAt_86 : decode cX11_laySetAt 86 = .ok (.iconst 2, 1) := by decide +kernel
theorem dX11_laySetAt_87 : decode cX11_laySetAt 87 = .ok (.iload_n 1, 1) := by decide +kernel
theorem dX11_laySetAt_88 : decode cX11_laySetAt 88 = .ok (.imul, 1) := by decide +kernel
theorem dX11_laySetAt_89 : decode cX11_laySetAt 89 = .ok (.iload_n 2, 1) := by decide +kernel
theorem dX11_laySetAt_90 : decode cX11_laySetAt 90 = .ok (.iload 5, 2) := by decide +kernel
theorem dX11_laySetAt_92 : decode cX11_laySetAt 92 = .ok (.invokevirtual 407, 3) := by decide +kernel
theorem dX11_laySetAt_95 : decode cX11_laySetAt 95 = .ok (.return_, 1) := by decide +kernel
theorem dX11_laySetAt_96 : decode cX11_laySetAt 96 = .ok (.iinc 5 1, 3) := by decide +kernel
theorem dX11_laySetAt_99 : decode cX11_laySetAt 99 = .ok (.goto (-75), 3) := by decide +kernel
theorem dX11_laySetAt_102 : decode cX11_laySetAt 102 = .ok (.iconst 0, 1) := by decide +kernel
theorem dX11_laySetAt_103 : decode cX11_laySetAt 103 = .ok (.istore 5, 2) := by decide +kernel
theorem dX11_laySetAt_105 : decode cX11_laySetAt 105 = .ok (.iload_n 2, 1) := by decide +kernel
theorem dX11_laySetAt_106 : decode cX11_laySetAt 106 = .ok (.iload 5, 2) := by decide +kernel
theorem dX11_laySetAt_108 : decode cX11_laySetAt 108 = .ok (.invokestatic 332, 3) := by decide +kernel
theorem dX11_laySetAt_111 : decode cX11_laySetAt 111 = .ok (.ifCond .lt 22, 3) := by decide +kernel
theorem dX11_laySetAt_114 : decode cX11_laySetAt 114 = .ok (.aload_n 0, 1) := by decide +kernel
theorem dX11_laySetAt_115 : decode cX11_laySetAt 115 = .ok (.iload_n 1, 1) := by decide +kernel
theorem dX11_laySetAt_116 : decode cX11_laySetAt 116 = .ok (.iload_n 2, 1) := by decide +kernel
theorem dX11_laySetAt_117 : decode cX11_laySetAt 117 = .ok (.iload 5, 2) := by decide +kernel
theorem dX11_laySetAt_119 : decode cX11_laySetAt 119 = .ok (.invokestatic 332, 3) := by decide +kernel
theorem dX11_laySetAt_122 : decode cX11_laySetAt 122 = .ok (.iload_n 3, 1) := by decide +kernel
theorem dX11_laySetAt_123 : decode cX11_laySetAt 123 = .ok (.iconst 1, 1) := by decide +kernel
theorem dX11_laySetAt_124 : decode cX11_laySetAt 124 = .ok (.isub, 1) := by decide +kernel
theorem dX11_laySetAt_125 : decode cX11_laySetAt 125 = .ok (.invokevirtual 413, 3) := by decide +kernel
theorem dX11_laySetAt_128 : decode cX11_laySetAt 128 = .ok (.iload 4, 2) := by decide +kernel
theorem dX11_laySetAt_130 : decode cX11_laySetAt 130 = .ok (.if_icmp .eq 9, 3) := by decide +kernel
theorem dX11_laySetAt_133 : decode cX11_laySetAt 133 = .ok (.iinc 5 1, 3) := by decide +kernel
theorem dX11_laySetAt_136 : decode cX11_laySetAt 136 = .ok (.goto (-31), 3) := by decide +kernel
theorem dX11_laySetAt_139 : decode cX11_laySetAt 139 = .ok (.aload_n 0, 1) := by decide +kernel
theorem dX11_laySetAt_140 : decode cX11_laySetAt 140 = .ok (.iload_n 1, 1) := by decide +kernel
theorem dX11_laySetAt_141 : decode cX11_laySetAt 141 = .ok (.iload 5, 2) := by decide +kernel
theorem dX11_laySetAt_143 : decode cX11_laySetAt 143 = .ok (.invokevirtual 360, 3) := by decide +kernel
theorem dX11_laySetAt_146 : decode cX11_laySetAt 146 = .ok (.aload_n 0, 1) := by decide +kernel
theorem dX11_laySetAt_147 : decode cX11_laySetAt 147 = .ok (.iload_n 1, 1) := by decide +kernel
theorem dX11_laySetAt_148 : decode cX11_laySetAt 148 = .ok (.iload_n 2, 1) := by decide +kernel
theorem dX11_laySetAt_149 : decode cX11_laySetAt 149 = .ok (.iload 5, 2) := by decide +kernel
theorem dX11_laySetAt_151 : decode cX11_laySetAt 151 = .ok (.invokestatic 332, 3) := by decide +kernel
theorem dX11_laySetAt_154 : decode cX11_laySetAt 154 = .ok (.iload_n 3, 1) := by decide +kernel
theorem dX11_laySetAt_155 : decode cX11_laySetAt 155 = .ok (.iconst 1, 1) := by decide +kernel
theorem dX11_laySetAt_156 : decode cX11_laySetAt 156 = .ok (.isub, 1) := by decide +kernel
theorem dX11_laySetAt_157 : decode cX11_laySetAt 157 = .ok (.invokevirtual 407, 3) := by decide +kernel
theorem dX11_laySetAt_160 : decode cX11_laySetAt 160 = .ok (.return_, 1) := by decide +kernel
theorem dX11_laySet_0 : decode cX11_laySet 0 = .ok (.aload_n 0, 1) := by decide +kernel
theorem dX11_laySet_1 : decode cX11_laySet 1 = .ok (.iconst 0, 1) := by decide +kernel
theorem dX11_laySet_2 : decode cX11_laySet 2 = .ok (.putfield 350, 3) := by decide +kernel
theorem dX11_laySet_5 : decode cX11_laySet 5 = .ok (.aload_n 0, 1) := by decide +kernel
theorem dX11_laySet_6 : decode cX11_laySet 6 = .ok (.iconst 0, 1) := by decide +kernel
theorem dX11_laySet_7 : decode cX11_laySet 7 = .ok (.putfield 347, 3) := by decide +kernel
theorem dX11_laySet_10 : decode cX11_laySet 10 = .ok (.aload_n 0, 1) := by decide +kernel
theorem dX11_laySet_11 : decode cX11_laySet 11 = .ok (.iload_n 1, 1) := by decide +kernel
theorem dX11_laySet_12 : decode cX11_laySet 12 = .ok (.invokevirtual 404, 3) := by decide +kernel
theorem dX11_laySet_15 : decode cX11_laySet 15 = .ok (.ifCond .lt 10, 3) := by decide +kernel
theorem dX11_laySet_18 : decode cX11_laySet 18 = .ok (.aload_n 0, 1) := by decide +kernel
theorem dX11_laySet_19 : decode cX11_laySet 19 = .ok (.iconst 1, 1) := by decide +kernel
theorem dX11_laySet_20 : decode cX11_laySet 20 = .ok (.iconst 5, 1) := by decide +kernel
theorem dX11_laySet_21 : decode cX11_laySet 21 = .ok (.iload_n 1, 1) := by decide +kernel
theorem dX11_laySet_22 : decode cX11_laySet 22 = .ok (.invokevirtual 407, 3) := by decide +kernel
theorem dX11_laySet_25 : decode cX11_laySet 25 = .ok (.aload_n 0, 1) := by decide +kernel
theorem dX11_laySet_26 : decode cX11_laySet 26 = .ok (.getfield 347, 3) := by decide +kernel
theorem dX11_laySet_29 : decode cX11_laySet 29 = .ok (.ifCond .le 47, 3) := by decide +kernel
theorem dX11_laySet_32 : decode cX11_laySet 32 = .ok (.aload_n 0, 1) := by decide +kernel
theorem dX11_laySet_33 : decode cX11_laySet 33 = .ok (.dup, 1) := by decide +kernel
theorem dX11_laySet_34 : decode cX11_laySet 34 = .ok (.getfield 347, 3) := by decide +kernel
theorem dX11_laySet_37 : decode cX11_laySet 37 = .ok (.iconst 1, 1) := by decide +kernel
theorem dX11_laySet_38 : decode cX11_laySet 38 = .ok (.isub, 1) := by decide +kernel
theorem dX11_laySet_39 : decode cX11_laySet 39 = .ok (.putfield 347, 3) := by decide +kernel
theorem dX11_laySet_42 : decode cX11_laySet 42 = .ok (.aload_n 0, 1) := by decide +kernel
theorem dX11_laySet_43 : decode cX11_laySet 43 = .ok (.aload_n 0, 1) := by decide +kernel
theorem dX11_laySet_44 : decode cX11_laySet 44 = .ok (.getfield 48, 3) := by decide +kernel
theorem dX11_laySet_47 : decode cX11_laySet 47 = .ok (.aload_n 0, 1) := by decide +kernel
theorem dX11_laySet_48 : decode cX11_laySet 48 = .ok (.getfield 347, 3) := by decide +kernel
theorem dX11_laySet_51 : decode cX11_laySet 51 = .ok (.iaload, 1) := by decide +kernel
theorem dX11_laySet_52 : decode cX11_laySet 52 = .ok (.aload_n 0, 1) := by decide +kernel
theorem dX11_laySet_53 : decode cX11_laySet 53 = .ok (.getfield 51, 3) := by decide +kernel
theorem dX11_laySet_56 : decode cX11_laySet 56 = .ok (.aload_n 0, 1) := by decide +kernel
theorem dX11_laySet_57 : decode cX11_laySet 57 = .ok (.getfield 347, 3) := by decide +kernel
theorem dX11_laySet_60 : decode cX11_laySet 60 = .ok (.iaload, 1) := by decide +kernel
theorem dX11_laySet_61 : decode cX11_laySet 61 = .ok (.aload_n 0, 1) := by decide +kernel
theorem dX11_laySet_62 : decode cX11_laySet 62 = .ok (.getfield 70, 3) := by decide +kernel
theorem dX11_laySet_65 : decode cX11_laySet 65 = .ok (.aload_n 0, 1) := by decide +kernel
theorem dX11_laySet_66 : decode cX11_laySet 66 = .ok (.getfield 347, 3) := by decide +kernel
theorem dX11_laySet_69 : decode cX11_laySet 69 = .ok (.iaload, 1) := by decide +kernel
theorem dX11_laySet_70 : decode cX11_laySet 70 = .ok (.invokevirtual 410, 3) := by decide +kernel
theorem dX11_laySet_73 : decode cX11_laySet 73 = .ok (.goto (-48), 3) := by decide +kernel
theorem dX11_laySet_76 : decode cX11_laySet 76 = .ok (.return_, 1) := by decide +kernel
theorem dX11_bestSet_0 : decode cX11_bestSet 0 = .ok (.iload_n 1, 1) := by decide +kernel
theorem dX11_bestSet_1 : decode cX11_bestSet 1 = .ok (.iconst 0, 1) := by decide +kernel
theorem dX11_bestSet_2 : decode cX11_bestSet 2 = .ok (.bipush 10, 2) := by decide +kernel
theorem dX11_bestSet_4 : decode cX11_bestSet 4 = .ok (.invokestatic 163, 3) := by decide +kernel
theorem dX11_bestSet_7 : decode cX11_bestSet 7 = .ok (.ifCond .ne 5, 3) := by decide +kernel
theorem dX11_bestSet_10 : decode cX11_bestSet 10 = .ok (.iconst (-1), 1) := by decide +kernel
theorem dX11_bestSet_11 : decode cX11_bestSet 11 = .ok (.ireturn, 1) := by decide +kernel
theorem dX11_bestSet_12 : decode cX11_bestSet 12 = .ok (.aload_n 0, 1) := by decide +kernel
theorem dX11_bestSet_13 : decode cX11_bestSet 13 = .ok (.iload_n 1, 1) := by decide +kernel
theorem dX11_bestSet_14 : decode cX11_bestSet 14 = .ok (.invokevirtual 417, 3) := by decide +kernel
theorem dX11_bestSet_17 : decode cX11_bestSet 17 = .ok (.aload_n 0, 1) := by decide +kernel
theorem dX11_bestSet_18 : decode cX11_bestSet 18 = .ok (.iload_n 2, 1) := by decide +kernel
theorem dX11_bestSet_19 : decode cX11_bestSet 19 = .ok (.iload_n 3, 1) := by decide +kernel
theorem dX11_bestSet_20 : decode cX11_bestSet 20 = .ok (.invokevirtual 373, 3) := by decide +kernel
theorem dX11_bestSet_23 : decode cX11_bestSet 23 = .ok (.ireturn, 1) := by decide +kernel
theorem dX11_idle_0 : decode cX11_idle 0 = .ok (.aload_n 0, 1) := by decide +kernel
theorem dX11_idle_1 : decode cX11_idle 1 = .ok (.iload_n 1, 1) := by decide +kernel
theorem dX11_idle_2 : decode cX11_idle 2 = .ok (.invokevirtual 294, 3) := by decide +kernel
theorem dX11_idle_5 : decode cX11_idle 5 = .ok (.ifCond .ne 5, 3) := by decide +kernel
theorem dX11_idle_8 : decode cX11_idle 8 = .ok (.iconst (-1), 1) := by decide +kernel
theorem dX11_idle_9 : decode cX11_idle 9 = .ok (.ireturn, 1) := by decide +kernel
theorem dX11_idle_10 : decode cX11_idle 10 = .ok (.iconst 0, 1) := by decide +kernel
theorem dX11_idle_11 : decode cX11_idle 11 = .ok (.istore_n 2, 1) := by decide +kernel
theorem dX11_idle_12 : decode cX11_idle 12 = .ok (.iload_n 2, 1) := by decide +kernel
theorem dX11_idle_13 : decode cX11_idle 13 = .ok (.aload_n 0, 1) := by decide +kernel
theorem dX11_idle_14 : decode cX11_idle 14 = .ok (.invokevirtual 240, 3) := by decide +kernel
theorem dX11_idle_17 : decode cX11_idle 17 = .ok (.if_icmp .ge 25, 3) := by decide +kernel
theorem dX11_idle_20 : decode cX11_idle 20 = .ok (.aload_n 0, 1) := by decide +kernel
theorem dX11_idle_21 : decode cX11_idle 21 = .ok (.iload_n 2, 1) := by decide +kernel
theorem dX11_idle_22 : decode cX11_idle 22 = .ok (.invokevirtual 276, 3) := by decide +kernel
theorem dX11_idle_25 : decode cX11_idle 25 = .ok (.aload_n 0, 1) := by decide +kernel
theorem dX11_idle_26 : decode cX11_idle 26 = .ok (.iload_n 2, 1) := by decide +kernel
theorem dX11_idle_27 : decode cX11_idle 27 = .ok (.iload_n 1, 1) := by decide +kernel
theorem dX11_idle_28 : decode cX11_idle 28 = .ok (.invokevirtual 270, 3) := by decide +kernel
theorem dX11_idle_31 : decode cX11_idle 31 = .ok (.if_icmp .eq 5, 3) := by decide +kernel
theorem dX11_idle_34 : decode cX11_idle 34 = .ok (.iconst 0, 1) := by decide +kernel
theorem dX11_idle_35 : decode cX11_idle 35 = .ok (.ireturn, 1) := by decide +kernel
theorem dX11_idle_36 : decode cX11_idle 36 = .ok (.iinc 2 1, 3) := by decide +kernel
theorem dX11_idle_39 : decode cX11_idle 39 = .ok (.goto (-27), 3) := by decide +kernel
theorem dX11_idle_42 : decode cX11_idle 42 = .ok (.iconst 1, 1) := by decide +kernel
theorem dX11_idle_43 : decode cX11_idle 43 = .ok (.ireturn, 1) := by decide +kernel
theorem dX11_without_0 : decode cX11_without 0 = .ok (.aload_n 0, 1) := by decide +kernel
theorem dX11_without_1 : decode cX11_without 1 = .ok (.iload_n 1, 1) := by decide +kernel
theorem dX11_without_2 : decode cX11_without 2 = .ok (.invokevirtual 294, 3) := by decide +kernel
theorem dX11_without_5 : decode cX11_without 5 = .ok (.ifCond .ne 7, 3) := by decide +kernel
theorem dX11_without_8 : decode cX11_without 8 = .ok (.sipush (-2000), 3) := by decide +kernel
theorem dX11_without_11 : decode cX11_without 11 = .ok (.ireturn, 1) := by decide +kernel
theorem dX11_without_12 : decode cX11_without 12 = .ok (.iconst 0, 1) := by decide +kernel
theorem dX11_without_13 : decode cX11_without 13 = .ok (.istore_n 2, 1) := by decide +kernel
theorem dX11_without_14 : decode cX11_without 14 = .ok (.iconst 0, 1) := by decide +kernel
theorem dX11_without_15 : decode cX11_without 15 = .ok (.istore_n 3, 1) := by decide +kernel
theorem dX11_without_16 : decode cX11_without 16 = .ok (.iload_n 3, 1) := by decide +kernel
theorem dX11_without_17 : decode cX11_without 17 = .ok (.aload_n 0, 1) := by decide +kernel
theorem dX11_without_18 : decode cX11_without 18 = .ok (.invokevirtual 240, 3) := by decide +kernel
theorem dX11_without_21 : decode cX11_without 21 = .ok (.if_icmp .ge 50, 3) := by decide +kernel
theorem dX11_without_24 : decode cX11_without 24 = .ok (.iload_n 2, 1) := by decide +kernel
theorem dX11_without_25 : decode cX11_without 25 = .ok (.aload_n 0, 1) := by decide +kernel
theorem dX11_without_26 : decode cX11_without 26 = .ok (.iload_n 3, 1) := by decide +kernel
theorem dX11_without_27 : decode cX11_without 27 = .ok (.iload_n 1, 1) := by decide +kernel
theorem dX11_without_28 : decode cX11_without 28 = .ok (.invokevirtual 270, 3) := by decide +kernel
theorem dX11_without_31 : decode cX11_without 31 = .ok (.aload_n 0, 1) := by decide +kernel
theorem dX11_without_32 : decode cX11_without 32 = .ok (.iload_n 3, 1) := by decide +kernel
theorem dX11_without_33 : decode cX11_without 33 = .ok (.invokevirtual 285, 3) := by decide +kernel
theorem dX11_without_36 : decode cX11_without 36 = .ok (.if_icmp .ne 7, 3) := by decide +kernel
theorem dX11_without_39 : decode cX11_without 39 = .ok (.iconst 1, 1) := by decide +kernel
theorem dX11_without_40 : decode cX11_without 40 = .ok (.goto 4, 3) := by decide +kernel
theorem dX11_without_43 : decode cX11_without 43 = .ok (.iconst 0, 1) := by decide +kernel
theorem dX11_without_44 : decode cX11_without 44 = .ok (.aload_n 0, 1) := by decide +kernel
theorem dX11_without_45 : decode cX11_without 45 = .ok (.iload_n 3, 1) := by decide +kernel
theorem dX11_without_46 : decode cX11_without 46 = .ok (.invokevirtual 276, 3) := by decide +kernel
theorem dX11_without_49 : decode cX11_without 49 = .ok (.aload_n 0, 1) := by decide +kernel
theorem dX11_without_50 : decode cX11_without 50 = .ok (.iload_n 3, 1) := by decide +kernel
theorem dX11_without_51 : decode cX11_without 51 = .ok (.invokevirtual 285, 3) := by decide +kernel
theorem dX11_without_54 : decode cX11_without 54 = .ok (.if_icmp .ne 7, 3) := by decide +kernel
theorem dX11_without_57 : decode cX11_without 57 = .ok (.iconst 1, 1) := by decide +kernel
theorem dX11_without_58 : decode cX11_without 58 = .ok (.goto 4, 3) := by decide +kernel
theorem dX11_without_61 : decode cX11_without 61 = .ok (.iconst 0, 1) := by decide +kernel
theorem dX11_without_62 : decode cX11_without 62 = .ok (.isub, 1) := by decide +kernel
theorem dX11_without_63 : decode cX11_without 63 = .ok (.iadd, 1) := by decide +kernel
theorem dX11_without_64 : decode cX11_without 64 = .ok (.istore_n 2, 1) := by decide +kernel
theorem dX11_without_65 : decode cX11_without 65 = .ok (.iinc 3 1, 3) := by decide +kernel
theorem dX11_without_68 : decode cX11_without 68 = .ok (.goto (-52), 3) := by decide +kernel
theorem dX11_without_71 : decode cX11_without 71 = .ok (.iload_n 2, 1) := by decide +kernel
theorem dX11_without_72 : decode cX11_without 72 = .ok (.ireturn, 1) := by decide +kernel
section G23_model2_lean_txt
variable {p : Program} {l : Launch} {e : Env} {s : State} {m : MethodId} {args : Array Value} {below : List Frame} {meth : Method} {c : Code} {H : Heap} {locs : List Loc} {ls : Array Slot} {E : Ge} {L : Lay} {fu d : Nat}
def fX11_costBy (fu : Nat) (a0 : Nat) (x1 : Int32) (M : Mm) : Option (Int32 × Mm) :=
  bm (fX11_layWants fu a0 x1 M) fun M_2 =>
  bm (fX11_layFewest fu a0 5 M_2) fun M_7 =>
  some ((M_7.1 (a0 + 9) (ix 11)), M_7)
set_option maxRecDepth 100000 in
set_option maxHeartbeats 4000000 in
theorem mX11_costBy {l : Launch} {E : Ge} {L : Lay} (fu d : Nat) {a0 : Nat} {x1 : Int32} {M : Mm} {r : Int32} {M' : Mm}  (h0 : At L a0 T11) (h : fX11_costBy fu a0 x1 M = some (r, M')) : Ct l E L yX11_costBy cX11_costBy 2 (some .int) (d + 4) [.ref a0, .int x1] M (some (.int r)) M' := by
  refine Ct.of (by decide) ?_
  intro p e s m below meth c hr hlk B hR
  have B : Bx p s m _ c cX11_costBy 2 RX11 E L := B
  have hx := B.1
  have hb := B.2.1
  have hl := lv_entry ([.ref a0, .int x1]) (n := 2) (Nat.le_of_ble_eq_true rfl)
  rw [lg_entry_eq]
  generalize (lg_sl ([.ref a0, .int x1]) ++ List.replicate (2 - (lg_sl ([.ref a0, .int x1])).length) Slot.unset).toArray = ls at hl ⊢
  have hl : lv_has ls 2 [(0, .ref a0), (1, .int x1)] := hl
  unfold fX11_costBy at h
  refine lv_aload_n hx hb dX11_costBy_0 rfl (lv_at hl 0 rfl) ?_
  refine lv_iload_n hx hb dX11_costBy_1 rfl (lv_at hl 1 rfl) ?_
  obtain ⟨M_2, hc_2, h⟩ := bm_el h
  refine iv_X11_335 B hR (h0.at0 rfl) hl.1 (mX11_layWants fu _ h0 hc_2) (Nat.le_of_ble_eq_true rfl) dX11_costBy_2 (fun H locs hR => ?_)
  refine lv_aload_n hx hb dX11_costBy_5 rfl (lv_at hl 0 rfl) ?_
  refine lv_iconst (v := 5) hx hb dX11_costBy_6 (by decide) ?_
  obtain ⟨M_7, hc_7, h⟩ := bm_el h
  refine iv_X11_338 B hR (h0.at0 rfl) hl.1 (mX11_layFewest fu _ h0 hc_7) (Nat.le_of_ble_eq_true rfl) dX11_costBy_7 (fun H locs hR => ?_)
  refine lv_aload_n hx hb dX11_costBy_10 rfl (lv_at hl 0 rfl) ?_
  refine gf_X11_39 B hR (h0.at0 rfl) dX11_costBy_11 ?_
  refine lv_bipush (v := 11) hx hb dX11_costBy_14 (by decide) ?_
  refine r_iald B hR (h0.at 9 rfl) (by decide +kernel) dX11_costBy_16 ?_
  exact r_iretW B hR hr hlk h dX11_costBy_17
def fX11_addedCost_j97 (fu : Nat) (a0 : Nat) (M : Mm) : Option (Int32 × Mm) :=
  some ((M.1 (a0 + 10) (ix 1)), M)
set_option maxRecDepth 100000 in
set_option maxHeartbeats 4000000 in
theorem wX11_addedCost_j97 {r : Int32} {M' : Mm}   {a0 : Nat} {M : Mm} (B : Bx p s m args c cX11_addedCost 3 RX11 E L) (hr : meth.sig.returnType = (some .int)) (hlk : meth.locks = false)  (h0 : At L a0 T11) (h : fX11_addedCost_j97 fu a0 M = some (r, M')) (hR : Rx s E L M H locs) (hl : lv_has ls 3 [(0, .ref a0)]) : W p l e (rmD (d + 3)) s m args below meth c H locs 0 0 (MQ below (QcM E L (some (.int r)) M') args s 0 0 E.2.2.2) (F0 m 97 ls []) := by
  have hx := B.1
  have hb := B.2.1
  unfold fX11_addedCost_j97 at h
  refine lv_aload_n hx hb dX11_addedCost_97 rfl (lv_at hl 0 rfl) ?_
  refine gf_X11_42 B hR (h0.at0 rfl) dX11_addedCost_98 ?_
  refine lv_iconst (v := 1) hx hb dX11_addedCost_101 (by decide) ?_
  refine r_iald B hR (h0.at 10 rfl) (by decide +kernel) dX11_addedCost_102 ?_
  exact r_iretW B hR hr hlk h dX11_addedCost_103
def fX11_addedCost_j90 (fu : Nat) (k21 : Int32 → Mm → Option (Int32 × Mm)) (a0 : Nat) (x2 : Int32) (b0 : Nat) (t1 : Int32) (t2 : Int32) (M : Mm) : Option (Int32 × Mm) :=
  if t1 < 0 ∨ 2048 ≤ ix t1 then none else
  lt (wI M b0 (ix t1) t2) fun M_90 =>
  lt (x2 + (-1)) fun x2_91 =>
  k21 x2_91 M_90
set_option maxRecDepth 100000 in
set_option maxHeartbeats 4000000 in
theorem wX11_addedCost_j90 {r : Int32} {M' : Mm}  {k21 : Int32 → Mm → Option (Int32 × Mm)} {a0 : Nat} {x2 : Int32} {b0 : Nat} {t1 : Int32} {t2 : Int32} {M : Mm} (B : Bx p s m args c cX11_addedCost 3 RX11 E L) (hr : meth.sig.returnType = (some .int)) (hlk : meth.locks = false) (ih21 : ∀ (x2 : Int32) (M : Mm), k21 x2 M = some (r, M') → ∀ (H : Heap) (locs : List Loc) (ls : Array Slot), Rx s E L M H locs → lv_has ls 3 [(0, .ref a0), (2, .int x2)] → W p l e (rmD (d + 3)) s m args below meth c H locs 0 0 (MQ below (QcM E L (some (.int r)) M') args s 0 0 E.2.2.2) (F0 m 21 ls [])) (h0 : At L a0 T11) (g0 : (b0, (0, 2048)) ∈ L) (h : fX11_addedCost_j90 fu k21 a0 x2 b0 t1 t2 M = some (r, M')) (hR : Rx s E L M H locs) (hl : lv_has ls 3 [(0, .ref a0), (2, .int x2)]) : W p l e (rmD (d + 3)) s m args below meth c H locs 0 0 (MQ below (QcM E L (some (.int r)) M') args s 0 0 E.2.2.2) (F0 m 90 ls [.int t2, .int t1, .ref b0]) := by
  have hx := B.1
  have hb := B.2.1
  unfold fX11_addedCost_j90 at h
  obtain ⟨hi_90, h⟩ := ifn_el h
  obtain ⟨M_90, eM_90, h⟩ := lt_el h
  refine r_iast B hR g0 hi_90 dX11_addedCost_90 (fun H locs hR => ?_)
  rw [← eM_90] at hR
  obtain ⟨x2_91, ex2_91, h⟩ := lt_el h
  refine lv_iinc (v := x2_91) (lv' := [(2, .int x2_91), (0, .ref a0)]) hx hb dX11_addedCost_91 hl (k := 1) rfl (by rw [ex2_91]; rfl) (by decide) rfl (fun ls hl => ?_)
  refine lv_goto (tgt := 21) hx hb dX11_addedCost_94 (by decide) ?_
  exact ih21 x2_91 M_90 h _ _ _ hR (lv_sub hl [1, 0] rfl)
def fX11_addedCost_j54 (fu : Nat) (k21 : Int32 → Mm → Option (Int32 × Mm)) (a0 : Nat) (x2 : Int32) (b0 : Nat) (t1 : Int32) (M : Mm) : Option (Int32 × Mm) :=
  fX11_addedCost_j90 fu k21 a0 x2 b0 t1 0 M
set_option maxRecDepth 100000 in
set_option maxHeartbeats 4000000 in
theorem wX11_addedCost_j54 {r : Int32} {M' : Mm}  {k21 : Int32 → Mm → Option (Int32 × Mm)} {a0 : Nat} {x2 : Int32} {b0 : Nat} {t1 : Int32} {M : Mm} (B : Bx p s m args c cX11_addedCost 3 RX11 E L) (hr : meth.sig.returnType = (some .int)) (hlk : meth.locks = false) (ih21 : ∀ (x2 : Int32) (M : Mm), k21 x2 M = some (r, M') → ∀ (H : Heap) (locs : List Loc) (ls : Array Slot), Rx s E L M H locs → lv_has ls 3 [(0, .ref a0), (2, .int x2)] → W p l e (rmD (d + 3)) s m args below meth c H locs 0 0 (MQ below (QcM E L (some (.int r)) M') args s 0 0 E.2.2.2) (F0 m 21 ls [])) (h0 : At L a0 T11) (g0 : (b0, (0, 2048)) ∈ L) (h : fX11_addedCost_j54 fu k21 a0 x2 b0 t1 M = some (r, M')) (hR : Rx s E L M H locs) (hl : lv_has ls 3 [(0, .ref a0), (2, .int x2)]) : W p l e (rmD (d + 3)) s m args below meth c H locs 0 0 (MQ below (QcM E L (some (.int r)) M') args s 0 0 E.2.2.2) (F0 m 54 ls [.int t1, .ref b0]) := by
  have hx := B.1
  have hb := B.2.1
  unfold fX11_addedCost_j54 at h
  refine lv_iconst (v := 0) hx hb dX11_addedCost_54 (by decide) ?_
  refine lv_goto (tgt := 90) hx hb dX11_addedCost_55 (by decide) ?_
  exact wX11_addedCost_j90 B hr hlk ih21 h0 g0 h hR hl
def fX11_addedCost_b21 (fu : Nat) (k21 : Int32 → Mm → Option (Int32 × Mm)) (a0 : Nat) (x2 : Int32) (M : Mm) : Option (Int32 × Mm) :=
  if x2 ≤ 0 then
    fX11_addedCost_j97 fu a0 M
  else
    if x2 < 0 ∨ 2048 ≤ ix x2 then none else
    if (M.1 (a0 + 8) (ix x2)) = (-2) then
      fX11_addedCost_j54 fu k21 a0 x2 (a0 + 10) x2 M
    else
      if (M.1 (a0 + 8) (ix x2)) = (M.1 a0 25) then
        fX11_addedCost_j54 fu k21 a0 x2 (a0 + 10) x2 M
      else
        if (M.1 (a0 + 8) (ix x2)) < 0 then
          if (2 * x2) < 0 ∨ 2048 ≤ ix (2 * x2) then none else
          if ((2 * x2) + 1) < 0 ∨ 2048 ≤ ix ((2 * x2) + 1) then none else
          fX11_addedCost_j90 fu k21 a0 x2 (a0 + 10) x2 ((M.1 (a0 + 10) (ix (2 * x2))) + (M.1 (a0 + 10) (ix ((2 * x2) + 1)))) M
        else
          fX11_addedCost_j90 fu k21 a0 x2 (a0 + 10) x2 1 M
set_option maxRecDepth 100000 in
set_option maxHeartbeats 4000000 in
theorem wX11_addedCost_b21 {r : Int32} {M' : Mm}   {k21 : Int32 → Mm → Option (Int32 × Mm)} {a0 : Nat} {x2 : Int32} {M : Mm} (B : Bx p s m args c cX11_addedCost 3 RX11 E L) (hr : meth.sig.returnType = (some .int)) (hlk : meth.locks = false)  (ih21 : ∀ (x2 : Int32) (M : Mm), k21 x2 M = some (r, M') → ∀ (H : Heap) (locs : List Loc) (ls : Array Slot), Rx s E L M H locs → lv_has ls 3 [(0, .ref a0), (2, .int x2)] → W p l e (rmD (d + 3)) s m args below meth c H locs 0 0 (MQ below (QcM E L (some (.int r)) M') args s 0 0 E.2.2.2) (F0 m 21 ls [])) (h0 : At L a0 T11) (h : fX11_addedCost_b21 fu k21 a0 x2 M = some (r, M')) (hR : Rx s E L M H locs) (hl : lv_has ls 3 [(0, .ref a0), (2, .int x2)]) : W p l e (rmD (d + 3)) s m args below meth c H locs 0 0 (MQ below (QcM E L (some (.int r)) M') args s 0 0 E.2.2.2) (F0 m 21 ls []) := by
  have hx := B.1
  have hb := B.2.1
  unfold fX11_addedCost_b21 at h
  refine lv_iload_n hx hb dX11_addedCost_21 rfl (lv_at hl 1 rfl) ?_
  refine lv_if_le (tgt := 97) hx hb dX11_addedCost_22 (by decide) (fun c_22 => ?_) (fun c_22 => ?_)
  · rw [if_pos c_22] at h
    exact wX11_addedCost_j97 B hr hlk h0 h hR (lv_sub hl [0] rfl)
  · rw [if_neg c_22] at h
    refine lv_aload_n hx hb dX11_addedCost_25 rfl (lv_at hl 0 rfl) ?_
    refine gf_X11_42 B hR (h0.at0 rfl) dX11_addedCost_26 ?_
    refine lv_iload_n hx hb dX11_addedCost_29 rfl (lv_at hl 1 rfl) ?_
    refine lv_aload_n hx hb dX11_addedCost_30 rfl (lv_at hl 0 rfl) ?_
    refine gf_X11_36 B hR (h0.at0 rfl) dX11_addedCost_31 ?_
    refine lv_iload_n hx hb dX11_addedCost_34 rfl (lv_at hl 1 rfl) ?_
    obtain ⟨hi_35, h⟩ := ifn_el h
    refine r_iald B hR (h0.at 8 rfl) hi_35 dX11_addedCost_35 ?_
    refine lv_bipush (v := (-2)) hx hb dX11_addedCost_36 (by decide) ?_
    refine lv_icmp_eq (tgt := 54) hx hb dX11_addedCost_38 (by decide) (fun c_38 => ?_) (fun c_38 => ?_)
    · rw [if_pos c_38] at h
      exact wX11_addedCost_j54 B hr hlk ih21 h0 (h0.at 10 rfl) h hR hl
    · rw [if_neg c_38] at h
      refine lv_aload_n hx hb dX11_addedCost_41 rfl (lv_at hl 0 rfl) ?_
      refine gf_X11_36 B hR (h0.at0 rfl) dX11_addedCost_42 ?_
      refine lv_iload_n hx hb dX11_addedCost_45 rfl (lv_at hl 1 rfl) ?_
      refine r_iald B hR (h0.at 8 rfl) hi_35 dX11_addedCost_46 ?_
      refine lv_aload_n hx hb dX11_addedCost_47 rfl (lv_at hl 0 rfl) ?_
      refine gf_X11_315 B hR (h0.at0 rfl) dX11_addedCost_48 ?_
      refine lv_icmp_ne (tgt := 58) hx hb dX11_addedCost_51 (by decide) (fun c_51 => ?_) (fun c_51 => ?_)
      · rw [if_neg c_51] at h
        refine lv_aload_n hx hb dX11_addedCost_58 rfl (lv_at hl 0 rfl) ?_
        refine gf_X11_36 B hR (h0.at0 rfl) dX11_addedCost_59 ?_
        refine lv_iload_n hx hb dX11_addedCost_62 rfl (lv_at hl 1 rfl) ?_
        refine r_iald B hR (h0.at 8 rfl) hi_35 dX11_addedCost_63 ?_
        refine lv_if_lt (tgt := 71) hx hb dX11_addedCost_64 (by decide) (fun c_64 => ?_) (fun c_64 => ?_)
        · rw [if_pos c_64] at h
          refine lv_aload_n hx hb dX11_addedCost_71 rfl (lv_at hl 0 rfl) ?_
          refine gf_X11_42 B hR (h0.at0 rfl) dX11_addedCost_72 ?_
          refine lv_iconst (v := 2) hx hb dX11_addedCost_75 (by decide) ?_
          refine lv_iload_n hx hb dX11_addedCost_76 rfl (lv_at hl 1 rfl) ?_
          refine lv_imul hx hb dX11_addedCost_77 ?_
          obtain ⟨hi_78, h⟩ := ifn_el h
          refine r_iald B hR (h0.at 10 rfl) hi_78 dX11_addedCost_78 ?_
          refine lv_aload_n hx hb dX11_addedCost_79 rfl (lv_at hl 0 rfl) ?_
          refine gf_X11_42 B hR (h0.at0 rfl) dX11_addedCost_80 ?_
          refine lv_iconst (v := 2) hx hb dX11_addedCost_83 (by decide) ?_
          refine lv_iload_n hx hb dX11_addedCost_84 rfl (lv_at hl 1 rfl) ?_
          refine lv_imul hx hb dX11_addedCost_85 ?_
          refine lv_iconst (v := 1) hx hb dX11_addedCost_86 (by decide) ?_
          refine lv_iadd hx hb dX11_addedCost_87 ?_
          obtain ⟨hi_88, h⟩ := ifn_el h
          refine r_iald B hR (h0.at 10 rfl) hi_88 dX11_addedCost_88 ?_
          refine lv_iadd hx hb dX11_addedCost_89 ?_
          exact wX11_addedCost_j90 B hr hlk ih21 h0 (h0.at 10 rfl) h hR hl
        · rw [if_neg c_64] at h
          refine lv_iconst (v := 1) hx hb dX11_addedCost_67 (by decide) ?_
          refine lv_goto (tgt := 90) hx hb dX11_addedCost_68 (by decide) ?_
          exact wX11_addedCost_j90 B hr hlk ih21 h0 (h0.at 10 rfl) h hR hl
      · rw [if_pos c_51] at h
        exact wX11_addedCost_j54 B hr hlk ih21 h0 (h0.at 10 rfl) h hR hl
def fX11_addedCost_l21 (fu : Nat) (a0 : Nat) (x2 : Int32) (M : Mm) : Option (Int32 × Mm) := lp (fun (rec : (Int32 × Mm) → Option (Int32 × Mm)) (s : Int32 × Mm) => fX11_addedCost_b21 fu  (fun x2 M => rec (x2, M)) a0 s.1 s.2) fu (x2, M)
set_option maxRecDepth 100000 in
set_option maxHeartbeats 4000000 in
theorem wX11_addedCost_l21 {r : Int32} {M' : Mm}   {a0 : Nat} {x2 : Int32} {M : Mm} (B : Bx p s m args c cX11_addedCost 3 RX11 E L) (hr : meth.sig.returnType = (some .int)) (hlk : meth.locks = false)  (h0 : At L a0 T11) (h : fX11_addedCost_l21 fu a0 x2 M = some (r, M')) (hR : Rx s E L M H locs) (hl : lv_has ls 3 [(0, .ref a0), (2, .int x2)]) : W p l e (rmD (d + 3)) s m args below meth c H locs 0 0 (MQ below (QcM E L (some (.int r)) M') args s 0 0 E.2.2.2) (F0 m 21 ls []) := by
  refine lp_G (G := fun z : Int32 × Mm => ∀ (H : Heap) (locs : List Loc) (ls : Array Slot), Rx s E L z.2 H locs → lv_has ls 3 [(0, .ref a0), (2, .int z.1)] → W p l e (rmD (d + 3)) s m args below meth c H locs 0 0 (MQ below (QcM E L (some (.int r)) M') args s 0 0 E.2.2.2) (F0 m 21 ls [])) (fun rec ih z h H locs ls hR hl => ?_) fu _ h H locs ls hR hl
  exact wX11_addedCost_b21 B hr hlk  (fun x2 M h => ih (x2, M) h) h0 h hR hl
def fX11_addedCost (fu : Nat) (a0 : Nat) (M : Mm) : Option (Int32 × Mm) :=
  bm (fX11_layWants fu a0 (M.1 (a0 + 1) (ix 0)) M) fun M_7 =>
  bi (fX11_addresses fu a0 M_7) fun r_11 =>
  lt (((2 * r_11) - 1)) fun x2_20 =>
  fX11_addedCost_l21 fu a0 x2_20 M_7
set_option maxRecDepth 100000 in
set_option maxHeartbeats 4000000 in
theorem mX11_addedCost {l : Launch} {E : Ge} {L : Lay} (fu d : Nat) {a0 : Nat} {M : Mm} {r : Int32} {M' : Mm}  (h0 : At L a0 T11) (h : fX11_addedCost fu a0 M = some (r, M')) : Ct l E L yX11_addedCost cX11_addedCost 3 (some .int) (d + 3) [.ref a0] M (some (.int r)) M' := by
  refine Ct.of (by decide) ?_
  intro p e s m below meth c hr hlk B hR
  have B : Bx p s m _ c cX11_addedCost 3 RX11 E L := B
  have hx := B.1
  have hb := B.2.1
  have hl := lv_entry ([.ref a0]) (n := 3) (Nat.le_of_ble_eq_true rfl)
  rw [lg_entry_eq]
  generalize (lg_sl ([.ref a0]) ++ List.replicate (3 - (lg_sl ([.ref a0])).length) Slot.unset).toArray = ls at hl ⊢
  have hl : lv_has ls 3 [(0, .ref a0)] := hl
  unfold fX11_addedCost at h
  refine lv_aload_n hx hb dX11_addedCost_0 rfl (lv_at hl 0 rfl) ?_
  refine lv_aload_n hx hb dX11_addedCost_1 rfl (lv_at hl 0 rfl) ?_
  refine gf_X11_7 B hR (h0.at0 rfl) dX11_addedCost_2 ?_
  refine lv_iconst (v := 0) hx hb dX11_addedCost_5 (by decide) ?_
  refine r_iald B hR (h0.at 1 rfl) (by decide +kernel) dX11_addedCost_6 ?_
  obtain ⟨M_7, hc_7, h⟩ := bm_el h
  refine iv_X11_335 B hR (h0.at0 rfl) hl.1 (mX11_layWants fu _ h0 hc_7) (Nat.le_of_ble_eq_true rfl) dX11_addedCost_7 (fun H locs hR => ?_)
  refine lv_aload_n hx hb dX11_addedCost_10 rfl (lv_at hl 0 rfl) ?_
  obtain ⟨r_11, hc_11, h⟩ := bi_el h
  refine iv_X11_240 B hR (h0.at0 rfl) hl.1 (mX11_addresses fu _ h0 hc_11) (Nat.le_of_ble_eq_true rfl) dX11_addedCost_11 (fun H locs hR => ?_)
  refine lv_istore_n (lv' := [(1, .int r_11), (0, .ref a0)]) hx hb dX11_addedCost_14 rfl hl (by decide) rfl (fun ls hl => ?_)
  refine lv_iconst (v := 2) hx hb dX11_addedCost_15 (by decide) ?_
  refine lv_iload_n hx hb dX11_addedCost_16 rfl (lv_at hl 0 rfl) ?_
  refine lv_imul hx hb dX11_addedCost_17 ?_
  refine lv_iconst (v := 1) hx hb dX11_addedCost_18 (by decide) ?_
  refine lv_isub hx hb dX11_addedCost_19 ?_
  obtain ⟨x2_20, ex2_20, h⟩ := lt_el h
  refine r_nmI ex2_20 ?_
  refine lv_istore_n (lv' := [(2, .int x2_20), (1, .int r_11), (0, .ref a0)]) hx hb dX11_addedCost_20 rfl hl (by decide) rfl (fun ls hl => ?_)
  exact wX11_addedCost_l21 B hr hlk h0 h hR (lv_sub hl [2, 0] rfl)
def fX11_cost_j30 (fu : Nat) (t0 : Int32) (M : Mm) : Option (Int32 × Mm) :=
  some (t0, M)
set_option maxRecDepth 100000 in
set_option maxHeartbeats 4000000 in
theorem wX11_cost_j30 {r : Int32} {M' : Mm}   {t0 : Int32} {M : Mm} (B : Bx p s m args c cX11_cost 2 RX11 E L) (hr : meth.sig.returnType = (some .int)) (hlk : meth.locks = false)   (h : fX11_cost_j30 fu t0 M = some (r, M')) (hR : Rx s E L M H locs) (hl : lv_has ls 2 []) : W p l e (rmD (d + 5)) s m args below meth c H locs 0 0 (MQ below (QcM E L (some (.int r)) M') args s 0 0 E.2.2.2) (F0 m 30 ls [.int t0]) := by
  have hx := B.1
  have hb := B.2.1
  unfold fX11_cost_j30 at h
  exact r_iretW B hR hr hlk h dX11_cost_30
def fX11_cost (fu : Nat) (a0 : Nat) (x1 : Int32) (M : Mm) : Option (Int32 × Mm) :=
  if x1 = 0 then
    bw (fX11_addedCost fu a0 M) fun r_5 M_5 =>
    fX11_cost_j30 fu r_5 M_5
  else
    if x1 = 1 then
      bw (fX11_costBy fu a0 (M.1 (a0 + 1) (ix 0)) M) fun r_23 M_23 =>
      fX11_cost_j30 fu r_23 M_23
    else
      fX11_cost_j30 fu (-1) M
set_option maxRecDepth 100000 in
set_option maxHeartbeats 4000000 in
theorem mX11_cost {l : Launch} {E : Ge} {L : Lay} (fu d : Nat) {a0 : Nat} {x1 : Int32} {M : Mm} {r : Int32} {M' : Mm}  (h0 : At L a0 T11) (h : fX11_cost fu a0 x1 M = some (r, M')) : Ct l E L yX11_cost cX11_cost 2 (some .int) (d + 5) [.ref a0, .int x1] M (some (.int r)) M' := by
  refine Ct.of (by decide) ?_
  intro p e s m below meth c hr hlk B hR
  have B : Bx p s m _ c cX11_cost 2 RX11 E L := B
  have hx := B.1
  have hb := B.2.1
  have hl := lv_entry ([.ref a0, .int x1]) (n := 2) (Nat.le_of_ble_eq_true rfl)
  rw [lg_entry_eq]
  generalize (lg_sl ([.ref a0, .int x1]) ++ List.replicate (2 - (lg_sl ([.ref a0, .int x1])).length) Slot.unset).toArray = ls at hl ⊢
  have hl : lv_has ls 2 [(0, .ref a0), (1, .int x1)] := hl
  unfold fX11_cost at h
  refine lv_iload_n hx hb dX11_cost_0 rfl (lv_at hl 1 rfl) ?_
  refine lv_if_ne (tgt := 11) hx hb dX11_cost_1 (by decide) (fun c_1 => ?_) (fun c_1 => ?_)
  · rw [if_neg c_1] at h
    refine lv_iload_n hx hb dX11_cost_11 rfl (lv_at hl 1 rfl) ?_
    refine lv_iconst (v := 1) hx hb dX11_cost_12 (by decide) ?_
    refine lv_icmp_ne (tgt := 29) hx hb dX11_cost_13 (by decide) (fun c_13 => ?_) (fun c_13 => ?_)
    · rw [if_neg c_13] at h
      refine lv_iconst (v := (-1)) hx hb dX11_cost_29 (by decide) ?_
      exact wX11_cost_j30 B hr hlk  h hR (lv_sub hl [] rfl)
    · rw [if_pos c_13] at h
      refine lv_aload_n hx hb dX11_cost_16 rfl (lv_at hl 0 rfl) ?_
      refine lv_aload_n hx hb dX11_cost_17 rfl (lv_at hl 0 rfl) ?_
      refine gf_X11_7 B hR (h0.at0 rfl) dX11_cost_18 ?_
      refine lv_iconst (v := 0) hx hb dX11_cost_21 (by decide) ?_
      refine r_iald B hR (h0.at 1 rfl) (by decide +kernel) dX11_cost_22 ?_
      obtain ⟨r_23, M_23, hc_23, h⟩ := bw_el h
      refine iv_X11_344 B hR (h0.at0 rfl) hl.1 (mX11_costBy fu _ h0 hc_23) (Nat.le_of_ble_eq_true rfl) dX11_cost_23 (fun H locs hR => ?_)
      refine lv_goto (tgt := 30) hx hb dX11_cost_26 (by decide) ?_
      exact wX11_cost_j30 B hr hlk  h hR (lv_sub hl [] rfl)
  · rw [if_pos c_1] at h
    refine lv_aload_n hx hb dX11_cost_4 rfl (lv_at hl 0 rfl) ?_
    obtain ⟨r_5, M_5, hc_5, h⟩ := bw_el h
    refine iv_X11_341 B hR (h0.at0 rfl) hl.1 (mX11_addedCost fu _ h0 hc_5) (Nat.le_of_ble_eq_true rfl) dX11_cost_5 (fun H locs hR => ?_)
    refine lv_goto (tgt := 30) hx hb dX11_cost_8 (by decide) ?_
    exact wX11_cost_j30 B hr hlk  h hR (lv_sub hl [] rfl)
def fX11_byDefault_j16 (fu : Nat) (t0 : Int32) (M : Mm) : Option (Int32 × Mm) :=
  some (t0, M)
set_option maxRecDepth 100000 in
set_option maxHeartbeats 4000000 in
theorem wX11_byDefault_j16 {r : Int32} {M' : Mm}   {t0 : Int32} {M : Mm} (B : Bx p s m args c cX11_byDefault 2 RX11 E L) (hr : meth.sig.returnType = (some .int)) (hlk : meth.locks = false)   (h : fX11_byDefault_j16 fu t0 M = some (r, M')) (hR : Rx s E L M H locs) (hl : lv_has ls 2 []) : W p l e (rmD (d + 5)) s m args below meth c H locs 0 0 (MQ below (QcM E L (some (.int r)) M') args s 0 0 E.2.2.2) (F0 m 16 ls [.int t0]) := by
  have hx := B.1
  have hb := B.2.1
  unfold fX11_byDefault_j16 at h
  exact r_iretW B hR hr hlk h dX11_byDefault_16
def fX11_byDefault (fu : Nat) (a0 : Nat) (x1 : Int32) (M : Mm) : Option (Int32 × Mm) :=
  bi (fX11_isKind fu x1) fun r_1 =>
  if r_1 = 0 then
    fX11_byDefault_j16 fu (-1) M
  else
    bw (fX11_costBy fu a0 x1 M) fun r_9 M_9 =>
    fX11_byDefault_j16 fu r_9 M_9
set_option maxRecDepth 100000 in
set_option maxHeartbeats 4000000 in
theorem mX11_byDefault {l : Launch} {E : Ge} {L : Lay} (fu d : Nat) {a0 : Nat} {x1 : Int32} {M : Mm} {r : Int32} {M' : Mm}  (h0 : At L a0 T11) (h : fX11_byDefault fu a0 x1 M = some (r, M')) : Ct l E L yX11_byDefault cX11_byDefault 2 (some .int) (d + 5) [.ref a0, .int x1] M (some (.int r)) M' := by
  refine Ct.of (by decide) ?_
  intro p e s m below meth c hr hlk B hR
  have B : Bx p s m _ c cX11_byDefault 2 RX11 E L := B
  have hx := B.1
  have hb := B.2.1
  have hl := lv_entry ([.ref a0, .int x1]) (n := 2) (Nat.le_of_ble_eq_true rfl)
  rw [lg_entry_eq]
  generalize (lg_sl ([.ref a0, .int x1]) ++ List.replicate (2 - (lg_sl ([.ref a0, .int x1])).length) Slot.unset).toArray = ls at hl ⊢
  have hl : lv_has ls 2 [(0, .ref a0), (1, .int x1)] := hl
  unfold fX11_byDefault at h
  refine lv_iload_n hx hb dX11_byDefault_0 rfl (lv_at hl 1 rfl) ?_
  obtain ⟨r_1, hc_1, h⟩ := bi_el h
  refine is_X11_306 B hR hl.1 (mX11_isKind fu _  hc_1) (Nat.le_of_ble_eq_true rfl) dX11_byDefault_1 (fun H locs hR => ?_)
  refine lv_if_eq (tgt := 15) hx hb dX11_byDefault_4 (by decide) (fun c_4 => ?_) (fun c_4 => ?_)
  · rw [if_pos c_4] at h
    refine lv_iconst (v := (-1)) hx hb dX11_byDefault_15 (by decide) ?_
    exact wX11_byDefault_j16 B hr hlk  h hR (lv_sub hl [] rfl)
  · rw [if_neg c_4] at h
    refine lv_aload_n hx hb dX11_byDefault_7 rfl (lv_at hl 0 rfl) ?_
    refine lv_iload_n hx hb dX11_byDefault_8 rfl (lv_at hl 1 rfl) ?_
    obtain ⟨r_9, M_9, hc_9, h⟩ := bw_el h
    refine iv_X11_344 B hR (h0.at0 rfl) hl.1 (mX11_costBy fu _ h0 hc_9) (Nat.le_of_ble_eq_true rfl) dX11_byDefault_9 (fun H locs hR => ?_)
    refine lv_goto (tgt := 16) hx hb dX11_byDefault_12 (by decide) ?_
    exact wX11_byDefault_j16 B hr hlk  h hR (lv_sub hl [] rfl)
def fX11_bestDefault_j30 (fu : Nat) (x1 : Int32) (M : Mm) : Option (Int32 × Mm) :=
  some (x1, M)
set_option maxRecDepth 100000 in
set_option maxHeartbeats 4000000 in
theorem wX11_bestDefault_j30 {r : Int32} {M' : Mm}   {x1 : Int32} {M : Mm} (B : Bx p s m args c cX11_bestDefault 3 RX11 E L) (hr : meth.sig.returnType = (some .int)) (hlk : meth.locks = false)   (h : fX11_bestDefault_j30 fu x1 M = some (r, M')) (hR : Rx s E L M H locs) (hl : lv_has ls 3 [(1, .int x1)]) : W p l e (rmD (d + 5)) s m args below meth c H locs 0 0 (MQ below (QcM E L (some (.int r)) M') args s 0 0 E.2.2.2) (F0 m 30 ls []) := by
  have hx := B.1
  have hb := B.2.1
  unfold fX11_bestDefault_j30 at h
  refine lv_iload_n hx hb dX11_bestDefault_30 rfl (lv_at hl 0 rfl) ?_
  exact r_iretW B hR hr hlk h dX11_bestDefault_31
def fX11_bestDefault_j24 (fu : Nat) (k4 : Int32 → Int32 → Mm → Option (Int32 × Mm)) (a0 : Nat) (x1 : Int32) (x2 : Int32) (M : Mm) : Option (Int32 × Mm) :=
  lt (x2 + 1) fun x2_24 =>
  k4 x1 x2_24 M
set_option maxRecDepth 100000 in
set_option maxHeartbeats 4000000 in
theorem wX11_bestDefault_j24 {r : Int32} {M' : Mm}  {k4 : Int32 → Int32 → Mm → Option (Int32 × Mm)} {a0 : Nat} {x1 : Int32} {x2 : Int32} {M : Mm} (B : Bx p s m args c cX11_bestDefault 3 RX11 E L) (hr : meth.sig.returnType = (some .int)) (hlk : meth.locks = false) (ih4 : ∀ (x1 : Int32) (x2 : Int32) (M : Mm), k4 x1 x2 M = some (r, M') → ∀ (H : Heap) (locs : List Loc) (ls : Array Slot), Rx s E L M H locs → lv_has ls 3 [(0, .ref a0), (1, .int x1), (2, .int x2)] → W p l e (rmD (d + 5)) s m args below meth c H locs 0 0 (MQ below (QcM E L (some (.int r)) M') args s 0 0 E.2.2.2) (F0 m 4 ls [])) (h0 : At L a0 T11) (h : fX11_bestDefault_j24 fu k4 a0 x1 x2 M = some (r, M')) (hR : Rx s E L M H locs) (hl : lv_has ls 3 [(0, .ref a0), (1, .int x1), (2, .int x2)]) : W p l e (rmD (d + 5)) s m args below meth c H locs 0 0 (MQ below (QcM E L (some (.int r)) M') args s 0 0 E.2.2.2) (F0 m 24 ls []) := by
  have hx := B.1
  have hb := B.2.1
  unfold fX11_bestDefault_j24 at h
  obtain ⟨x2_24, ex2_24, h⟩ := lt_el h
  refine lv_iinc (v := x2_24) (lv' := [(2, .int x2_24), (0, .ref a0), (1, .int x1)]) hx hb dX11_bestDefault_24 hl (k := 2) rfl (by rw [ex2_24]; rfl) (by decide) rfl (fun ls hl => ?_)
  refine lv_goto (tgt := 4) hx hb dX11_bestDefault_27 (by decide) ?_
  exact ih4 x1 x2_24 M h _ _ _ hR (lv_sub hl [1, 2, 0] rfl)
def fX11_bestDefault_b4 (fu : Nat) (k4 : Int32 → Int32 → Mm → Option (Int32 × Mm)) (a0 : Nat) (x1 : Int32) (x2 : Int32) (M : Mm) : Option (Int32 × Mm) :=
  if 5 ≤ x2 then
    fX11_bestDefault_j30 fu x1 M
  else
    bw (fX11_costBy fu a0 x2 M) fun r_11 M_11 =>
    bw (fX11_costBy fu a0 x1 M_11) fun r_16 M_16 =>
    if r_16 ≤ r_11 then
      fX11_bestDefault_j24 fu k4 a0 x1 x2 M_16
    else
      fX11_bestDefault_j24 fu k4 a0 x2 x2 M_16
set_option maxRecDepth 100000 in
set_option maxHeartbeats 4000000 in
theorem wX11_bestDefault_b4 {r : Int32} {M' : Mm}   {k4 : Int32 → Int32 → Mm → Option (Int32 × Mm)} {a0 : Nat} {x1 : Int32} {x2 : Int32} {M : Mm} (B : Bx p s m args c cX11_bestDefault 3 RX11 E L) (hr : meth.sig.returnType = (some .int)) (hlk : meth.locks = false)  (ih4 : ∀ (x1 : Int32) (x2 : Int32) (M : Mm), k4 x1 x2 M = some (r, M') → ∀ (H : Heap) (locs : List Loc) (ls : Array Slot), Rx s E L M H locs → lv_has ls 3 [(0, .ref a0), (1, .int x1), (2, .int x2)] → W p l e (rmD (d + 5)) s m args below meth c H locs 0 0 (MQ below (QcM E L (some (.int r)) M') args s 0 0 E.2.2.2) (F0 m 4 ls [])) (h0 : At L a0 T11) (h : fX11_bestDefault_b4 fu k4 a0 x1 x2 M = some (r, M')) (hR : Rx s E L M H locs) (hl : lv_has ls 3 [(0, .ref a0), (1, .int x1), (2, .int x2)]) : W p l e (rmD (d + 5)) s m args below meth c H locs 0 0 (MQ below (QcM E L (some (.int r)) M') args s 0 0 E.2.2.2) (F0 m 4 ls []) := by
  have hx := B.1
  have hb := B.2.1
  unfold fX11_bestDefault_b4 at h
  refine lv_iload_n hx hb dX11_bestDefault_4 rfl (lv_at hl 2 rfl) ?_
  refine lv_iconst (v := 5) hx hb dX11_bestDefault_5 (by decide) ?_
  refine lv_icmp_ge (tgt := 30) hx hb dX11_bestDefault_6 (by decide) (fun c_6 => ?_) (fun c_6 => ?_)
  · rw [if_pos c_6] at h
    exact wX11_bestDefault_j30 B hr hlk  h hR (lv_sub hl [1] rfl)
  · rw [if_neg c_6] at h
    refine lv_aload_n hx hb dX11_bestDefault_9 rfl (lv_at hl 0 rfl) ?_
    refine lv_iload_n hx hb dX11_bestDefault_10 rfl (lv_at hl 2 rfl) ?_
    obtain ⟨r_11, M_11, hc_11, h⟩ := bw_el h
    refine iv_X11_344 B hR (h0.at0 rfl) hl.1 (mX11_costBy fu _ h0 hc_11) (Nat.le_of_ble_eq_true rfl) dX11_bestDefault_11 (fun H locs hR => ?_)
    refine lv_aload_n hx hb dX11_bestDefault_14 rfl (lv_at hl 0 rfl) ?_
    refine lv_iload_n hx hb dX11_bestDefault_15 rfl (lv_at hl 1 rfl) ?_
    obtain ⟨r_16, M_16, hc_16, h⟩ := bw_el h
    refine iv_X11_344 B hR (h0.at0 rfl) hl.1 (mX11_costBy fu _ h0 hc_16) (Nat.le_of_ble_eq_true rfl) dX11_bestDefault_16 (fun H locs hR => ?_)
    refine lv_icmp_ge (tgt := 24) hx hb dX11_bestDefault_19 (by decide) (fun c_19 => ?_) (fun c_19 => ?_)
    · rw [if_pos c_19] at h
      exact wX11_bestDefault_j24 B hr hlk ih4 h0 h hR hl
    · rw [if_neg c_19] at h
      refine lv_iload_n hx hb dX11_bestDefault_22 rfl (lv_at hl 2 rfl) ?_
      refine lv_istore_n (lv' := [(1, .int x2), (0, .ref a0), (2, .int x2)]) hx hb dX11_bestDefault_23 rfl hl (by decide) rfl (fun ls hl => ?_)
      exact wX11_bestDefault_j24 B hr hlk ih4 h0 h hR (lv_sub hl [1, 0, 2] rfl)
def fX11_bestDefault_l4 (fu : Nat) (a0 : Nat) (x1 : Int32) (x2 : Int32) (M : Mm) : Option (Int32 × Mm) := lp (fun (rec : (Int32 × Int32 × Mm) → Option (Int32 × Mm)) (s : Int32 × Int32 × Mm) => fX11_bestDefault_b4 fu  (fun x1 x2 M => rec (x1, x2, M)) a0 s.1 s.2.1 s.2.2) fu (x1, x2, M)
set_option maxRecDepth 100000 in
set_option maxHeartbeats 4000000 in
theorem wX11_bestDefault_l4 {r : Int32} {M' : Mm}   {a0 : Nat} {x1 : Int32} {x2 : Int32} {M : Mm} (B : Bx p s m args c cX11_bestDefault 3 RX11 E L) (hr : meth.sig.returnType = (some .int)) (hlk : meth.locks = false)  (h0 : At L a0 T11) (h : fX11_bestDefault_l4 fu a0 x1 x2 M = some (r, M')) (hR : Rx s E L M H locs) (hl : lv_has ls 3 [(0, .ref a0), (1, .int x1), (2, .int x2)]) : W p l e (rmD (d + 5)) s m args below meth c H locs 0 0 (MQ below (QcM E L (some (.int r)) M') args s 0 0 E.2.2.2) (F0 m 4 ls []) := by
  refine lp_G (G := fun z : Int32 × Int32 × Mm => ∀ (H : Heap) (locs : List Loc) (ls : Array Slot), Rx s E L z.2.2 H locs → lv_has ls 3 [(0, .ref a0), (1, .int z.1), (2, .int z.2.1)] → W p l e (rmD (d + 5)) s m args below meth c H locs 0 0 (MQ below (QcM E L (some (.int r)) M') args s 0 0 E.2.2.2) (F0 m 4 ls [])) (fun rec ih z h H locs ls hR hl => ?_) fu _ h H locs ls hR hl
  exact wX11_bestDefault_b4 B hr hlk  (fun x1 x2 M h => ih (x1, x2, M) h) h0 h hR hl
def fX11_bestDefault (fu : Nat) (a0 : Nat) (M : Mm) : Option (Int32 × Mm) :=
  fX11_bestDefault_l4 fu a0 0 1 M
set_option maxRecDepth 100000 in
set_option maxHeartbeats 4000000 in
theorem mX11_bestDefault {l : Launch} {E : Ge} {L : Lay} (fu d : Nat) {a0 : Nat} {M : Mm} {r : Int32} {M' : Mm}  (h0 : At L a0 T11) (h : fX11_bestDefault fu a0 M = some (r, M')) : Ct l E L yX11_bestDefault cX11_bestDefault 3 (some .int) (d + 5) [.ref a0] M (some (.int r)) M' := by
  refine Ct.of (by decide) ?_
  intro p e s m below meth c hr hlk B hR
  have B : Bx p s m _ c cX11_bestDefault 3 RX11 E L := B
  have hx := B.1
  have hb := B.2.1
  have hl := lv_entry ([.ref a0]) (n := 3) (Nat.le_of_ble_eq_true rfl)
  rw [lg_entry_eq]
  generalize (lg_sl ([.ref a0]) ++ List.replicate (3 - (lg_sl ([.ref a0])).length) Slot.unset).toArray = ls at hl ⊢
  have hl : lv_has ls 3 [(0, .ref a0)] := hl
  unfold fX11_bestDefault at h
  refine lv_iconst (v := 0) hx hb dX11_bestDefault_0 (by decide) ?_
  refine lv_istore_n (lv' := [(1, .int 0), (0, .ref a0)]) hx hb dX11_bestDefault_1 rfl hl (by decide) rfl (fun ls hl => ?_)
  refine lv_iconst (v := 1) hx hb dX11_bestDefault_2 (by decide) ?_
  refine lv_istore_n (lv' := [(2, .int 1), (1, .int 0), (0, .ref a0)]) hx hb dX11_bestDefault_3 rfl hl (by decide) rfl (fun ls hl => ?_)
  exact wX11_bestDefault_l4 B hr hlk h0 h hR (lv_sub hl [2, 1, 0] rfl)
def fX11_waits (fu : Nat) (a0 : Nat) (x1 : Int32) (x2 : Int32) (M : Mm) : Option Mm :=
  if (M.1 a0 32) < 0 ∨ 4200 ≤ ix (M.1 a0 32) then none else
  lt (wI M (a0 + 12) (ix (M.1 a0 32)) x1) fun M_9 =>
  if (M_9.1 a0 32) < 0 ∨ 4200 ≤ ix (M_9.1 a0 32) then none else
  lt (wI M_9 (a0 + 13) (ix (M_9.1 a0 32)) x2) fun M_19 =>
  lt (wI M_19 a0 32 ((M_19.1 a0 32) + 1)) fun M_27 =>
  some M_27
set_option maxRecDepth 100000 in
set_option maxHeartbeats 4000000 in
theorem mX11_waits {l : Launch} {E : Ge} {L : Lay} (fu d : Nat) {a0 : Nat} {x1 : Int32} {x2 : Int32} {M : Mm} {M' : Mm}  (h0 : At L a0 T11) (h : fX11_waits fu a0 x1 x2 M = some M') : Ct l E L yX11_waits cX11_waits 3 none (d + 0) [.ref a0, .int x1, .int x2] M none M' := by
  refine Ct.of (by decide) ?_
  intro p e s m below meth c hr hlk B hR
  have B : Bx p s m _ c cX11_waits 3 RX11 E L := B
  have hx := B.1
  have hb := B.2.1
  have hl := lv_entry ([.ref a0, .int x1, .int x2]) (n := 3) (Nat.le_of_ble_eq_true rfl)
  rw [lg_entry_eq]
  generalize (lg_sl ([.ref a0, .int x1, .int x2]) ++ List.replicate (3 - (lg_sl ([.ref a0, .int x1, .int x2])).length) Slot.unset).toArray = ls at hl ⊢
  have hl : lv_has ls 3 [(0, .ref a0), (1, .int x1), (2, .int x2)] := hl
  unfold fX11_waits at h
  refine lv_aload_n hx hb dX11_waits_0 rfl (lv_at hl 0 rfl) ?_
  refine gf_X11_48 B hR (h0.at0 rfl) dX11_waits_1 ?_
  refine lv_aload_n hx hb dX11_waits_4 rfl (lv_at hl 0 rfl) ?_
  refine gf_X11_347 B hR (h0.at0 rfl) dX11_waits_5 ?_
  refine lv_iload_n hx hb dX11_waits_8 rfl (lv_at hl 1 rfl) ?_
  obtain ⟨hi_9, h⟩ := ifn_el h
  obtain ⟨M_9, eM_9, h⟩ := lt_el h
  refine r_iast B hR (h0.at 12 rfl) hi_9 dX11_waits_9 (fun H locs hR => ?_)
  rw [← eM_9] at hR
  refine lv_aload_n hx hb dX11_waits_10 rfl (lv_at hl 0 rfl) ?_
  refine gf_X11_51 B hR (h0.at0 rfl) dX11_waits_11 ?_
  refine lv_aload_n hx hb dX11_waits_14 rfl (lv_at hl 0 rfl) ?_
  refine gf_X11_347 B hR (h0.at0 rfl) dX11_waits_15 ?_
  refine lv_iload_n hx hb dX11_waits_18 rfl (lv_at hl 2 rfl) ?_
  obtain ⟨hi_19, h⟩ := ifn_el h
  obtain ⟨M_19, eM_19, h⟩ := lt_el h
  refine r_iast B hR (h0.at 13 rfl) hi_19 dX11_waits_19 (fun H locs hR => ?_)
  rw [← eM_19] at hR
  refine lv_aload_n hx hb dX11_waits_20 rfl (lv_at hl 0 rfl) ?_
  refine lv_dup hx hb dX11_waits_21 rfl ?_
  refine gf_X11_347 B hR (h0.at0 rfl) dX11_waits_22 ?_
  refine lv_iconst (v := 1) hx hb dX11_waits_25 (by decide) ?_
  refine lv_iadd hx hb dX11_waits_26 ?_
  obtain ⟨M_27, eM_27, h⟩ := lt_el h
  refine pf_X11_347 B hR (h0.at0 rfl) dX11_waits_27 (fun H locs hR => ?_)
  rw [← eM_27] at hR
  exact r_vretW B hR hr hlk h dX11_waits_30
def fX11_layBlock (fu : Nat) (a0 : Nat) (x1 : Int32) (x2 : Int32) (M : Mm) : Option Mm :=
  bi (fX11_baseAt fu a0 x1 M) fun r_10 =>
  if (M.1 a0 33) < 0 ∨ 2100 ≤ ix (M.1 a0 33) then none else
  lt (wI M (a0 + 14) (ix (M.1 a0 33)) r_10) fun M_13 =>
  bi (fX11_sizeAt fu a0 x1 M_13) fun r_24 =>
  if (M_13.1 a0 33) < 0 ∨ 2100 ≤ ix (M_13.1 a0 33) then none else
  lt (wI M_13 (a0 + 15) (ix (M_13.1 a0 33)) r_24) fun M_27 =>
  if (M_27.1 a0 33) < 0 ∨ 2100 ≤ ix (M_27.1 a0 33) then none else
  lt (wI M_27 (a0 + 16) (ix (M_27.1 a0 33)) x2) fun M_37 =>
  lt (wI M_37 a0 33 ((M_37.1 a0 33) + 1)) fun M_45 =>
  some M_45
set_option maxRecDepth 100000 in
set_option maxHeartbeats 4000000 in
theorem mX11_layBlock {l : Launch} {E : Ge} {L : Lay} (fu d : Nat) {a0 : Nat} {x1 : Int32} {x2 : Int32} {M : Mm} {M' : Mm}  (h0 : At L a0 T11) (h : fX11_layBlock fu a0 x1 x2 M = some M') : Ct l E L yX11_layBlock cX11_layBlock 3 none (d + 3) [.ref a0, .int x1, .int x2] M none M' := by
  refine Ct.of (by decide) ?_
  intro p e s m below meth c hr hlk B hR
  have B : Bx p s m _ c cX11_layBlock 3 RX11 E L := B
  have hx := B.1
  have hb := B.2.1
  have hl := lv_entry ([.ref a0, .int x1, .int x2]) (n := 3) (Nat.le_of_ble_eq_true rfl)
  rw [lg_entry_eq]
  generalize (lg_sl ([.ref a0, .int x1, .int x2]) ++ List.replicate (3 - (lg_sl ([.ref a0, .int x1, .int x2])).length) Slot.unset).toArray = ls at hl ⊢
  have hl : lv_has ls 3 [(0, .ref a0), (1, .int x1), (2, .int x2)] := hl
  unfold fX11_layBlock at h
  refine lv_aload_n hx hb dX11_layBlock_0 rfl (lv_at hl 0 rfl) ?_
  refine gf_X11_54 B hR (h0.at0 rfl) dX11_layBlock_1 ?_
  refine lv_aload_n hx hb dX11_layBlock_4 rfl (lv_at hl 0 rfl) ?_
  refine gf_X11_350 B hR (h0.at0 rfl) dX11_layBlock_5 ?_
  refine lv_aload_n hx hb dX11_layBlock_8 rfl (lv_at hl 0 rfl) ?_
  refine lv_iload_n hx hb dX11_layBlock_9 rfl (lv_at hl 1 rfl) ?_
  obtain ⟨r_10, hc_10, h⟩ := bi_el h
  refine iv_X11_353 B hR (h0.at0 rfl) hl.1 (mX11_baseAt fu _ h0 hc_10) (Nat.le_of_ble_eq_true rfl) dX11_layBlock_10 (fun H locs hR => ?_)
  obtain ⟨hi_13, h⟩ := ifn_el h
  obtain ⟨M_13, eM_13, h⟩ := lt_el h
  refine r_iast B hR (h0.at 14 rfl) hi_13 dX11_layBlock_13 (fun H locs hR => ?_)
  rw [← eM_13] at hR
  refine lv_aload_n hx hb dX11_layBlock_14 rfl (lv_at hl 0 rfl) ?_
  refine gf_X11_57 B hR (h0.at0 rfl) dX11_layBlock_15 ?_
  refine lv_aload_n hx hb dX11_layBlock_18 rfl (lv_at hl 0 rfl) ?_
  refine gf_X11_350 B hR (h0.at0 rfl) dX11_layBlock_19 ?_
  refine lv_aload_n hx hb dX11_layBlock_22 rfl (lv_at hl 0 rfl) ?_
  refine lv_iload_n hx hb dX11_layBlock_23 rfl (lv_at hl 1 rfl) ?_
  obtain ⟨r_24, hc_24, h⟩ := bi_el h
  refine iv_X11_312 B hR (h0.at0 rfl) hl.1 (mX11_sizeAt fu _ h0 hc_24) (Nat.le_of_ble_eq_true rfl) dX11_layBlock_24 (fun H locs hR => ?_)
  obtain ⟨hi_27, h⟩ := ifn_el h
  obtain ⟨M_27, eM_27, h⟩ := lt_el h
  refine r_iast B hR (h0.at 15 rfl) hi_27 dX11_layBlock_27 (fun H locs hR => ?_)
  rw [← eM_27] at hR
  refine lv_aload_n hx hb dX11_layBlock_28 rfl (lv_at hl 0 rfl) ?_
  refine gf_X11_60 B hR (h0.at0 rfl) dX11_layBlock_29 ?_
  refine lv_aload_n hx hb dX11_layBlock_32 rfl (lv_at hl 0 rfl) ?_
  refine gf_X11_350 B hR (h0.at0 rfl) dX11_layBlock_33 ?_
  refine lv_iload_n hx hb dX11_layBlock_36 rfl (lv_at hl 2 rfl) ?_
  obtain ⟨hi_37, h⟩ := ifn_el h
  obtain ⟨M_37, eM_37, h⟩ := lt_el h
  refine r_iast B hR (h0.at 16 rfl) hi_37 dX11_layBlock_37 (fun H locs hR => ?_)
  rw [← eM_37] at hR
  refine lv_aload_n hx hb dX11_layBlock_38 rfl (lv_at hl 0 rfl) ?_
  refine lv_dup hx hb dX11_layBlock_39 rfl ?_
  refine gf_X11_350 B hR (h0.at0 rfl) dX11_layBlock_40 ?_
  refine lv_iconst (v := 1) hx hb dX11_layBlock_43 (by decide) ?_
  refine lv_iadd hx hb dX11_layBlock_44 ?_
  obtain ⟨M_45, eM_45, h⟩ := lt_el h
  refine pf_X11_350 B hR (h0.at0 rfl) dX11_layBlock_45 (fun H locs hR => ?_)
  rw [← eM_45] at hR
  exact r_vretW B hR hr hlk h dX11_layBlock_48
def fX11_layBy_j68 (fu : Nat) (k39 : Int32 → Option Mm) (a0 : Nat) (n1 : Nat) (a1 : Nat) (x2 : Int32) (x3 : Int32) (x4 : Int32) (x6 : Int32) (M : Mm) : Option Mm :=
  lt (x6 + 1) fun x6_68 =>
  k39 x6_68
set_option maxRecDepth 100000 in
set_option maxHeartbeats 4000000 in
theorem wX11_layBy_j68 {M' : Mm}  {k39 : Int32 → Option Mm} {a0 : Nat} {n1 : Nat} {a1 : Nat} {x2 : Int32} {x3 : Int32} {x4 : Int32} {x6 : Int32} {M : Mm} (B : Bx p s m args c cX11_layBy 7 RX11 E L) (hr : meth.sig.returnType = none) (hlk : meth.locks = false) (ih39 : ∀ (x6 : Int32), k39 x6 = some M' → ∀ (H : Heap) (locs : List Loc) (ls : Array Slot), Rx s E L M H locs → lv_has ls 7 [(0, .ref a0), (1, .ref a1), (2, .int x2), (3, .int x3), (4, .int x4), (6, .int x6)] → W p l e (rmD (d + 4)) s m args below meth c H locs 0 0 (MQ below (QcM E L none M') args s 0 0 E.2.2.2) (F0 m 39 ls [])) (h0 : At L a0 T11) (h1 : (a1, (0, n1)) ∈ L) (h : fX11_layBy_j68 fu k39 a0 n1 a1 x2 x3 x4 x6 M = some M') (hR : Rx s E L M H locs) (hl : lv_has ls 7 [(0, .ref a0), (1, .ref a1), (2, .int x2), (3, .int x3), (4, .int x4), (6, .int x6)]) : W p l e (rmD (d + 4)) s m args below meth c H locs 0 0 (MQ below (QcM E L none M') args s 0 0 E.2.2.2) (F0 m 68 ls []) := by
  have hx := B.1
  have hb := B.2.1
  unfold fX11_layBy_j68 at h
  obtain ⟨x6_68, ex6_68, h⟩ := lt_el h
  refine lv_iinc (v := x6_68) (lv' := [(6, .int x6_68), (0, .ref a0), (1, .ref a1), (2, .int x2), (3, .int x3), (4, .int x4)]) hx hb dX11_layBy_68 hl (k := 5) rfl (by rw [ex6_68]; rfl) (by decide) rfl (fun ls hl => ?_)
  refine lv_goto (tgt := 39) hx hb dX11_layBy_71 (by decide) ?_
  exact ih39 x6_68 h _ _ _ hR (lv_sub hl [1, 2, 3, 4, 5, 0] rfl)
def fX11_layBy_j74 (fu : Nat) (a0 : Nat) (x2 : Int32) (x3 : Int32) (x6 : Int32) (M : Mm) : Option Mm :=
  bm (fX11_layBlock fu a0 x2 x6 M) fun M_78 =>
  bi (fX11_madeBy fu x3 x6) fun r_86 =>
  bm (fX11_waits fu a0 x2 r_86 M_78) fun M_89 =>
  some M_89
set_option maxRecDepth 100000 in
set_option maxHeartbeats 4000000 in
theorem wX11_layBy_j74 {M' : Mm}   {a0 : Nat} {x2 : Int32} {x3 : Int32} {x6 : Int32} {M : Mm} (B : Bx p s m args c cX11_layBy 7 RX11 E L) (hr : meth.sig.returnType = none) (hlk : meth.locks = false)  (h0 : At L a0 T11) (h : fX11_layBy_j74 fu a0 x2 x3 x6 M = some M') (hR : Rx s E L M H locs) (hl : lv_has ls 7 [(0, .ref a0), (2, .int x2), (3, .int x3), (6, .int x6)]) : W p l e (rmD (d + 4)) s m args below meth c H locs 0 0 (MQ below (QcM E L none M') args s 0 0 E.2.2.2) (F0 m 74 ls []) := by
  have hx := B.1
  have hb := B.2.1
  unfold fX11_layBy_j74 at h
  refine lv_aload_n hx hb dX11_layBy_74 rfl (lv_at hl 0 rfl) ?_
  refine lv_iload_n hx hb dX11_layBy_75 rfl (lv_at hl 1 rfl) ?_
  refine lv_iload hx hb dX11_layBy_76 (lv_at hl 3 rfl) ?_
  obtain ⟨M_78, hc_78, h⟩ := bm_el h
  refine iv_X11_360 B hR (h0.at0 rfl) hl.1 (mX11_layBlock fu _ h0 hc_78) (Nat.le_of_ble_eq_true rfl) dX11_layBy_78 (fun H locs hR => ?_)
  refine lv_aload_n hx hb dX11_layBy_81 rfl (lv_at hl 0 rfl) ?_
  refine lv_iload_n hx hb dX11_layBy_82 rfl (lv_at hl 1 rfl) ?_
  refine lv_iload_n hx hb dX11_layBy_83 rfl (lv_at hl 2 rfl) ?_
  refine lv_iload hx hb dX11_layBy_84 (lv_at hl 3 rfl) ?_
  obtain ⟨r_86, hc_86, h⟩ := bi_el h
  refine is_X11_332 B hR hl.1 (mX11_madeBy fu _  hc_86) (Nat.le_of_ble_eq_true rfl) dX11_layBy_86 (fun H locs hR => ?_)
  obtain ⟨M_89, hc_89, h⟩ := bm_el h
  refine iv_X11_356 B hR (h0.at0 rfl) hl.1 (mX11_waits fu _ h0 hc_89) (Nat.le_of_ble_eq_true rfl) dX11_layBy_89 (fun H locs hR => ?_)
  exact r_vretW B hR hr hlk h dX11_layBy_92
def fX11_layBy_b39 (fu : Nat) (k39 : Int32 → Option Mm) (a0 : Nat) (n1 : Nat) (a1 : Nat) (x2 : Int32) (x3 : Int32) (x4 : Int32) (x6 : Int32) (M : Mm) : Option Mm :=
  bi (fX11_madeBy fu x3 x6) fun r_42 =>
  if r_42 < 0 then
    fX11_layBy_j68 fu k39 a0 n1 a1 x2 x3 x4 x6 M
  else
    bi (fX11_madeBy fu x3 x6) fun r_57 =>
    if ((6 * x2) + r_57) < 0 ∨ n1 ≤ ix ((6 * x2) + r_57) then none else
    if (1 + (M.1 a1 (ix ((6 * x2) + r_57)))) = x4 then
      fX11_layBy_j74 fu a0 x2 x3 x6 M
    else
      fX11_layBy_j68 fu k39 a0 n1 a1 x2 x3 x4 x6 M
set_option maxRecDepth 100000 in
set_option maxHeartbeats 4000000 in
theorem wX11_layBy_b39 {M' : Mm}   {k39 : Int32 → Option Mm} {a0 : Nat} {n1 : Nat} {a1 : Nat} {x2 : Int32} {x3 : Int32} {x4 : Int32} {x6 : Int32} {M : Mm} (B : Bx p s m args c cX11_layBy 7 RX11 E L) (hr : meth.sig.returnType = none) (hlk : meth.locks = false)  (ih39 : ∀ (x6 : Int32), k39 x6 = some M' → ∀ (H : Heap) (locs : List Loc) (ls : Array Slot), Rx s E L M H locs → lv_has ls 7 [(0, .ref a0), (1, .ref a1), (2, .int x2), (3, .int x3), (4, .int x4), (6, .int x6)] → W p l e (rmD (d + 4)) s m args below meth c H locs 0 0 (MQ below (QcM E L none M') args s 0 0 E.2.2.2) (F0 m 39 ls [])) (h0 : At L a0 T11) (h1 : (a1, (0, n1)) ∈ L) (h : fX11_layBy_b39 fu k39 a0 n1 a1 x2 x3 x4 x6 M = some M') (hR : Rx s E L M H locs) (hl : lv_has ls 7 [(0, .ref a0), (1, .ref a1), (2, .int x2), (3, .int x3), (4, .int x4), (6, .int x6)]) : W p l e (rmD (d + 4)) s m args below meth c H locs 0 0 (MQ below (QcM E L none M') args s 0 0 E.2.2.2) (F0 m 39 ls []) := by
  have hx := B.1
  have hb := B.2.1
  unfold fX11_layBy_b39 at h
  refine lv_iload_n hx hb dX11_layBy_39 rfl (lv_at hl 3 rfl) ?_
  refine lv_iload hx hb dX11_layBy_40 (lv_at hl 5 rfl) ?_
  obtain ⟨r_42, hc_42, h⟩ := bi_el h
  refine is_X11_332 B hR hl.1 (mX11_madeBy fu _  hc_42) (Nat.le_of_ble_eq_true rfl) dX11_layBy_42 (fun H locs hR => ?_)
  refine lv_if_lt (tgt := 68) hx hb dX11_layBy_45 (by decide) (fun c_45 => ?_) (fun c_45 => ?_)
  · rw [if_pos c_45] at h
    exact wX11_layBy_j68 B hr hlk ih39 h0 h1 h hR hl
  · rw [if_neg c_45] at h
    refine lv_iconst (v := 1) hx hb dX11_layBy_48 (by decide) ?_
    refine lv_aload_n hx hb dX11_layBy_49 rfl (lv_at hl 1 rfl) ?_
    refine lv_bipush (v := 6) hx hb dX11_layBy_50 (by decide) ?_
    refine lv_iload_n hx hb dX11_layBy_52 rfl (lv_at hl 2 rfl) ?_
    refine lv_imul hx hb dX11_layBy_53 ?_
    refine lv_iload_n hx hb dX11_layBy_54 rfl (lv_at hl 3 rfl) ?_
    refine lv_iload hx hb dX11_layBy_55 (lv_at hl 5 rfl) ?_
    obtain ⟨r_57, hc_57, h⟩ := bi_el h
    refine is_X11_332 B hR hl.1 (mX11_madeBy fu _  hc_57) (Nat.le_of_ble_eq_true rfl) dX11_layBy_57 (fun H locs hR => ?_)
    refine lv_iadd hx hb dX11_layBy_60 ?_
    obtain ⟨hi_61, h⟩ := ifn_el h
    refine r_iald B hR h1 hi_61 dX11_layBy_61 ?_
    refine lv_iadd hx hb dX11_layBy_62 ?_
    refine lv_iload hx hb dX11_layBy_63 (lv_at hl 4 rfl) ?_
    refine lv_icmp_eq (tgt := 74) hx hb dX11_layBy_65 (by decide) (fun c_65 => ?_) (fun c_65 => ?_)
    · rw [if_pos c_65] at h
      exact wX11_layBy_j74 B hr hlk h0 h hR (lv_sub hl [0, 2, 3, 5] rfl)
    · rw [if_neg c_65] at h
      exact wX11_layBy_j68 B hr hlk ih39 h0 h1 h hR hl
def fX11_layBy_l39 (fu : Nat) (a0 : Nat) (n1 : Nat) (a1 : Nat) (x2 : Int32) (x3 : Int32) (x4 : Int32) (M : Mm) (x6 : Int32) : Option Mm := lp (fun (rec : Int32 → Option Mm) (s : Int32) => fX11_layBy_b39 fu  (fun x6 => rec (x6)) a0 n1 a1 x2 x3 x4 s M) fu (x6)
set_option maxRecDepth 100000 in
set_option maxHeartbeats 4000000 in
theorem wX11_layBy_l39 {M' : Mm}   {a0 : Nat} {n1 : Nat} {a1 : Nat} {x2 : Int32} {x3 : Int32} {x4 : Int32} {x6 : Int32} {M : Mm} (B : Bx p s m args c cX11_layBy 7 RX11 E L) (hr : meth.sig.returnType = none) (hlk : meth.locks = false)  (h0 : At L a0 T11) (h1 : (a1, (0, n1)) ∈ L) (h : fX11_layBy_l39 fu a0 n1 a1 x2 x3 x4 M x6 = some M') (hR : Rx s E L M H locs) (hl : lv_has ls 7 [(0, .ref a0), (1, .ref a1), (2, .int x2), (3, .int x3), (4, .int x4), (6, .int x6)]) : W p l e (rmD (d + 4)) s m args below meth c H locs 0 0 (MQ below (QcM E L none M') args s 0 0 E.2.2.2) (F0 m 39 ls []) := by
  refine lp_G (G := fun z : Int32 => ∀ (H : Heap) (locs : List Loc) (ls : Array Slot), Rx s E L M H locs → lv_has ls 7 [(0, .ref a0), (1, .ref a1), (2, .int x2), (3, .int x3), (4, .int x4), (6, .int z)] → W p l e (rmD (d + 4)) s m args below meth c H locs 0 0 (MQ below (QcM E L none M') args s 0 0 E.2.2.2) (F0 m 39 ls [])) (fun rec ih z h H locs ls hR hl => ?_) fu _ h H locs ls hR hl
  exact wX11_layBy_b39 B hr hlk  (fun x6 h => ih (x6) h) h0 h1 h hR hl
def fX11_layBy_j36 (fu : Nat) (a0 : Nat) (n1 : Nat) (a1 : Nat) (x2 : Int32) (x3 : Int32) (x4 : Int32) (M : Mm) : Option Mm :=
  fX11_layBy_l39 fu a0 n1 a1 x2 x3 x4 M 0
set_option maxRecDepth 100000 in
set_option maxHeartbeats 4000000 in
theorem wX11_layBy_j36 {M' : Mm}   {a0 : Nat} {n1 : Nat} {a1 : Nat} {x2 : Int32} {x3 : Int32} {x4 : Int32} {M : Mm} (B : Bx p s m args c cX11_layBy 7 RX11 E L) (hr : meth.sig.returnType = none) (hlk : meth.locks = false)  (h0 : At L a0 T11) (h1 : (a1, (0, n1)) ∈ L) (h : fX11_layBy_j36 fu a0 n1 a1 x2 x3 x4 M = some M') (hR : Rx s E L M H locs) (hl : lv_has ls 7 [(0, .ref a0), (1, .ref a1), (2, .int x2), (3, .int x3), (4, .int x4)]) : W p l e (rmD (d + 4)) s m args below meth c H locs 0 0 (MQ below (QcM E L none M') args s 0 0 E.2.2.2) (F0 m 36 ls []) := by
  have hx := B.1
  have hb := B.2.1
  unfold fX11_layBy_j36 at h
  refine lv_iconst (v := 0) hx hb dX11_layBy_36 (by decide) ?_
  refine lv_istore (lv' := [(6, .int 0), (0, .ref a0), (1, .ref a1), (2, .int x2), (3, .int x3), (4, .int x4)]) hx hb dX11_layBy_37 hl (by decide) rfl (fun ls hl => ?_)
  exact wX11_layBy_l39 B hr hlk h0 h1 h hR (lv_sub hl [1, 2, 3, 4, 5, 0] rfl)
def fX11_layBy (fu : Nat) (a0 : Nat) (n1 : Nat) (a1 : Nat) (x2 : Int32) (x3 : Int32) (x4 : Int32) (x5 : Int32) (M : Mm) : Option Mm :=
  if x5 = 0 then
    fX11_layBy_j36 fu a0 n1 a1 x2 x3 x4 M
  else
    bi (fX11_both fu a0 n1 a1 x2 x3 M) fun r_9 =>
    if r_9 = x4 then
      bm (fX11_waits fu a0 ((2 * x2) + 1) x3 M) fun M_24 =>
      bm (fX11_waits fu a0 (2 * x2) x3 M_24) fun M_32 =>
      some M_32
    else
      fX11_layBy_j36 fu a0 n1 a1 x2 x3 x4 M
set_option maxRecDepth 100000 in
set_option maxHeartbeats 4000000 in
theorem mX11_layBy {l : Launch} {E : Ge} {L : Lay} (fu d : Nat) {a0 : Nat} {n1 : Nat} {a1 : Nat} {x2 : Int32} {x3 : Int32} {x4 : Int32} {x5 : Int32} {M : Mm} {M' : Mm}  (h0 : At L a0 T11) (h1 : (a1, (0, n1)) ∈ L) (h : fX11_layBy fu a0 n1 a1 x2 x3 x4 x5 M = some M') : Ct l E L yX11_layBy cX11_layBy 7 none (d + 4) [.ref a0, .ref a1, .int x2, .int x3, .int x4, .int x5] M none M' := by
  refine Ct.of (by decide) ?_
  intro p e s m below meth c hr hlk B hR
  have B : Bx p s m _ c cX11_layBy 7 RX11 E L := B
  have hx := B.1
  have hb := B.2.1
  have hl := lv_entry ([.ref a0, .ref a1, .int x2, .int x3, .int x4, .int x5]) (n := 7) (Nat.le_of_ble_eq_true rfl)
  rw [lg_entry_eq]
  generalize (lg_sl ([.ref a0, .ref a1, .int x2, .int x3, .int x4, .int x5]) ++ List.replicate (7 - (lg_sl ([.ref a0, .ref a1, .int x2, .int x3, .int x4, .int x5])).length) Slot.unset).toArray = ls at hl ⊢
  have hl : lv_has ls 7 [(0, .ref a0), (1, .ref a1), (2, .int x2), (3, .int x3), (4, .int x4), (5, .int x5)] := hl
  unfold fX11_layBy at h
  refine lv_iload hx hb dX11_layBy_0 (lv_at hl 5 rfl) ?_
  refine lv_if_eq (tgt := 36) hx hb dX11_layBy_2 (by decide) (fun c_2 => ?_) (fun c_2 => ?_)
  · rw [if_pos c_2] at h
    exact wX11_layBy_j36 B hr hlk h0 h1 h hR (lv_sub hl [0, 1, 2, 3, 4] rfl)
  · rw [if_neg c_2] at h
    refine lv_aload_n hx hb dX11_layBy_5 rfl (lv_at hl 0 rfl) ?_
    refine lv_aload_n hx hb dX11_layBy_6 rfl (lv_at hl 1 rfl) ?_
    refine lv_iload_n hx hb dX11_layBy_7 rfl (lv_at hl 2 rfl) ?_
    refine lv_iload_n hx hb dX11_layBy_8 rfl (lv_at hl 3 rfl) ?_
    obtain ⟨r_9, hc_9, h⟩ := bi_el h
    refine iv_X11_328 B hR (h0.at0 rfl) hl.1 (mX11_both fu _ h0 h1 hc_9) (Nat.le_of_ble_eq_true rfl) dX11_layBy_9 (fun H locs hR => ?_)
    refine lv_iload hx hb dX11_layBy_12 (lv_at hl 4 rfl) ?_
    refine lv_icmp_ne (tgt := 36) hx hb dX11_layBy_14 (by decide) (fun c_14 => ?_) (fun c_14 => ?_)
    · rw [if_neg c_14] at h
      exact wX11_layBy_j36 B hr hlk h0 h1 h hR (lv_sub hl [0, 1, 2, 3, 4] rfl)
    · rw [if_pos c_14] at h
      refine lv_aload_n hx hb dX11_layBy_17 rfl (lv_at hl 0 rfl) ?_
      refine lv_iconst (v := 2) hx hb dX11_layBy_18 (by decide) ?_
      refine lv_iload_n hx hb dX11_layBy_19 rfl (lv_at hl 2 rfl) ?_
      refine lv_imul hx hb dX11_layBy_20 ?_
      refine lv_iconst (v := 1) hx hb dX11_layBy_21 (by decide) ?_
      refine lv_iadd hx hb dX11_layBy_22 ?_
      refine lv_iload_n hx hb dX11_layBy_23 rfl (lv_at hl 3 rfl) ?_
      obtain ⟨M_24, hc_24, h⟩ := bm_el h
      refine iv_X11_356 B hR (h0.at0 rfl) hl.1 (mX11_waits fu _ h0 hc_24) (Nat.le_of_ble_eq_true rfl) dX11_layBy_24 (fun H locs hR => ?_)
      refine lv_aload_n hx hb dX11_layBy_27 rfl (lv_at hl 0 rfl) ?_
      refine lv_iconst (v := 2) hx hb dX11_layBy_28 (by decide) ?_
      refine lv_iload_n hx hb dX11_layBy_29 rfl (lv_at hl 2 rfl) ?_
      refine lv_imul hx hb dX11_layBy_30 ?_
      refine lv_iload_n hx hb dX11_layBy_31 rfl (lv_at hl 3 rfl) ?_
      obtain ⟨M_32, hc_32, h⟩ := bm_el h
      refine iv_X11_356 B hR (h0.at0 rfl) hl.1 (mX11_waits fu _ h0 hc_32) (Nat.le_of_ble_eq_true rfl) dX11_layBy_32 (fun H locs hR => ?_)
      exact r_vretW B hR hr hlk h dX11_layBy_35
def fX11_layWaiting_j89 (fu : Nat) (M : Mm) : Option Mm :=
  some M
set_option maxRecDepth 100000 in
set_option maxHeartbeats 4000000 in
theorem wX11_layWaiting_j89 {M' : Mm}    {M : Mm} (B : Bx p s m args c cX11_layWaiting 5 RX11 E L) (hr : meth.sig.returnType = none) (hlk : meth.locks = false)   (h : fX11_layWaiting_j89 fu M = some M') (hR : Rx s E L M H locs) (hl : lv_has ls 5 []) : W p l e (rmD (d + 5)) s m args below meth c H locs 0 0 (MQ below (QcM E L none M') args s 0 0 E.2.2.2) (F0 m 89 ls []) := by
  have hx := B.1
  have hb := B.2.1
  unfold fX11_layWaiting_j89 at h
  exact r_vretW B hR hr hlk h dX11_layWaiting_89
def fX11_layWaiting_j86 (fu : Nat) (k0 : Mm → Option Mm) (a0 : Nat) (x1 : Int32) (x2 : Int32) (M : Mm) : Option Mm :=
  k0 M
set_option maxRecDepth 100000 in
set_option maxHeartbeats 4000000 in
theorem wX11_layWaiting_j86 {M' : Mm}  {k0 : Mm → Option Mm} {a0 : Nat} {x1 : Int32} {x2 : Int32} {M : Mm} (B : Bx p s m args c cX11_layWaiting 5 RX11 E L) (hr : meth.sig.returnType = none) (hlk : meth.locks = false) (ih0 : ∀ (M : Mm), k0 M = some M' → ∀ (H : Heap) (locs : List Loc) (ls : Array Slot), Rx s E L M H locs → lv_has ls 5 [(0, .ref a0), (1, .int x1), (2, .int x2)] → W p l e (rmD (d + 5)) s m args below meth c H locs 0 0 (MQ below (QcM E L none M') args s 0 0 E.2.2.2) (F0 m 0 ls [])) (h0 : At L a0 T11) (h : fX11_layWaiting_j86 fu k0 a0 x1 x2 M = some M') (hR : Rx s E L M H locs) (hl : lv_has ls 5 [(0, .ref a0), (1, .int x1), (2, .int x2)]) : W p l e (rmD (d + 5)) s m args below meth c H locs 0 0 (MQ below (QcM E L none M') args s 0 0 E.2.2.2) (F0 m 86 ls []) := by
  have hx := B.1
  have hb := B.2.1
  unfold fX11_layWaiting_j86 at h
  refine lv_goto (tgt := 0) hx hb dX11_layWaiting_86 (by decide) ?_
  exact ih0 M h _ _ _ hR hl
def fX11_layWaiting_j83 (fu : Nat) (k0 : Mm → Option Mm) (a0 : Nat) (x1 : Int32) (x2 : Int32) (b0 : Nat) (b1 : Nat) (t2 : Int32) (t3 : Int32) (t4 : Int32) (t5 : Int32) (M : Mm) : Option Mm :=
  bm (fX11_layBy fu b0 12288 b1 t2 t3 t4 t5 M) fun M_83 =>
  fX11_layWaiting_j86 fu k0 a0 x1 x2 M_83
set_option maxRecDepth 100000 in
set_option maxHeartbeats 4000000 in
theorem wX11_layWaiting_j83 {M' : Mm}  {k0 : Mm → Option Mm} {a0 : Nat} {x1 : Int32} {x2 : Int32} {b0 : Nat} {b1 : Nat} {t2 : Int32} {t3 : Int32} {t4 : Int32} {t5 : Int32} {M : Mm} (B : Bx p s m args c cX11_layWaiting 5 RX11 E L) (hr : meth.sig.returnType = none) (hlk : meth.locks = false) (ih0 : ∀ (M : Mm), k0 M = some M' → ∀ (H : Heap) (locs : List Loc) (ls : Array Slot), Rx s E L M H locs → lv_has ls 5 [(0, .ref a0), (1, .int x1), (2, .int x2)] → W p l e (rmD (d + 5)) s m args below meth c H locs 0 0 (MQ below (QcM E L none M') args s 0 0 E.2.2.2) (F0 m 0 ls [])) (h0 : At L a0 T11) (g0 : At L b0 T11) (g1 : (b1, (0, 12288)) ∈ L) (h : fX11_layWaiting_j83 fu k0 a0 x1 x2 b0 b1 t2 t3 t4 t5 M = some M') (hR : Rx s E L M H locs) (hl : lv_has ls 5 [(0, .ref a0), (1, .int x1), (2, .int x2)]) : W p l e (rmD (d + 5)) s m args below meth c H locs 0 0 (MQ below (QcM E L none M') args s 0 0 E.2.2.2) (F0 m 83 ls [.int t5, .int t4, .int t3, .int t2, .ref b1, .ref b0]) := by
  have hx := B.1
  have hb := B.2.1
  unfold fX11_layWaiting_j83 at h
  obtain ⟨M_83, hc_83, h⟩ := bm_el h
  refine iv_X11_363 B hR (g0.at0 rfl) hl.1 (mX11_layBy fu _ g0 g1 hc_83) (Nat.le_of_ble_eq_true rfl) dX11_layWaiting_83 (fun H locs hR => ?_)
  exact wX11_layWaiting_j86 B hr hlk ih0 h0 h hR hl
def fX11_layWaiting_b0 (fu : Nat) (k0 : Mm → Option Mm) (a0 : Nat) (x1 : Int32) (x2 : Int32) (M : Mm) : Option Mm :=
  if (M.1 a0 32) ≤ x1 then
    fX11_layWaiting_j89 fu M
  else
    lt (wI M a0 32 ((M.1 a0 32) - 1)) fun M_15 =>
    if (M_15.1 a0 32) < 0 ∨ 4200 ≤ ix (M_15.1 a0 32) then none else
    lt ((M_15.1 (a0 + 12) (ix (M_15.1 a0 32)))) fun x3_27 =>
    lt ((M_15.1 (a0 + 13) (ix (M_15.1 a0 32)))) fun x4_37 =>
    bi (fX11_isRight fu a0 x3_27 x4_37 x2 M_15) fun r_44 =>
    if r_44 = 0 then
      if ((6 * x3_27) + x4_37) < 0 ∨ 12288 ≤ ix ((6 * x3_27) + x4_37) then none else
      bi (fX11_addresses fu a0 M_15) fun r_72 =>
      if r_72 ≤ x3_27 then
        fX11_layWaiting_j83 fu k0 a0 x1 x2 a0 (a0 + 9) x3_27 x4_37 (M_15.1 (a0 + 9) (ix ((6 * x3_27) + x4_37))) 0 M_15
      else
        fX11_layWaiting_j83 fu k0 a0 x1 x2 a0 (a0 + 9) x3_27 x4_37 (M_15.1 (a0 + 9) (ix ((6 * x3_27) + x4_37))) 1 M_15
    else
      fX11_layWaiting_j86 fu k0 a0 x1 x2 M_15
set_option maxRecDepth 100000 in
set_option maxHeartbeats 4000000 in
theorem wX11_layWaiting_b0 {M' : Mm}   {k0 : Mm → Option Mm} {a0 : Nat} {x1 : Int32} {x2 : Int32} {M : Mm} (B : Bx p s m args c cX11_layWaiting 5 RX11 E L) (hr : meth.sig.returnType = none) (hlk : meth.locks = false)  (ih0 : ∀ (M : Mm), k0 M = some M' → ∀ (H : Heap) (locs : List Loc) (ls : Array Slot), Rx s E L M H locs → lv_has ls 5 [(0, .ref a0), (1, .int x1), (2, .int x2)] → W p l e (rmD (d + 5)) s m args below meth c H locs 0 0 (MQ below (QcM E L none M') args s 0 0 E.2.2.2) (F0 m 0 ls [])) (h0 : At L a0 T11) (h : fX11_layWaiting_b0 fu k0 a0 x1 x2 M = some M') (hR : Rx s E L M H locs) (hl : lv_has ls 5 [(0, .ref a0), (1, .int x1), (2, .int x2)]) : W p l e (rmD (d + 5)) s m args below meth c H locs 0 0 (MQ below (QcM E L none M') args s 0 0 E.2.2.2) (F0 m 0 ls []) := by
  have hx := B.1
  have hb := B.2.1
  unfold fX11_layWaiting_b0 at h
  refine lv_aload_n hx hb dX11_layWaiting_0 rfl (lv_at hl 0 rfl) ?_
  refine gf_X11_347 B hR (h0.at0 rfl) dX11_layWaiting_1 ?_
  refine lv_iload_n hx hb dX11_layWaiting_4 rfl (lv_at hl 1 rfl) ?_
  refine lv_icmp_le (tgt := 89) hx hb dX11_layWaiting_5 (by decide) (fun c_5 => ?_) (fun c_5 => ?_)
  · rw [if_pos c_5] at h
    exact wX11_layWaiting_j89 B hr hlk  h hR (lv_sub hl [] rfl)
  · rw [if_neg c_5] at h
    refine lv_aload_n hx hb dX11_layWaiting_8 rfl (lv_at hl 0 rfl) ?_
    refine lv_dup hx hb dX11_layWaiting_9 rfl ?_
    refine gf_X11_347 B hR (h0.at0 rfl) dX11_layWaiting_10 ?_
    refine lv_iconst (v := 1) hx hb dX11_layWaiting_13 (by decide) ?_
    refine lv_isub hx hb dX11_layWaiting_14 ?_
    obtain ⟨M_15, eM_15, h⟩ := lt_el h
    refine pf_X11_347 B hR (h0.at0 rfl) dX11_layWaiting_15 (fun H locs hR => ?_)
    rw [← eM_15] at hR
    refine lv_aload_n hx hb dX11_layWaiting_18 rfl (lv_at hl 0 rfl) ?_
    refine gf_X11_48 B hR (h0.at0 rfl) dX11_layWaiting_19 ?_
    refine lv_aload_n hx hb dX11_layWaiting_22 rfl (lv_at hl 0 rfl) ?_
    refine gf_X11_347 B hR (h0.at0 rfl) dX11_layWaiting_23 ?_
    obtain ⟨hi_26, h⟩ := ifn_el h
    refine r_iald B hR (h0.at 12 rfl) hi_26 dX11_layWaiting_26 ?_
    obtain ⟨x3_27, ex3_27, h⟩ := lt_el h
    refine r_nmI ex3_27 ?_
    refine lv_istore_n (lv' := [(3, .int x3_27), (0, .ref a0), (1, .int x1), (2, .int x2)]) hx hb dX11_layWaiting_27 rfl hl (by decide) rfl (fun ls hl => ?_)
    refine lv_aload_n hx hb dX11_layWaiting_28 rfl (lv_at hl 1 rfl) ?_
    refine gf_X11_51 B hR (h0.at0 rfl) dX11_layWaiting_29 ?_
    refine lv_aload_n hx hb dX11_layWaiting_32 rfl (lv_at hl 1 rfl) ?_
    refine gf_X11_347 B hR (h0.at0 rfl) dX11_layWaiting_33 ?_
    refine r_iald B hR (h0.at 13 rfl) hi_26 dX11_layWaiting_36 ?_
    obtain ⟨x4_37, ex4_37, h⟩ := lt_el h
    refine r_nmI ex4_37 ?_
    refine lv_istore (lv' := [(4, .int x4_37), (3, .int x3_27), (0, .ref a0), (1, .int x1), (2, .int x2)]) hx hb dX11_layWaiting_37 hl (by decide) rfl (fun ls hl => ?_)
    refine lv_aload_n hx hb dX11_layWaiting_39 rfl (lv_at hl 2 rfl) ?_
    refine lv_iload_n hx hb dX11_layWaiting_40 rfl (lv_at hl 1 rfl) ?_
    refine lv_iload hx hb dX11_layWaiting_41 (lv_at hl 0 rfl) ?_
    refine lv_iload_n hx hb dX11_layWaiting_43 rfl (lv_at hl 4 rfl) ?_
    obtain ⟨r_44, hc_44, h⟩ := bi_el h
    refine iv_X11_325 B hR (h0.at0 rfl) hl.1 (mX11_isRight fu _ h0 hc_44) (Nat.le_of_ble_eq_true rfl) dX11_layWaiting_44 (fun H locs hR => ?_)
    refine lv_if_ne (tgt := 86) hx hb dX11_layWaiting_47 (by decide) (fun c_47 => ?_) (fun c_47 => ?_)
    · rw [if_neg c_47] at h
      exact wX11_layWaiting_j86 B hr hlk ih0 h0 h hR (lv_sub hl [2, 3, 4] rfl)
    · rw [if_pos c_47] at h
      refine lv_aload_n hx hb dX11_layWaiting_50 rfl (lv_at hl 2 rfl) ?_
      refine lv_aload_n hx hb dX11_layWaiting_51 rfl (lv_at hl 2 rfl) ?_
      refine gf_X11_39 B hR (h0.at0 rfl) dX11_layWaiting_52 ?_
      refine lv_iload_n hx hb dX11_layWaiting_55 rfl (lv_at hl 1 rfl) ?_
      refine lv_iload hx hb dX11_layWaiting_56 (lv_at hl 0 rfl) ?_
      refine lv_aload_n hx hb dX11_layWaiting_58 rfl (lv_at hl 2 rfl) ?_
      refine gf_X11_39 B hR (h0.at0 rfl) dX11_layWaiting_59 ?_
      refine lv_bipush (v := 6) hx hb dX11_layWaiting_62 (by decide) ?_
      refine lv_iload_n hx hb dX11_layWaiting_64 rfl (lv_at hl 1 rfl) ?_
      refine lv_imul hx hb dX11_layWaiting_65 ?_
      refine lv_iload hx hb dX11_layWaiting_66 (lv_at hl 0 rfl) ?_
      refine lv_iadd hx hb dX11_layWaiting_68 ?_
      obtain ⟨hi_69, h⟩ := ifn_el h
      refine r_iald B hR (h0.at 9 rfl) hi_69 dX11_layWaiting_69 ?_
      refine lv_iload_n hx hb dX11_layWaiting_70 rfl (lv_at hl 1 rfl) ?_
      refine lv_aload_n hx hb dX11_layWaiting_71 rfl (lv_at hl 2 rfl) ?_
      obtain ⟨r_72, hc_72, h⟩ := bi_el h
      refine iv_X11_240 B hR (h0.at0 rfl) hl.1 (mX11_addresses fu _ h0 hc_72) (Nat.le_of_ble_eq_true rfl) dX11_layWaiting_72 (fun H locs hR => ?_)
      refine lv_icmp_ge (tgt := 82) hx hb dX11_layWaiting_75 (by decide) (fun c_75 => ?_) (fun c_75 => ?_)
      · rw [if_pos c_75] at h
        refine lv_iconst (v := 0) hx hb dX11_layWaiting_82 (by decide) ?_
        exact wX11_layWaiting_j83 B hr hlk ih0 h0 h0 (h0.at 9 rfl) h hR (lv_sub hl [2, 3, 4] rfl)
      · rw [if_neg c_75] at h
        refine lv_iconst (v := 1) hx hb dX11_layWaiting_78 (by decide) ?_
        refine lv_goto (tgt := 83) hx hb dX11_layWaiting_79 (by decide) ?_
        exact wX11_layWaiting_j83 B hr hlk ih0 h0 h0 (h0.at 9 rfl) h hR (lv_sub hl [2, 3, 4] rfl)
def fX11_layWaiting_l0 (fu : Nat) (a0 : Nat) (x1 : Int32) (x2 : Int32) (M : Mm) : Option Mm := lp (fun (rec : Mm → Option Mm) (s : Mm) => fX11_layWaiting_b0 fu  (fun M => rec (M)) a0 x1 x2 s) fu (M)
set_option maxRecDepth 100000 in
set_option maxHeartbeats 4000000 in
theorem wX11_layWaiting_l0 {M' : Mm}   {a0 : Nat} {x1 : Int32} {x2 : Int32} {M : Mm} (B : Bx p s m args c cX11_layWaiting 5 RX11 E L) (hr : meth.sig.returnType = none) (hlk : meth.locks = false)  (h0 : At L a0 T11) (h : fX11_layWaiting_l0 fu a0 x1 x2 M = some M') (hR : Rx s E L M H locs) (hl : lv_has ls 5 [(0, .ref a0), (1, .int x1), (2, .int x2)]) : W p l e (rmD (d + 5)) s m args below meth c H locs 0 0 (MQ below (QcM E L none M') args s 0 0 E.2.2.2) (F0 m 0 ls []) := by
  refine lp_G (G := fun z : Mm => ∀ (H : Heap) (locs : List Loc) (ls : Array Slot), Rx s E L z H locs → lv_has ls 5 [(0, .ref a0), (1, .int x1), (2, .int x2)] → W p l e (rmD (d + 5)) s m args below meth c H locs 0 0 (MQ below (QcM E L none M') args s 0 0 E.2.2.2) (F0 m 0 ls [])) (fun rec ih z h H locs ls hR hl => ?_) fu _ h H locs ls hR hl
  exact wX11_layWaiting_b0 B hr hlk  (fun M h => ih (M) h) h0 h hR hl
def fX11_layWaiting (fu : Nat) (a0 : Nat) (x1 : Int32) (x2 : Int32) (M : Mm) : Option Mm :=
  fX11_layWaiting_l0 fu a0 x1 x2 M
set_option maxRecDepth 100000 in
set_option maxHeartbeats 4000000 in
theorem mX11_layWaiting {l : Launch} {E : Ge} {L : Lay} (fu d : Nat) {a0 : Nat} {x1 : Int32} {x2 : Int32} {M : Mm} {M' : Mm}  (h0 : At L a0 T11) (h : fX11_layWaiting fu a0 x1 x2 M = some M') : Ct l E L yX11_layWaiting cX11_layWaiting 5 none (d + 5) [.ref a0, .int x1, .int x2] M none M' := by
  refine Ct.of (by decide) ?_
  intro p e s m below meth c hr hlk B hR
  have B : Bx p s m _ c cX11_layWaiting 5 RX11 E L := B
  have hx := B.1
  have hb := B.2.1
  have hl := lv_entry ([.ref a0, .int x1, .int x2]) (n := 5) (Nat.le_of_ble_eq_true rfl)
  rw [lg_entry_eq]
  generalize (lg_sl ([.ref a0, .int x1, .int x2]) ++ List.replicate (5 - (lg_sl ([.ref a0, .int x1, .int x2])).length) Slot.unset).toArray = ls at hl ⊢
  have hl : lv_has ls 5 [(0, .ref a0), (1, .int x1), (2, .int x2)] := hl
  unfold fX11_layWaiting at h
  exact wX11_layWaiting_l0 B hr hlk h0 h hR hl
def fX11_layPlan_j31 (fu : Nat) (a0 : Nat) (M : Mm) : Option Mm :=
  bm (fX11_layWaiting fu a0 0 5 M) fun M_34 =>
  some M_34
set_option maxRecDepth 100000 in
set_option maxHeartbeats 4000000 in
theorem wX11_layPlan_j31 {M' : Mm}   {a0 : Nat} {M : Mm} (B : Bx p s m args c cX11_layPlan 2 RX11 E L) (hr : meth.sig.returnType = none) (hlk : meth.locks = false)  (h0 : At L a0 T11) (h : fX11_layPlan_j31 fu a0 M = some M') (hR : Rx s E L M H locs) (hl : lv_has ls 2 [(0, .ref a0)]) : W p l e (rmD (d + 6)) s m args below meth c H locs 0 0 (MQ below (QcM E L none M') args s 0 0 E.2.2.2) (F0 m 31 ls []) := by
  have hx := B.1
  have hb := B.2.1
  unfold fX11_layPlan_j31 at h
  refine lv_aload_n hx hb dX11_layPlan_31 rfl (lv_at hl 0 rfl) ?_
  refine lv_iconst (v := 0) hx hb dX11_layPlan_32 (by decide) ?_
  refine lv_iconst (v := 5) hx hb dX11_layPlan_33 (by decide) ?_
  obtain ⟨M_34, hc_34, h⟩ := bm_el h
  refine iv_X11_367 B hR (h0.at0 rfl) hl.1 (mX11_layWaiting fu _ h0 hc_34) (Nat.le_of_ble_eq_true rfl) dX11_layPlan_34 (fun H locs hR => ?_)
  exact r_vretW B hR hr hlk h dX11_layPlan_37
def fX11_layPlan (fu : Nat) (a0 : Nat) (M : Mm) : Option Mm :=
  bw (fX11_costBy fu a0 (M.1 (a0 + 1) (ix 0)) M) fun r_7 M_7 =>
  lt (wI M_7 a0 33 0) fun M_13 =>
  lt (wI M_13 a0 32 0) fun M_18 =>
  if r_7 < 0 then
    fX11_layPlan_j31 fu a0 M_18
  else
    bm (fX11_waits fu a0 1 5 M_18) fun M_28 =>
    fX11_layPlan_j31 fu a0 M_28
set_option maxRecDepth 100000 in
set_option maxHeartbeats 4000000 in
theorem mX11_layPlan {l : Launch} {E : Ge} {L : Lay} (fu d : Nat) {a0 : Nat} {M : Mm} {M' : Mm}  (h0 : At L a0 T11) (h : fX11_layPlan fu a0 M = some M') : Ct l E L yX11_layPlan cX11_layPlan 2 none (d + 6) [.ref a0] M none M' := by
  refine Ct.of (by decide) ?_
  intro p e s m below meth c hr hlk B hR
  have B : Bx p s m _ c cX11_layPlan 2 RX11 E L := B
  have hx := B.1
  have hb := B.2.1
  have hl := lv_entry ([.ref a0]) (n := 2) (Nat.le_of_ble_eq_true rfl)
  rw [lg_entry_eq]
  generalize (lg_sl ([.ref a0]) ++ List.replicate (2 - (lg_sl ([.ref a0])).length) Slot.unset).toArray = ls at hl ⊢
  have hl : lv_has ls 2 [(0, .ref a0)] := hl
  unfold fX11_layPlan at h
  refine lv_aload_n hx hb dX11_layPlan_0 rfl (lv_at hl 0 rfl) ?_
  refine lv_aload_n hx hb dX11_layPlan_1 rfl (lv_at hl 0 rfl) ?_
  refine gf_X11_7 B hR (h0.at0 rfl) dX11_layPlan_2 ?_
  refine lv_iconst (v := 0) hx hb dX11_layPlan_5 (by decide) ?_
  refine r_iald B hR (h0.at 1 rfl) (by decide +kernel) dX11_layPlan_6 ?_
  obtain ⟨r_7, M_7, hc_7, h⟩ := bw_el h
  refine iv_X11_344 B hR (h0.at0 rfl) hl.1 (mX11_costBy fu _ h0 hc_7) (Nat.le_of_ble_eq_true rfl) dX11_layPlan_7 (fun H locs hR => ?_)
  refine lv_istore_n (lv' := [(1, .int r_7), (0, .ref a0)]) hx hb dX11_layPlan_10 rfl hl (by decide) rfl (fun ls hl => ?_)
  refine lv_aload_n hx hb dX11_layPlan_11 rfl (lv_at hl 1 rfl) ?_
  refine lv_iconst (v := 0) hx hb dX11_layPlan_12 (by decide) ?_
  obtain ⟨M_13, eM_13, h⟩ := lt_el h
  refine pf_X11_350 B hR (h0.at0 rfl) dX11_layPlan_13 (fun H locs hR => ?_)
  rw [← eM_13] at hR
  refine lv_aload_n hx hb dX11_layPlan_16 rfl (lv_at hl 1 rfl) ?_
  refine lv_iconst (v := 0) hx hb dX11_layPlan_17 (by decide) ?_
  obtain ⟨M_18, eM_18, h⟩ := lt_el h
  refine pf_X11_347 B hR (h0.at0 rfl) dX11_layPlan_18 (fun H locs hR => ?_)
  rw [← eM_18] at hR
  refine lv_iload_n hx hb dX11_layPlan_21 rfl (lv_at hl 0 rfl) ?_
  refine lv_if_lt (tgt := 31) hx hb dX11_layPlan_22 (by decide) (fun c_22 => ?_) (fun c_22 => ?_)
  · rw [if_pos c_22] at h
    exact wX11_layPlan_j31 B hr hlk h0 h hR (lv_sub hl [1] rfl)
  · rw [if_neg c_22] at h
    refine lv_aload_n hx hb dX11_layPlan_25 rfl (lv_at hl 1 rfl) ?_
    refine lv_iconst (v := 1) hx hb dX11_layPlan_26 (by decide) ?_
    refine lv_iconst (v := 5) hx hb dX11_layPlan_27 (by decide) ?_
    obtain ⟨M_28, hc_28, h⟩ := bm_el h
    refine iv_X11_356 B hR (h0.at0 rfl) hl.1 (mX11_waits fu _ h0 hc_28) (Nat.le_of_ble_eq_true rfl) dX11_layPlan_28 (fun H locs hR => ?_)
    exact wX11_layPlan_j31 B hr hlk h0 h hR (lv_sub hl [1] rfl)
def fX11_blockOf_j68 (fu : Nat) (t0 : Int32) (M : Mm) : Option Int32 :=
  some t0
set_option maxRecDepth 100000 in
set_option maxHeartbeats 4000000 in
theorem wX11_blockOf_j68 {r : Int32}   {t0 : Int32} {M : Mm} (B : Bx p s m args c cX11_blockOf 3 RX11 E L) (hr : meth.sig.returnType = (some .int)) (hlk : meth.locks = false)   (h : fX11_blockOf_j68 fu t0 M = some r) (hR : Rx s E L M H locs) (hl : lv_has ls 3 []) : W p l e (rmD (d + 1)) s m args below meth c H locs 0 0 (MQ below (QcM E L (some (.int r)) M) args s 0 0 E.2.2.2) (F0 m 68 ls [.int t0]) := by
  have hx := B.1
  have hb := B.2.1
  unfold fX11_blockOf_j68 at h
  exact r_iretP B hR hr hlk h dX11_blockOf_68
def fX11_blockOf (fu : Nat) (a0 : Nat) (x1 : Int32) (x2 : Int32) (M : Mm) : Option Int32 :=
  if x1 = (-1) then
    some (M.1 a0 33)
  else
    bi (fX11_isIn fu x1 0 ((M.1 a0 33) - 1)) fun r_18 =>
    if r_18 = 0 then
      some (-1)
    else
      if x2 = 0 then
        if x1 < 0 ∨ 2100 ≤ ix x1 then none else
        fX11_blockOf_j68 fu (M.1 (a0 + 14) (ix x1)) M
      else
        if x2 = 1 then
          if x1 < 0 ∨ 2100 ≤ ix x1 then none else
          fX11_blockOf_j68 fu (M.1 (a0 + 15) (ix x1)) M
        else
          if x2 = 2 then
            if x1 < 0 ∨ 2100 ≤ ix x1 then none else
            fX11_blockOf_j68 fu (M.1 (a0 + 16) (ix x1)) M
          else
            fX11_blockOf_j68 fu (-1) M
set_option maxRecDepth 100000 in
set_option maxHeartbeats 4000000 in
theorem mX11_blockOf {l : Launch} {E : Ge} {L : Lay} (fu d : Nat) {a0 : Nat} {x1 : Int32} {x2 : Int32} {M : Mm} {r : Int32}  (h0 : At L a0 T11) (h : fX11_blockOf fu a0 x1 x2 M = some r) : Ct l E L yX11_blockOf cX11_blockOf 3 (some .int) (d + 1) [.ref a0, .int x1, .int x2] M (some (.int r)) M := by
  refine Ct.of (by decide) ?_
  intro p e s m below meth c hr hlk B hR
  have B : Bx p s m _ c cX11_blockOf 3 RX11 E L := B
  have hx := B.1
  have hb := B.2.1
  have hl := lv_entry ([.ref a0, .int x1, .int x2]) (n := 3) (Nat.le_of_ble_eq_true rfl)
  rw [lg_entry_eq]
  generalize (lg_sl ([.ref a0, .int x1, .int x2]) ++ List.replicate (3 - (lg_sl ([.ref a0, .int x1, .int x2])).length) Slot.unset).toArray = ls at hl ⊢
  have hl : lv_has ls 3 [(0, .ref a0), (1, .int x1), (2, .int x2)] := hl
  unfold fX11_blockOf at h
  refine lv_iload_n hx hb dX11_blockOf_0 rfl (lv_at hl 1 rfl) ?_
  refine lv_iconst (v := (-1)) hx hb dX11_blockOf_1 (by decide) ?_
  refine lv_icmp_ne (tgt := 10) hx hb dX11_blockOf_2 (by decide) (fun c_2 => ?_) (fun c_2 => ?_)
  · rw [if_neg c_2] at h
    refine lv_iload_n hx hb dX11_blockOf_10 rfl (lv_at hl 1 rfl) ?_
    refine lv_iconst (v := 0) hx hb dX11_blockOf_11 (by decide) ?_
    refine lv_aload_n hx hb dX11_blockOf_12 rfl (lv_at hl 0 rfl) ?_
    refine gf_X11_350 B hR (h0.at0 rfl) dX11_blockOf_13 ?_
    refine lv_iconst (v := 1) hx hb dX11_blockOf_16 (by decide) ?_
    refine lv_isub hx hb dX11_blockOf_17 ?_
    obtain ⟨r_18, hc_18, h⟩ := bi_el h
    refine is_X11_163 B hR hl.1 (mX11_isIn fu _  hc_18) (Nat.le_of_ble_eq_true rfl) dX11_blockOf_18 (fun H locs hR => ?_)
    refine lv_if_ne (tgt := 26) hx hb dX11_blockOf_21 (by decide) (fun c_21 => ?_) (fun c_21 => ?_)
    · rw [if_neg c_21] at h
      refine lv_iload_n hx hb dX11_blockOf_26 rfl (lv_at hl 2 rfl) ?_
      refine lv_if_ne (tgt := 39) hx hb dX11_blockOf_27 (by decide) (fun c_27 => ?_) (fun c_27 => ?_)
      · rw [if_neg c_27] at h
        refine lv_iload_n hx hb dX11_blockOf_39 rfl (lv_at hl 2 rfl) ?_
        refine lv_iconst (v := 1) hx hb dX11_blockOf_40 (by decide) ?_
        refine lv_icmp_ne (tgt := 53) hx hb dX11_blockOf_41 (by decide) (fun c_41 => ?_) (fun c_41 => ?_)
        · rw [if_neg c_41] at h
          refine lv_iload_n hx hb dX11_blockOf_53 rfl (lv_at hl 2 rfl) ?_
          refine lv_iconst (v := 2) hx hb dX11_blockOf_54 (by decide) ?_
          refine lv_icmp_ne (tgt := 67) hx hb dX11_blockOf_55 (by decide) (fun c_55 => ?_) (fun c_55 => ?_)
          · rw [if_neg c_55] at h
            refine lv_iconst (v := (-1)) hx hb dX11_blockOf_67 (by decide) ?_
            exact wX11_blockOf_j68 B hr hlk  h hR (lv_sub hl [] rfl)
          · rw [if_pos c_55] at h
            refine lv_aload_n hx hb dX11_blockOf_58 rfl (lv_at hl 0 rfl) ?_
            refine gf_X11_60 B hR (h0.at0 rfl) dX11_blockOf_59 ?_
            refine lv_iload_n hx hb dX11_blockOf_62 rfl (lv_at hl 1 rfl) ?_
            obtain ⟨hi_63, h⟩ := ifn_el h
            refine r_iald B hR (h0.at 16 rfl) hi_63 dX11_blockOf_63 ?_
            refine lv_goto (tgt := 68) hx hb dX11_blockOf_64 (by decide) ?_
            exact wX11_blockOf_j68 B hr hlk  h hR (lv_sub hl [] rfl)
        · rw [if_pos c_41] at h
          refine lv_aload_n hx hb dX11_blockOf_44 rfl (lv_at hl 0 rfl) ?_
          refine gf_X11_57 B hR (h0.at0 rfl) dX11_blockOf_45 ?_
          refine lv_iload_n hx hb dX11_blockOf_48 rfl (lv_at hl 1 rfl) ?_
          obtain ⟨hi_49, h⟩ := ifn_el h
          refine r_iald B hR (h0.at 15 rfl) hi_49 dX11_blockOf_49 ?_
          refine lv_goto (tgt := 68) hx hb dX11_blockOf_50 (by decide) ?_
          exact wX11_blockOf_j68 B hr hlk  h hR (lv_sub hl [] rfl)
      · rw [if_pos c_27] at h
        refine lv_aload_n hx hb dX11_blockOf_30 rfl (lv_at hl 0 rfl) ?_
        refine gf_X11_54 B hR (h0.at0 rfl) dX11_blockOf_31 ?_
        refine lv_iload_n hx hb dX11_blockOf_34 rfl (lv_at hl 1 rfl) ?_
        obtain ⟨hi_35, h⟩ := ifn_el h
        refine r_iald B hR (h0.at 14 rfl) hi_35 dX11_blockOf_35 ?_
        refine lv_goto (tgt := 68) hx hb dX11_blockOf_36 (by decide) ?_
        exact wX11_blockOf_j68 B hr hlk  h hR (lv_sub hl [] rfl)
    · rw [if_pos c_21] at h
      refine lv_iconst (v := (-1)) hx hb dX11_blockOf_24 (by decide) ?_
      exact r_iretP B hR hr hlk h dX11_blockOf_25
  · rw [if_pos c_2] at h
    refine lv_aload_n hx hb dX11_blockOf_5 rfl (lv_at hl 0 rfl) ?_
    refine gf_X11_350 B hR (h0.at0 rfl) dX11_blockOf_6 ?_
    exact r_iretP B hR hr hlk h dX11_blockOf_9
def fX11_plan (fu : Nat) (a0 : Nat) (x1 : Int32) (x2 : Int32) (M : Mm) : Option (Int32 × Mm) :=
  bm (fX11_layPlan fu a0 M) fun M_1 =>
  bi (fX11_blockOf fu a0 x1 x2 M_1) fun r_7 =>
  some (r_7, M_1)
set_option maxRecDepth 100000 in
set_option maxHeartbeats 4000000 in
theorem mX11_plan {l : Launch} {E : Ge} {L : Lay} (fu d : Nat) {a0 : Nat} {x1 : Int32} {x2 : Int32} {M : Mm} {r : Int32} {M' : Mm}  (h0 : At L a0 T11) (h : fX11_plan fu a0 x1 x2 M = some (r, M')) : Ct l E L yX11_plan cX11_plan 3 (some .int) (d + 7) [.ref a0, .int x1, .int x2] M (some (.int r)) M' := by
  refine Ct.of (by decide) ?_
  intro p e s m below meth c hr hlk B hR
  have B : Bx p s m _ c cX11_plan 3 RX11 E L := B
  have hx := B.1
  have hb := B.2.1
  have hl := lv_entry ([.ref a0, .int x1, .int x2]) (n := 3) (Nat.le_of_ble_eq_true rfl)
  rw [lg_entry_eq]
  generalize (lg_sl ([.ref a0, .int x1, .int x2]) ++ List.replicate (3 - (lg_sl ([.ref a0, .int x1, .int x2])).length) Slot.unset).toArray = ls at hl ⊢
  have hl : lv_has ls 3 [(0, .ref a0), (1, .int x1), (2, .int x2)] := hl
  unfold fX11_plan at h
  refine lv_aload_n hx hb dX11_plan_0 rfl (lv_at hl 0 rfl) ?_
  obtain ⟨M_1, hc_1, h⟩ := bm_el h
  refine iv_X11_370 B hR (h0.at0 rfl) hl.1 (mX11_layPlan fu _ h0 hc_1) (Nat.le_of_ble_eq_true rfl) dX11_plan_1 (fun H locs hR => ?_)
  refine lv_aload_n hx hb dX11_plan_4 rfl (lv_at hl 0 rfl) ?_
  refine lv_iload_n hx hb dX11_plan_5 rfl (lv_at hl 1 rfl) ?_
  refine lv_iload_n hx hb dX11_plan_6 rfl (lv_at hl 2 rfl) ?_
  obtain ⟨r_7, hc_7, h⟩ := bi_el h
  refine iv_X11_373 B hR (h0.at0 rfl) hl.1 (mX11_blockOf fu _ h0 hc_7) (Nat.le_of_ble_eq_true rfl) dX11_plan_7 (fun H locs hR => ?_)
  exact r_iretW B hR hr hlk h dX11_plan_10
def fX11_triedKind_j11 (fu : Nat) (t0 : Int32) : Option Int32 :=
  some t0
set_option maxRecDepth 100000 in
set_option maxHeartbeats 4000000 in
theorem wX11_triedKind_j11 {r : Int32}   {t0 : Int32} {M : Mm} (B : Bx p s m args c cX11_triedKind 1 RX11 E L) (hr : meth.sig.returnType = (some .int)) (hlk : meth.locks = false)   (h : fX11_triedKind_j11 fu t0 = some r) (hR : Rx s E L M H locs) (hl : lv_has ls 1 []) : W p l e (rmD (d + 0)) s m args below meth c H locs 0 0 (MQ below (QcM E L (some (.int r)) M) args s 0 0 E.2.2.2) (F0 m 11 ls [.int t0]) := by
  have hx := B.1
  have hb := B.2.1
  unfold fX11_triedKind_j11 at h
  exact r_iretP B hR hr hlk h dX11_triedKind_11
def fX11_triedKind (fu : Nat) (x0 : Int32) : Option Int32 :=
  if x0 = 0 then
    fX11_triedKind_j11 fu 5
  else
    fX11_triedKind_j11 fu (x0 - 1)
set_option maxRecDepth 100000 in
set_option maxHeartbeats 4000000 in
theorem mX11_triedKind {l : Launch} {E : Ge} {L : Lay} (fu d : Nat) {x0 : Int32} {M : Mm} {r : Int32}   (h : fX11_triedKind fu x0 = some r) : Ct l E L yX11_triedKind cX11_triedKind 1 (some .int) (d + 0) [.int x0] M (some (.int r)) M := by
  refine Ct.of (by decide) ?_
  intro p e s m below meth c hr hlk B hR
  have B : Bx p s m _ c cX11_triedKind 1 RX11 E L := B
  have hx := B.1
  have hb := B.2.1
  have hl := lv_entry ([.int x0]) (n := 1) (Nat.le_of_ble_eq_true rfl)
  rw [lg_entry_eq]
  generalize (lg_sl ([.int x0]) ++ List.replicate (1 - (lg_sl ([.int x0])).length) Slot.unset).toArray = ls at hl ⊢
  have hl : lv_has ls 1 [(0, .int x0)] := hl
  unfold fX11_triedKind at h
  refine lv_iload_n hx hb dX11_triedKind_0 rfl (lv_at hl 0 rfl) ?_
  refine lv_if_ne (tgt := 8) hx hb dX11_triedKind_1 (by decide) (fun c_1 => ?_) (fun c_1 => ?_)
  · rw [if_neg c_1] at h
    refine lv_iload_n hx hb dX11_triedKind_8 rfl (lv_at hl 0 rfl) ?_
    refine lv_iconst (v := 1) hx hb dX11_triedKind_9 (by decide) ?_
    refine lv_isub hx hb dX11_triedKind_10 ?_
    exact wX11_triedKind_j11 B hr hlk  h hR (lv_sub hl [] rfl)
  · rw [if_pos c_1] at h
    refine lv_iconst (v := 5) hx hb dX11_triedKind_4 (by decide) ?_
    refine lv_goto (tgt := 11) hx hb dX11_triedKind_5 (by decide) ?_
    exact wX11_triedKind_j11 B hr hlk  h hR (lv_sub hl [] rfl)
def fX11_pageNode (fu : Nat) (a0 : Nat) (x1 : Int32) (M : Mm) : Option Int32 :=
  bi (fX11_pages fu a0 M) fun r_1 =>
  some (r_1 + x1)
set_option maxRecDepth 100000 in
set_option maxHeartbeats 4000000 in
theorem mX11_pageNode {l : Launch} {E : Ge} {L : Lay} (fu d : Nat) {a0 : Nat} {x1 : Int32} {M : Mm} {r : Int32}  (h0 : At L a0 T11) (h : fX11_pageNode fu a0 x1 M = some r) : Ct l E L yX11_pageNode cX11_pageNode 2 (some .int) (d + 2) [.ref a0, .int x1] M (some (.int r)) M := by
  refine Ct.of (by decide) ?_
  intro p e s m below meth c hr hlk B hR
  have B : Bx p s m _ c cX11_pageNode 2 RX11 E L := B
  have hx := B.1
  have hb := B.2.1
  have hl := lv_entry ([.ref a0, .int x1]) (n := 2) (Nat.le_of_ble_eq_true rfl)
  rw [lg_entry_eq]
  generalize (lg_sl ([.ref a0, .int x1]) ++ List.replicate (2 - (lg_sl ([.ref a0, .int x1])).length) Slot.unset).toArray = ls at hl ⊢
  have hl : lv_has ls 2 [(0, .ref a0), (1, .int x1)] := hl
  unfold fX11_pageNode at h
  refine lv_aload_n hx hb dX11_pageNode_0 rfl (lv_at hl 0 rfl) ?_
  obtain ⟨r_1, hc_1, h⟩ := bi_el h
  refine iv_X11_291 B hR (h0.at0 rfl) hl.1 (mX11_pages fu _ h0 hc_1) (Nat.le_of_ble_eq_true rfl) dX11_pageNode_1 (fun H locs hR => ?_)
  refine lv_iload_n hx hb dX11_pageNode_4 rfl (lv_at hl 1 rfl) ?_
  refine lv_iadd hx hb dX11_pageNode_5 ?_
  exact r_iretP B hR hr hlk h dX11_pageNode_6
def fX11_layPageFewest_j216 (fu : Nat) (M : Mm) : Option Mm :=
  some M
set_option maxRecDepth 100000 in
set_option maxHeartbeats 4000000 in
theorem wX11_layPageFewest_j216 {M' : Mm}    {M : Mm} (B : Bx p s m args c cX11_layPageFewest 6 RX11 E L) (hr : meth.sig.returnType = none) (hlk : meth.locks = false)   (h : fX11_layPageFewest_j216 fu M = some M') (hR : Rx s E L M H locs) (hl : lv_has ls 6 []) : W p l e (rmD (d + 4)) s m args below meth c H locs 0 0 (MQ below (QcM E L none M') args s 0 0 E.2.2.2) (F0 m 216 ls []) := by
  have hx := B.1
  have hb := B.2.1
  unfold fX11_layPageFewest_j216 at h
  exact r_vretW B hR hr hlk h dX11_layPageFewest_216
def fX11_layPageFewest_j210 (fu : Nat) (k113 : Int32 → Mm → Option Mm) (a0 : Nat) (x1 : Int32) (M : Mm) : Option Mm :=
  lt (x1 + (-1)) fun x1_210 =>
  k113 x1_210 M
set_option maxRecDepth 100000 in
set_option maxHeartbeats 4000000 in
theorem wX11_layPageFewest_j210 {M' : Mm}  {k113 : Int32 → Mm → Option Mm} {a0 : Nat} {x1 : Int32} {M : Mm} (B : Bx p s m args c cX11_layPageFewest 6 RX11 E L) (hr : meth.sig.returnType = none) (hlk : meth.locks = false) (ih113 : ∀ (x1 : Int32) (M : Mm), k113 x1 M = some M' → ∀ (H : Heap) (locs : List Loc) (ls : Array Slot), Rx s E L M H locs → lv_has ls 6 [(0, .ref a0), (1, .int x1)] → W p l e (rmD (d + 4)) s m args below meth c H locs 0 0 (MQ below (QcM E L none M') args s 0 0 E.2.2.2) (F0 m 113 ls [])) (h0 : At L a0 T11) (h : fX11_layPageFewest_j210 fu k113 a0 x1 M = some M') (hR : Rx s E L M H locs) (hl : lv_has ls 6 [(0, .ref a0), (1, .int x1)]) : W p l e (rmD (d + 4)) s m args below meth c H locs 0 0 (MQ below (QcM E L none M') args s 0 0 E.2.2.2) (F0 m 210 ls []) := by
  have hx := B.1
  have hb := B.2.1
  unfold fX11_layPageFewest_j210 at h
  obtain ⟨x1_210, ex1_210, h⟩ := lt_el h
  refine lv_iinc (v := x1_210) (lv' := [(1, .int x1_210), (0, .ref a0)]) hx hb dX11_layPageFewest_210 hl (k := 1) rfl (by rw [ex1_210]; rfl) (by decide) rfl (fun ls hl => ?_)
  refine lv_goto (tgt := 113) hx hb dX11_layPageFewest_213 (by decide) ?_
  exact ih113 x1_210 M h _ _ _ hR (lv_sub hl [1, 0] rfl)
def fX11_layPageFewest_j191 (fu : Nat) (k113 : Int32 → Mm → Option Mm) (k119 : Int32 → Mm → Option Mm) (a0 : Nat) (x1 : Int32) (x2 : Int32) (x3 : Int32) (x4 : Int32) (M : Mm) : Option Mm :=
  if ((6 * x1) + x3) < 0 ∨ 12288 ≤ ix ((6 * x1) + x3) then none else
  lt (wI M (a0 + 11) (ix ((6 * x1) + x3)) x4) fun M_203 =>
  lt (x2 + 1) fun x2_204 =>
  k119 x2_204 M_203
set_option maxRecDepth 100000 in
set_option maxHeartbeats 4000000 in
theorem wX11_layPageFewest_j191 {M' : Mm}  {k113 : Int32 → Mm → Option Mm} {k119 : Int32 → Mm → Option Mm} {a0 : Nat} {x1 : Int32} {x2 : Int32} {x3 : Int32} {x4 : Int32} {M : Mm} (B : Bx p s m args c cX11_layPageFewest 6 RX11 E L) (hr : meth.sig.returnType = none) (hlk : meth.locks = false) (ih113 : ∀ (x1 : Int32) (M : Mm), k113 x1 M = some M' → ∀ (H : Heap) (locs : List Loc) (ls : Array Slot), Rx s E L M H locs → lv_has ls 6 [(0, .ref a0), (1, .int x1)] → W p l e (rmD (d + 4)) s m args below meth c H locs 0 0 (MQ below (QcM E L none M') args s 0 0 E.2.2.2) (F0 m 113 ls [])) (ih119 : ∀ (x2 : Int32) (M : Mm), k119 x2 M = some M' → ∀ (H : Heap) (locs : List Loc) (ls : Array Slot), Rx s E L M H locs → lv_has ls 6 [(0, .ref a0), (1, .int x1), (2, .int x2)] → W p l e (rmD (d + 4)) s m args below meth c H locs 0 0 (MQ below (QcM E L none M') args s 0 0 E.2.2.2) (F0 m 119 ls [])) (h0 : At L a0 T11) (h : fX11_layPageFewest_j191 fu k113 k119 a0 x1 x2 x3 x4 M = some M') (hR : Rx s E L M H locs) (hl : lv_has ls 6 [(0, .ref a0), (1, .int x1), (2, .int x2), (3, .int x3), (4, .int x4)]) : W p l e (rmD (d + 4)) s m args below meth c H locs 0 0 (MQ below (QcM E L none M') args s 0 0 E.2.2.2) (F0 m 191 ls []) := by
  have hx := B.1
  have hb := B.2.1
  unfold fX11_layPageFewest_j191 at h
  refine lv_aload_n hx hb dX11_layPageFewest_191 rfl (lv_at hl 0 rfl) ?_
  refine gf_X11_45 B hR (h0.at0 rfl) dX11_layPageFewest_192 ?_
  refine lv_bipush (v := 6) hx hb dX11_layPageFewest_195 (by decide) ?_
  refine lv_iload_n hx hb dX11_layPageFewest_197 rfl (lv_at hl 1 rfl) ?_
  refine lv_imul hx hb dX11_layPageFewest_198 ?_
  refine lv_iload_n hx hb dX11_layPageFewest_199 rfl (lv_at hl 3 rfl) ?_
  refine lv_iadd hx hb dX11_layPageFewest_200 ?_
  refine lv_iload hx hb dX11_layPageFewest_201 (lv_at hl 4 rfl) ?_
  obtain ⟨hi_203, h⟩ := ifn_el h
  obtain ⟨M_203, eM_203, h⟩ := lt_el h
  refine r_iast B hR (h0.at 11 rfl) hi_203 dX11_layPageFewest_203 (fun H locs hR => ?_)
  rw [← eM_203] at hR
  obtain ⟨x2_204, ex2_204, h⟩ := lt_el h
  refine lv_iinc (v := x2_204) (lv' := [(2, .int x2_204), (0, .ref a0), (1, .int x1), (3, .int x3), (4, .int x4)]) hx hb dX11_layPageFewest_204 hl (k := 2) rfl (by rw [ex2_204]; rfl) (by decide) rfl (fun ls hl => ?_)
  refine lv_goto (tgt := 119) hx hb dX11_layPageFewest_207 (by decide) ?_
  exact ih119 x2_204 M_203 h _ _ _ hR (lv_sub hl [1, 2, 0] rfl)
def fX11_layPageFewest_j185 (fu : Nat) (k113 : Int32 → Mm → Option Mm) (k119 : Int32 → Mm → Option Mm) (k145 : Int32 → Int32 → Option Mm) (a0 : Nat) (x1 : Int32) (x2 : Int32) (x3 : Int32) (x4 : Int32) (x5 : Int32) (M : Mm) : Option Mm :=
  lt (x5 + 1) fun x5_185 =>
  k145 x4 x5_185
set_option maxRecDepth 100000 in
set_option maxHeartbeats 4000000 in
theorem wX11_layPageFewest_j185 {M' : Mm}  {k113 : Int32 → Mm → Option Mm} {k119 : Int32 → Mm → Option Mm} {k145 : Int32 → Int32 → Option Mm} {a0 : Nat} {x1 : Int32} {x2 : Int32} {x3 : Int32} {x4 : Int32} {x5 : Int32} {M : Mm} (B : Bx p s m args c cX11_layPageFewest 6 RX11 E L) (hr : meth.sig.returnType = none) (hlk : meth.locks = false) (ih113 : ∀ (x1 : Int32) (M : Mm), k113 x1 M = some M' → ∀ (H : Heap) (locs : List Loc) (ls : Array Slot), Rx s E L M H locs → lv_has ls 6 [(0, .ref a0), (1, .int x1)] → W p l e (rmD (d + 4)) s m args below meth c H locs 0 0 (MQ below (QcM E L none M') args s 0 0 E.2.2.2) (F0 m 113 ls [])) (ih119 : ∀ (x2 : Int32) (M : Mm), k119 x2 M = some M' → ∀ (H : Heap) (locs : List Loc) (ls : Array Slot), Rx s E L M H locs → lv_has ls 6 [(0, .ref a0), (1, .int x1), (2, .int x2)] → W p l e (rmD (d + 4)) s m args below meth c H locs 0 0 (MQ below (QcM E L none M') args s 0 0 E.2.2.2) (F0 m 119 ls [])) (ih145 : ∀ (x4 : Int32) (x5 : Int32), k145 x4 x5 = some M' → ∀ (H : Heap) (locs : List Loc) (ls : Array Slot), Rx s E L M H locs → lv_has ls 6 [(0, .ref a0), (1, .int x1), (2, .int x2), (3, .int x3), (4, .int x4), (5, .int x5)] → W p l e (rmD (d + 4)) s m args below meth c H locs 0 0 (MQ below (QcM E L none M') args s 0 0 E.2.2.2) (F0 m 145 ls [])) (h0 : At L a0 T11) (h : fX11_layPageFewest_j185 fu k113 k119 k145 a0 x1 x2 x3 x4 x5 M = some M') (hR : Rx s E L M H locs) (hl : lv_has ls 6 [(0, .ref a0), (1, .int x1), (2, .int x2), (3, .int x3), (4, .int x4), (5, .int x5)]) : W p l e (rmD (d + 4)) s m args below meth c H locs 0 0 (MQ below (QcM E L none M') args s 0 0 E.2.2.2) (F0 m 185 ls []) := by
  have hx := B.1
  have hb := B.2.1
  unfold fX11_layPageFewest_j185 at h
  obtain ⟨x5_185, ex5_185, h⟩ := lt_el h
  refine lv_iinc (v := x5_185) (lv' := [(5, .int x5_185), (0, .ref a0), (1, .int x1), (2, .int x2), (3, .int x3), (4, .int x4)]) hx hb dX11_layPageFewest_185 hl (k := 5) rfl (by rw [ex5_185]; rfl) (by decide) rfl (fun ls hl => ?_)
  refine lv_goto (tgt := 145) hx hb dX11_layPageFewest_188 (by decide) ?_
  exact ih145 x4 x5_185 h _ _ _ hR (lv_sub hl [1, 2, 3, 4, 5, 0] rfl)
def fX11_layPageFewest_b145 (fu : Nat) (k113 : Int32 → Mm → Option Mm) (k119 : Int32 → Mm → Option Mm) (k145 : Int32 → Int32 → Option Mm) (a0 : Nat) (x1 : Int32) (x2 : Int32) (x3 : Int32) (x4 : Int32) (x5 : Int32) (M : Mm) : Option Mm :=
  if 5 ≤ x5 then
    fX11_layPageFewest_j191 fu k113 k119 a0 x1 x2 x3 x4 M
  else
    bi (fX11_madeBy fu x3 x5) fun r_154 =>
    if r_154 < 0 then
      fX11_layPageFewest_j185 fu k113 k119 k145 a0 x1 x2 x3 x4 x5 M
    else
      bi (fX11_madeBy fu x3 x5) fun r_174 =>
      if ((6 * x1) + r_174) < 0 ∨ 12288 ≤ ix ((6 * x1) + r_174) then none else
      bi (fX11_less fu x4 (1 + (M.1 (a0 + 11) (ix ((6 * x1) + r_174))))) fun r_180 =>
      fX11_layPageFewest_j185 fu k113 k119 k145 a0 x1 x2 x3 r_180 x5 M
set_option maxRecDepth 100000 in
set_option maxHeartbeats 4000000 in
theorem wX11_layPageFewest_b145 {M' : Mm}  {k113 : Int32 → Mm → Option Mm} {k119 : Int32 → Mm → Option Mm} {k145 : Int32 → Int32 → Option Mm} {a0 : Nat} {x1 : Int32} {x2 : Int32} {x3 : Int32} {x4 : Int32} {x5 : Int32} {M : Mm} (B : Bx p s m args c cX11_layPageFewest 6 RX11 E L) (hr : meth.sig.returnType = none) (hlk : meth.locks = false) (ih113 : ∀ (x1 : Int32) (M : Mm), k113 x1 M = some M' → ∀ (H : Heap) (locs : List Loc) (ls : Array Slot), Rx s E L M H locs → lv_has ls 6 [(0, .ref a0), (1, .int x1)] → W p l e (rmD (d + 4)) s m args below meth c H locs 0 0 (MQ below (QcM E L none M') args s 0 0 E.2.2.2) (F0 m 113 ls [])) (ih119 : ∀ (x2 : Int32) (M : Mm), k119 x2 M = some M' → ∀ (H : Heap) (locs : List Loc) (ls : Array Slot), Rx s E L M H locs → lv_has ls 6 [(0, .ref a0), (1, .int x1), (2, .int x2)] → W p l e (rmD (d + 4)) s m args below meth c H locs 0 0 (MQ below (QcM E L none M') args s 0 0 E.2.2.2) (F0 m 119 ls [])) (ih145 : ∀ (x4 : Int32) (x5 : Int32), k145 x4 x5 = some M' → ∀ (H : Heap) (locs : List Loc) (ls : Array Slot), Rx s E L M H locs → lv_has ls 6 [(0, .ref a0), (1, .int x1), (2, .int x2), (3, .int x3), (4, .int x4), (5, .int x5)] → W p l e (rmD (d + 4)) s m args below meth c H locs 0 0 (MQ below (QcM E L none M') args s 0 0 E.2.2.2) (F0 m 145 ls [])) (h0 : At L a0 T11) (h : fX11_layPageFewest_b145 fu k113 k119 k145 a0 x1 x2 x3 x4 x5 M = some M') (hR : Rx s E L M H locs) (hl : lv_has ls 6 [(0, .ref a0), (1, .int x1), (2, .int x2), (3, .int x3), (4, .int x4), (5, .int x5)]) : W p l e (rmD (d + 4)) s m args below meth c H locs 0 0 (MQ below (QcM E L none M') args s 0 0 E.2.2.2) (F0 m 145 ls []) := by
  have hx := B.1
  have hb := B.2.1
  unfold fX11_layPageFewest_b145 at h
  refine lv_iload hx hb dX11_layPageFewest_145 (lv_at hl 5 rfl) ?_
  refine lv_iconst (v := 5) hx hb dX11_layPageFewest_147 (by decide) ?_
  refine lv_icmp_ge (tgt := 191) hx hb dX11_layPageFewest_148 (by decide) (fun c_148 => ?_) (fun c_148 => ?_)
  · rw [if_pos c_148] at h
    exact wX11_layPageFewest_j191 B hr hlk ih113 ih119 h0 h hR (lv_sub hl [0, 1, 2, 3, 4] rfl)
  · rw [if_neg c_148] at h
    refine lv_iload_n hx hb dX11_layPageFewest_151 rfl (lv_at hl 3 rfl) ?_
    refine lv_iload hx hb dX11_layPageFewest_152 (lv_at hl 5 rfl) ?_
    obtain ⟨r_154, hc_154, h⟩ := bi_el h
    refine is_X11_332 B hR hl.1 (mX11_madeBy fu _  hc_154) (Nat.le_of_ble_eq_true rfl) dX11_layPageFewest_154 (fun H locs hR => ?_)
    refine lv_if_lt (tgt := 185) hx hb dX11_layPageFewest_157 (by decide) (fun c_157 => ?_) (fun c_157 => ?_)
    · rw [if_pos c_157] at h
      exact wX11_layPageFewest_j185 B hr hlk ih113 ih119 ih145 h0 h hR hl
    · rw [if_neg c_157] at h
      refine lv_iload hx hb dX11_layPageFewest_160 (lv_at hl 4 rfl) ?_
      refine lv_iconst (v := 1) hx hb dX11_layPageFewest_162 (by decide) ?_
      refine lv_aload_n hx hb dX11_layPageFewest_163 rfl (lv_at hl 0 rfl) ?_
      refine gf_X11_45 B hR (h0.at0 rfl) dX11_layPageFewest_164 ?_
      refine lv_bipush (v := 6) hx hb dX11_layPageFewest_167 (by decide) ?_
      refine lv_iload_n hx hb dX11_layPageFewest_169 rfl (lv_at hl 1 rfl) ?_
      refine lv_imul hx hb dX11_layPageFewest_170 ?_
      refine lv_iload_n hx hb dX11_layPageFewest_171 rfl (lv_at hl 3 rfl) ?_
      refine lv_iload hx hb dX11_layPageFewest_172 (lv_at hl 5 rfl) ?_
      obtain ⟨r_174, hc_174, h⟩ := bi_el h
      refine is_X11_332 B hR hl.1 (mX11_madeBy fu _  hc_174) (Nat.le_of_ble_eq_true rfl) dX11_layPageFewest_174 (fun H locs hR => ?_)
      refine lv_iadd hx hb dX11_layPageFewest_177 ?_
      obtain ⟨hi_178, h⟩ := ifn_el h
      refine r_iald B hR (h0.at 11 rfl) hi_178 dX11_layPageFewest_178 ?_
      refine lv_iadd hx hb dX11_layPageFewest_179 ?_
      obtain ⟨r_180, hc_180, h⟩ := bi_el h
      refine is_X11_273 B hR hl.1 (mX11_less fu _  hc_180) (Nat.le_of_ble_eq_true rfl) dX11_layPageFewest_180 (fun H locs hR => ?_)
      refine lv_istore (lv' := [(4, .int r_180), (0, .ref a0), (1, .int x1), (2, .int x2), (3, .int x3), (5, .int x5)]) hx hb dX11_layPageFewest_183 hl (by decide) rfl (fun ls hl => ?_)
      exact wX11_layPageFewest_j185 B hr hlk ih113 ih119 ih145 h0 h hR (lv_sub hl [1, 2, 3, 4, 0, 5] rfl)
def fX11_layPageFewest_l145 (fu : Nat) (k113 : Int32 → Mm → Option Mm) (k119 : Int32 → Mm → Option Mm) (a0 : Nat) (x1 : Int32) (x2 : Int32) (x3 : Int32) (M : Mm) (x4 : Int32) (x5 : Int32) : Option Mm := lp (fun (rec : (Int32 × Int32) → Option Mm) (s : Int32 × Int32) => fX11_layPageFewest_b145 fu k113 k119 (fun x4 x5 => rec (x4, x5)) a0 x1 x2 x3 s.1 s.2 M) fu (x4, x5)
set_option maxRecDepth 100000 in
set_option maxHeartbeats 4000000 in
theorem wX11_layPageFewest_l145 {M' : Mm}  {k113 : Int32 → Mm → Option Mm} {k119 : Int32 → Mm → Option Mm} {a0 : Nat} {x1 : Int32} {x2 : Int32} {x3 : Int32} {x4 : Int32} {x5 : Int32} {M : Mm} (B : Bx p s m args c cX11_layPageFewest 6 RX11 E L) (hr : meth.sig.returnType = none) (hlk : meth.locks = false) (ih113 : ∀ (x1 : Int32) (M : Mm), k113 x1 M = some M' → ∀ (H : Heap) (locs : List Loc) (ls : Array Slot), Rx s E L M H locs → lv_has ls 6 [(0, .ref a0), (1, .int x1)] → W p l e (rmD (d + 4)) s m args below meth c H locs 0 0 (MQ below (QcM E L none M') args s 0 0 E.2.2.2) (F0 m 113 ls [])) (ih119 : ∀ (x2 : Int32) (M : Mm), k119 x2 M = some M' → ∀ (H : Heap) (locs : List Loc) (ls : Array Slot), Rx s E L M H locs → lv_has ls 6 [(0, .ref a0), (1, .int x1), (2, .int x2)] → W p l e (rmD (d + 4)) s m args below meth c H locs 0 0 (MQ below (QcM E L none M') args s 0 0 E.2.2.2) (F0 m 119 ls [])) (h0 : At L a0 T11) (h : fX11_layPageFewest_l145 fu k113 k119 a0 x1 x2 x3 M x4 x5 = some M') (hR : Rx s E L M H locs) (hl : lv_has ls 6 [(0, .ref a0), (1, .int x1), (2, .int x2), (3, .int x3), (4, .int x4), (5, .int x5)]) : W p l e (rmD (d + 4)) s m args below meth c H locs 0 0 (MQ below (QcM E L none M') args s 0 0 E.2.2.2) (F0 m 145 ls []) := by
  refine lp_G (G := fun z : Int32 × Int32 => ∀ (H : Heap) (locs : List Loc) (ls : Array Slot), Rx s E L M H locs → lv_has ls 6 [(0, .ref a0), (1, .int x1), (2, .int x2), (3, .int x3), (4, .int z.1), (5, .int z.2)] → W p l e (rmD (d + 4)) s m args below meth c H locs 0 0 (MQ below (QcM E L none M') args s 0 0 E.2.2.2) (F0 m 145 ls [])) (fun rec ih z h H locs ls hR hl => ?_) fu _ h H locs ls hR hl
  exact wX11_layPageFewest_b145 B hr hlk ih113 ih119 (fun x4 x5 h => ih (x4, x5) h) h0 h hR hl
def fX11_layPageFewest_b119 (fu : Nat) (k113 : Int32 → Mm → Option Mm) (k119 : Int32 → Mm → Option Mm) (a0 : Nat) (x1 : Int32) (x2 : Int32) (M : Mm) : Option Mm :=
  if 6 ≤ x2 then
    fX11_layPageFewest_j210 fu k113 a0 x1 M
  else
    bi (fX11_aboveAt fu x2) fun r_126 =>
    bi (fX11_both fu a0 12288 (a0 + 11) x1 r_126 M) fun r_137 =>
    fX11_layPageFewest_l145 fu k113 k119 a0 x1 x2 r_126 M r_137 0
set_option maxRecDepth 100000 in
set_option maxHeartbeats 4000000 in
theorem wX11_layPageFewest_b119 {M' : Mm}  {k113 : Int32 → Mm → Option Mm} {k119 : Int32 → Mm → Option Mm} {a0 : Nat} {x1 : Int32} {x2 : Int32} {M : Mm} (B : Bx p s m args c cX11_layPageFewest 6 RX11 E L) (hr : meth.sig.returnType = none) (hlk : meth.locks = false) (ih113 : ∀ (x1 : Int32) (M : Mm), k113 x1 M = some M' → ∀ (H : Heap) (locs : List Loc) (ls : Array Slot), Rx s E L M H locs → lv_has ls 6 [(0, .ref a0), (1, .int x1)] → W p l e (rmD (d + 4)) s m args below meth c H locs 0 0 (MQ below (QcM E L none M') args s 0 0 E.2.2.2) (F0 m 113 ls [])) (ih119 : ∀ (x2 : Int32) (M : Mm), k119 x2 M = some M' → ∀ (H : Heap) (locs : List Loc) (ls : Array Slot), Rx s E L M H locs → lv_has ls 6 [(0, .ref a0), (1, .int x1), (2, .int x2)] → W p l e (rmD (d + 4)) s m args below meth c H locs 0 0 (MQ below (QcM E L none M') args s 0 0 E.2.2.2) (F0 m 119 ls [])) (h0 : At L a0 T11) (h : fX11_layPageFewest_b119 fu k113 k119 a0 x1 x2 M = some M') (hR : Rx s E L M H locs) (hl : lv_has ls 6 [(0, .ref a0), (1, .int x1), (2, .int x2)]) : W p l e (rmD (d + 4)) s m args below meth c H locs 0 0 (MQ below (QcM E L none M') args s 0 0 E.2.2.2) (F0 m 119 ls []) := by
  have hx := B.1
  have hb := B.2.1
  unfold fX11_layPageFewest_b119 at h
  refine lv_iload_n hx hb dX11_layPageFewest_119 rfl (lv_at hl 2 rfl) ?_
  refine lv_bipush (v := 6) hx hb dX11_layPageFewest_120 (by decide) ?_
  refine lv_icmp_ge (tgt := 210) hx hb dX11_layPageFewest_122 (by decide) (fun c_122 => ?_) (fun c_122 => ?_)
  · rw [if_pos c_122] at h
    exact wX11_layPageFewest_j210 B hr hlk ih113 h0 h hR (lv_sub hl [0, 1] rfl)
  · rw [if_neg c_122] at h
    refine lv_iload_n hx hb dX11_layPageFewest_125 rfl (lv_at hl 2 rfl) ?_
    obtain ⟨r_126, hc_126, h⟩ := bi_el h
    refine is_X11_322 B hR hl.1 (mX11_aboveAt fu _  hc_126) (Nat.le_of_ble_eq_true rfl) dX11_layPageFewest_126 (fun H locs hR => ?_)
    refine lv_istore_n (lv' := [(3, .int r_126), (0, .ref a0), (1, .int x1), (2, .int x2)]) hx hb dX11_layPageFewest_129 rfl hl (by decide) rfl (fun ls hl => ?_)
    refine lv_aload_n hx hb dX11_layPageFewest_130 rfl (lv_at hl 1 rfl) ?_
    refine lv_aload_n hx hb dX11_layPageFewest_131 rfl (lv_at hl 1 rfl) ?_
    refine gf_X11_45 B hR (h0.at0 rfl) dX11_layPageFewest_132 ?_
    refine lv_iload_n hx hb dX11_layPageFewest_135 rfl (lv_at hl 2 rfl) ?_
    refine lv_iload_n hx hb dX11_layPageFewest_136 rfl (lv_at hl 0 rfl) ?_
    obtain ⟨r_137, hc_137, h⟩ := bi_el h
    refine iv_X11_328 B hR (h0.at0 rfl) hl.1 (mX11_both fu _ h0 (h0.at 11 rfl) hc_137) (Nat.le_of_ble_eq_true rfl) dX11_layPageFewest_137 (fun H locs hR => ?_)
    refine lv_istore (lv' := [(4, .int r_137), (3, .int r_126), (0, .ref a0), (1, .int x1), (2, .int x2)]) hx hb dX11_layPageFewest_140 hl (by decide) rfl (fun ls hl => ?_)
    refine lv_iconst (v := 0) hx hb dX11_layPageFewest_142 (by decide) ?_
    refine lv_istore (lv' := [(5, .int 0), (4, .int r_137), (3, .int r_126), (0, .ref a0), (1, .int x1), (2, .int x2)]) hx hb dX11_layPageFewest_143 hl (by decide) rfl (fun ls hl => ?_)
    exact wX11_layPageFewest_l145 B hr hlk ih113 ih119 h0 h hR (lv_sub hl [3, 4, 5, 2, 1, 0] rfl)
def fX11_layPageFewest_l119 (fu : Nat) (k113 : Int32 → Mm → Option Mm) (a0 : Nat) (x1 : Int32) (x2 : Int32) (M : Mm) : Option Mm := lp (fun (rec : (Int32 × Mm) → Option Mm) (s : Int32 × Mm) => fX11_layPageFewest_b119 fu k113 (fun x2 M => rec (x2, M)) a0 x1 s.1 s.2) fu (x2, M)
set_option maxRecDepth 100000 in
set_option maxHeartbeats 4000000 in
theorem wX11_layPageFewest_l119 {M' : Mm}  {k113 : Int32 → Mm → Option Mm} {a0 : Nat} {x1 : Int32} {x2 : Int32} {M : Mm} (B : Bx p s m args c cX11_layPageFewest 6 RX11 E L) (hr : meth.sig.returnType = none) (hlk : meth.locks = false) (ih113 : ∀ (x1 : Int32) (M : Mm), k113 x1 M = some M' → ∀ (H : Heap) (locs : List Loc) (ls : Array Slot), Rx s E L M H locs → lv_has ls 6 [(0, .ref a0), (1, .int x1)] → W p l e (rmD (d + 4)) s m args below meth c H locs 0 0 (MQ below (QcM E L none M') args s 0 0 E.2.2.2) (F0 m 113 ls [])) (h0 : At L a0 T11) (h : fX11_layPageFewest_l119 fu k113 a0 x1 x2 M = some M') (hR : Rx s E L M H locs) (hl : lv_has ls 6 [(0, .ref a0), (1, .int x1), (2, .int x2)]) : W p l e (rmD (d + 4)) s m args below meth c H locs 0 0 (MQ below (QcM E L none M') args s 0 0 E.2.2.2) (F0 m 119 ls []) := by
  refine lp_G (G := fun z : Int32 × Mm => ∀ (H : Heap) (locs : List Loc) (ls : Array Slot), Rx s E L z.2 H locs → lv_has ls 6 [(0, .ref a0), (1, .int x1), (2, .int z.1)] → W p l e (rmD (d + 4)) s m args below meth c H locs 0 0 (MQ below (QcM E L none M') args s 0 0 E.2.2.2) (F0 m 119 ls [])) (fun rec ih z h H locs ls hR hl => ?_) fu _ h H locs ls hR hl
  exact wX11_layPageFewest_b119 B hr hlk ih113 (fun x2 M h => ih (x2, M) h) h0 h hR hl
def fX11_layPageFewest_b113 (fu : Nat) (k113 : Int32 → Mm → Option Mm) (a0 : Nat) (x1 : Int32) (M : Mm) : Option Mm :=
  if x1 ≤ 0 then
    fX11_layPageFewest_j216 fu M
  else
    fX11_layPageFewest_l119 fu k113 a0 x1 0 M
set_option maxRecDepth 100000 in
set_option maxHeartbeats 4000000 in
theorem wX11_layPageFewest_b113 {M' : Mm}   {k113 : Int32 → Mm → Option Mm} {a0 : Nat} {x1 : Int32} {M : Mm} (B : Bx p s m args c cX11_layPageFewest 6 RX11 E L) (hr : meth.sig.returnType = none) (hlk : meth.locks = false)  (ih113 : ∀ (x1 : Int32) (M : Mm), k113 x1 M = some M' → ∀ (H : Heap) (locs : List Loc) (ls : Array Slot), Rx s E L M H locs → lv_has ls 6 [(0, .ref a0), (1, .int x1)] → W p l e (rmD (d + 4)) s m args below meth c H locs 0 0 (MQ below (QcM E L none M') args s 0 0 E.2.2.2) (F0 m 113 ls [])) (h0 : At L a0 T11) (h : fX11_layPageFewest_b113 fu k113 a0 x1 M = some M') (hR : Rx s E L M H locs) (hl : lv_has ls 6 [(0, .ref a0), (1, .int x1)]) : W p l e (rmD (d + 4)) s m args below meth c H locs 0 0 (MQ below (QcM E L none M') args s 0 0 E.2.2.2) (F0 m 113 ls []) := by
  have hx := B.1
  have hb := B.2.1
  unfold fX11_layPageFewest_b113 at h
  refine lv_iload_n hx hb dX11_layPageFewest_113 rfl (lv_at hl 1 rfl) ?_
  refine lv_if_le (tgt := 216) hx hb dX11_layPageFewest_114 (by decide) (fun c_114 => ?_) (fun c_114 => ?_)
  · rw [if_pos c_114] at h
    exact wX11_layPageFewest_j216 B hr hlk  h hR (lv_sub hl [] rfl)
  · rw [if_neg c_114] at h
    refine lv_iconst (v := 0) hx hb dX11_layPageFewest_117 (by decide) ?_
    refine lv_istore_n (lv' := [(2, .int 0), (0, .ref a0), (1, .int x1)]) hx hb dX11_layPageFewest_118 rfl hl (by decide) rfl (fun ls hl => ?_)
    exact wX11_layPageFewest_l119 B hr hlk ih113 h0 h hR (lv_sub hl [1, 2, 0] rfl)
def fX11_layPageFewest_l113 (fu : Nat) (a0 : Nat) (x1 : Int32) (M : Mm) : Option Mm := lp (fun (rec : (Int32 × Mm) → Option Mm) (s : Int32 × Mm) => fX11_layPageFewest_b113 fu  (fun x1 M => rec (x1, M)) a0 s.1 s.2) fu (x1, M)
set_option maxRecDepth 100000 in
set_option maxHeartbeats 4000000 in
theorem wX11_layPageFewest_l113 {M' : Mm}   {a0 : Nat} {x1 : Int32} {M : Mm} (B : Bx p s m args c cX11_layPageFewest 6 RX11 E L) (hr : meth.sig.returnType = none) (hlk : meth.locks = false)  (h0 : At L a0 T11) (h : fX11_layPageFewest_l113 fu a0 x1 M = some M') (hR : Rx s E L M H locs) (hl : lv_has ls 6 [(0, .ref a0), (1, .int x1)]) : W p l e (rmD (d + 4)) s m args below meth c H locs 0 0 (MQ below (QcM E L none M') args s 0 0 E.2.2.2) (F0 m 113 ls []) := by
  refine lp_G (G := fun z : Int32 × Mm => ∀ (H : Heap) (locs : List Loc) (ls : Array Slot), Rx s E L z.2 H locs → lv_has ls 6 [(0, .ref a0), (1, .int z.1)] → W p l e (rmD (d + 4)) s m args below meth c H locs 0 0 (MQ below (QcM E L none M') args s 0 0 E.2.2.2) (F0 m 113 ls [])) (fun rec ih z h H locs ls hR hl => ?_) fu _ h H locs ls hR hl
  exact wX11_layPageFewest_b113 B hr hlk  (fun x1 M h => ih (x1, M) h) h0 h hR hl
def fX11_layPageFewest_j106 (fu : Nat) (a0 : Nat) (M : Mm) : Option Mm :=
  bi (fX11_pages fu a0 M) fun r_107 =>
  lt ((r_107 - 1)) fun x1_112 =>
  fX11_layPageFewest_l113 fu a0 x1_112 M
set_option maxRecDepth 100000 in
set_option maxHeartbeats 4000000 in
theorem wX11_layPageFewest_j106 {M' : Mm}   {a0 : Nat} {M : Mm} (B : Bx p s m args c cX11_layPageFewest 6 RX11 E L) (hr : meth.sig.returnType = none) (hlk : meth.locks = false)  (h0 : At L a0 T11) (h : fX11_layPageFewest_j106 fu a0 M = some M') (hR : Rx s E L M H locs) (hl : lv_has ls 6 [(0, .ref a0)]) : W p l e (rmD (d + 4)) s m args below meth c H locs 0 0 (MQ below (QcM E L none M') args s 0 0 E.2.2.2) (F0 m 106 ls []) := by
  have hx := B.1
  have hb := B.2.1
  unfold fX11_layPageFewest_j106 at h
  refine lv_aload_n hx hb dX11_layPageFewest_106 rfl (lv_at hl 0 rfl) ?_
  obtain ⟨r_107, hc_107, h⟩ := bi_el h
  refine iv_X11_291 B hR (h0.at0 rfl) hl.1 (mX11_pages fu _ h0 hc_107) (Nat.le_of_ble_eq_true rfl) dX11_layPageFewest_107 (fun H locs hR => ?_)
  refine lv_iconst (v := 1) hx hb dX11_layPageFewest_110 (by decide) ?_
  refine lv_isub hx hb dX11_layPageFewest_111 ?_
  obtain ⟨x1_112, ex1_112, h⟩ := lt_el h
  refine r_nmI ex1_112 ?_
  refine lv_istore_n (lv' := [(1, .int x1_112), (0, .ref a0)]) hx hb dX11_layPageFewest_112 rfl hl (by decide) rfl (fun ls hl => ?_)
  exact wX11_layPageFewest_l113 B hr hlk h0 h hR (lv_sub hl [1, 0] rfl)
def fX11_layPageFewest_j100 (fu : Nat) (k40 : Int32 → Mm → Option Mm) (a0 : Nat) (x1 : Int32) (M : Mm) : Option Mm :=
  lt (x1 + 1) fun x1_100 =>
  k40 x1_100 M
set_option maxRecDepth 100000 in
set_option maxHeartbeats 4000000 in
theorem wX11_layPageFewest_j100 {M' : Mm}  {k40 : Int32 → Mm → Option Mm} {a0 : Nat} {x1 : Int32} {M : Mm} (B : Bx p s m args c cX11_layPageFewest 6 RX11 E L) (hr : meth.sig.returnType = none) (hlk : meth.locks = false) (ih40 : ∀ (x1 : Int32) (M : Mm), k40 x1 M = some M' → ∀ (H : Heap) (locs : List Loc) (ls : Array Slot), Rx s E L M H locs → lv_has ls 6 [(0, .ref a0), (1, .int x1)] → W p l e (rmD (d + 4)) s m args below meth c H locs 0 0 (MQ below (QcM E L none M') args s 0 0 E.2.2.2) (F0 m 40 ls [])) (h0 : At L a0 T11) (h : fX11_layPageFewest_j100 fu k40 a0 x1 M = some M') (hR : Rx s E L M H locs) (hl : lv_has ls 6 [(0, .ref a0), (1, .int x1)]) : W p l e (rmD (d + 4)) s m args below meth c H locs 0 0 (MQ below (QcM E L none M') args s 0 0 E.2.2.2) (F0 m 100 ls []) := by
  have hx := B.1
  have hb := B.2.1
  unfold fX11_layPageFewest_j100 at h
  obtain ⟨x1_100, ex1_100, h⟩ := lt_el h
  refine lv_iinc (v := x1_100) (lv' := [(1, .int x1_100), (0, .ref a0)]) hx hb dX11_layPageFewest_100 hl (k := 1) rfl (by rw [ex1_100]; rfl) (by decide) rfl (fun ls hl => ?_)
  refine lv_goto (tgt := 40) hx hb dX11_layPageFewest_103 (by decide) ?_
  exact ih40 x1_100 M h _ _ _ hR (lv_sub hl [1, 0] rfl)
def fX11_layPageFewest_b62 (fu : Nat) (k40 : Int32 → Mm → Option Mm) (k62 : Int32 → Mm → Option Mm) (a0 : Nat) (x1 : Int32) (x2 : Int32) (M : Mm) : Option Mm :=
  bi (fX11_pages fu a0 M) fun r_66 =>
  if (12 * r_66) ≤ x2 then
    fX11_layPageFewest_j100 fu k40 a0 x1 M
  else
    if x2 < 0 ∨ 12288 ≤ ix x2 then none else
    bi (fX11_less fu (M.1 (a0 + 11) (ix x2)) (M.1 (a0 + 9) (ix x2))) fun r_90 =>
    lt (wI M (a0 + 11) (ix x2) r_90) fun M_93 =>
    lt (x2 + 1) fun x2_94 =>
    k62 x2_94 M_93
set_option maxRecDepth 100000 in
set_option maxHeartbeats 4000000 in
theorem wX11_layPageFewest_b62 {M' : Mm}  {k40 : Int32 → Mm → Option Mm} {k62 : Int32 → Mm → Option Mm} {a0 : Nat} {x1 : Int32} {x2 : Int32} {M : Mm} (B : Bx p s m args c cX11_layPageFewest 6 RX11 E L) (hr : meth.sig.returnType = none) (hlk : meth.locks = false) (ih40 : ∀ (x1 : Int32) (M : Mm), k40 x1 M = some M' → ∀ (H : Heap) (locs : List Loc) (ls : Array Slot), Rx s E L M H locs → lv_has ls 6 [(0, .ref a0), (1, .int x1)] → W p l e (rmD (d + 4)) s m args below meth c H locs 0 0 (MQ below (QcM E L none M') args s 0 0 E.2.2.2) (F0 m 40 ls [])) (ih62 : ∀ (x2 : Int32) (M : Mm), k62 x2 M = some M' → ∀ (H : Heap) (locs : List Loc) (ls : Array Slot), Rx s E L M H locs → lv_has ls 6 [(0, .ref a0), (1, .int x1), (2, .int x2)] → W p l e (rmD (d + 4)) s m args below meth c H locs 0 0 (MQ below (QcM E L none M') args s 0 0 E.2.2.2) (F0 m 62 ls [])) (h0 : At L a0 T11) (h : fX11_layPageFewest_b62 fu k40 k62 a0 x1 x2 M = some M') (hR : Rx s E L M H locs) (hl : lv_has ls 6 [(0, .ref a0), (1, .int x1), (2, .int x2)]) : W p l e (rmD (d + 4)) s m args below meth c H locs 0 0 (MQ below (QcM E L none M') args s 0 0 E.2.2.2) (F0 m 62 ls []) := by
  have hx := B.1
  have hb := B.2.1
  unfold fX11_layPageFewest_b62 at h
  refine lv_iload_n hx hb dX11_layPageFewest_62 rfl (lv_at hl 2 rfl) ?_
  refine lv_bipush (v := 12) hx hb dX11_layPageFewest_63 (by decide) ?_
  refine lv_aload_n hx hb dX11_layPageFewest_65 rfl (lv_at hl 0 rfl) ?_
  obtain ⟨r_66, hc_66, h⟩ := bi_el h
  refine iv_X11_291 B hR (h0.at0 rfl) hl.1 (mX11_pages fu _ h0 hc_66) (Nat.le_of_ble_eq_true rfl) dX11_layPageFewest_66 (fun H locs hR => ?_)
  refine lv_imul hx hb dX11_layPageFewest_69 ?_
  refine lv_icmp_ge (tgt := 100) hx hb dX11_layPageFewest_70 (by decide) (fun c_70 => ?_) (fun c_70 => ?_)
  · rw [if_pos c_70] at h
    exact wX11_layPageFewest_j100 B hr hlk ih40 h0 h hR (lv_sub hl [0, 1] rfl)
  · rw [if_neg c_70] at h
    refine lv_aload_n hx hb dX11_layPageFewest_73 rfl (lv_at hl 0 rfl) ?_
    refine gf_X11_45 B hR (h0.at0 rfl) dX11_layPageFewest_74 ?_
    refine lv_iload_n hx hb dX11_layPageFewest_77 rfl (lv_at hl 2 rfl) ?_
    refine lv_aload_n hx hb dX11_layPageFewest_78 rfl (lv_at hl 0 rfl) ?_
    refine gf_X11_45 B hR (h0.at0 rfl) dX11_layPageFewest_79 ?_
    refine lv_iload_n hx hb dX11_layPageFewest_82 rfl (lv_at hl 2 rfl) ?_
    obtain ⟨hi_83, h⟩ := ifn_el h
    refine r_iald B hR (h0.at 11 rfl) hi_83 dX11_layPageFewest_83 ?_
    refine lv_aload_n hx hb dX11_layPageFewest_84 rfl (lv_at hl 0 rfl) ?_
    refine gf_X11_39 B hR (h0.at0 rfl) dX11_layPageFewest_85 ?_
    refine lv_iload_n hx hb dX11_layPageFewest_88 rfl (lv_at hl 2 rfl) ?_
    refine r_iald B hR (h0.at 9 rfl) hi_83 dX11_layPageFewest_89 ?_
    obtain ⟨r_90, hc_90, h⟩ := bi_el h
    refine is_X11_273 B hR hl.1 (mX11_less fu _  hc_90) (Nat.le_of_ble_eq_true rfl) dX11_layPageFewest_90 (fun H locs hR => ?_)
    obtain ⟨M_93, eM_93, h⟩ := lt_el h
    refine r_iast B hR (h0.at 11 rfl) hi_83 dX11_layPageFewest_93 (fun H locs hR => ?_)
    rw [← eM_93] at hR
    obtain ⟨x2_94, ex2_94, h⟩ := lt_el h
    refine lv_iinc (v := x2_94) (lv' := [(2, .int x2_94), (0, .ref a0), (1, .int x1)]) hx hb dX11_layPageFewest_94 hl (k := 2) rfl (by rw [ex2_94]; rfl) (by decide) rfl (fun ls hl => ?_)
    refine lv_goto (tgt := 62) hx hb dX11_layPageFewest_97 (by decide) ?_
    exact ih62 x2_94 M_93 h _ _ _ hR (lv_sub hl [1, 2, 0] rfl)
def fX11_layPageFewest_l62 (fu : Nat) (k40 : Int32 → Mm → Option Mm) (a0 : Nat) (x1 : Int32) (x2 : Int32) (M : Mm) : Option Mm := lp (fun (rec : (Int32 × Mm) → Option Mm) (s : Int32 × Mm) => fX11_layPageFewest_b62 fu k40 (fun x2 M => rec (x2, M)) a0 x1 s.1 s.2) fu (x2, M)
set_option maxRecDepth 100000 in
set_option maxHeartbeats 4000000 in
theorem wX11_layPageFewest_l62 {M' : Mm}  {k40 : Int32 → Mm → Option Mm} {a0 : Nat} {x1 : Int32} {x2 : Int32} {M : Mm} (B : Bx p s m args c cX11_layPageFewest 6 RX11 E L) (hr : meth.sig.returnType = none) (hlk : meth.locks = false) (ih40 : ∀ (x1 : Int32) (M : Mm), k40 x1 M = some M' → ∀ (H : Heap) (locs : List Loc) (ls : Array Slot), Rx s E L M H locs → lv_has ls 6 [(0, .ref a0), (1, .int x1)] → W p l e (rmD (d + 4)) s m args below meth c H locs 0 0 (MQ below (QcM E L none M') args s 0 0 E.2.2.2) (F0 m 40 ls [])) (h0 : At L a0 T11) (h : fX11_layPageFewest_l62 fu k40 a0 x1 x2 M = some M') (hR : Rx s E L M H locs) (hl : lv_has ls 6 [(0, .ref a0), (1, .int x1), (2, .int x2)]) : W p l e (rmD (d + 4)) s m args below meth c H locs 0 0 (MQ below (QcM E L none M') args s 0 0 E.2.2.2) (F0 m 62 ls []) := by
  refine lp_G (G := fun z : Int32 × Mm => ∀ (H : Heap) (locs : List Loc) (ls : Array Slot), Rx s E L z.2 H locs → lv_has ls 6 [(0, .ref a0), (1, .int x1), (2, .int z.1)] → W p l e (rmD (d + 4)) s m args below meth c H locs 0 0 (MQ below (QcM E L none M') args s 0 0 E.2.2.2) (F0 m 62 ls [])) (fun rec ih z h H locs ls hR hl => ?_) fu _ h H locs ls hR hl
  exact wX11_layPageFewest_b62 B hr hlk ih40 (fun x2 M h => ih (x2, M) h) h0 h hR hl
def fX11_layPageFewest_b40 (fu : Nat) (k40 : Int32 → Mm → Option Mm) (a0 : Nat) (x1 : Int32) (M : Mm) : Option Mm :=
  if 6 ≤ x1 then
    fX11_layPageFewest_j106 fu a0 M
  else
    bi (fX11_triedKind fu x1) fun r_48 =>
    bm (fX11_layFewest fu a0 r_48 M) fun M_51 =>
    bi (fX11_pages fu a0 M_51) fun r_57 =>
    lt ((6 * r_57)) fun x2_61 =>
    fX11_layPageFewest_l62 fu k40 a0 x1 x2_61 M_51
set_option maxRecDepth 100000 in
set_option maxHeartbeats 4000000 in
theorem wX11_layPageFewest_b40 {M' : Mm}   {k40 : Int32 → Mm → Option Mm} {a0 : Nat} {x1 : Int32} {M : Mm} (B : Bx p s m args c cX11_layPageFewest 6 RX11 E L) (hr : meth.sig.returnType = none) (hlk : meth.locks = false)  (ih40 : ∀ (x1 : Int32) (M : Mm), k40 x1 M = some M' → ∀ (H : Heap) (locs : List Loc) (ls : Array Slot), Rx s E L M H locs → lv_has ls 6 [(0, .ref a0), (1, .int x1)] → W p l e (rmD (d + 4)) s m args below meth c H locs 0 0 (MQ below (QcM E L none M') args s 0 0 E.2.2.2) (F0 m 40 ls [])) (h0 : At L a0 T11) (h : fX11_layPageFewest_b40 fu k40 a0 x1 M = some M') (hR : Rx s E L M H locs) (hl : lv_has ls 6 [(0, .ref a0), (1, .int x1)]) : W p l e (rmD (d + 4)) s m args below meth c H locs 0 0 (MQ below (QcM E L none M') args s 0 0 E.2.2.2) (F0 m 40 ls []) := by
  have hx := B.1
  have hb := B.2.1
  unfold fX11_layPageFewest_b40 at h
  refine lv_iload_n hx hb dX11_layPageFewest_40 rfl (lv_at hl 1 rfl) ?_
  refine lv_bipush (v := 6) hx hb dX11_layPageFewest_41 (by decide) ?_
  refine lv_icmp_ge (tgt := 106) hx hb dX11_layPageFewest_43 (by decide) (fun c_43 => ?_) (fun c_43 => ?_)
  · rw [if_pos c_43] at h
    exact wX11_layPageFewest_j106 B hr hlk h0 h hR (lv_sub hl [0] rfl)
  · rw [if_neg c_43] at h
    refine lv_aload_n hx hb dX11_layPageFewest_46 rfl (lv_at hl 0 rfl) ?_
    refine lv_iload_n hx hb dX11_layPageFewest_47 rfl (lv_at hl 1 rfl) ?_
    obtain ⟨r_48, hc_48, h⟩ := bi_el h
    refine is_X11_376 B hR hl.1 (mX11_triedKind fu _  hc_48) (Nat.le_of_ble_eq_true rfl) dX11_layPageFewest_48 (fun H locs hR => ?_)
    obtain ⟨M_51, hc_51, h⟩ := bm_el h
    refine iv_X11_338 B hR (h0.at0 rfl) hl.1 (mX11_layFewest fu _ h0 hc_51) (Nat.le_of_ble_eq_true rfl) dX11_layPageFewest_51 (fun H locs hR => ?_)
    refine lv_bipush (v := 6) hx hb dX11_layPageFewest_54 (by decide) ?_
    refine lv_aload_n hx hb dX11_layPageFewest_56 rfl (lv_at hl 0 rfl) ?_
    obtain ⟨r_57, hc_57, h⟩ := bi_el h
    refine iv_X11_291 B hR (h0.at0 rfl) hl.1 (mX11_pages fu _ h0 hc_57) (Nat.le_of_ble_eq_true rfl) dX11_layPageFewest_57 (fun H locs hR => ?_)
    refine lv_imul hx hb dX11_layPageFewest_60 ?_
    obtain ⟨x2_61, ex2_61, h⟩ := lt_el h
    refine r_nmI ex2_61 ?_
    refine lv_istore_n (lv' := [(2, .int x2_61), (0, .ref a0), (1, .int x1)]) hx hb dX11_layPageFewest_61 rfl hl (by decide) rfl (fun ls hl => ?_)
    exact wX11_layPageFewest_l62 B hr hlk ih40 h0 h hR (lv_sub hl [1, 2, 0] rfl)
def fX11_layPageFewest_l40 (fu : Nat) (a0 : Nat) (x1 : Int32) (M : Mm) : Option Mm := lp (fun (rec : (Int32 × Mm) → Option Mm) (s : Int32 × Mm) => fX11_layPageFewest_b40 fu  (fun x1 M => rec (x1, M)) a0 s.1 s.2) fu (x1, M)
set_option maxRecDepth 100000 in
set_option maxHeartbeats 4000000 in
theorem wX11_layPageFewest_l40 {M' : Mm}   {a0 : Nat} {x1 : Int32} {M : Mm} (B : Bx p s m args c cX11_layPageFewest 6 RX11 E L) (hr : meth.sig.returnType = none) (hlk : meth.locks = false)  (h0 : At L a0 T11) (h : fX11_layPageFewest_l40 fu a0 x1 M = some M') (hR : Rx s E L M H locs) (hl : lv_has ls 6 [(0, .ref a0), (1, .int x1)]) : W p l e (rmD (d + 4)) s m args below meth c H locs 0 0 (MQ below (QcM E L none M') args s 0 0 E.2.2.2) (F0 m 40 ls []) := by
  refine lp_G (G := fun z : Int32 × Mm => ∀ (H : Heap) (locs : List Loc) (ls : Array Slot), Rx s E L z.2 H locs → lv_has ls 6 [(0, .ref a0), (1, .int z.1)] → W p l e (rmD (d + 4)) s m args below meth c H locs 0 0 (MQ below (QcM E L none M') args s 0 0 E.2.2.2) (F0 m 40 ls [])) (fun rec ih z h H locs ls hR hl => ?_) fu _ h H locs ls hR hl
  exact wX11_layPageFewest_b40 B hr hlk  (fun x1 M h => ih (x1, M) h) h0 h hR hl
def fX11_layPageFewest_j38 (fu : Nat) (a0 : Nat) (M : Mm) : Option Mm :=
  fX11_layPageFewest_l40 fu a0 0 M
set_option maxRecDepth 100000 in
set_option maxHeartbeats 4000000 in
theorem wX11_layPageFewest_j38 {M' : Mm}   {a0 : Nat} {M : Mm} (B : Bx p s m args c cX11_layPageFewest 6 RX11 E L) (hr : meth.sig.returnType = none) (hlk : meth.locks = false)  (h0 : At L a0 T11) (h : fX11_layPageFewest_j38 fu a0 M = some M') (hR : Rx s E L M H locs) (hl : lv_has ls 6 [(0, .ref a0)]) : W p l e (rmD (d + 4)) s m args below meth c H locs 0 0 (MQ below (QcM E L none M') args s 0 0 E.2.2.2) (F0 m 38 ls []) := by
  have hx := B.1
  have hb := B.2.1
  unfold fX11_layPageFewest_j38 at h
  refine lv_iconst (v := 0) hx hb dX11_layPageFewest_38 (by decide) ?_
  refine lv_istore_n (lv' := [(1, .int 0), (0, .ref a0)]) hx hb dX11_layPageFewest_39 rfl hl (by decide) rfl (fun ls hl => ?_)
  exact wX11_layPageFewest_l40 B hr hlk h0 h hR (lv_sub hl [1, 0] rfl)
def fX11_layPageFewest_b12 (fu : Nat) (k12 : Int32 → Mm → Option Mm) (a0 : Nat) (x1 : Int32) (M : Mm) : Option Mm :=
  bi (fX11_pages fu a0 M) fun r_16 =>
  if (12 * r_16) ≤ x1 then
    fX11_layPageFewest_j38 fu a0 M
  else
    if x1 < 0 ∨ 12288 ≤ ix x1 then none else
    lt (wI M (a0 + 11) (ix x1) 1048576) fun M_31 =>
    lt (x1 + 1) fun x1_32 =>
    k12 x1_32 M_31
set_option maxRecDepth 100000 in
set_option maxHeartbeats 4000000 in
theorem wX11_layPageFewest_b12 {M' : Mm}   {k12 : Int32 → Mm → Option Mm} {a0 : Nat} {x1 : Int32} {M : Mm} (B : Bx p s m args c cX11_layPageFewest 6 RX11 E L) (hr : meth.sig.returnType = none) (hlk : meth.locks = false)  (ih12 : ∀ (x1 : Int32) (M : Mm), k12 x1 M = some M' → ∀ (H : Heap) (locs : List Loc) (ls : Array Slot), Rx s E L M H locs → lv_has ls 6 [(0, .ref a0), (1, .int x1)] → W p l e (rmD (d + 4)) s m args below meth c H locs 0 0 (MQ below (QcM E L none M') args s 0 0 E.2.2.2) (F0 m 12 ls [])) (h0 : At L a0 T11) (h : fX11_layPageFewest_b12 fu k12 a0 x1 M = some M') (hR : Rx s E L M H locs) (hl : lv_has ls 6 [(0, .ref a0), (1, .int x1)]) : W p l e (rmD (d + 4)) s m args below meth c H locs 0 0 (MQ below (QcM E L none M') args s 0 0 E.2.2.2) (F0 m 12 ls []) := by
  have hx := B.1
  have hb := B.2.1
  unfold fX11_layPageFewest_b12 at h
  refine lv_iload_n hx hb dX11_layPageFewest_12 rfl (lv_at hl 1 rfl) ?_
  refine lv_bipush (v := 12) hx hb dX11_layPageFewest_13 (by decide) ?_
  refine lv_aload_n hx hb dX11_layPageFewest_15 rfl (lv_at hl 0 rfl) ?_
  obtain ⟨r_16, hc_16, h⟩ := bi_el h
  refine iv_X11_291 B hR (h0.at0 rfl) hl.1 (mX11_pages fu _ h0 hc_16) (Nat.le_of_ble_eq_true rfl) dX11_layPageFewest_16 (fun H locs hR => ?_)
  refine lv_imul hx hb dX11_layPageFewest_19 ?_
  refine lv_icmp_ge (tgt := 38) hx hb dX11_layPageFewest_20 (by decide) (fun c_20 => ?_) (fun c_20 => ?_)
  · rw [if_pos c_20] at h
    exact wX11_layPageFewest_j38 B hr hlk h0 h hR (lv_sub hl [0] rfl)
  · rw [if_neg c_20] at h
    refine lv_aload_n hx hb dX11_layPageFewest_23 rfl (lv_at hl 0 rfl) ?_
    refine gf_X11_45 B hR (h0.at0 rfl) dX11_layPageFewest_24 ?_
    refine lv_iload_n hx hb dX11_layPageFewest_27 rfl (lv_at hl 1 rfl) ?_
    refine lc_X11_321 B dX11_layPageFewest_28 ?_
    obtain ⟨hi_31, h⟩ := ifn_el h
    obtain ⟨M_31, eM_31, h⟩ := lt_el h
    refine r_iast B hR (h0.at 11 rfl) hi_31 dX11_layPageFewest_31 (fun H locs hR => ?_)
    rw [← eM_31] at hR
    obtain ⟨x1_32, ex1_32, h⟩ := lt_el h
    refine lv_iinc (v := x1_32) (lv' := [(1, .int x1_32), (0, .ref a0)]) hx hb dX11_layPageFewest_32 hl (k := 1) rfl (by rw [ex1_32]; rfl) (by decide) rfl (fun ls hl => ?_)
    refine lv_goto (tgt := 12) hx hb dX11_layPageFewest_35 (by decide) ?_
    exact ih12 x1_32 M_31 h _ _ _ hR (lv_sub hl [1, 0] rfl)
def fX11_layPageFewest_l12 (fu : Nat) (a0 : Nat) (x1 : Int32) (M : Mm) : Option Mm := lp (fun (rec : (Int32 × Mm) → Option Mm) (s : Int32 × Mm) => fX11_layPageFewest_b12 fu  (fun x1 M => rec (x1, M)) a0 s.1 s.2) fu (x1, M)
set_option maxRecDepth 100000 in
set_option maxHeartbeats 4000000 in
theorem wX11_layPageFewest_l12 {M' : Mm}   {a0 : Nat} {x1 : Int32} {M : Mm} (B : Bx p s m args c cX11_layPageFewest 6 RX11 E L) (hr : meth.sig.returnType = none) (hlk : meth.locks = false)  (h0 : At L a0 T11) (h : fX11_layPageFewest_l12 fu a0 x1 M = some M') (hR : Rx s E L M H locs) (hl : lv_has ls 6 [(0, .ref a0), (1, .int x1)]) : W p l e (rmD (d + 4)) s m args below meth c H locs 0 0 (MQ below (QcM E L none M') args s 0 0 E.2.2.2) (F0 m 12 ls []) := by
  refine lp_G (G := fun z : Int32 × Mm => ∀ (H : Heap) (locs : List Loc) (ls : Array Slot), Rx s E L z.2 H locs → lv_has ls 6 [(0, .ref a0), (1, .int z.1)] → W p l e (rmD (d + 4)) s m args below meth c H locs 0 0 (MQ below (QcM E L none M') args s 0 0 E.2.2.2) (F0 m 12 ls [])) (fun rec ih z h H locs ls hR hl => ?_) fu _ h H locs ls hR hl
  exact wX11_layPageFewest_b12 B hr hlk  (fun x1 M h => ih (x1, M) h) h0 h hR hl
def fX11_layPageFewest (fu : Nat) (a0 : Nat) (M : Mm) : Option Mm :=
  bm (fX11_layWants fu a0 (M.1 (a0 + 1) (ix 0)) M) fun M_7 =>
  fX11_layPageFewest_l12 fu a0 0 M_7
set_option maxRecDepth 100000 in
set_option maxHeartbeats 4000000 in
theorem mX11_layPageFewest {l : Launch} {E : Ge} {L : Lay} (fu d : Nat) {a0 : Nat} {M : Mm} {M' : Mm}  (h0 : At L a0 T11) (h : fX11_layPageFewest fu a0 M = some M') : Ct l E L yX11_layPageFewest cX11_layPageFewest 6 none (d + 4) [.ref a0] M none M' := by
  refine Ct.of (by decide) ?_
  intro p e s m below meth c hr hlk B hR
  have B : Bx p s m _ c cX11_layPageFewest 6 RX11 E L := B
  have hx := B.1
  have hb := B.2.1
  have hl := lv_entry ([.ref a0]) (n := 6) (Nat.le_of_ble_eq_true rfl)
  rw [lg_entry_eq]
  generalize (lg_sl ([.ref a0]) ++ List.replicate (6 - (lg_sl ([.ref a0])).length) Slot.unset).toArray = ls at hl ⊢
  have hl : lv_has ls 6 [(0, .ref a0)] := hl
  unfold fX11_layPageFewest at h
  refine lv_aload_n hx hb dX11_layPageFewest_0 rfl (lv_at hl 0 rfl) ?_
  refine lv_aload_n hx hb dX11_layPageFewest_1 rfl (lv_at hl 0 rfl) ?_
  refine gf_X11_7 B hR (h0.at0 rfl) dX11_layPageFewest_2 ?_
  refine lv_iconst (v := 0) hx hb dX11_layPageFewest_5 (by decide) ?_
  refine r_iald B hR (h0.at 1 rfl) (by decide +kernel) dX11_layPageFewest_6 ?_
  obtain ⟨M_7, hc_7, h⟩ := bm_el h
  refine iv_X11_335 B hR (h0.at0 rfl) hl.1 (mX11_layWants fu _ h0 hc_7) (Nat.le_of_ble_eq_true rfl) dX11_layPageFewest_7 (fun H locs hR => ?_)
  refine lv_iconst (v := 0) hx hb dX11_layPageFewest_10 (by decide) ?_
  refine lv_istore_n (lv' := [(1, .int 0), (0, .ref a0)]) hx hb dX11_layPageFewest_11 rfl hl (by decide) rfl (fun ls hl => ?_)
  exact wX11_layPageFewest_l12 B hr hlk h0 h hR (lv_sub hl [1, 0] rfl)
def fX11_layPage_j54 (fu : Nat) (a0 : Nat) (x1 : Int32) (x2 : Int32) (x3 : Int32) (x4 : Int32) (M : Mm) : Option Mm :=
  bi (fX11_triedKind fu x4) fun r_61 =>
  if x1 < 0 ∨ 64 ≤ ix x1 then none else
  lt (wI M (a0 + 17) (ix x1) r_61) fun M_64 =>
  lt ((M_64.1 a0 32)) fun x5_69 =>
  bm (fX11_waits fu a0 x3 x2 M_64) fun M_74 =>
  bi (fX11_triedKind fu x4) fun r_82 =>
  bm (fX11_layWaiting fu a0 x5_69 r_82 M_74) fun M_85 =>
  some M_85
set_option maxRecDepth 100000 in
set_option maxHeartbeats 4000000 in
theorem wX11_layPage_j54 {M' : Mm}   {a0 : Nat} {x1 : Int32} {x2 : Int32} {x3 : Int32} {x4 : Int32} {M : Mm} (B : Bx p s m args c cX11_layPage 6 RX11 E L) (hr : meth.sig.returnType = none) (hlk : meth.locks = false)  (h0 : At L a0 T11) (h : fX11_layPage_j54 fu a0 x1 x2 x3 x4 M = some M') (hR : Rx s E L M H locs) (hl : lv_has ls 6 [(0, .ref a0), (1, .int x1), (2, .int x2), (3, .int x3), (4, .int x4)]) : W p l e (rmD (d + 6)) s m args below meth c H locs 0 0 (MQ below (QcM E L none M') args s 0 0 E.2.2.2) (F0 m 54 ls []) := by
  have hx := B.1
  have hb := B.2.1
  unfold fX11_layPage_j54 at h
  refine lv_aload_n hx hb dX11_layPage_54 rfl (lv_at hl 0 rfl) ?_
  refine gf_X11_63 B hR (h0.at0 rfl) dX11_layPage_55 ?_
  refine lv_iload_n hx hb dX11_layPage_58 rfl (lv_at hl 1 rfl) ?_
  refine lv_iload hx hb dX11_layPage_59 (lv_at hl 4 rfl) ?_
  obtain ⟨r_61, hc_61, h⟩ := bi_el h
  refine is_X11_376 B hR hl.1 (mX11_triedKind fu _  hc_61) (Nat.le_of_ble_eq_true rfl) dX11_layPage_61 (fun H locs hR => ?_)
  obtain ⟨hi_64, h⟩ := ifn_el h
  obtain ⟨M_64, eM_64, h⟩ := lt_el h
  refine r_iast B hR (h0.at 17 rfl) hi_64 dX11_layPage_64 (fun H locs hR => ?_)
  rw [← eM_64] at hR
  refine lv_aload_n hx hb dX11_layPage_65 rfl (lv_at hl 0 rfl) ?_
  refine gf_X11_347 B hR (h0.at0 rfl) dX11_layPage_66 ?_
  obtain ⟨x5_69, ex5_69, h⟩ := lt_el h
  refine r_nmI ex5_69 ?_
  refine lv_istore (lv' := [(5, .int x5_69), (0, .ref a0), (1, .int x1), (2, .int x2), (3, .int x3), (4, .int x4)]) hx hb dX11_layPage_69 hl (by decide) rfl (fun ls hl => ?_)
  refine lv_aload_n hx hb dX11_layPage_71 rfl (lv_at hl 1 rfl) ?_
  refine lv_iload_n hx hb dX11_layPage_72 rfl (lv_at hl 4 rfl) ?_
  refine lv_iload_n hx hb dX11_layPage_73 rfl (lv_at hl 3 rfl) ?_
  obtain ⟨M_74, hc_74, h⟩ := bm_el h
  refine iv_X11_356 B hR (h0.at0 rfl) hl.1 (mX11_waits fu _ h0 hc_74) (Nat.le_of_ble_eq_true rfl) dX11_layPage_74 (fun H locs hR => ?_)
  refine lv_aload_n hx hb dX11_layPage_77 rfl (lv_at hl 1 rfl) ?_
  refine lv_iload hx hb dX11_layPage_78 (lv_at hl 0 rfl) ?_
  refine lv_iload hx hb dX11_layPage_80 (lv_at hl 5 rfl) ?_
  obtain ⟨r_82, hc_82, h⟩ := bi_el h
  refine is_X11_376 B hR hl.1 (mX11_triedKind fu _  hc_82) (Nat.le_of_ble_eq_true rfl) dX11_layPage_82 (fun H locs hR => ?_)
  obtain ⟨M_85, hc_85, h⟩ := bm_el h
  refine iv_X11_367 B hR (h0.at0 rfl) hl.1 (mX11_layWaiting fu _ h0 hc_85) (Nat.le_of_ble_eq_true rfl) dX11_layPage_85 (fun H locs hR => ?_)
  exact r_vretW B hR hr hlk h dX11_layPage_88
def fX11_layPage_b14 (fu : Nat) (k14 : Int32 → Mm → Option Mm) (a0 : Nat) (x1 : Int32) (x2 : Int32) (x3 : Int32) (x4 : Int32) (M : Mm) : Option Mm :=
  if ((6 * x3) + x2) < 0 ∨ 12288 ≤ ix ((6 * x3) + x2) then none else
  if (M.1 (a0 + 9) (ix ((6 * x3) + x2))) = (M.1 (a0 + 11) (ix ((6 * x3) + x2))) then
    fX11_layPage_j54 fu a0 x1 x2 x3 x4 M
  else
    lt (x4 + 1) fun x4_39 =>
    bi (fX11_triedKind fu x4_39) fun r_45 =>
    bm (fX11_layFewest fu a0 r_45 M) fun M_48 =>
    k14 x4_39 M_48
set_option maxRecDepth 100000 in
set_option maxHeartbeats 4000000 in
theorem wX11_layPage_b14 {M' : Mm}   {k14 : Int32 → Mm → Option Mm} {a0 : Nat} {x1 : Int32} {x2 : Int32} {x3 : Int32} {x4 : Int32} {M : Mm} (B : Bx p s m args c cX11_layPage 6 RX11 E L) (hr : meth.sig.returnType = none) (hlk : meth.locks = false)  (ih14 : ∀ (x4 : Int32) (M : Mm), k14 x4 M = some M' → ∀ (H : Heap) (locs : List Loc) (ls : Array Slot), Rx s E L M H locs → lv_has ls 6 [(0, .ref a0), (1, .int x1), (2, .int x2), (3, .int x3), (4, .int x4)] → W p l e (rmD (d + 6)) s m args below meth c H locs 0 0 (MQ below (QcM E L none M') args s 0 0 E.2.2.2) (F0 m 14 ls [])) (h0 : At L a0 T11) (h : fX11_layPage_b14 fu k14 a0 x1 x2 x3 x4 M = some M') (hR : Rx s E L M H locs) (hl : lv_has ls 6 [(0, .ref a0), (1, .int x1), (2, .int x2), (3, .int x3), (4, .int x4)]) : W p l e (rmD (d + 6)) s m args below meth c H locs 0 0 (MQ below (QcM E L none M') args s 0 0 E.2.2.2) (F0 m 14 ls []) := by
  have hx := B.1
  have hb := B.2.1
  unfold fX11_layPage_b14 at h
  refine lv_aload_n hx hb dX11_layPage_14 rfl (lv_at hl 0 rfl) ?_
  refine gf_X11_39 B hR (h0.at0 rfl) dX11_layPage_15 ?_
  refine lv_bipush (v := 6) hx hb dX11_layPage_18 (by decide) ?_
  refine lv_iload_n hx hb dX11_layPage_20 rfl (lv_at hl 3 rfl) ?_
  refine lv_imul hx hb dX11_layPage_21 ?_
  refine lv_iload_n hx hb dX11_layPage_22 rfl (lv_at hl 2 rfl) ?_
  refine lv_iadd hx hb dX11_layPage_23 ?_
  obtain ⟨hi_24, h⟩ := ifn_el h
  refine r_iald B hR (h0.at 9 rfl) hi_24 dX11_layPage_24 ?_
  refine lv_aload_n hx hb dX11_layPage_25 rfl (lv_at hl 0 rfl) ?_
  refine gf_X11_45 B hR (h0.at0 rfl) dX11_layPage_26 ?_
  refine lv_bipush (v := 6) hx hb dX11_layPage_29 (by decide) ?_
  refine lv_iload_n hx hb dX11_layPage_31 rfl (lv_at hl 3 rfl) ?_
  refine lv_imul hx hb dX11_layPage_32 ?_
  refine lv_iload_n hx hb dX11_layPage_33 rfl (lv_at hl 2 rfl) ?_
  refine lv_iadd hx hb dX11_layPage_34 ?_
  refine r_iald B hR (h0.at 11 rfl) hi_24 dX11_layPage_35 ?_
  refine lv_icmp_eq (tgt := 54) hx hb dX11_layPage_36 (by decide) (fun c_36 => ?_) (fun c_36 => ?_)
  · rw [if_pos c_36] at h
    exact wX11_layPage_j54 B hr hlk h0 h hR hl
  · rw [if_neg c_36] at h
    obtain ⟨x4_39, ex4_39, h⟩ := lt_el h
    refine lv_iinc (v := x4_39) (lv' := [(4, .int x4_39), (0, .ref a0), (1, .int x1), (2, .int x2), (3, .int x3)]) hx hb dX11_layPage_39 hl (k := 4) rfl (by rw [ex4_39]; rfl) (by decide) rfl (fun ls hl => ?_)
    refine lv_aload_n hx hb dX11_layPage_42 rfl (lv_at hl 1 rfl) ?_
    refine lv_iload hx hb dX11_layPage_43 (lv_at hl 0 rfl) ?_
    obtain ⟨r_45, hc_45, h⟩ := bi_el h
    refine is_X11_376 B hR hl.1 (mX11_triedKind fu _  hc_45) (Nat.le_of_ble_eq_true rfl) dX11_layPage_45 (fun H locs hR => ?_)
    obtain ⟨M_48, hc_48, h⟩ := bm_el h
    refine iv_X11_338 B hR (h0.at0 rfl) hl.1 (mX11_layFewest fu _ h0 hc_48) (Nat.le_of_ble_eq_true rfl) dX11_layPage_48 (fun H locs hR => ?_)
    refine lv_goto (tgt := 14) hx hb dX11_layPage_51 (by decide) ?_
    exact ih14 x4_39 M_48 h _ _ _ hR (lv_sub hl [1, 2, 3, 4, 0] rfl)
def fX11_layPage_l14 (fu : Nat) (a0 : Nat) (x1 : Int32) (x2 : Int32) (x3 : Int32) (x4 : Int32) (M : Mm) : Option Mm := lp (fun (rec : (Int32 × Mm) → Option Mm) (s : Int32 × Mm) => fX11_layPage_b14 fu  (fun x4 M => rec (x4, M)) a0 x1 x2 x3 s.1 s.2) fu (x4, M)
set_option maxRecDepth 100000 in
set_option maxHeartbeats 4000000 in
theorem wX11_layPage_l14 {M' : Mm}   {a0 : Nat} {x1 : Int32} {x2 : Int32} {x3 : Int32} {x4 : Int32} {M : Mm} (B : Bx p s m args c cX11_layPage 6 RX11 E L) (hr : meth.sig.returnType = none) (hlk : meth.locks = false)  (h0 : At L a0 T11) (h : fX11_layPage_l14 fu a0 x1 x2 x3 x4 M = some M') (hR : Rx s E L M H locs) (hl : lv_has ls 6 [(0, .ref a0), (1, .int x1), (2, .int x2), (3, .int x3), (4, .int x4)]) : W p l e (rmD (d + 6)) s m args below meth c H locs 0 0 (MQ below (QcM E L none M') args s 0 0 E.2.2.2) (F0 m 14 ls []) := by
  refine lp_G (G := fun z : Int32 × Mm => ∀ (H : Heap) (locs : List Loc) (ls : Array Slot), Rx s E L z.2 H locs → lv_has ls 6 [(0, .ref a0), (1, .int x1), (2, .int x2), (3, .int x3), (4, .int z.1)] → W p l e (rmD (d + 6)) s m args below meth c H locs 0 0 (MQ below (QcM E L none M') args s 0 0 E.2.2.2) (F0 m 14 ls [])) (fun rec ih z h H locs ls hR hl => ?_) fu _ h H locs ls hR hl
  exact wX11_layPage_b14 B hr hlk  (fun x4 M h => ih (x4, M) h) h0 h hR hl
def fX11_layPage (fu : Nat) (a0 : Nat) (x1 : Int32) (x2 : Int32) (M : Mm) : Option Mm :=
  bi (fX11_pageNode fu a0 x1 M) fun r_2 =>
  bm (fX11_layFewest fu a0 5 M) fun M_11 =>
  fX11_layPage_l14 fu a0 x1 x2 r_2 0 M_11
set_option maxRecDepth 100000 in
set_option maxHeartbeats 4000000 in
theorem mX11_layPage {l : Launch} {E : Ge} {L : Lay} (fu d : Nat) {a0 : Nat} {x1 : Int32} {x2 : Int32} {M : Mm} {M' : Mm}  (h0 : At L a0 T11) (h : fX11_layPage fu a0 x1 x2 M = some M') : Ct l E L yX11_layPage cX11_layPage 6 none (d + 6) [.ref a0, .int x1, .int x2] M none M' := by
  refine Ct.of (by decide) ?_
  intro p e s m below meth c hr hlk B hR
  have B : Bx p s m _ c cX11_layPage 6 RX11 E L := B
  have hx := B.1
  have hb := B.2.1
  have hl := lv_entry ([.ref a0, .int x1, .int x2]) (n := 6) (Nat.le_of_ble_eq_true rfl)
  rw [lg_entry_eq]
  generalize (lg_sl ([.ref a0, .int x1, .int x2]) ++ List.replicate (6 - (lg_sl ([.ref a0, .int x1, .int x2])).length) Slot.unset).toArray = ls at hl ⊢
  have hl : lv_has ls 6 [(0, .ref a0), (1, .int x1), (2, .int x2)] := hl
  unfold fX11_layPage at h
  refine lv_aload_n hx hb dX11_layPage_0 rfl (lv_at hl 0 rfl) ?_
  refine lv_iload_n hx hb dX11_layPage_1 rfl (lv_at hl 1 rfl) ?_
  obtain ⟨r_2, hc_2, h⟩ := bi_el h
  refine iv_X11_379 B hR (h0.at0 rfl) hl.1 (mX11_pageNode fu _ h0 hc_2) (Nat.le_of_ble_eq_true rfl) dX11_layPage_2 (fun H locs hR => ?_)
  refine lv_istore_n (lv' := [(3, .int r_2), (0, .ref a0), (1, .int x1), (2, .int x2)]) hx hb dX11_layPage_5 rfl hl (by decide) rfl (fun ls hl => ?_)
  refine lv_iconst (v := 0) hx hb dX11_layPage_6 (by decide) ?_
  refine lv_istore (lv' := [(4, .int 0), (3, .int r_2), (0, .ref a0), (1, .int x1), (2, .int x2)]) hx hb dX11_layPage_7 hl (by decide) rfl (fun ls hl => ?_)
  refine lv_aload_n hx hb dX11_layPage_9 rfl (lv_at hl 2 rfl) ?_
  refine lv_iconst (v := 5) hx hb dX11_layPage_10 (by decide) ?_
  obtain ⟨M_11, hc_11, h⟩ := bm_el h
  refine iv_X11_338 B hR (h0.at0 rfl) hl.1 (mX11_layFewest fu _ h0 hc_11) (Nat.le_of_ble_eq_true rfl) dX11_layPage_11 (fun H locs hR => ?_)
  exact wX11_layPage_l14 B hr hlk h0 h hR (lv_sub hl [2, 3, 4, 1, 0] rfl)
def fX11_layPagedPlan_j104 (fu : Nat) (M : Mm) : Option Mm :=
  some M
set_option maxRecDepth 100000 in
set_option maxHeartbeats 4000000 in
theorem wX11_layPagedPlan_j104 {M' : Mm}    {M : Mm} (B : Bx p s m args c cX11_layPagedPlan 3 RX11 E L) (hr : meth.sig.returnType = none) (hlk : meth.locks = false)   (h : fX11_layPagedPlan_j104 fu M = some M') (hR : Rx s E L M H locs) (hl : lv_has ls 3 []) : W p l e (rmD (d + 7)) s m args below meth c H locs 0 0 (MQ below (QcM E L none M') args s 0 0 E.2.2.2) (F0 m 104 ls []) := by
  have hx := B.1
  have hb := B.2.1
  unfold fX11_layPagedPlan_j104 at h
  exact r_vretW B hR hr hlk h dX11_layPagedPlan_104
def fX11_layPagedPlan_j101 (fu : Nat) (k20 : Mm → Option Mm) (a0 : Nat) (M : Mm) : Option Mm :=
  k20 M
set_option maxRecDepth 100000 in
set_option maxHeartbeats 4000000 in
theorem wX11_layPagedPlan_j101 {M' : Mm}  {k20 : Mm → Option Mm} {a0 : Nat} {M : Mm} (B : Bx p s m args c cX11_layPagedPlan 3 RX11 E L) (hr : meth.sig.returnType = none) (hlk : meth.locks = false) (ih20 : ∀ (M : Mm), k20 M = some M' → ∀ (H : Heap) (locs : List Loc) (ls : Array Slot), Rx s E L M H locs → lv_has ls 3 [(0, .ref a0)] → W p l e (rmD (d + 7)) s m args below meth c H locs 0 0 (MQ below (QcM E L none M') args s 0 0 E.2.2.2) (F0 m 20 ls [])) (h0 : At L a0 T11) (h : fX11_layPagedPlan_j101 fu k20 a0 M = some M') (hR : Rx s E L M H locs) (hl : lv_has ls 3 [(0, .ref a0)]) : W p l e (rmD (d + 7)) s m args below meth c H locs 0 0 (MQ below (QcM E L none M') args s 0 0 E.2.2.2) (F0 m 101 ls []) := by
  have hx := B.1
  have hb := B.2.1
  unfold fX11_layPagedPlan_j101 at h
  refine lv_goto (tgt := 20) hx hb dX11_layPagedPlan_101 (by decide) ?_
  exact ih20 M h _ _ _ hR hl
def fX11_layPagedPlan_b20 (fu : Nat) (k20 : Mm → Option Mm) (a0 : Nat) (M : Mm) : Option Mm :=
  if (M.1 a0 32) ≤ 0 then
    fX11_layPagedPlan_j104 fu M
  else
    lt (wI M a0 32 ((M.1 a0 32) - 1)) fun M_34 =>
    if (M_34.1 a0 32) < 0 ∨ 4200 ≤ ix (M_34.1 a0 32) then none else
    lt ((M_34.1 (a0 + 12) (ix (M_34.1 a0 32)))) fun x1_46 =>
    lt ((M_34.1 (a0 + 13) (ix (M_34.1 a0 32)))) fun x2_56 =>
    bi (fX11_pages fu a0 M_34) fun r_59 =>
    if x1_46 < r_59 then
      if ((6 * x1_46) + x2_56) < 0 ∨ 12288 ≤ ix ((6 * x1_46) + x2_56) then none else
      bm (fX11_layBy fu a0 12288 (a0 + 11) x1_46 x2_56 (M_34.1 (a0 + 11) (ix ((6 * x1_46) + x2_56))) 1 M_34) fun M_98 =>
      fX11_layPagedPlan_j101 fu k20 a0 M_98
    else
      bi (fX11_pages fu a0 M_34) fun r_68 =>
      bm (fX11_layPage fu a0 (x1_46 - r_68) x2_56 M_34) fun M_73 =>
      fX11_layPagedPlan_j101 fu k20 a0 M_73
set_option maxRecDepth 100000 in
set_option maxHeartbeats 4000000 in
theorem wX11_layPagedPlan_b20 {M' : Mm}   {k20 : Mm → Option Mm} {a0 : Nat} {M : Mm} (B : Bx p s m args c cX11_layPagedPlan 3 RX11 E L) (hr : meth.sig.returnType = none) (hlk : meth.locks = false)  (ih20 : ∀ (M : Mm), k20 M = some M' → ∀ (H : Heap) (locs : List Loc) (ls : Array Slot), Rx s E L M H locs → lv_has ls 3 [(0, .ref a0)] → W p l e (rmD (d + 7)) s m args below meth c H locs 0 0 (MQ below (QcM E L none M') args s 0 0 E.2.2.2) (F0 m 20 ls [])) (h0 : At L a0 T11) (h : fX11_layPagedPlan_b20 fu k20 a0 M = some M') (hR : Rx s E L M H locs) (hl : lv_has ls 3 [(0, .ref a0)]) : W p l e (rmD (d + 7)) s m args below meth c H locs 0 0 (MQ below (QcM E L none M') args s 0 0 E.2.2.2) (F0 m 20 ls []) := by
  have hx := B.1
  have hb := B.2.1
  unfold fX11_layPagedPlan_b20 at h
  refine lv_aload_n hx hb dX11_layPagedPlan_20 rfl (lv_at hl 0 rfl) ?_
  refine gf_X11_347 B hR (h0.at0 rfl) dX11_layPagedPlan_21 ?_
  refine lv_if_le (tgt := 104) hx hb dX11_layPagedPlan_24 (by decide) (fun c_24 => ?_) (fun c_24 => ?_)
  · rw [if_pos c_24] at h
    exact wX11_layPagedPlan_j104 B hr hlk  h hR (lv_sub hl [] rfl)
  · rw [if_neg c_24] at h
    refine lv_aload_n hx hb dX11_layPagedPlan_27 rfl (lv_at hl 0 rfl) ?_
    refine lv_dup hx hb dX11_layPagedPlan_28 rfl ?_
    refine gf_X11_347 B hR (h0.at0 rfl) dX11_layPagedPlan_29 ?_
    refine lv_iconst (v := 1) hx hb dX11_layPagedPlan_32 (by decide) ?_
    refine lv_isub hx hb dX11_layPagedPlan_33 ?_
    obtain ⟨M_34, eM_34, h⟩ := lt_el h
    refine pf_X11_347 B hR (h0.at0 rfl) dX11_layPagedPlan_34 (fun H locs hR => ?_)
    rw [← eM_34] at hR
    refine lv_aload_n hx hb dX11_layPagedPlan_37 rfl (lv_at hl 0 rfl) ?_
    refine gf_X11_48 B hR (h0.at0 rfl) dX11_layPagedPlan_38 ?_
    refine lv_aload_n hx hb dX11_layPagedPlan_41 rfl (lv_at hl 0 rfl) ?_
    refine gf_X11_347 B hR (h0.at0 rfl) dX11_layPagedPlan_42 ?_
    obtain ⟨hi_45, h⟩ := ifn_el h
    refine r_iald B hR (h0.at 12 rfl) hi_45 dX11_layPagedPlan_45 ?_
    obtain ⟨x1_46, ex1_46, h⟩ := lt_el h
    refine r_nmI ex1_46 ?_
    refine lv_istore_n (lv' := [(1, .int x1_46), (0, .ref a0)]) hx hb dX11_layPagedPlan_46 rfl hl (by decide) rfl (fun ls hl => ?_)
    refine lv_aload_n hx hb dX11_layPagedPlan_47 rfl (lv_at hl 1 rfl) ?_
    refine gf_X11_51 B hR (h0.at0 rfl) dX11_layPagedPlan_48 ?_
    refine lv_aload_n hx hb dX11_layPagedPlan_51 rfl (lv_at hl 1 rfl) ?_
    refine gf_X11_347 B hR (h0.at0 rfl) dX11_layPagedPlan_52 ?_
    refine r_iald B hR (h0.at 13 rfl) hi_45 dX11_layPagedPlan_55 ?_
    obtain ⟨x2_56, ex2_56, h⟩ := lt_el h
    refine r_nmI ex2_56 ?_
    refine lv_istore_n (lv' := [(2, .int x2_56), (1, .int x1_46), (0, .ref a0)]) hx hb dX11_layPagedPlan_56 rfl hl (by decide) rfl (fun ls hl => ?_)
    refine lv_iload_n hx hb dX11_layPagedPlan_57 rfl (lv_at hl 1 rfl) ?_
    refine lv_aload_n hx hb dX11_layPagedPlan_58 rfl (lv_at hl 2 rfl) ?_
    obtain ⟨r_59, hc_59, h⟩ := bi_el h
    refine iv_X11_291 B hR (h0.at0 rfl) hl.1 (mX11_pages fu _ h0 hc_59) (Nat.le_of_ble_eq_true rfl) dX11_layPagedPlan_59 (fun H locs hR => ?_)
    refine lv_icmp_lt (tgt := 79) hx hb dX11_layPagedPlan_62 (by decide) (fun c_62 => ?_) (fun c_62 => ?_)
    · rw [if_pos c_62] at h
      refine lv_aload_n hx hb dX11_layPagedPlan_79 rfl (lv_at hl 2 rfl) ?_
      refine lv_aload_n hx hb dX11_layPagedPlan_80 rfl (lv_at hl 2 rfl) ?_
      refine gf_X11_45 B hR (h0.at0 rfl) dX11_layPagedPlan_81 ?_
      refine lv_iload_n hx hb dX11_layPagedPlan_84 rfl (lv_at hl 1 rfl) ?_
      refine lv_iload_n hx hb dX11_layPagedPlan_85 rfl (lv_at hl 0 rfl) ?_
      refine lv_aload_n hx hb dX11_layPagedPlan_86 rfl (lv_at hl 2 rfl) ?_
      refine gf_X11_45 B hR (h0.at0 rfl) dX11_layPagedPlan_87 ?_
      refine lv_bipush (v := 6) hx hb dX11_layPagedPlan_90 (by decide) ?_
      refine lv_iload_n hx hb dX11_layPagedPlan_92 rfl (lv_at hl 1 rfl) ?_
      refine lv_imul hx hb dX11_layPagedPlan_93 ?_
      refine lv_iload_n hx hb dX11_layPagedPlan_94 rfl (lv_at hl 0 rfl) ?_
      refine lv_iadd hx hb dX11_layPagedPlan_95 ?_
      obtain ⟨hi_96, h⟩ := ifn_el h
      refine r_iald B hR (h0.at 11 rfl) hi_96 dX11_layPagedPlan_96 ?_
      refine lv_iconst (v := 1) hx hb dX11_layPagedPlan_97 (by decide) ?_
      obtain ⟨M_98, hc_98, h⟩ := bm_el h
      refine iv_X11_363 B hR (h0.at0 rfl) hl.1 (mX11_layBy fu _ h0 (h0.at 11 rfl) hc_98) (Nat.le_of_ble_eq_true rfl) dX11_layPagedPlan_98 (fun H locs hR => ?_)
      exact wX11_layPagedPlan_j101 B hr hlk ih20 h0 h hR (lv_sub hl [2] rfl)
    · rw [if_neg c_62] at h
      refine lv_aload_n hx hb dX11_layPagedPlan_65 rfl (lv_at hl 2 rfl) ?_
      refine lv_iload_n hx hb dX11_layPagedPlan_66 rfl (lv_at hl 1 rfl) ?_
      refine lv_aload_n hx hb dX11_layPagedPlan_67 rfl (lv_at hl 2 rfl) ?_
      obtain ⟨r_68, hc_68, h⟩ := bi_el h
      refine iv_X11_291 B hR (h0.at0 rfl) hl.1 (mX11_pages fu _ h0 hc_68) (Nat.le_of_ble_eq_true rfl) dX11_layPagedPlan_68 (fun H locs hR => ?_)
      refine lv_isub hx hb dX11_layPagedPlan_71 ?_
      refine lv_iload_n hx hb dX11_layPagedPlan_72 rfl (lv_at hl 0 rfl) ?_
      obtain ⟨M_73, hc_73, h⟩ := bm_el h
      refine iv_X11_385 B hR (h0.at0 rfl) hl.1 (mX11_layPage fu _ h0 hc_73) (Nat.le_of_ble_eq_true rfl) dX11_layPagedPlan_73 (fun H locs hR => ?_)
      refine lv_goto (tgt := 101) hx hb dX11_layPagedPlan_76 (by decide) ?_
      exact wX11_layPagedPlan_j101 B hr hlk ih20 h0 h hR (lv_sub hl [2] rfl)
def fX11_layPagedPlan_l20 (fu : Nat) (a0 : Nat) (M : Mm) : Option Mm := lp (fun (rec : Mm → Option Mm) (s : Mm) => fX11_layPagedPlan_b20 fu  (fun M => rec (M)) a0 s) fu (M)
set_option maxRecDepth 100000 in
set_option maxHeartbeats 4000000 in
theorem wX11_layPagedPlan_l20 {M' : Mm}   {a0 : Nat} {M : Mm} (B : Bx p s m args c cX11_layPagedPlan 3 RX11 E L) (hr : meth.sig.returnType = none) (hlk : meth.locks = false)  (h0 : At L a0 T11) (h : fX11_layPagedPlan_l20 fu a0 M = some M') (hR : Rx s E L M H locs) (hl : lv_has ls 3 [(0, .ref a0)]) : W p l e (rmD (d + 7)) s m args below meth c H locs 0 0 (MQ below (QcM E L none M') args s 0 0 E.2.2.2) (F0 m 20 ls []) := by
  refine lp_G (G := fun z : Mm => ∀ (H : Heap) (locs : List Loc) (ls : Array Slot), Rx s E L z H locs → lv_has ls 3 [(0, .ref a0)] → W p l e (rmD (d + 7)) s m args below meth c H locs 0 0 (MQ below (QcM E L none M') args s 0 0 E.2.2.2) (F0 m 20 ls [])) (fun rec ih z h H locs ls hR hl => ?_) fu _ h H locs ls hR hl
  exact wX11_layPagedPlan_b20 B hr hlk  (fun M h => ih (M) h) h0 h hR hl
def fX11_layPagedPlan (fu : Nat) (a0 : Nat) (M : Mm) : Option Mm :=
  bm (fX11_layPageFewest fu a0 M) fun M_1 =>
  lt (wI M_1 a0 33 0) fun M_6 =>
  lt (wI M_6 a0 32 0) fun M_11 =>
  bm (fX11_waits fu a0 1 5 M_11) fun M_17 =>
  fX11_layPagedPlan_l20 fu a0 M_17
set_option maxRecDepth 100000 in
set_option maxHeartbeats 4000000 in
theorem mX11_layPagedPlan {l : Launch} {E : Ge} {L : Lay} (fu d : Nat) {a0 : Nat} {M : Mm} {M' : Mm}  (h0 : At L a0 T11) (h : fX11_layPagedPlan fu a0 M = some M') : Ct l E L yX11_layPagedPlan cX11_layPagedPlan 3 none (d + 7) [.ref a0] M none M' := by
  refine Ct.of (by decide) ?_
  intro p e s m below meth c hr hlk B hR
  have B : Bx p s m _ c cX11_layPagedPlan 3 RX11 E L := B
  have hx := B.1
  have hb := B.2.1
  have hl := lv_entry ([.ref a0]) (n := 3) (Nat.le_of_ble_eq_true rfl)
  rw [lg_entry_eq]
  generalize (lg_sl ([.ref a0]) ++ List.replicate (3 - (lg_sl ([.ref a0])).length) Slot.unset).toArray = ls at hl ⊢
  have hl : lv_has ls 3 [(0, .ref a0)] := hl
  unfold fX11_layPagedPlan at h
  refine lv_aload_n hx hb dX11_layPagedPlan_0 rfl (lv_at hl 0 rfl) ?_
  obtain ⟨M_1, hc_1, h⟩ := bm_el h
  refine iv_X11_382 B hR (h0.at0 rfl) hl.1 (mX11_layPageFewest fu _ h0 hc_1) (Nat.le_of_ble_eq_true rfl) dX11_layPagedPlan_1 (fun H locs hR => ?_)
  refine lv_aload_n hx hb dX11_layPagedPlan_4 rfl (lv_at hl 0 rfl) ?_
  refine lv_iconst (v := 0) hx hb dX11_layPagedPlan_5 (by decide) ?_
  obtain ⟨M_6, eM_6, h⟩ := lt_el h
  refine pf_X11_350 B hR (h0.at0 rfl) dX11_layPagedPlan_6 (fun H locs hR => ?_)
  rw [← eM_6] at hR
  refine lv_aload_n hx hb dX11_layPagedPlan_9 rfl (lv_at hl 0 rfl) ?_
  refine lv_iconst (v := 0) hx hb dX11_layPagedPlan_10 (by decide) ?_
  obtain ⟨M_11, eM_11, h⟩ := lt_el h
  refine pf_X11_347 B hR (h0.at0 rfl) dX11_layPagedPlan_11 (fun H locs hR => ?_)
  rw [← eM_11] at hR
  refine lv_aload_n hx hb dX11_layPagedPlan_14 rfl (lv_at hl 0 rfl) ?_
  refine lv_iconst (v := 1) hx hb dX11_layPagedPlan_15 (by decide) ?_
  refine lv_iconst (v := 5) hx hb dX11_layPagedPlan_16 (by decide) ?_
  obtain ⟨M_17, hc_17, h⟩ := bm_el h
  refine iv_X11_356 B hR (h0.at0 rfl) hl.1 (mX11_waits fu _ h0 hc_17) (Nat.le_of_ble_eq_true rfl) dX11_layPagedPlan_17 (fun H locs hR => ?_)
  exact wX11_layPagedPlan_l20 B hr hlk h0 h hR hl
def fX11_ownPages_j36 (fu : Nat) (x1 : Int32) (M : Mm) : Option Int32 :=
  some x1
set_option maxRecDepth 100000 in
set_option maxHeartbeats 4000000 in
theorem wX11_ownPages_j36 {r : Int32}   {x1 : Int32} {M : Mm} (B : Bx p s m args c cX11_ownPages 3 RX11 E L) (hr : meth.sig.returnType = (some .int)) (hlk : meth.locks = false)   (h : fX11_ownPages_j36 fu x1 M = some r) (hR : Rx s E L M H locs) (hl : lv_has ls 3 [(1, .int x1)]) : W p l e (rmD (d + 2)) s m args below meth c H locs 0 0 (MQ below (QcM E L (some (.int r)) M) args s 0 0 E.2.2.2) (F0 m 36 ls []) := by
  have hx := B.1
  have hb := B.2.1
  unfold fX11_ownPages_j36 at h
  refine lv_iload_n hx hb dX11_ownPages_36 rfl (lv_at hl 0 rfl) ?_
  exact r_iretP B hR hr hlk h dX11_ownPages_37
def fX11_ownPages_j28 (fu : Nat) (k4 : Int32 → Int32 → Option Int32) (a0 : Nat) (x2 : Int32) (t0 : Int32) (t1 : Int32) (M : Mm) : Option Int32 :=
  lt ((t0 + t1)) fun x1_29 =>
  lt (x2 + 1) fun x2_30 =>
  k4 x1_29 x2_30
set_option maxRecDepth 100000 in
set_option maxHeartbeats 4000000 in
theorem wX11_ownPages_j28 {r : Int32}  {k4 : Int32 → Int32 → Option Int32} {a0 : Nat} {x2 : Int32} {t0 : Int32} {t1 : Int32} {M : Mm} (B : Bx p s m args c cX11_ownPages 3 RX11 E L) (hr : meth.sig.returnType = (some .int)) (hlk : meth.locks = false) (ih4 : ∀ (x1 : Int32) (x2 : Int32), k4 x1 x2 = some r → ∀ (H : Heap) (locs : List Loc) (ls : Array Slot), Rx s E L M H locs → lv_has ls 3 [(0, .ref a0), (1, .int x1), (2, .int x2)] → W p l e (rmD (d + 2)) s m args below meth c H locs 0 0 (MQ below (QcM E L (some (.int r)) M) args s 0 0 E.2.2.2) (F0 m 4 ls [])) (h0 : At L a0 T11) (h : fX11_ownPages_j28 fu k4 a0 x2 t0 t1 M = some r) (hR : Rx s E L M H locs) (hl : lv_has ls 3 [(0, .ref a0), (2, .int x2)]) : W p l e (rmD (d + 2)) s m args below meth c H locs 0 0 (MQ below (QcM E L (some (.int r)) M) args s 0 0 E.2.2.2) (F0 m 28 ls [.int t1, .int t0]) := by
  have hx := B.1
  have hb := B.2.1
  unfold fX11_ownPages_j28 at h
  refine lv_iadd hx hb dX11_ownPages_28 ?_
  obtain ⟨x1_29, ex1_29, h⟩ := lt_el h
  refine r_nmI ex1_29 ?_
  refine lv_istore_n (lv' := [(1, .int x1_29), (0, .ref a0), (2, .int x2)]) hx hb dX11_ownPages_29 rfl hl (by decide) rfl (fun ls hl => ?_)
  obtain ⟨x2_30, ex2_30, h⟩ := lt_el h
  refine lv_iinc (v := x2_30) (lv' := [(2, .int x2_30), (1, .int x1_29), (0, .ref a0)]) hx hb dX11_ownPages_30 hl (k := 2) rfl (by rw [ex2_30]; rfl) (by decide) rfl (fun ls hl => ?_)
  refine lv_goto (tgt := 4) hx hb dX11_ownPages_33 (by decide) ?_
  exact ih4 x1_29 x2_30 h _ _ _ hR (lv_sub hl [2, 1, 0] rfl)
def fX11_ownPages_b4 (fu : Nat) (k4 : Int32 → Int32 → Option Int32) (a0 : Nat) (x1 : Int32) (x2 : Int32) (M : Mm) : Option Int32 :=
  bi (fX11_pages fu a0 M) fun r_6 =>
  if r_6 ≤ x2 then
    fX11_ownPages_j36 fu x1 M
  else
    if x2 < 0 ∨ 64 ≤ ix x2 then none else
    if (M.1 (a0 + 17) (ix x2)) = 5 then
      fX11_ownPages_j28 fu k4 a0 x2 x1 0 M
    else
      fX11_ownPages_j28 fu k4 a0 x2 x1 1 M
set_option maxRecDepth 100000 in
set_option maxHeartbeats 4000000 in
theorem wX11_ownPages_b4 {r : Int32}   {k4 : Int32 → Int32 → Option Int32} {a0 : Nat} {x1 : Int32} {x2 : Int32} {M : Mm} (B : Bx p s m args c cX11_ownPages 3 RX11 E L) (hr : meth.sig.returnType = (some .int)) (hlk : meth.locks = false)  (ih4 : ∀ (x1 : Int32) (x2 : Int32), k4 x1 x2 = some r → ∀ (H : Heap) (locs : List Loc) (ls : Array Slot), Rx s E L M H locs → lv_has ls 3 [(0, .ref a0), (1, .int x1), (2, .int x2)] → W p l e (rmD (d + 2)) s m args below meth c H locs 0 0 (MQ below (QcM E L (some (.int r)) M) args s 0 0 E.2.2.2) (F0 m 4 ls [])) (h0 : At L a0 T11) (h : fX11_ownPages_b4 fu k4 a0 x1 x2 M = some r) (hR : Rx s E L M H locs) (hl : lv_has ls 3 [(0, .ref a0), (1, .int x1), (2, .int x2)]) : W p l e (rmD (d + 2)) s m args below meth c H locs 0 0 (MQ below (QcM E L (some (.int r)) M) args s 0 0 E.2.2.2) (F0 m 4 ls []) := by
  have hx := B.1
  have hb := B.2.1
  unfold fX11_ownPages_b4 at h
  refine lv_iload_n hx hb dX11_ownPages_4 rfl (lv_at hl 2 rfl) ?_
  refine lv_aload_n hx hb dX11_ownPages_5 rfl (lv_at hl 0 rfl) ?_
  obtain ⟨r_6, hc_6, h⟩ := bi_el h
  refine iv_X11_291 B hR (h0.at0 rfl) hl.1 (mX11_pages fu _ h0 hc_6) (Nat.le_of_ble_eq_true rfl) dX11_ownPages_6 (fun H locs hR => ?_)
  refine lv_icmp_ge (tgt := 36) hx hb dX11_ownPages_9 (by decide) (fun c_9 => ?_) (fun c_9 => ?_)
  · rw [if_pos c_9] at h
    exact wX11_ownPages_j36 B hr hlk  h hR (lv_sub hl [1] rfl)
  · rw [if_neg c_9] at h
    refine lv_iload_n hx hb dX11_ownPages_12 rfl (lv_at hl 1 rfl) ?_
    refine lv_aload_n hx hb dX11_ownPages_13 rfl (lv_at hl 0 rfl) ?_
    refine gf_X11_63 B hR (h0.at0 rfl) dX11_ownPages_14 ?_
    refine lv_iload_n hx hb dX11_ownPages_17 rfl (lv_at hl 2 rfl) ?_
    obtain ⟨hi_18, h⟩ := ifn_el h
    refine r_iald B hR (h0.at 17 rfl) hi_18 dX11_ownPages_18 ?_
    refine lv_iconst (v := 5) hx hb dX11_ownPages_19 (by decide) ?_
    refine lv_icmp_ne (tgt := 27) hx hb dX11_ownPages_20 (by decide) (fun c_20 => ?_) (fun c_20 => ?_)
    · rw [if_neg c_20] at h
      refine lv_iconst (v := 1) hx hb dX11_ownPages_27 (by decide) ?_
      exact wX11_ownPages_j28 B hr hlk ih4 h0 h hR (lv_sub hl [0, 2] rfl)
    · rw [if_pos c_20] at h
      refine lv_iconst (v := 0) hx hb dX11_ownPages_23 (by decide) ?_
      refine lv_goto (tgt := 28) hx hb dX11_ownPages_24 (by decide) ?_
      exact wX11_ownPages_j28 B hr hlk ih4 h0 h hR (lv_sub hl [0, 2] rfl)
def fX11_ownPages_l4 (fu : Nat) (a0 : Nat) (M : Mm) (x1 : Int32) (x2 : Int32) : Option Int32 := lp (fun (rec : (Int32 × Int32) → Option Int32) (s : Int32 × Int32) => fX11_ownPages_b4 fu  (fun x1 x2 => rec (x1, x2)) a0 s.1 s.2 M) fu (x1, x2)
set_option maxRecDepth 100000 in
set_option maxHeartbeats 4000000 in
theorem wX11_ownPages_l4 {r : Int32}   {a0 : Nat} {x1 : Int32} {x2 : Int32} {M : Mm} (B : Bx p s m args c cX11_ownPages 3 RX11 E L) (hr : meth.sig.returnType = (some .int)) (hlk : meth.locks = false)  (h0 : At L a0 T11) (h : fX11_ownPages_l4 fu a0 M x1 x2 = some r) (hR : Rx s E L M H locs) (hl : lv_has ls 3 [(0, .ref a0), (1, .int x1), (2, .int x2)]) : W p l e (rmD (d + 2)) s m args below meth c H locs 0 0 (MQ below (QcM E L (some (.int r)) M) args s 0 0 E.2.2.2) (F0 m 4 ls []) := by
  refine lp_G (G := fun z : Int32 × Int32 => ∀ (H : Heap) (locs : List Loc) (ls : Array Slot), Rx s E L M H locs → lv_has ls 3 [(0, .ref a0), (1, .int z.1), (2, .int z.2)] → W p l e (rmD (d + 2)) s m args below meth c H locs 0 0 (MQ below (QcM E L (some (.int r)) M) args s 0 0 E.2.2.2) (F0 m 4 ls [])) (fun rec ih z h H locs ls hR hl => ?_) fu _ h H locs ls hR hl
  exact wX11_ownPages_b4 B hr hlk  (fun x1 x2 h => ih (x1, x2) h) h0 h hR hl
def fX11_ownPages (fu : Nat) (a0 : Nat) (M : Mm) : Option Int32 :=
  fX11_ownPages_l4 fu a0 M 0 0
set_option maxRecDepth 100000 in
set_option maxHeartbeats 4000000 in
theorem mX11_ownPages {l : Launch} {E : Ge} {L : Lay} (fu d : Nat) {a0 : Nat} {M : Mm} {r : Int32}  (h0 : At L a0 T11) (h : fX11_ownPages fu a0 M = some r) : Ct l E L yX11_ownPages cX11_ownPages 3 (some .int) (d + 2) [.ref a0] M (some (.int r)) M := by
  refine Ct.of (by decide) ?_
  intro p e s m below meth c hr hlk B hR
  have B : Bx p s m _ c cX11_ownPages 3 RX11 E L := B
  have hx := B.1
  have hb := B.2.1
  have hl := lv_entry ([.ref a0]) (n := 3) (Nat.le_of_ble_eq_true rfl)
  rw [lg_entry_eq]
  generalize (lg_sl ([.ref a0]) ++ List.replicate (3 - (lg_sl ([.ref a0])).length) Slot.unset).toArray = ls at hl ⊢
  have hl : lv_has ls 3 [(0, .ref a0)] := hl
  unfold fX11_ownPages at h
  refine lv_iconst (v := 0) hx hb dX11_ownPages_0 (by decide) ?_
  refine lv_istore_n (lv' := [(1, .int 0), (0, .ref a0)]) hx hb dX11_ownPages_1 rfl hl (by decide) rfl (fun ls hl => ?_)
  refine lv_iconst (v := 0) hx hb dX11_ownPages_2 (by decide) ?_
  refine lv_istore_n (lv' := [(2, .int 0), (1, .int 0), (0, .ref a0)]) hx hb dX11_ownPages_3 rfl hl (by decide) rfl (fun ls hl => ?_)
  exact wX11_ownPages_l4 B hr hlk h0 h hR (lv_sub hl [2, 1, 0] rfl)
def fX11_withPages_j30 (fu : Nat) (t0 : Int32) (M : Mm) : Option (Int32 × Mm) :=
  some (t0, M)
set_option maxRecDepth 100000 in
set_option maxHeartbeats 4000000 in
theorem wX11_withPages_j30 {r : Int32} {M' : Mm}   {t0 : Int32} {M : Mm} (B : Bx p s m args c cX11_withPages 2 RX11 E L) (hr : meth.sig.returnType = (some .int)) (hlk : meth.locks = false)   (h : fX11_withPages_j30 fu t0 M = some (r, M')) (hR : Rx s E L M H locs) (hl : lv_has ls 2 []) : W p l e (rmD (d + 8)) s m args below meth c H locs 0 0 (MQ below (QcM E L (some (.int r)) M') args s 0 0 E.2.2.2) (F0 m 30 ls [.int t0]) := by
  have hx := B.1
  have hb := B.2.1
  unfold fX11_withPages_j30 at h
  exact r_iretW B hR hr hlk h dX11_withPages_30
def fX11_withPages (fu : Nat) (a0 : Nat) (x1 : Int32) (M : Mm) : Option (Int32 × Mm) :=
  bi (fX11_isIn fu x1 0 1) fun r_3 =>
  if r_3 = 0 then
    some ((-1), M)
  else
    bm (fX11_layPagedPlan fu a0 M) fun M_12 =>
    if x1 = 0 then
      fX11_withPages_j30 fu (M_12.1 a0 33) M_12
    else
      bi (fX11_ownPages fu a0 M_12) fun r_27 =>
      fX11_withPages_j30 fu r_27 M_12
set_option maxRecDepth 100000 in
set_option maxHeartbeats 4000000 in
theorem mX11_withPages {l : Launch} {E : Ge} {L : Lay} (fu d : Nat) {a0 : Nat} {x1 : Int32} {M : Mm} {r : Int32} {M' : Mm}  (h0 : At L a0 T11) (h : fX11_withPages fu a0 x1 M = some (r, M')) : Ct l E L yX11_withPages cX11_withPages 2 (some .int) (d + 8) [.ref a0, .int x1] M (some (.int r)) M' := by
  refine Ct.of (by decide) ?_
  intro p e s m below meth c hr hlk B hR
  have B : Bx p s m _ c cX11_withPages 2 RX11 E L := B
  have hx := B.1
  have hb := B.2.1
  have hl := lv_entry ([.ref a0, .int x1]) (n := 2) (Nat.le_of_ble_eq_true rfl)
  rw [lg_entry_eq]
  generalize (lg_sl ([.ref a0, .int x1]) ++ List.replicate (2 - (lg_sl ([.ref a0, .int x1])).length) Slot.unset).toArray = ls at hl ⊢
  have hl : lv_has ls 2 [(0, .ref a0), (1, .int x1)] := hl
  unfold fX11_withPages at h
  refine lv_iload_n hx hb dX11_withPages_0 rfl (lv_at hl 1 rfl) ?_
  refine lv_iconst (v := 0) hx hb dX11_withPages_1 (by decide) ?_
  refine lv_iconst (v := 1) hx hb dX11_withPages_2 (by decide) ?_
  obtain ⟨r_3, hc_3, h⟩ := bi_el h
  refine is_X11_163 B hR hl.1 (mX11_isIn fu _  hc_3) (Nat.le_of_ble_eq_true rfl) dX11_withPages_3 (fun H locs hR => ?_)
  refine lv_if_ne (tgt := 11) hx hb dX11_withPages_6 (by decide) (fun c_6 => ?_) (fun c_6 => ?_)
  · rw [if_neg c_6] at h
    refine lv_aload_n hx hb dX11_withPages_11 rfl (lv_at hl 0 rfl) ?_
    obtain ⟨M_12, hc_12, h⟩ := bm_el h
    refine iv_X11_388 B hR (h0.at0 rfl) hl.1 (mX11_layPagedPlan fu _ h0 hc_12) (Nat.le_of_ble_eq_true rfl) dX11_withPages_12 (fun H locs hR => ?_)
    refine lv_iload_n hx hb dX11_withPages_15 rfl (lv_at hl 1 rfl) ?_
    refine lv_if_ne (tgt := 26) hx hb dX11_withPages_16 (by decide) (fun c_16 => ?_) (fun c_16 => ?_)
    · rw [if_neg c_16] at h
      refine lv_aload_n hx hb dX11_withPages_26 rfl (lv_at hl 0 rfl) ?_
      obtain ⟨r_27, hc_27, h⟩ := bi_el h
      refine iv_X11_391 B hR (h0.at0 rfl) hl.1 (mX11_ownPages fu _ h0 hc_27) (Nat.le_of_ble_eq_true rfl) dX11_withPages_27 (fun H locs hR => ?_)
      exact wX11_withPages_j30 B hr hlk  h hR (lv_sub hl [] rfl)
    · rw [if_pos c_16] at h
      refine lv_aload_n hx hb dX11_withPages_19 rfl (lv_at hl 0 rfl) ?_
      refine gf_X11_350 B hR (h0.at0 rfl) dX11_withPages_20 ?_
      refine lv_goto (tgt := 30) hx hb dX11_withPages_23 (by decide) ?_
      exact wX11_withPages_j30 B hr hlk  h hR (lv_sub hl [] rfl)
  · rw [if_pos c_6] at h
    refine lv_iconst (v := (-1)) hx hb dX11_withPages_9 (by decide) ?_
    exact r_iretW B hR hr hlk h dX11_withPages_10
def fX11_pagedPlan (fu : Nat) (a0 : Nat) (x1 : Int32) (x2 : Int32) (M : Mm) : Option (Int32 × Mm) :=
  bm (fX11_layPagedPlan fu a0 M) fun M_1 =>
  bi (fX11_blockOf fu a0 x1 x2 M_1) fun r_7 =>
  some (r_7, M_1)
set_option maxRecDepth 100000 in
set_option maxHeartbeats 4000000 in
theorem mX11_pagedPlan {l : Launch} {E : Ge} {L : Lay} (fu d : Nat) {a0 : Nat} {x1 : Int32} {x2 : Int32} {M : Mm} {r : Int32} {M' : Mm}  (h0 : At L a0 T11) (h : fX11_pagedPlan fu a0 x1 x2 M = some (r, M')) : Ct l E L yX11_pagedPlan cX11_pagedPlan 3 (some .int) (d + 8) [.ref a0, .int x1, .int x2] M (some (.int r)) M' := by
  refine Ct.of (by decide) ?_
  intro p e s m below meth c hr hlk B hR
  have B : Bx p s m _ c cX11_pagedPlan 3 RX11 E L := B
  have hx := B.1
  have hb := B.2.1
  have hl := lv_entry ([.ref a0, .int x1, .int x2]) (n := 3) (Nat.le_of_ble_eq_true rfl)
  rw [lg_entry_eq]
  generalize (lg_sl ([.ref a0, .int x1, .int x2]) ++ List.replicate (3 - (lg_sl ([.ref a0, .int x1, .int x2])).length) Slot.unset).toArray = ls at hl ⊢
  have hl : lv_has ls 3 [(0, .ref a0), (1, .int x1), (2, .int x2)] := hl
  unfold fX11_pagedPlan at h
  refine lv_aload_n hx hb dX11_pagedPlan_0 rfl (lv_at hl 0 rfl) ?_
  obtain ⟨M_1, hc_1, h⟩ := bm_el h
  refine iv_X11_388 B hR (h0.at0 rfl) hl.1 (mX11_layPagedPlan fu _ h0 hc_1) (Nat.le_of_ble_eq_true rfl) dX11_pagedPlan_1 (fun H locs hR => ?_)
  refine lv_aload_n hx hb dX11_pagedPlan_4 rfl (lv_at hl 0 rfl) ?_
  refine lv_iload_n hx hb dX11_pagedPlan_5 rfl (lv_at hl 1 rfl) ?_
  refine lv_iload_n hx hb dX11_pagedPlan_6 rfl (lv_at hl 2 rfl) ?_
  obtain ⟨r_7, hc_7, h⟩ := bi_el h
  refine iv_X11_373 B hR (h0.at0 rfl) hl.1 (mX11_blockOf fu _ h0 hc_7) (Nat.le_of_ble_eq_true rfl) dX11_pagedPlan_7 (fun H locs hR => ?_)
  exact r_iretW B hR hr hlk h dX11_pagedPlan_10
def fX11_pageFor (fu : Nat) (a0 : Nat) (x1 : Int32) (M : Mm) : Option (Int32 × Mm) :=
  bi (fX11_pages fu a0 M) fun r_3 =>
  bi (fX11_isIn fu x1 0 (r_3 - 1)) fun r_8 =>
  if r_8 = 0 then
    some ((-1), M)
  else
    bm (fX11_layPagedPlan fu a0 M) fun M_17 =>
    if x1 < 0 ∨ 64 ≤ ix x1 then none else
    some ((M_17.1 (a0 + 17) (ix x1)), M_17)
set_option maxRecDepth 100000 in
set_option maxHeartbeats 4000000 in
theorem mX11_pageFor {l : Launch} {E : Ge} {L : Lay} (fu d : Nat) {a0 : Nat} {x1 : Int32} {M : Mm} {r : Int32} {M' : Mm}  (h0 : At L a0 T11) (h : fX11_pageFor fu a0 x1 M = some (r, M')) : Ct l E L yX11_pageFor cX11_pageFor 2 (some .int) (d + 8) [.ref a0, .int x1] M (some (.int r)) M' := by
  refine Ct.of (by decide) ?_
  intro p e s m below meth c hr hlk B hR
  have B : Bx p s m _ c cX11_pageFor 2 RX11 E L := B
  have hx := B.1
  have hb := B.2.1
  have hl := lv_entry ([.ref a0, .int x1]) (n := 2) (Nat.le_of_ble_eq_true rfl)
  rw [lg_entry_eq]
  generalize (lg_sl ([.ref a0, .int x1]) ++ List.replicate (2 - (lg_sl ([.ref a0, .int x1])).length) Slot.unset).toArray = ls at hl ⊢
  have hl : lv_has ls 2 [(0, .ref a0), (1, .int x1)] := hl
  unfold fX11_pageFor at h
  refine lv_iload_n hx hb dX11_pageFor_0 rfl (lv_at hl 1 rfl) ?_
  refine lv_iconst (v := 0) hx hb dX11_pageFor_1 (by decide) ?_
  refine lv_aload_n hx hb dX11_pageFor_2 rfl (lv_at hl 0 rfl) ?_
  obtain ⟨r_3, hc_3, h⟩ := bi_el h
  refine iv_X11_291 B hR (h0.at0 rfl) hl.1 (mX11_pages fu _ h0 hc_3) (Nat.le_of_ble_eq_true rfl) dX11_pageFor_3 (fun H locs hR => ?_)
  refine lv_iconst (v := 1) hx hb dX11_pageFor_6 (by decide) ?_
  refine lv_isub hx hb dX11_pageFor_7 ?_
  obtain ⟨r_8, hc_8, h⟩ := bi_el h
  refine is_X11_163 B hR hl.1 (mX11_isIn fu _  hc_8) (Nat.le_of_ble_eq_true rfl) dX11_pageFor_8 (fun H locs hR => ?_)
  refine lv_if_ne (tgt := 16) hx hb dX11_pageFor_11 (by decide) (fun c_11 => ?_) (fun c_11 => ?_)
  · rw [if_neg c_11] at h
    refine lv_aload_n hx hb dX11_pageFor_16 rfl (lv_at hl 0 rfl) ?_
    obtain ⟨M_17, hc_17, h⟩ := bm_el h
    refine iv_X11_388 B hR (h0.at0 rfl) hl.1 (mX11_layPagedPlan fu _ h0 hc_17) (Nat.le_of_ble_eq_true rfl) dX11_pageFor_17 (fun H locs hR => ?_)
    refine lv_aload_n hx hb dX11_pageFor_20 rfl (lv_at hl 0 rfl) ?_
    refine gf_X11_63 B hR (h0.at0 rfl) dX11_pageFor_21 ?_
    refine lv_iload_n hx hb dX11_pageFor_24 rfl (lv_at hl 1 rfl) ?_
    obtain ⟨hi_25, h⟩ := ifn_el h
    refine r_iald B hR (h0.at 17 rfl) hi_25 dX11_pageFor_25 ?_
    exact r_iretW B hR hr hlk h dX11_pageFor_26
  · rw [if_pos c_11] at h
    refine lv_iconst (v := (-1)) hx hb dX11_pageFor_14 (by decide) ?_
    exact r_iretW B hR hr hlk h dX11_pageFor_15
def fX11_rightIn_j69 (fu : Nat) (x3 : Int32) (M : Mm) : Option Int32 :=
  some x3
set_option maxRecDepth 100000 in
set_option maxHeartbeats 4000000 in
theorem wX11_rightIn_j69 {r : Int32}   {x3 : Int32} {M : Mm} (B : Bx p s m args c cX11_rightIn 6 RX11 E L) (hr : meth.sig.returnType = (some .int)) (hlk : meth.locks = false)   (h : fX11_rightIn_j69 fu x3 M = some r) (hR : Rx s E L M H locs) (hl : lv_has ls 6 [(3, .int x3)]) : W p l e (rmD (d + 3)) s m args below meth c H locs 0 0 (MQ below (QcM E L (some (.int r)) M) args s 0 0 E.2.2.2) (F0 m 69 ls []) := by
  have hx := B.1
  have hb := B.2.1
  unfold fX11_rightIn_j69 at h
  refine lv_iload_n hx hb dX11_rightIn_69 rfl (lv_at hl 0 rfl) ?_
  exact r_iretP B hR hr hlk h dX11_rightIn_70
def fX11_rightIn_j61 (fu : Nat) (k13 : Int32 → Int32 → Option Int32) (a0 : Nat) (x1 : Int32) (x2 : Int32) (x4 : Int32) (x5 : Int32) (t0 : Int32) (t1 : Int32) (M : Mm) : Option Int32 :=
  lt ((t0 + t1)) fun x3_62 =>
  lt (x5 + 1) fun x5_63 =>
  k13 x3_62 x5_63
set_option maxRecDepth 100000 in
set_option maxHeartbeats 4000000 in
theorem wX11_rightIn_j61 {r : Int32}  {k13 : Int32 → Int32 → Option Int32} {a0 : Nat} {x1 : Int32} {x2 : Int32} {x4 : Int32} {x5 : Int32} {t0 : Int32} {t1 : Int32} {M : Mm} (B : Bx p s m args c cX11_rightIn 6 RX11 E L) (hr : meth.sig.returnType = (some .int)) (hlk : meth.locks = false) (ih13 : ∀ (x3 : Int32) (x5 : Int32), k13 x3 x5 = some r → ∀ (H : Heap) (locs : List Loc) (ls : Array Slot), Rx s E L M H locs → lv_has ls 6 [(0, .ref a0), (1, .int x1), (2, .int x2), (3, .int x3), (4, .int x4), (5, .int x5)] → W p l e (rmD (d + 3)) s m args below meth c H locs 0 0 (MQ below (QcM E L (some (.int r)) M) args s 0 0 E.2.2.2) (F0 m 13 ls [])) (h0 : At L a0 T11) (h : fX11_rightIn_j61 fu k13 a0 x1 x2 x4 x5 t0 t1 M = some r) (hR : Rx s E L M H locs) (hl : lv_has ls 6 [(0, .ref a0), (1, .int x1), (2, .int x2), (4, .int x4), (5, .int x5)]) : W p l e (rmD (d + 3)) s m args below meth c H locs 0 0 (MQ below (QcM E L (some (.int r)) M) args s 0 0 E.2.2.2) (F0 m 61 ls [.int t1, .int t0]) := by
  have hx := B.1
  have hb := B.2.1
  unfold fX11_rightIn_j61 at h
  refine lv_iadd hx hb dX11_rightIn_61 ?_
  obtain ⟨x3_62, ex3_62, h⟩ := lt_el h
  refine r_nmI ex3_62 ?_
  refine lv_istore_n (lv' := [(3, .int x3_62), (0, .ref a0), (1, .int x1), (2, .int x2), (4, .int x4), (5, .int x5)]) hx hb dX11_rightIn_62 rfl hl (by decide) rfl (fun ls hl => ?_)
  obtain ⟨x5_63, ex5_63, h⟩ := lt_el h
  refine lv_iinc (v := x5_63) (lv' := [(5, .int x5_63), (3, .int x3_62), (0, .ref a0), (1, .int x1), (2, .int x2), (4, .int x4)]) hx hb dX11_rightIn_63 hl (k := 5) rfl (by rw [ex5_63]; rfl) (by decide) rfl (fun ls hl => ?_)
  refine lv_goto (tgt := 13) hx hb dX11_rightIn_66 (by decide) ?_
  exact ih13 x3_62 x5_63 h _ _ _ hR (lv_sub hl [2, 3, 4, 1, 5, 0] rfl)
def fX11_rightIn_j60 (fu : Nat) (k13 : Int32 → Int32 → Option Int32) (a0 : Nat) (x1 : Int32) (x2 : Int32) (x4 : Int32) (x5 : Int32) (t0 : Int32) (M : Mm) : Option Int32 :=
  fX11_rightIn_j61 fu k13 a0 x1 x2 x4 x5 t0 0 M
set_option maxRecDepth 100000 in
set_option maxHeartbeats 4000000 in
theorem wX11_rightIn_j60 {r : Int32}  {k13 : Int32 → Int32 → Option Int32} {a0 : Nat} {x1 : Int32} {x2 : Int32} {x4 : Int32} {x5 : Int32} {t0 : Int32} {M : Mm} (B : Bx p s m args c cX11_rightIn 6 RX11 E L) (hr : meth.sig.returnType = (some .int)) (hlk : meth.locks = false) (ih13 : ∀ (x3 : Int32) (x5 : Int32), k13 x3 x5 = some r → ∀ (H : Heap) (locs : List Loc) (ls : Array Slot), Rx s E L M H locs → lv_has ls 6 [(0, .ref a0), (1, .int x1), (2, .int x2), (3, .int x3), (4, .int x4), (5, .int x5)] → W p l e (rmD (d + 3)) s m args below meth c H locs 0 0 (MQ below (QcM E L (some (.int r)) M) args s 0 0 E.2.2.2) (F0 m 13 ls [])) (h0 : At L a0 T11) (h : fX11_rightIn_j60 fu k13 a0 x1 x2 x4 x5 t0 M = some r) (hR : Rx s E L M H locs) (hl : lv_has ls 6 [(0, .ref a0), (1, .int x1), (2, .int x2), (4, .int x4), (5, .int x5)]) : W p l e (rmD (d + 3)) s m args below meth c H locs 0 0 (MQ below (QcM E L (some (.int r)) M) args s 0 0 E.2.2.2) (F0 m 60 ls [.int t0]) := by
  have hx := B.1
  have hb := B.2.1
  unfold fX11_rightIn_j60 at h
  refine lv_iconst (v := 0) hx hb dX11_rightIn_60 (by decide) ?_
  exact wX11_rightIn_j61 B hr hlk ih13 h0 h hR hl
def fX11_rightIn_b13 (fu : Nat) (k13 : Int32 → Int32 → Option Int32) (a0 : Nat) (x1 : Int32) (x2 : Int32) (x3 : Int32) (x4 : Int32) (x5 : Int32) (M : Mm) : Option Int32 :=
  bi (fX11_sizeAt fu a0 x1 M) fun r_19 =>
  if (x4 + r_19) ≤ x5 then
    fX11_rightIn_j69 fu x3 M
  else
    bi (fX11_isFixed fu a0 x5 M) fun r_30 =>
    if r_30 = 0 then
      bi (fX11_addresses fu a0 M) fun r_41 =>
      if (r_41 + x5) < 0 ∨ 2048 ≤ ix (r_41 + x5) then none else
      bi (fX11_kindBy fu a0 x2 M) fun r_50 =>
      if (M.1 (a0 + 8) (ix (r_41 + x5))) = r_50 then
        fX11_rightIn_j61 fu k13 a0 x1 x2 x4 x5 x3 1 M
      else
        fX11_rightIn_j60 fu k13 a0 x1 x2 x4 x5 x3 M
    else
      fX11_rightIn_j60 fu k13 a0 x1 x2 x4 x5 x3 M
set_option maxRecDepth 100000 in
set_option maxHeartbeats 4000000 in
theorem wX11_rightIn_b13 {r : Int32}   {k13 : Int32 → Int32 → Option Int32} {a0 : Nat} {x1 : Int32} {x2 : Int32} {x3 : Int32} {x4 : Int32} {x5 : Int32} {M : Mm} (B : Bx p s m args c cX11_rightIn 6 RX11 E L) (hr : meth.sig.returnType = (some .int)) (hlk : meth.locks = false)  (ih13 : ∀ (x3 : Int32) (x5 : Int32), k13 x3 x5 = some r → ∀ (H : Heap) (locs : List Loc) (ls : Array Slot), Rx s E L M H locs → lv_has ls 6 [(0, .ref a0), (1, .int x1), (2, .int x2), (3, .int x3), (4, .int x4), (5, .int x5)] → W p l e (rmD (d + 3)) s m args below meth c H locs 0 0 (MQ below (QcM E L (some (.int r)) M) args s 0 0 E.2.2.2) (F0 m 13 ls [])) (h0 : At L a0 T11) (h : fX11_rightIn_b13 fu k13 a0 x1 x2 x3 x4 x5 M = some r) (hR : Rx s E L M H locs) (hl : lv_has ls 6 [(0, .ref a0), (1, .int x1), (2, .int x2), (3, .int x3), (4, .int x4), (5, .int x5)]) : W p l e (rmD (d + 3)) s m args below meth c H locs 0 0 (MQ below (QcM E L (some (.int r)) M) args s 0 0 E.2.2.2) (F0 m 13 ls []) := by
  have hx := B.1
  have hb := B.2.1
  unfold fX11_rightIn_b13 at h
  refine lv_iload hx hb dX11_rightIn_13 (lv_at hl 5 rfl) ?_
  refine lv_iload hx hb dX11_rightIn_15 (lv_at hl 4 rfl) ?_
  refine lv_aload_n hx hb dX11_rightIn_17 rfl (lv_at hl 0 rfl) ?_
  refine lv_iload_n hx hb dX11_rightIn_18 rfl (lv_at hl 1 rfl) ?_
  obtain ⟨r_19, hc_19, h⟩ := bi_el h
  refine iv_X11_312 B hR (h0.at0 rfl) hl.1 (mX11_sizeAt fu _ h0 hc_19) (Nat.le_of_ble_eq_true rfl) dX11_rightIn_19 (fun H locs hR => ?_)
  refine lv_iadd hx hb dX11_rightIn_22 ?_
  refine lv_icmp_ge (tgt := 69) hx hb dX11_rightIn_23 (by decide) (fun c_23 => ?_) (fun c_23 => ?_)
  · rw [if_pos c_23] at h
    exact wX11_rightIn_j69 B hr hlk  h hR (lv_sub hl [3] rfl)
  · rw [if_neg c_23] at h
    refine lv_iload_n hx hb dX11_rightIn_26 rfl (lv_at hl 3 rfl) ?_
    refine lv_aload_n hx hb dX11_rightIn_27 rfl (lv_at hl 0 rfl) ?_
    refine lv_iload hx hb dX11_rightIn_28 (lv_at hl 5 rfl) ?_
    obtain ⟨r_30, hc_30, h⟩ := bi_el h
    refine iv_X11_255 B hR (h0.at0 rfl) hl.1 (mX11_isFixed fu _ h0 hc_30) (Nat.le_of_ble_eq_true rfl) dX11_rightIn_30 (fun H locs hR => ?_)
    refine lv_if_ne (tgt := 60) hx hb dX11_rightIn_33 (by decide) (fun c_33 => ?_) (fun c_33 => ?_)
    · rw [if_neg c_33] at h
      exact wX11_rightIn_j60 B hr hlk ih13 h0 h hR (lv_sub hl [0, 1, 2, 4, 5] rfl)
    · rw [if_pos c_33] at h
      refine lv_aload_n hx hb dX11_rightIn_36 rfl (lv_at hl 0 rfl) ?_
      refine gf_X11_36 B hR (h0.at0 rfl) dX11_rightIn_37 ?_
      refine lv_aload_n hx hb dX11_rightIn_40 rfl (lv_at hl 0 rfl) ?_
      obtain ⟨r_41, hc_41, h⟩ := bi_el h
      refine iv_X11_240 B hR (h0.at0 rfl) hl.1 (mX11_addresses fu _ h0 hc_41) (Nat.le_of_ble_eq_true rfl) dX11_rightIn_41 (fun H locs hR => ?_)
      refine lv_iload hx hb dX11_rightIn_44 (lv_at hl 5 rfl) ?_
      refine lv_iadd hx hb dX11_rightIn_46 ?_
      obtain ⟨hi_47, h⟩ := ifn_el h
      refine r_iald B hR (h0.at 8 rfl) hi_47 dX11_rightIn_47 ?_
      refine lv_aload_n hx hb dX11_rightIn_48 rfl (lv_at hl 0 rfl) ?_
      refine lv_iload_n hx hb dX11_rightIn_49 rfl (lv_at hl 2 rfl) ?_
      obtain ⟨r_50, hc_50, h⟩ := bi_el h
      refine iv_X11_318 B hR (h0.at0 rfl) hl.1 (mX11_kindBy fu _ h0 hc_50) (Nat.le_of_ble_eq_true rfl) dX11_rightIn_50 (fun H locs hR => ?_)
      refine lv_icmp_ne (tgt := 60) hx hb dX11_rightIn_53 (by decide) (fun c_53 => ?_) (fun c_53 => ?_)
      · rw [if_neg c_53] at h
        exact wX11_rightIn_j60 B hr hlk ih13 h0 h hR (lv_sub hl [0, 1, 2, 4, 5] rfl)
      · rw [if_pos c_53] at h
        refine lv_iconst (v := 1) hx hb dX11_rightIn_56 (by decide) ?_
        refine lv_goto (tgt := 61) hx hb dX11_rightIn_57 (by decide) ?_
        exact wX11_rightIn_j61 B hr hlk ih13 h0 h hR (lv_sub hl [0, 1, 2, 4, 5] rfl)
def fX11_rightIn_l13 (fu : Nat) (a0 : Nat) (x1 : Int32) (x2 : Int32) (x4 : Int32) (M : Mm) (x3 : Int32) (x5 : Int32) : Option Int32 := lp (fun (rec : (Int32 × Int32) → Option Int32) (s : Int32 × Int32) => fX11_rightIn_b13 fu  (fun x3 x5 => rec (x3, x5)) a0 x1 x2 s.1 x4 s.2 M) fu (x3, x5)
set_option maxRecDepth 100000 in
set_option maxHeartbeats 4000000 in
theorem wX11_rightIn_l13 {r : Int32}   {a0 : Nat} {x1 : Int32} {x2 : Int32} {x3 : Int32} {x4 : Int32} {x5 : Int32} {M : Mm} (B : Bx p s m args c cX11_rightIn 6 RX11 E L) (hr : meth.sig.returnType = (some .int)) (hlk : meth.locks = false)  (h0 : At L a0 T11) (h : fX11_rightIn_l13 fu a0 x1 x2 x4 M x3 x5 = some r) (hR : Rx s E L M H locs) (hl : lv_has ls 6 [(0, .ref a0), (1, .int x1), (2, .int x2), (3, .int x3), (4, .int x4), (5, .int x5)]) : W p l e (rmD (d + 3)) s m args below meth c H locs 0 0 (MQ below (QcM E L (some (.int r)) M) args s 0 0 E.2.2.2) (F0 m 13 ls []) := by
  refine lp_G (G := fun z : Int32 × Int32 => ∀ (H : Heap) (locs : List Loc) (ls : Array Slot), Rx s E L M H locs → lv_has ls 6 [(0, .ref a0), (1, .int x1), (2, .int x2), (3, .int z.1), (4, .int x4), (5, .int z.2)] → W p l e (rmD (d + 3)) s m args below meth c H locs 0 0 (MQ below (QcM E L (some (.int r)) M) args s 0 0 E.2.2.2) (F0 m 13 ls [])) (fun rec ih z h H locs ls hR hl => ?_) fu _ h H locs ls hR hl
  exact wX11_rightIn_b13 B hr hlk  (fun x3 x5 h => ih (x3, x5) h) h0 h hR hl
def fX11_rightIn (fu : Nat) (a0 : Nat) (x1 : Int32) (x2 : Int32) (M : Mm) : Option Int32 :=
  bi (fX11_baseAt fu a0 x1 M) fun r_4 =>
  fX11_rightIn_l13 fu a0 x1 x2 r_4 M 0 r_4
set_option maxRecDepth 100000 in
set_option maxHeartbeats 4000000 in
theorem mX11_rightIn {l : Launch} {E : Ge} {L : Lay} (fu d : Nat) {a0 : Nat} {x1 : Int32} {x2 : Int32} {M : Mm} {r : Int32}  (h0 : At L a0 T11) (h : fX11_rightIn fu a0 x1 x2 M = some r) : Ct l E L yX11_rightIn cX11_rightIn 6 (some .int) (d + 3) [.ref a0, .int x1, .int x2] M (some (.int r)) M := by
  refine Ct.of (by decide) ?_
  intro p e s m below meth c hr hlk B hR
  have B : Bx p s m _ c cX11_rightIn 6 RX11 E L := B
  have hx := B.1
  have hb := B.2.1
  have hl := lv_entry ([.ref a0, .int x1, .int x2]) (n := 6) (Nat.le_of_ble_eq_true rfl)
  rw [lg_entry_eq]
  generalize (lg_sl ([.ref a0, .int x1, .int x2]) ++ List.replicate (6 - (lg_sl ([.ref a0, .int x1, .int x2])).length) Slot.unset).toArray = ls at hl ⊢
  have hl : lv_has ls 6 [(0, .ref a0), (1, .int x1), (2, .int x2)] := hl
  unfold fX11_rightIn at h
  refine lv_iconst (v := 0) hx hb dX11_rightIn_0 (by decide) ?_
  refine lv_istore_n (lv' := [(3, .int 0), (0, .ref a0), (1, .int x1), (2, .int x2)]) hx hb dX11_rightIn_1 rfl hl (by decide) rfl (fun ls hl => ?_)
  refine lv_aload_n hx hb dX11_rightIn_2 rfl (lv_at hl 1 rfl) ?_
  refine lv_iload_n hx hb dX11_rightIn_3 rfl (lv_at hl 2 rfl) ?_
  obtain ⟨r_4, hc_4, h⟩ := bi_el h
  refine iv_X11_353 B hR (h0.at0 rfl) hl.1 (mX11_baseAt fu _ h0 hc_4) (Nat.le_of_ble_eq_true rfl) dX11_rightIn_4 (fun H locs hR => ?_)
  refine lv_istore (lv' := [(4, .int r_4), (3, .int 0), (0, .ref a0), (1, .int x1), (2, .int x2)]) hx hb dX11_rightIn_7 hl (by decide) rfl (fun ls hl => ?_)
  refine lv_iload hx hb dX11_rightIn_9 (lv_at hl 0 rfl) ?_
  refine lv_istore (lv' := [(5, .int r_4), (4, .int r_4), (3, .int 0), (0, .ref a0), (1, .int x1), (2, .int x2)]) hx hb dX11_rightIn_11 hl (by decide) rfl (fun ls hl => ?_)
  exact wX11_rightIn_l13 B hr hlk h0 h hR (lv_sub hl [3, 4, 5, 2, 1, 0] rfl)
def fX11_layMost_j167 (fu : Nat) (a0 : Nat) (x4 : Int32) (x5 : Int32) (M : Mm) : Option Mm :=
  if x4 < 0 ∨ 135168 ≤ ix x4 then none else
  lt (wI M (a0 + 18) (ix x4) x5) fun M_175 =>
  some M_175
set_option maxRecDepth 100000 in
set_option maxHeartbeats 4000000 in
theorem wX11_layMost_j167 {M' : Mm}   {a0 : Nat} {x4 : Int32} {x5 : Int32} {M : Mm} (B : Bx p s m args c cX11_layMost 7 RX11 E L) (hr : meth.sig.returnType = none) (hlk : meth.locks = false)  (h0 : At L a0 T11) (h : fX11_layMost_j167 fu a0 x4 x5 M = some M') (hR : Rx s E L M H locs) (hl : lv_has ls 7 [(0, .ref a0), (4, .int x4), (5, .int x5)]) : W p l e (rmD (d + 4)) s m args below meth c H locs 0 0 (MQ below (QcM E L none M') args s 0 0 E.2.2.2) (F0 m 167 ls []) := by
  have hx := B.1
  have hb := B.2.1
  unfold fX11_layMost_j167 at h
  refine lv_aload_n hx hb dX11_layMost_167 rfl (lv_at hl 0 rfl) ?_
  refine gf_X11_67 B hR (h0.at0 rfl) dX11_layMost_168 ?_
  refine lv_iload hx hb dX11_layMost_171 (lv_at hl 1 rfl) ?_
  refine lv_iload hx hb dX11_layMost_173 (lv_at hl 2 rfl) ?_
  obtain ⟨hi_175, h⟩ := ifn_el h
  obtain ⟨M_175, eM_175, h⟩ := lt_el h
  refine r_iast B hR (h0.at 18 rfl) hi_175 dX11_layMost_175 (fun H locs hR => ?_)
  rw [← eM_175] at hR
  exact r_vretW B hR hr hlk h dX11_layMost_176
def fX11_layMost_j161 (fu : Nat) (k112 : Int32 → Int32 → Option Mm) (a0 : Nat) (x1 : Int32) (x2 : Int32) (x3 : Int32) (x4 : Int32) (x5 : Int32) (x6 : Int32) (M : Mm) : Option Mm :=
  lt (x6 + 1) fun x6_161 =>
  k112 x5 x6_161
set_option maxRecDepth 100000 in
set_option maxHeartbeats 4000000 in
theorem wX11_layMost_j161 {M' : Mm}  {k112 : Int32 → Int32 → Option Mm} {a0 : Nat} {x1 : Int32} {x2 : Int32} {x3 : Int32} {x4 : Int32} {x5 : Int32} {x6 : Int32} {M : Mm} (B : Bx p s m args c cX11_layMost 7 RX11 E L) (hr : meth.sig.returnType = none) (hlk : meth.locks = false) (ih112 : ∀ (x5 : Int32) (x6 : Int32), k112 x5 x6 = some M' → ∀ (H : Heap) (locs : List Loc) (ls : Array Slot), Rx s E L M H locs → lv_has ls 7 [(0, .ref a0), (1, .int x1), (2, .int x2), (3, .int x3), (4, .int x4), (5, .int x5), (6, .int x6)] → W p l e (rmD (d + 4)) s m args below meth c H locs 0 0 (MQ below (QcM E L none M') args s 0 0 E.2.2.2) (F0 m 112 ls [])) (h0 : At L a0 T11) (h : fX11_layMost_j161 fu k112 a0 x1 x2 x3 x4 x5 x6 M = some M') (hR : Rx s E L M H locs) (hl : lv_has ls 7 [(0, .ref a0), (1, .int x1), (2, .int x2), (3, .int x3), (4, .int x4), (5, .int x5), (6, .int x6)]) : W p l e (rmD (d + 4)) s m args below meth c H locs 0 0 (MQ below (QcM E L none M') args s 0 0 E.2.2.2) (F0 m 161 ls []) := by
  have hx := B.1
  have hb := B.2.1
  unfold fX11_layMost_j161 at h
  obtain ⟨x6_161, ex6_161, h⟩ := lt_el h
  refine lv_iinc (v := x6_161) (lv' := [(6, .int x6_161), (0, .ref a0), (1, .int x1), (2, .int x2), (3, .int x3), (4, .int x4), (5, .int x5)]) hx hb dX11_layMost_161 hl (k := 6) rfl (by rw [ex6_161]; rfl) (by decide) rfl (fun ls hl => ?_)
  refine lv_goto (tgt := 112) hx hb dX11_layMost_164 (by decide) ?_
  exact ih112 x5 x6_161 h _ _ _ hR (lv_sub hl [1, 2, 3, 4, 5, 6, 0] rfl)
def fX11_layMost_b112 (fu : Nat) (k112 : Int32 → Int32 → Option Mm) (a0 : Nat) (x1 : Int32) (x2 : Int32) (x3 : Int32) (x4 : Int32) (x5 : Int32) (x6 : Int32) (M : Mm) : Option Mm :=
  if 5 ≤ x6 then
    fX11_layMost_j167 fu a0 x4 x5 M
  else
    if x3 ≤ 0 then
      fX11_layMost_j167 fu a0 x4 x5 M
    else
      bi (fX11_madeBy fu x2 x6) fun r_125 =>
      if r_125 < 0 then
        fX11_layMost_j161 fu k112 a0 x1 x2 x3 x4 x5 x6 M
      else
        bi (fX11_madeBy fu x2 x6) fun r_146 =>
        if ((((66 * x1) + (11 * r_146)) + x3) - 1) < 0 ∨ 135168 ≤ ix ((((66 * x1) + (11 * r_146)) + x3) - 1) then none else
        bi (fX11_more fu x5 (M.1 (a0 + 18) (ix ((((66 * x1) + (11 * r_146)) + x3) - 1)))) fun r_156 =>
        fX11_layMost_j161 fu k112 a0 x1 x2 x3 x4 r_156 x6 M
set_option maxRecDepth 100000 in
set_option maxHeartbeats 4000000 in
theorem wX11_layMost_b112 {M' : Mm}   {k112 : Int32 → Int32 → Option Mm} {a0 : Nat} {x1 : Int32} {x2 : Int32} {x3 : Int32} {x4 : Int32} {x5 : Int32} {x6 : Int32} {M : Mm} (B : Bx p s m args c cX11_layMost 7 RX11 E L) (hr : meth.sig.returnType = none) (hlk : meth.locks = false)  (ih112 : ∀ (x5 : Int32) (x6 : Int32), k112 x5 x6 = some M' → ∀ (H : Heap) (locs : List Loc) (ls : Array Slot), Rx s E L M H locs → lv_has ls 7 [(0, .ref a0), (1, .int x1), (2, .int x2), (3, .int x3), (4, .int x4), (5, .int x5), (6, .int x6)] → W p l e (rmD (d + 4)) s m args below meth c H locs 0 0 (MQ below (QcM E L none M') args s 0 0 E.2.2.2) (F0 m 112 ls [])) (h0 : At L a0 T11) (h : fX11_layMost_b112 fu k112 a0 x1 x2 x3 x4 x5 x6 M = some M') (hR : Rx s E L M H locs) (hl : lv_has ls 7 [(0, .ref a0), (1, .int x1), (2, .int x2), (3, .int x3), (4, .int x4), (5, .int x5), (6, .int x6)]) : W p l e (rmD (d + 4)) s m args below meth c H locs 0 0 (MQ below (QcM E L none M') args s 0 0 E.2.2.2) (F0 m 112 ls []) := by
  have hx := B.1
  have hb := B.2.1
  unfold fX11_layMost_b112 at h
  refine lv_iload hx hb dX11_layMost_112 (lv_at hl 6 rfl) ?_
  refine lv_iconst (v := 5) hx hb dX11_layMost_114 (by decide) ?_
  refine lv_icmp_ge (tgt := 167) hx hb dX11_layMost_115 (by decide) (fun c_115 => ?_) (fun c_115 => ?_)
  · rw [if_pos c_115] at h
    exact wX11_layMost_j167 B hr hlk h0 h hR (lv_sub hl [0, 4, 5] rfl)
  · rw [if_neg c_115] at h
    refine lv_iload_n hx hb dX11_layMost_118 rfl (lv_at hl 3 rfl) ?_
    refine lv_if_le (tgt := 167) hx hb dX11_layMost_119 (by decide) (fun c_119 => ?_) (fun c_119 => ?_)
    · rw [if_pos c_119] at h
      exact wX11_layMost_j167 B hr hlk h0 h hR (lv_sub hl [0, 4, 5] rfl)
    · rw [if_neg c_119] at h
      refine lv_iload_n hx hb dX11_layMost_122 rfl (lv_at hl 2 rfl) ?_
      refine lv_iload hx hb dX11_layMost_123 (lv_at hl 6 rfl) ?_
      obtain ⟨r_125, hc_125, h⟩ := bi_el h
      refine is_X11_332 B hR hl.1 (mX11_madeBy fu _  hc_125) (Nat.le_of_ble_eq_true rfl) dX11_layMost_125 (fun H locs hR => ?_)
      refine lv_if_lt (tgt := 161) hx hb dX11_layMost_128 (by decide) (fun c_128 => ?_) (fun c_128 => ?_)
      · rw [if_pos c_128] at h
        exact wX11_layMost_j161 B hr hlk ih112 h0 h hR hl
      · rw [if_neg c_128] at h
        refine lv_iload hx hb dX11_layMost_131 (lv_at hl 5 rfl) ?_
        refine lv_aload_n hx hb dX11_layMost_133 rfl (lv_at hl 0 rfl) ?_
        refine gf_X11_67 B hR (h0.at0 rfl) dX11_layMost_134 ?_
        refine lv_bipush (v := 66) hx hb dX11_layMost_137 (by decide) ?_
        refine lv_iload_n hx hb dX11_layMost_139 rfl (lv_at hl 1 rfl) ?_
        refine lv_imul hx hb dX11_layMost_140 ?_
        refine lv_bipush (v := 11) hx hb dX11_layMost_141 (by decide) ?_
        refine lv_iload_n hx hb dX11_layMost_143 rfl (lv_at hl 2 rfl) ?_
        refine lv_iload hx hb dX11_layMost_144 (lv_at hl 6 rfl) ?_
        obtain ⟨r_146, hc_146, h⟩ := bi_el h
        refine is_X11_332 B hR hl.1 (mX11_madeBy fu _  hc_146) (Nat.le_of_ble_eq_true rfl) dX11_layMost_146 (fun H locs hR => ?_)
        refine lv_imul hx hb dX11_layMost_149 ?_
        refine lv_iadd hx hb dX11_layMost_150 ?_
        refine lv_iload_n hx hb dX11_layMost_151 rfl (lv_at hl 3 rfl) ?_
        refine lv_iadd hx hb dX11_layMost_152 ?_
        refine lv_iconst (v := 1) hx hb dX11_layMost_153 (by decide) ?_
        refine lv_isub hx hb dX11_layMost_154 ?_
        obtain ⟨hi_155, h⟩ := ifn_el h
        refine r_iald B hR (h0.at 18 rfl) hi_155 dX11_layMost_155 ?_
        obtain ⟨r_156, hc_156, h⟩ := bi_el h
        refine is_X11_397 B hR hl.1 (mX11_more fu _  hc_156) (Nat.le_of_ble_eq_true rfl) dX11_layMost_156 (fun H locs hR => ?_)
        refine lv_istore (lv' := [(5, .int r_156), (0, .ref a0), (1, .int x1), (2, .int x2), (3, .int x3), (4, .int x4), (6, .int x6)]) hx hb dX11_layMost_159 hl (by decide) rfl (fun ls hl => ?_)
        exact wX11_layMost_j161 B hr hlk ih112 h0 h hR (lv_sub hl [1, 2, 3, 4, 5, 0, 6] rfl)
def fX11_layMost_l112 (fu : Nat) (a0 : Nat) (x1 : Int32) (x2 : Int32) (x3 : Int32) (x4 : Int32) (M : Mm) (x5 : Int32) (x6 : Int32) : Option Mm := lp (fun (rec : (Int32 × Int32) → Option Mm) (s : Int32 × Int32) => fX11_layMost_b112 fu  (fun x5 x6 => rec (x5, x6)) a0 x1 x2 x3 x4 s.1 s.2 M) fu (x5, x6)
set_option maxRecDepth 100000 in
set_option maxHeartbeats 4000000 in
theorem wX11_layMost_l112 {M' : Mm}   {a0 : Nat} {x1 : Int32} {x2 : Int32} {x3 : Int32} {x4 : Int32} {x5 : Int32} {x6 : Int32} {M : Mm} (B : Bx p s m args c cX11_layMost 7 RX11 E L) (hr : meth.sig.returnType = none) (hlk : meth.locks = false)  (h0 : At L a0 T11) (h : fX11_layMost_l112 fu a0 x1 x2 x3 x4 M x5 x6 = some M') (hR : Rx s E L M H locs) (hl : lv_has ls 7 [(0, .ref a0), (1, .int x1), (2, .int x2), (3, .int x3), (4, .int x4), (5, .int x5), (6, .int x6)]) : W p l e (rmD (d + 4)) s m args below meth c H locs 0 0 (MQ below (QcM E L none M') args s 0 0 E.2.2.2) (F0 m 112 ls []) := by
  refine lp_G (G := fun z : Int32 × Int32 => ∀ (H : Heap) (locs : List Loc) (ls : Array Slot), Rx s E L M H locs → lv_has ls 7 [(0, .ref a0), (1, .int x1), (2, .int x2), (3, .int x3), (4, .int x4), (5, .int z.1), (6, .int z.2)] → W p l e (rmD (d + 4)) s m args below meth c H locs 0 0 (MQ below (QcM E L none M') args s 0 0 E.2.2.2) (F0 m 112 ls [])) (fun rec ih z h H locs ls hR hl => ?_) fu _ h H locs ls hR hl
  exact wX11_layMost_b112 B hr hlk  (fun x5 x6 h => ih (x5, x6) h) h0 h hR hl
def fX11_layMost_j109 (fu : Nat) (a0 : Nat) (x1 : Int32) (x2 : Int32) (x3 : Int32) (x4 : Int32) (x5 : Int32) (M : Mm) : Option Mm :=
  fX11_layMost_l112 fu a0 x1 x2 x3 x4 M x5 0
set_option maxRecDepth 100000 in
set_option maxHeartbeats 4000000 in
theorem wX11_layMost_j109 {M' : Mm}   {a0 : Nat} {x1 : Int32} {x2 : Int32} {x3 : Int32} {x4 : Int32} {x5 : Int32} {M : Mm} (B : Bx p s m args c cX11_layMost 7 RX11 E L) (hr : meth.sig.returnType = none) (hlk : meth.locks = false)  (h0 : At L a0 T11) (h : fX11_layMost_j109 fu a0 x1 x2 x3 x4 x5 M = some M') (hR : Rx s E L M H locs) (hl : lv_has ls 7 [(0, .ref a0), (1, .int x1), (2, .int x2), (3, .int x3), (4, .int x4), (5, .int x5)]) : W p l e (rmD (d + 4)) s m args below meth c H locs 0 0 (MQ below (QcM E L none M') args s 0 0 E.2.2.2) (F0 m 109 ls []) := by
  have hx := B.1
  have hb := B.2.1
  unfold fX11_layMost_j109 at h
  refine lv_iconst (v := 0) hx hb dX11_layMost_109 (by decide) ?_
  refine lv_istore (lv' := [(6, .int 0), (0, .ref a0), (1, .int x1), (2, .int x2), (3, .int x3), (4, .int x4), (5, .int x5)]) hx hb dX11_layMost_110 hl (by decide) rfl (fun ls hl => ?_)
  exact wX11_layMost_l112 B hr hlk h0 h hR (lv_sub hl [1, 2, 3, 4, 5, 6, 0] rfl)
def fX11_layMost_b48 (fu : Nat) (k48 : Int32 → Int32 → Option Mm) (a0 : Nat) (x1 : Int32) (x2 : Int32) (x3 : Int32) (x4 : Int32) (x5 : Int32) (x6 : Int32) (M : Mm) : Option Mm :=
  if x3 < x6 then
    fX11_layMost_j109 fu a0 x1 x2 x3 x4 x5 M
  else
    if (((132 * x1) + (11 * x2)) + x6) < 0 ∨ 135168 ≤ ix (((132 * x1) + (11 * x2)) + x6) then none else
    if ((((66 * ((2 * x1) + 1)) + (11 * x2)) + x3) - x6) < 0 ∨ 135168 ≤ ix ((((66 * ((2 * x1) + 1)) + (11 * x2)) + x3) - x6) then none else
    bi (fX11_more fu x5 ((M.1 (a0 + 18) (ix (((132 * x1) + (11 * x2)) + x6))) + (M.1 (a0 + 18) (ix ((((66 * ((2 * x1) + 1)) + (11 * x2)) + x3) - x6))))) fun r_98 =>
    lt (x6 + 1) fun x6_103 =>
    k48 r_98 x6_103
set_option maxRecDepth 100000 in
set_option maxHeartbeats 4000000 in
theorem wX11_layMost_b48 {M' : Mm}   {k48 : Int32 → Int32 → Option Mm} {a0 : Nat} {x1 : Int32} {x2 : Int32} {x3 : Int32} {x4 : Int32} {x5 : Int32} {x6 : Int32} {M : Mm} (B : Bx p s m args c cX11_layMost 7 RX11 E L) (hr : meth.sig.returnType = none) (hlk : meth.locks = false)  (ih48 : ∀ (x5 : Int32) (x6 : Int32), k48 x5 x6 = some M' → ∀ (H : Heap) (locs : List Loc) (ls : Array Slot), Rx s E L M H locs → lv_has ls 7 [(0, .ref a0), (1, .int x1), (2, .int x2), (3, .int x3), (4, .int x4), (5, .int x5), (6, .int x6)] → W p l e (rmD (d + 4)) s m args below meth c H locs 0 0 (MQ below (QcM E L none M') args s 0 0 E.2.2.2) (F0 m 48 ls [])) (h0 : At L a0 T11) (h : fX11_layMost_b48 fu k48 a0 x1 x2 x3 x4 x5 x6 M = some M') (hR : Rx s E L M H locs) (hl : lv_has ls 7 [(0, .ref a0), (1, .int x1), (2, .int x2), (3, .int x3), (4, .int x4), (5, .int x5), (6, .int x6)]) : W p l e (rmD (d + 4)) s m args below meth c H locs 0 0 (MQ below (QcM E L none M') args s 0 0 E.2.2.2) (F0 m 48 ls []) := by
  have hx := B.1
  have hb := B.2.1
  unfold fX11_layMost_b48 at h
  refine lv_iload hx hb dX11_layMost_48 (lv_at hl 6 rfl) ?_
  refine lv_iload_n hx hb dX11_layMost_50 rfl (lv_at hl 3 rfl) ?_
  refine lv_icmp_gt (tgt := 109) hx hb dX11_layMost_51 (by decide) (fun c_51 => ?_) (fun c_51 => ?_)
  · rw [if_pos c_51] at h
    exact wX11_layMost_j109 B hr hlk h0 h hR (lv_sub hl [0, 1, 2, 3, 4, 5] rfl)
  · rw [if_neg c_51] at h
    refine lv_iload hx hb dX11_layMost_54 (lv_at hl 5 rfl) ?_
    refine lv_aload_n hx hb dX11_layMost_56 rfl (lv_at hl 0 rfl) ?_
    refine gf_X11_67 B hR (h0.at0 rfl) dX11_layMost_57 ?_
    refine lv_sipush (v := 132) hx hb dX11_layMost_60 (by decide) ?_
    refine lv_iload_n hx hb dX11_layMost_63 rfl (lv_at hl 1 rfl) ?_
    refine lv_imul hx hb dX11_layMost_64 ?_
    refine lv_bipush (v := 11) hx hb dX11_layMost_65 (by decide) ?_
    refine lv_iload_n hx hb dX11_layMost_67 rfl (lv_at hl 2 rfl) ?_
    refine lv_imul hx hb dX11_layMost_68 ?_
    refine lv_iadd hx hb dX11_layMost_69 ?_
    refine lv_iload hx hb dX11_layMost_70 (lv_at hl 6 rfl) ?_
    refine lv_iadd hx hb dX11_layMost_72 ?_
    obtain ⟨hi_73, h⟩ := ifn_el h
    refine r_iald B hR (h0.at 18 rfl) hi_73 dX11_layMost_73 ?_
    refine lv_aload_n hx hb dX11_layMost_74 rfl (lv_at hl 0 rfl) ?_
    refine gf_X11_67 B hR (h0.at0 rfl) dX11_layMost_75 ?_
    refine lv_bipush (v := 66) hx hb dX11_layMost_78 (by decide) ?_
    refine lv_iconst (v := 2) hx hb dX11_layMost_80 (by decide) ?_
    refine lv_iload_n hx hb dX11_layMost_81 rfl (lv_at hl 1 rfl) ?_
    refine lv_imul hx hb dX11_layMost_82 ?_
    refine lv_iconst (v := 1) hx hb dX11_layMost_83 (by decide) ?_
    refine lv_iadd hx hb dX11_layMost_84 ?_
    refine lv_imul hx hb dX11_layMost_85 ?_
    refine lv_bipush (v := 11) hx hb dX11_layMost_86 (by decide) ?_
    refine lv_iload_n hx hb dX11_layMost_88 rfl (lv_at hl 2 rfl) ?_
    refine lv_imul hx hb dX11_layMost_89 ?_
    refine lv_iadd hx hb dX11_layMost_90 ?_
    refine lv_iload_n hx hb dX11_layMost_91 rfl (lv_at hl 3 rfl) ?_
    refine lv_iadd hx hb dX11_layMost_92 ?_
    refine lv_iload hx hb dX11_layMost_93 (lv_at hl 6 rfl) ?_
    refine lv_isub hx hb dX11_layMost_95 ?_
    obtain ⟨hi_96, h⟩ := ifn_el h
    refine r_iald B hR (h0.at 18 rfl) hi_96 dX11_layMost_96 ?_
    refine lv_iadd hx hb dX11_layMost_97 ?_
    obtain ⟨r_98, hc_98, h⟩ := bi_el h
    refine is_X11_397 B hR hl.1 (mX11_more fu _  hc_98) (Nat.le_of_ble_eq_true rfl) dX11_layMost_98 (fun H locs hR => ?_)
    refine lv_istore (lv' := [(5, .int r_98), (0, .ref a0), (1, .int x1), (2, .int x2), (3, .int x3), (4, .int x4), (6, .int x6)]) hx hb dX11_layMost_101 hl (by decide) rfl (fun ls hl => ?_)
    obtain ⟨x6_103, ex6_103, h⟩ := lt_el h
    refine lv_iinc (v := x6_103) (lv' := [(6, .int x6_103), (5, .int r_98), (0, .ref a0), (1, .int x1), (2, .int x2), (3, .int x3), (4, .int x4)]) hx hb dX11_layMost_103 hl (k := 6) rfl (by rw [ex6_103]; rfl) (by decide) rfl (fun ls hl => ?_)
    refine lv_goto (tgt := 48) hx hb dX11_layMost_106 (by decide) ?_
    exact ih48 r_98 x6_103 h _ _ _ hR (lv_sub hl [2, 3, 4, 5, 6, 1, 0] rfl)
def fX11_layMost_l48 (fu : Nat) (a0 : Nat) (x1 : Int32) (x2 : Int32) (x3 : Int32) (x4 : Int32) (M : Mm) (x5 : Int32) (x6 : Int32) : Option Mm := lp (fun (rec : (Int32 × Int32) → Option Mm) (s : Int32 × Int32) => fX11_layMost_b48 fu  (fun x5 x6 => rec (x5, x6)) a0 x1 x2 x3 x4 s.1 s.2 M) fu (x5, x6)
set_option maxRecDepth 100000 in
set_option maxHeartbeats 4000000 in
theorem wX11_layMost_l48 {M' : Mm}   {a0 : Nat} {x1 : Int32} {x2 : Int32} {x3 : Int32} {x4 : Int32} {x5 : Int32} {x6 : Int32} {M : Mm} (B : Bx p s m args c cX11_layMost 7 RX11 E L) (hr : meth.sig.returnType = none) (hlk : meth.locks = false)  (h0 : At L a0 T11) (h : fX11_layMost_l48 fu a0 x1 x2 x3 x4 M x5 x6 = some M') (hR : Rx s E L M H locs) (hl : lv_has ls 7 [(0, .ref a0), (1, .int x1), (2, .int x2), (3, .int x3), (4, .int x4), (5, .int x5), (6, .int x6)]) : W p l e (rmD (d + 4)) s m args below meth c H locs 0 0 (MQ below (QcM E L none M') args s 0 0 E.2.2.2) (F0 m 48 ls []) := by
  refine lp_G (G := fun z : Int32 × Int32 => ∀ (H : Heap) (locs : List Loc) (ls : Array Slot), Rx s E L M H locs → lv_has ls 7 [(0, .ref a0), (1, .int x1), (2, .int x2), (3, .int x3), (4, .int x4), (5, .int z.1), (6, .int z.2)] → W p l e (rmD (d + 4)) s m args below meth c H locs 0 0 (MQ below (QcM E L none M') args s 0 0 E.2.2.2) (F0 m 48 ls [])) (fun rec ih z h H locs ls hR hl => ?_) fu _ h H locs ls hR hl
  exact wX11_layMost_b48 B hr hlk  (fun x5 x6 h => ih (x5, x6) h) h0 h hR hl
def fX11_layMost_j35 (fu : Nat) (a0 : Nat) (x1 : Int32) (x2 : Int32) (x3 : Int32) (x4 : Int32) (t0 : Int32) (M : Mm) : Option Mm :=
  bi (fX11_addresses fu a0 M) fun r_39 =>
  if r_39 ≤ x1 then
    fX11_layMost_j109 fu a0 x1 x2 x3 x4 t0 M
  else
    fX11_layMost_l48 fu a0 x1 x2 x3 x4 M t0 0
set_option maxRecDepth 100000 in
set_option maxHeartbeats 4000000 in
theorem wX11_layMost_j35 {M' : Mm}   {a0 : Nat} {x1 : Int32} {x2 : Int32} {x3 : Int32} {x4 : Int32} {t0 : Int32} {M : Mm} (B : Bx p s m args c cX11_layMost 7 RX11 E L) (hr : meth.sig.returnType = none) (hlk : meth.locks = false)  (h0 : At L a0 T11) (h : fX11_layMost_j35 fu a0 x1 x2 x3 x4 t0 M = some M') (hR : Rx s E L M H locs) (hl : lv_has ls 7 [(0, .ref a0), (1, .int x1), (2, .int x2), (3, .int x3), (4, .int x4)]) : W p l e (rmD (d + 4)) s m args below meth c H locs 0 0 (MQ below (QcM E L none M') args s 0 0 E.2.2.2) (F0 m 35 ls [.int t0]) := by
  have hx := B.1
  have hb := B.2.1
  unfold fX11_layMost_j35 at h
  refine lv_istore (lv' := [(5, .int t0), (0, .ref a0), (1, .int x1), (2, .int x2), (3, .int x3), (4, .int x4)]) hx hb dX11_layMost_35 hl (by decide) rfl (fun ls hl => ?_)
  refine lv_iload_n hx hb dX11_layMost_37 rfl (lv_at hl 2 rfl) ?_
  refine lv_aload_n hx hb dX11_layMost_38 rfl (lv_at hl 1 rfl) ?_
  obtain ⟨r_39, hc_39, h⟩ := bi_el h
  refine iv_X11_240 B hR (h0.at0 rfl) hl.1 (mX11_addresses fu _ h0 hc_39) (Nat.le_of_ble_eq_true rfl) dX11_layMost_39 (fun H locs hR => ?_)
  refine lv_icmp_ge (tgt := 109) hx hb dX11_layMost_42 (by decide) (fun c_42 => ?_) (fun c_42 => ?_)
  · rw [if_pos c_42] at h
    exact wX11_layMost_j109 B hr hlk h0 h hR (lv_sub hl [1, 2, 3, 4, 5, 0] rfl)
  · rw [if_neg c_42] at h
    refine lv_iconst (v := 0) hx hb dX11_layMost_45 (by decide) ?_
    refine lv_istore (lv' := [(6, .int 0), (5, .int t0), (0, .ref a0), (1, .int x1), (2, .int x2), (3, .int x3), (4, .int x4)]) hx hb dX11_layMost_46 hl (by decide) rfl (fun ls hl => ?_)
    exact wX11_layMost_l48 B hr hlk h0 h hR (lv_sub hl [2, 3, 4, 5, 6, 1, 0] rfl)
def fX11_layMost (fu : Nat) (a0 : Nat) (x1 : Int32) (x2 : Int32) (x3 : Int32) (M : Mm) : Option Mm :=
  lt ((((66 * x1) + (11 * x2)) + x3)) fun x4_11 =>
  if x3 ≤ 0 then
    bi (fX11_rightIn fu a0 x1 x2 M) fun r_32 =>
    fX11_layMost_j35 fu a0 x1 x2 x3 x4_11 r_32 M
  else
    if (x4_11 - 1) < 0 ∨ 135168 ≤ ix (x4_11 - 1) then none else
    fX11_layMost_j35 fu a0 x1 x2 x3 x4_11 (M.1 (a0 + 18) (ix (x4_11 - 1))) M
set_option maxRecDepth 100000 in
set_option maxHeartbeats 4000000 in
theorem mX11_layMost {l : Launch} {E : Ge} {L : Lay} (fu d : Nat) {a0 : Nat} {x1 : Int32} {x2 : Int32} {x3 : Int32} {M : Mm} {M' : Mm}  (h0 : At L a0 T11) (h : fX11_layMost fu a0 x1 x2 x3 M = some M') : Ct l E L yX11_layMost cX11_layMost 7 none (d + 4) [.ref a0, .int x1, .int x2, .int x3] M none M' := by
  refine Ct.of (by decide) ?_
  intro p e s m below meth c hr hlk B hR
  have B : Bx p s m _ c cX11_layMost 7 RX11 E L := B
  have hx := B.1
  have hb := B.2.1
  have hl := lv_entry ([.ref a0, .int x1, .int x2, .int x3]) (n := 7) (Nat.le_of_ble_eq_true rfl)
  rw [lg_entry_eq]
  generalize (lg_sl ([.ref a0, .int x1, .int x2, .int x3]) ++ List.replicate (7 - (lg_sl ([.ref a0, .int x1, .int x2, .int x3])).length) Slot.unset).toArray = ls at hl ⊢
  have hl : lv_has ls 7 [(0, .ref a0), (1, .int x1), (2, .int x2), (3, .int x3)] := hl
  unfold fX11_layMost at h
  refine lv_bipush (v := 66) hx hb dX11_layMost_0 (by decide) ?_
  refine lv_iload_n hx hb dX11_layMost_2 rfl (lv_at hl 1 rfl) ?_
  refine lv_imul hx hb dX11_layMost_3 ?_
  refine lv_bipush (v := 11) hx hb dX11_layMost_4 (by decide) ?_
  refine lv_iload_n hx hb dX11_layMost_6 rfl (lv_at hl 2 rfl) ?_
  refine lv_imul hx hb dX11_layMost_7 ?_
  refine lv_iadd hx hb dX11_layMost_8 ?_
  refine lv_iload_n hx hb dX11_layMost_9 rfl (lv_at hl 3 rfl) ?_
  refine lv_iadd hx hb dX11_layMost_10 ?_
  obtain ⟨x4_11, ex4_11, h⟩ := lt_el h
  refine r_nmI ex4_11 ?_
  refine lv_istore (lv' := [(4, .int x4_11), (0, .ref a0), (1, .int x1), (2, .int x2), (3, .int x3)]) hx hb dX11_layMost_11 hl (by decide) rfl (fun ls hl => ?_)
  refine lv_iload_n hx hb dX11_layMost_13 rfl (lv_at hl 4 rfl) ?_
  refine lv_if_le (tgt := 29) hx hb dX11_layMost_14 (by decide) (fun c_14 => ?_) (fun c_14 => ?_)
  · rw [if_pos c_14] at h
    refine lv_aload_n hx hb dX11_layMost_29 rfl (lv_at hl 1 rfl) ?_
    refine lv_iload_n hx hb dX11_layMost_30 rfl (lv_at hl 2 rfl) ?_
    refine lv_iload_n hx hb dX11_layMost_31 rfl (lv_at hl 3 rfl) ?_
    obtain ⟨r_32, hc_32, h⟩ := bi_el h
    refine iv_X11_394 B hR (h0.at0 rfl) hl.1 (mX11_rightIn fu _ h0 hc_32) (Nat.le_of_ble_eq_true rfl) dX11_layMost_32 (fun H locs hR => ?_)
    exact wX11_layMost_j35 B hr hlk h0 h hR (lv_sub hl [1, 2, 3, 4, 0] rfl)
  · rw [if_neg c_14] at h
    refine lv_aload_n hx hb dX11_layMost_17 rfl (lv_at hl 1 rfl) ?_
    refine gf_X11_67 B hR (h0.at0 rfl) dX11_layMost_18 ?_
    refine lv_iload hx hb dX11_layMost_21 (lv_at hl 0 rfl) ?_
    refine lv_iconst (v := 1) hx hb dX11_layMost_23 (by decide) ?_
    refine lv_isub hx hb dX11_layMost_24 ?_
    obtain ⟨hi_25, h⟩ := ifn_el h
    refine r_iald B hR (h0.at 18 rfl) hi_25 dX11_layMost_25 ?_
    refine lv_goto (tgt := 35) hx hb dX11_layMost_26 (by decide) ?_
    exact wX11_layMost_j35 B hr hlk h0 h hR (lv_sub hl [1, 2, 3, 4, 0] rfl)
def fX11_layAllMost_j69 (fu : Nat) (a0 : Nat) (x1 : Int32) (M : Mm) : Option (Int32 × Mm) :=
  if (121 + x1) < 0 ∨ 135168 ≤ ix (121 + x1) then none else
  some ((M.1 (a0 + 18) (ix (121 + x1))), M)
set_option maxRecDepth 100000 in
set_option maxHeartbeats 4000000 in
theorem wX11_layAllMost_j69 {r : Int32} {M' : Mm}   {a0 : Nat} {x1 : Int32} {M : Mm} (B : Bx p s m args c cX11_layAllMost 5 RX11 E L) (hr : meth.sig.returnType = (some .int)) (hlk : meth.locks = false)  (h0 : At L a0 T11) (h : fX11_layAllMost_j69 fu a0 x1 M = some (r, M')) (hR : Rx s E L M H locs) (hl : lv_has ls 5 [(0, .ref a0), (1, .int x1)]) : W p l e (rmD (d + 5)) s m args below meth c H locs 0 0 (MQ below (QcM E L (some (.int r)) M') args s 0 0 E.2.2.2) (F0 m 69 ls []) := by
  have hx := B.1
  have hb := B.2.1
  unfold fX11_layAllMost_j69 at h
  refine lv_aload_n hx hb dX11_layAllMost_69 rfl (lv_at hl 0 rfl) ?_
  refine gf_X11_67 B hR (h0.at0 rfl) dX11_layAllMost_70 ?_
  refine lv_bipush (v := 121) hx hb dX11_layAllMost_73 (by decide) ?_
  refine lv_iload_n hx hb dX11_layAllMost_75 rfl (lv_at hl 1 rfl) ?_
  refine lv_iadd hx hb dX11_layAllMost_76 ?_
  obtain ⟨hi_77, h⟩ := ifn_el h
  refine r_iald B hR (h0.at 18 rfl) hi_77 dX11_layAllMost_77 ?_
  exact r_iretW B hR hr hlk h dX11_layAllMost_78
def fX11_layAllMost_j63 (fu : Nat) (k19 : Int32 → Mm → Option (Int32 × Mm)) (a0 : Nat) (x1 : Int32) (x2 : Int32) (M : Mm) : Option (Int32 × Mm) :=
  lt (x2 + (-1)) fun x2_63 =>
  k19 x2_63 M
set_option maxRecDepth 100000 in
set_option maxHeartbeats 4000000 in
theorem wX11_layAllMost_j63 {r : Int32} {M' : Mm}  {k19 : Int32 → Mm → Option (Int32 × Mm)} {a0 : Nat} {x1 : Int32} {x2 : Int32} {M : Mm} (B : Bx p s m args c cX11_layAllMost 5 RX11 E L) (hr : meth.sig.returnType = (some .int)) (hlk : meth.locks = false) (ih19 : ∀ (x2 : Int32) (M : Mm), k19 x2 M = some (r, M') → ∀ (H : Heap) (locs : List Loc) (ls : Array Slot), Rx s E L M H locs → lv_has ls 5 [(0, .ref a0), (1, .int x1), (2, .int x2)] → W p l e (rmD (d + 5)) s m args below meth c H locs 0 0 (MQ below (QcM E L (some (.int r)) M') args s 0 0 E.2.2.2) (F0 m 19 ls [])) (h0 : At L a0 T11) (h : fX11_layAllMost_j63 fu k19 a0 x1 x2 M = some (r, M')) (hR : Rx s E L M H locs) (hl : lv_has ls 5 [(0, .ref a0), (1, .int x1), (2, .int x2)]) : W p l e (rmD (d + 5)) s m args below meth c H locs 0 0 (MQ below (QcM E L (some (.int r)) M') args s 0 0 E.2.2.2) (F0 m 63 ls []) := by
  have hx := B.1
  have hb := B.2.1
  unfold fX11_layAllMost_j63 at h
  obtain ⟨x2_63, ex2_63, h⟩ := lt_el h
  refine lv_iinc (v := x2_63) (lv' := [(2, .int x2_63), (0, .ref a0), (1, .int x1)]) hx hb dX11_layAllMost_63 hl (k := 2) rfl (by rw [ex2_63]; rfl) (by decide) rfl (fun ls hl => ?_)
  refine lv_goto (tgt := 19) hx hb dX11_layAllMost_66 (by decide) ?_
  exact ih19 x2_63 M h _ _ _ hR (lv_sub hl [1, 2, 0] rfl)
def fX11_layAllMost_j57 (fu : Nat) (k19 : Int32 → Mm → Option (Int32 × Mm)) (k25 : Int32 → Mm → Option (Int32 × Mm)) (a0 : Nat) (x1 : Int32) (x2 : Int32) (x3 : Int32) (M : Mm) : Option (Int32 × Mm) :=
  lt (x3 + 1) fun x3_57 =>
  k25 x3_57 M
set_option maxRecDepth 100000 in
set_option maxHeartbeats 4000000 in
theorem wX11_layAllMost_j57 {r : Int32} {M' : Mm}  {k19 : Int32 → Mm → Option (Int32 × Mm)} {k25 : Int32 → Mm → Option (Int32 × Mm)} {a0 : Nat} {x1 : Int32} {x2 : Int32} {x3 : Int32} {M : Mm} (B : Bx p s m args c cX11_layAllMost 5 RX11 E L) (hr : meth.sig.returnType = (some .int)) (hlk : meth.locks = false) (ih19 : ∀ (x2 : Int32) (M : Mm), k19 x2 M = some (r, M') → ∀ (H : Heap) (locs : List Loc) (ls : Array Slot), Rx s E L M H locs → lv_has ls 5 [(0, .ref a0), (1, .int x1), (2, .int x2)] → W p l e (rmD (d + 5)) s m args below meth c H locs 0 0 (MQ below (QcM E L (some (.int r)) M') args s 0 0 E.2.2.2) (F0 m 19 ls [])) (ih25 : ∀ (x3 : Int32) (M : Mm), k25 x3 M = some (r, M') → ∀ (H : Heap) (locs : List Loc) (ls : Array Slot), Rx s E L M H locs → lv_has ls 5 [(0, .ref a0), (1, .int x1), (2, .int x2), (3, .int x3)] → W p l e (rmD (d + 5)) s m args below meth c H locs 0 0 (MQ below (QcM E L (some (.int r)) M') args s 0 0 E.2.2.2) (F0 m 25 ls [])) (h0 : At L a0 T11) (h : fX11_layAllMost_j57 fu k19 k25 a0 x1 x2 x3 M = some (r, M')) (hR : Rx s E L M H locs) (hl : lv_has ls 5 [(0, .ref a0), (1, .int x1), (2, .int x2), (3, .int x3)]) : W p l e (rmD (d + 5)) s m args below meth c H locs 0 0 (MQ below (QcM E L (some (.int r)) M') args s 0 0 E.2.2.2) (F0 m 57 ls []) := by
  have hx := B.1
  have hb := B.2.1
  unfold fX11_layAllMost_j57 at h
  obtain ⟨x3_57, ex3_57, h⟩ := lt_el h
  refine lv_iinc (v := x3_57) (lv' := [(3, .int x3_57), (0, .ref a0), (1, .int x1), (2, .int x2)]) hx hb dX11_layAllMost_57 hl (k := 3) rfl (by rw [ex3_57]; rfl) (by decide) rfl (fun ls hl => ?_)
  refine lv_goto (tgt := 25) hx hb dX11_layAllMost_60 (by decide) ?_
  exact ih25 x3_57 M h _ _ _ hR (lv_sub hl [1, 2, 3, 0] rfl)
def fX11_layAllMost_b34 (fu : Nat) (k19 : Int32 → Mm → Option (Int32 × Mm)) (k25 : Int32 → Mm → Option (Int32 × Mm)) (k34 : Int32 → Mm → Option (Int32 × Mm)) (a0 : Nat) (x1 : Int32) (x2 : Int32) (x3 : Int32) (x4 : Int32) (M : Mm) : Option (Int32 × Mm) :=
  if x1 < x4 then
    fX11_layAllMost_j57 fu k19 k25 a0 x1 x2 x3 M
  else
    bi (fX11_aboveAt fu x3) fun r_43 =>
    bm (fX11_layMost fu a0 x2 r_43 x4 M) fun M_48 =>
    lt (x4 + 1) fun x4_51 =>
    k34 x4_51 M_48
set_option maxRecDepth 100000 in
set_option maxHeartbeats 4000000 in
theorem wX11_layAllMost_b34 {r : Int32} {M' : Mm}  {k19 : Int32 → Mm → Option (Int32 × Mm)} {k25 : Int32 → Mm → Option (Int32 × Mm)} {k34 : Int32 → Mm → Option (Int32 × Mm)} {a0 : Nat} {x1 : Int32} {x2 : Int32} {x3 : Int32} {x4 : Int32} {M : Mm} (B : Bx p s m args c cX11_layAllMost 5 RX11 E L) (hr : meth.sig.returnType = (some .int)) (hlk : meth.locks = false) (ih19 : ∀ (x2 : Int32) (M : Mm), k19 x2 M = some (r, M') → ∀ (H : Heap) (locs : List Loc) (ls : Array Slot), Rx s E L M H locs → lv_has ls 5 [(0, .ref a0), (1, .int x1), (2, .int x2)] → W p l e (rmD (d + 5)) s m args below meth c H locs 0 0 (MQ below (QcM E L (some (.int r)) M') args s 0 0 E.2.2.2) (F0 m 19 ls [])) (ih25 : ∀ (x3 : Int32) (M : Mm), k25 x3 M = some (r, M') → ∀ (H : Heap) (locs : List Loc) (ls : Array Slot), Rx s E L M H locs → lv_has ls 5 [(0, .ref a0), (1, .int x1), (2, .int x2), (3, .int x3)] → W p l e (rmD (d + 5)) s m args below meth c H locs 0 0 (MQ below (QcM E L (some (.int r)) M') args s 0 0 E.2.2.2) (F0 m 25 ls [])) (ih34 : ∀ (x4 : Int32) (M : Mm), k34 x4 M = some (r, M') → ∀ (H : Heap) (locs : List Loc) (ls : Array Slot), Rx s E L M H locs → lv_has ls 5 [(0, .ref a0), (1, .int x1), (2, .int x2), (3, .int x3), (4, .int x4)] → W p l e (rmD (d + 5)) s m args below meth c H locs 0 0 (MQ below (QcM E L (some (.int r)) M') args s 0 0 E.2.2.2) (F0 m 34 ls [])) (h0 : At L a0 T11) (h : fX11_layAllMost_b34 fu k19 k25 k34 a0 x1 x2 x3 x4 M = some (r, M')) (hR : Rx s E L M H locs) (hl : lv_has ls 5 [(0, .ref a0), (1, .int x1), (2, .int x2), (3, .int x3), (4, .int x4)]) : W p l e (rmD (d + 5)) s m args below meth c H locs 0 0 (MQ below (QcM E L (some (.int r)) M') args s 0 0 E.2.2.2) (F0 m 34 ls []) := by
  have hx := B.1
  have hb := B.2.1
  unfold fX11_layAllMost_b34 at h
  refine lv_iload hx hb dX11_layAllMost_34 (lv_at hl 4 rfl) ?_
  refine lv_iload_n hx hb dX11_layAllMost_36 rfl (lv_at hl 1 rfl) ?_
  refine lv_icmp_gt (tgt := 57) hx hb dX11_layAllMost_37 (by decide) (fun c_37 => ?_) (fun c_37 => ?_)
  · rw [if_pos c_37] at h
    exact wX11_layAllMost_j57 B hr hlk ih19 ih25 h0 h hR (lv_sub hl [0, 1, 2, 3] rfl)
  · rw [if_neg c_37] at h
    refine lv_aload_n hx hb dX11_layAllMost_40 rfl (lv_at hl 0 rfl) ?_
    refine lv_iload_n hx hb dX11_layAllMost_41 rfl (lv_at hl 2 rfl) ?_
    refine lv_iload_n hx hb dX11_layAllMost_42 rfl (lv_at hl 3 rfl) ?_
    obtain ⟨r_43, hc_43, h⟩ := bi_el h
    refine is_X11_322 B hR hl.1 (mX11_aboveAt fu _  hc_43) (Nat.le_of_ble_eq_true rfl) dX11_layAllMost_43 (fun H locs hR => ?_)
    refine lv_iload hx hb dX11_layAllMost_46 (lv_at hl 4 rfl) ?_
    obtain ⟨M_48, hc_48, h⟩ := bm_el h
    refine iv_X11_400 B hR (h0.at0 rfl) hl.1 (mX11_layMost fu _ h0 hc_48) (Nat.le_of_ble_eq_true rfl) dX11_layAllMost_48 (fun H locs hR => ?_)
    obtain ⟨x4_51, ex4_51, h⟩ := lt_el h
    refine lv_iinc (v := x4_51) (lv' := [(4, .int x4_51), (0, .ref a0), (1, .int x1), (2, .int x2), (3, .int x3)]) hx hb dX11_layAllMost_51 hl (k := 4) rfl (by rw [ex4_51]; rfl) (by decide) rfl (fun ls hl => ?_)
    refine lv_goto (tgt := 34) hx hb dX11_layAllMost_54 (by decide) ?_
    exact ih34 x4_51 M_48 h _ _ _ hR (lv_sub hl [1, 2, 3, 4, 0] rfl)
def fX11_layAllMost_l34 (fu : Nat) (k19 : Int32 → Mm → Option (Int32 × Mm)) (k25 : Int32 → Mm → Option (Int32 × Mm)) (a0 : Nat) (x1 : Int32) (x2 : Int32) (x3 : Int32) (x4 : Int32) (M : Mm) : Option (Int32 × Mm) := lp (fun (rec : (Int32 × Mm) → Option (Int32 × Mm)) (s : Int32 × Mm) => fX11_layAllMost_b34 fu k19 k25 (fun x4 M => rec (x4, M)) a0 x1 x2 x3 s.1 s.2) fu (x4, M)
set_option maxRecDepth 100000 in
set_option maxHeartbeats 4000000 in
theorem wX11_layAllMost_l34 {r : Int32} {M' : Mm}  {k19 : Int32 → Mm → Option (Int32 × Mm)} {k25 : Int32 → Mm → Option (Int32 × Mm)} {a0 : Nat} {x1 : Int32} {x2 : Int32} {x3 : Int32} {x4 : Int32} {M : Mm} (B : Bx p s m args c cX11_layAllMost 5 RX11 E L) (hr : meth.sig.returnType = (some .int)) (hlk : meth.locks = false) (ih19 : ∀ (x2 : Int32) (M : Mm), k19 x2 M = some (r, M') → ∀ (H : Heap) (locs : List Loc) (ls : Array Slot), Rx s E L M H locs → lv_has ls 5 [(0, .ref a0), (1, .int x1), (2, .int x2)] → W p l e (rmD (d + 5)) s m args below meth c H locs 0 0 (MQ below (QcM E L (some (.int r)) M') args s 0 0 E.2.2.2) (F0 m 19 ls [])) (ih25 : ∀ (x3 : Int32) (M : Mm), k25 x3 M = some (r, M') → ∀ (H : Heap) (locs : List Loc) (ls : Array Slot), Rx s E L M H locs → lv_has ls 5 [(0, .ref a0), (1, .int x1), (2, .int x2), (3, .int x3)] → W p l e (rmD (d + 5)) s m args below meth c H locs 0 0 (MQ below (QcM E L (some (.int r)) M') args s 0 0 E.2.2.2) (F0 m 25 ls [])) (h0 : At L a0 T11) (h : fX11_layAllMost_l34 fu k19 k25 a0 x1 x2 x3 x4 M = some (r, M')) (hR : Rx s E L M H locs) (hl : lv_has ls 5 [(0, .ref a0), (1, .int x1), (2, .int x2), (3, .int x3), (4, .int x4)]) : W p l e (rmD (d + 5)) s m args below meth c H locs 0 0 (MQ below (QcM E L (some (.int r)) M') args s 0 0 E.2.2.2) (F0 m 34 ls []) := by
  refine lp_G (G := fun z : Int32 × Mm => ∀ (H : Heap) (locs : List Loc) (ls : Array Slot), Rx s E L z.2 H locs → lv_has ls 5 [(0, .ref a0), (1, .int x1), (2, .int x2), (3, .int x3), (4, .int z.1)] → W p l e (rmD (d + 5)) s m args below meth c H locs 0 0 (MQ below (QcM E L (some (.int r)) M') args s 0 0 E.2.2.2) (F0 m 34 ls [])) (fun rec ih z h H locs ls hR hl => ?_) fu _ h H locs ls hR hl
  exact wX11_layAllMost_b34 B hr hlk ih19 ih25 (fun x4 M h => ih (x4, M) h) h0 h hR hl
def fX11_layAllMost_b25 (fu : Nat) (k19 : Int32 → Mm → Option (Int32 × Mm)) (k25 : Int32 → Mm → Option (Int32 × Mm)) (a0 : Nat) (x1 : Int32) (x2 : Int32) (x3 : Int32) (M : Mm) : Option (Int32 × Mm) :=
  if 6 ≤ x3 then
    fX11_layAllMost_j63 fu k19 a0 x1 x2 M
  else
    fX11_layAllMost_l34 fu k19 k25 a0 x1 x2 x3 0 M
set_option maxRecDepth 100000 in
set_option maxHeartbeats 4000000 in
theorem wX11_layAllMost_b25 {r : Int32} {M' : Mm}  {k19 : Int32 → Mm → Option (Int32 × Mm)} {k25 : Int32 → Mm → Option (Int32 × Mm)} {a0 : Nat} {x1 : Int32} {x2 : Int32} {x3 : Int32} {M : Mm} (B : Bx p s m args c cX11_layAllMost 5 RX11 E L) (hr : meth.sig.returnType = (some .int)) (hlk : meth.locks = false) (ih19 : ∀ (x2 : Int32) (M : Mm), k19 x2 M = some (r, M') → ∀ (H : Heap) (locs : List Loc) (ls : Array Slot), Rx s E L M H locs → lv_has ls 5 [(0, .ref a0), (1, .int x1), (2, .int x2)] → W p l e (rmD (d + 5)) s m args below meth c H locs 0 0 (MQ below (QcM E L (some (.int r)) M') args s 0 0 E.2.2.2) (F0 m 19 ls [])) (ih25 : ∀ (x3 : Int32) (M : Mm), k25 x3 M = some (r, M') → ∀ (H : Heap) (locs : List Loc) (ls : Array Slot), Rx s E L M H locs → lv_has ls 5 [(0, .ref a0), (1, .int x1), (2, .int x2), (3, .int x3)] → W p l e (rmD (d + 5)) s m args below meth c H locs 0 0 (MQ below (QcM E L (some (.int r)) M') args s 0 0 E.2.2.2) (F0 m 25 ls [])) (h0 : At L a0 T11) (h : fX11_layAllMost_b25 fu k19 k25 a0 x1 x2 x3 M = some (r, M')) (hR : Rx s E L M H locs) (hl : lv_has ls 5 [(0, .ref a0), (1, .int x1), (2, .int x2), (3, .int x3)]) : W p l e (rmD (d + 5)) s m args below meth c H locs 0 0 (MQ below (QcM E L (some (.int r)) M') args s 0 0 E.2.2.2) (F0 m 25 ls []) := by
  have hx := B.1
  have hb := B.2.1
  unfold fX11_layAllMost_b25 at h
  refine lv_iload_n hx hb dX11_layAllMost_25 rfl (lv_at hl 3 rfl) ?_
  refine lv_bipush (v := 6) hx hb dX11_layAllMost_26 (by decide) ?_
  refine lv_icmp_ge (tgt := 63) hx hb dX11_layAllMost_28 (by decide) (fun c_28 => ?_) (fun c_28 => ?_)
  · rw [if_pos c_28] at h
    exact wX11_layAllMost_j63 B hr hlk ih19 h0 h hR (lv_sub hl [0, 1, 2] rfl)
  · rw [if_neg c_28] at h
    refine lv_iconst (v := 0) hx hb dX11_layAllMost_31 (by decide) ?_
    refine lv_istore (lv' := [(4, .int 0), (0, .ref a0), (1, .int x1), (2, .int x2), (3, .int x3)]) hx hb dX11_layAllMost_32 hl (by decide) rfl (fun ls hl => ?_)
    exact wX11_layAllMost_l34 B hr hlk ih19 ih25 h0 h hR (lv_sub hl [1, 2, 3, 4, 0] rfl)
def fX11_layAllMost_l25 (fu : Nat) (k19 : Int32 → Mm → Option (Int32 × Mm)) (a0 : Nat) (x1 : Int32) (x2 : Int32) (x3 : Int32) (M : Mm) : Option (Int32 × Mm) := lp (fun (rec : (Int32 × Mm) → Option (Int32 × Mm)) (s : Int32 × Mm) => fX11_layAllMost_b25 fu k19 (fun x3 M => rec (x3, M)) a0 x1 x2 s.1 s.2) fu (x3, M)
set_option maxRecDepth 100000 in
set_option maxHeartbeats 4000000 in
theorem wX11_layAllMost_l25 {r : Int32} {M' : Mm}  {k19 : Int32 → Mm → Option (Int32 × Mm)} {a0 : Nat} {x1 : Int32} {x2 : Int32} {x3 : Int32} {M : Mm} (B : Bx p s m args c cX11_layAllMost 5 RX11 E L) (hr : meth.sig.returnType = (some .int)) (hlk : meth.locks = false) (ih19 : ∀ (x2 : Int32) (M : Mm), k19 x2 M = some (r, M') → ∀ (H : Heap) (locs : List Loc) (ls : Array Slot), Rx s E L M H locs → lv_has ls 5 [(0, .ref a0), (1, .int x1), (2, .int x2)] → W p l e (rmD (d + 5)) s m args below meth c H locs 0 0 (MQ below (QcM E L (some (.int r)) M') args s 0 0 E.2.2.2) (F0 m 19 ls [])) (h0 : At L a0 T11) (h : fX11_layAllMost_l25 fu k19 a0 x1 x2 x3 M = some (r, M')) (hR : Rx s E L M H locs) (hl : lv_has ls 5 [(0, .ref a0), (1, .int x1), (2, .int x2), (3, .int x3)]) : W p l e (rmD (d + 5)) s m args below meth c H locs 0 0 (MQ below (QcM E L (some (.int r)) M') args s 0 0 E.2.2.2) (F0 m 25 ls []) := by
  refine lp_G (G := fun z : Int32 × Mm => ∀ (H : Heap) (locs : List Loc) (ls : Array Slot), Rx s E L z.2 H locs → lv_has ls 5 [(0, .ref a0), (1, .int x1), (2, .int x2), (3, .int z.1)] → W p l e (rmD (d + 5)) s m args below meth c H locs 0 0 (MQ below (QcM E L (some (.int r)) M') args s 0 0 E.2.2.2) (F0 m 25 ls [])) (fun rec ih z h H locs ls hR hl => ?_) fu _ h H locs ls hR hl
  exact wX11_layAllMost_b25 B hr hlk ih19 (fun x3 M h => ih (x3, M) h) h0 h hR hl
def fX11_layAllMost_b19 (fu : Nat) (k19 : Int32 → Mm → Option (Int32 × Mm)) (a0 : Nat) (x1 : Int32) (x2 : Int32) (M : Mm) : Option (Int32 × Mm) :=
  if x2 ≤ 0 then
    fX11_layAllMost_j69 fu a0 x1 M
  else
    fX11_layAllMost_l25 fu k19 a0 x1 x2 0 M
set_option maxRecDepth 100000 in
set_option maxHeartbeats 4000000 in
theorem wX11_layAllMost_b19 {r : Int32} {M' : Mm}   {k19 : Int32 → Mm → Option (Int32 × Mm)} {a0 : Nat} {x1 : Int32} {x2 : Int32} {M : Mm} (B : Bx p s m args c cX11_layAllMost 5 RX11 E L) (hr : meth.sig.returnType = (some .int)) (hlk : meth.locks = false)  (ih19 : ∀ (x2 : Int32) (M : Mm), k19 x2 M = some (r, M') → ∀ (H : Heap) (locs : List Loc) (ls : Array Slot), Rx s E L M H locs → lv_has ls 5 [(0, .ref a0), (1, .int x1), (2, .int x2)] → W p l e (rmD (d + 5)) s m args below meth c H locs 0 0 (MQ below (QcM E L (some (.int r)) M') args s 0 0 E.2.2.2) (F0 m 19 ls [])) (h0 : At L a0 T11) (h : fX11_layAllMost_b19 fu k19 a0 x1 x2 M = some (r, M')) (hR : Rx s E L M H locs) (hl : lv_has ls 5 [(0, .ref a0), (1, .int x1), (2, .int x2)]) : W p l e (rmD (d + 5)) s m args below meth c H locs 0 0 (MQ below (QcM E L (some (.int r)) M') args s 0 0 E.2.2.2) (F0 m 19 ls []) := by
  have hx := B.1
  have hb := B.2.1
  unfold fX11_layAllMost_b19 at h
  refine lv_iload_n hx hb dX11_layAllMost_19 rfl (lv_at hl 2 rfl) ?_
  refine lv_if_le (tgt := 69) hx hb dX11_layAllMost_20 (by decide) (fun c_20 => ?_) (fun c_20 => ?_)
  · rw [if_pos c_20] at h
    exact wX11_layAllMost_j69 B hr hlk h0 h hR (lv_sub hl [0, 1] rfl)
  · rw [if_neg c_20] at h
    refine lv_iconst (v := 0) hx hb dX11_layAllMost_23 (by decide) ?_
    refine lv_istore_n (lv' := [(3, .int 0), (0, .ref a0), (1, .int x1), (2, .int x2)]) hx hb dX11_layAllMost_24 rfl hl (by decide) rfl (fun ls hl => ?_)
    exact wX11_layAllMost_l25 B hr hlk ih19 h0 h hR (lv_sub hl [1, 2, 3, 0] rfl)
def fX11_layAllMost_l19 (fu : Nat) (a0 : Nat) (x1 : Int32) (x2 : Int32) (M : Mm) : Option (Int32 × Mm) := lp (fun (rec : (Int32 × Mm) → Option (Int32 × Mm)) (s : Int32 × Mm) => fX11_layAllMost_b19 fu  (fun x2 M => rec (x2, M)) a0 x1 s.1 s.2) fu (x2, M)
set_option maxRecDepth 100000 in
set_option maxHeartbeats 4000000 in
theorem wX11_layAllMost_l19 {r : Int32} {M' : Mm}   {a0 : Nat} {x1 : Int32} {x2 : Int32} {M : Mm} (B : Bx p s m args c cX11_layAllMost 5 RX11 E L) (hr : meth.sig.returnType = (some .int)) (hlk : meth.locks = false)  (h0 : At L a0 T11) (h : fX11_layAllMost_l19 fu a0 x1 x2 M = some (r, M')) (hR : Rx s E L M H locs) (hl : lv_has ls 5 [(0, .ref a0), (1, .int x1), (2, .int x2)]) : W p l e (rmD (d + 5)) s m args below meth c H locs 0 0 (MQ below (QcM E L (some (.int r)) M') args s 0 0 E.2.2.2) (F0 m 19 ls []) := by
  refine lp_G (G := fun z : Int32 × Mm => ∀ (H : Heap) (locs : List Loc) (ls : Array Slot), Rx s E L z.2 H locs → lv_has ls 5 [(0, .ref a0), (1, .int x1), (2, .int z.1)] → W p l e (rmD (d + 5)) s m args below meth c H locs 0 0 (MQ below (QcM E L (some (.int r)) M') args s 0 0 E.2.2.2) (F0 m 19 ls [])) (fun rec ih z h H locs ls hR hl => ?_) fu _ h H locs ls hR hl
  exact wX11_layAllMost_b19 B hr hlk  (fun x2 M h => ih (x2, M) h) h0 h hR hl
def fX11_layAllMost (fu : Nat) (a0 : Nat) (x1 : Int32) (M : Mm) : Option (Int32 × Mm) :=
  bm (fX11_layWants fu a0 (M.1 (a0 + 1) (ix 0)) M) fun M_7 =>
  bi (fX11_addresses fu a0 M_7) fun r_12 =>
  lt (((2 * r_12) - 1)) fun x2_18 =>
  fX11_layAllMost_l19 fu a0 x1 x2_18 M_7
set_option maxRecDepth 100000 in
set_option maxHeartbeats 4000000 in
theorem mX11_layAllMost {l : Launch} {E : Ge} {L : Lay} (fu d : Nat) {a0 : Nat} {x1 : Int32} {M : Mm} {r : Int32} {M' : Mm}  (h0 : At L a0 T11) (h : fX11_layAllMost fu a0 x1 M = some (r, M')) : Ct l E L yX11_layAllMost cX11_layAllMost 5 (some .int) (d + 5) [.ref a0, .int x1] M (some (.int r)) M' := by
  refine Ct.of (by decide) ?_
  intro p e s m below meth c hr hlk B hR
  have B : Bx p s m _ c cX11_layAllMost 5 RX11 E L := B
  have hx := B.1
  have hb := B.2.1
  have hl := lv_entry ([.ref a0, .int x1]) (n := 5) (Nat.le_of_ble_eq_true rfl)
  rw [lg_entry_eq]
  generalize (lg_sl ([.ref a0, .int x1]) ++ List.replicate (5 - (lg_sl ([.ref a0, .int x1])).length) Slot.unset).toArray = ls at hl ⊢
  have hl : lv_has ls 5 [(0, .ref a0), (1, .int x1)] := hl
  unfold fX11_layAllMost at h
  refine lv_aload_n hx hb dX11_layAllMost_0 rfl (lv_at hl 0 rfl) ?_
  refine lv_aload_n hx hb dX11_layAllMost_1 rfl (lv_at hl 0 rfl) ?_
  refine gf_X11_7 B hR (h0.at0 rfl) dX11_layAllMost_2 ?_
  refine lv_iconst (v := 0) hx hb dX11_layAllMost_5 (by decide) ?_
  refine r_iald B hR (h0.at 1 rfl) (by decide +kernel) dX11_layAllMost_6 ?_
  obtain ⟨M_7, hc_7, h⟩ := bm_el h
  refine iv_X11_335 B hR (h0.at0 rfl) hl.1 (mX11_layWants fu _ h0 hc_7) (Nat.le_of_ble_eq_true rfl) dX11_layAllMost_7 (fun H locs hR => ?_)
  refine lv_iconst (v := 2) hx hb dX11_layAllMost_10 (by decide) ?_
  refine lv_aload_n hx hb dX11_layAllMost_11 rfl (lv_at hl 0 rfl) ?_
  obtain ⟨r_12, hc_12, h⟩ := bi_el h
  refine iv_X11_240 B hR (h0.at0 rfl) hl.1 (mX11_addresses fu _ h0 hc_12) (Nat.le_of_ble_eq_true rfl) dX11_layAllMost_12 (fun H locs hR => ?_)
  refine lv_imul hx hb dX11_layAllMost_15 ?_
  refine lv_iconst (v := 1) hx hb dX11_layAllMost_16 (by decide) ?_
  refine lv_isub hx hb dX11_layAllMost_17 ?_
  obtain ⟨x2_18, ex2_18, h⟩ := lt_el h
  refine r_nmI ex2_18 ?_
  refine lv_istore_n (lv' := [(2, .int x2_18), (0, .ref a0), (1, .int x1)]) hx hb dX11_layAllMost_18 rfl hl (by decide) rfl (fun ls hl => ?_)
  exact wX11_layAllMost_l19 B hr hlk h0 h hR (lv_sub hl [1, 2, 0] rfl)
def fX11_most_j19 (fu : Nat) (t0 : Int32) (M : Mm) : Option (Int32 × Mm) :=
  some (t0, M)
set_option maxRecDepth 100000 in
set_option maxHeartbeats 4000000 in
theorem wX11_most_j19 {r : Int32} {M' : Mm}   {t0 : Int32} {M : Mm} (B : Bx p s m args c cX11_most 2 RX11 E L) (hr : meth.sig.returnType = (some .int)) (hlk : meth.locks = false)   (h : fX11_most_j19 fu t0 M = some (r, M')) (hR : Rx s E L M H locs) (hl : lv_has ls 2 []) : W p l e (rmD (d + 6)) s m args below meth c H locs 0 0 (MQ below (QcM E L (some (.int r)) M') args s 0 0 E.2.2.2) (F0 m 19 ls [.int t0]) := by
  have hx := B.1
  have hb := B.2.1
  unfold fX11_most_j19 at h
  exact r_iretW B hR hr hlk h dX11_most_19
def fX11_most (fu : Nat) (a0 : Nat) (x1 : Int32) (M : Mm) : Option (Int32 × Mm) :=
  bi (fX11_isIn fu x1 0 10) fun r_4 =>
  if r_4 = 0 then
    fX11_most_j19 fu (-1) M
  else
    bw (fX11_layAllMost fu a0 x1 M) fun r_12 M_12 =>
    fX11_most_j19 fu r_12 M_12
set_option maxRecDepth 100000 in
set_option maxHeartbeats 4000000 in
theorem mX11_most {l : Launch} {E : Ge} {L : Lay} (fu d : Nat) {a0 : Nat} {x1 : Int32} {M : Mm} {r : Int32} {M' : Mm}  (h0 : At L a0 T11) (h : fX11_most fu a0 x1 M = some (r, M')) : Ct l E L yX11_most cX11_most 2 (some .int) (d + 6) [.ref a0, .int x1] M (some (.int r)) M' := by
  refine Ct.of (by decide) ?_
  intro p e s m below meth c hr hlk B hR
  have B : Bx p s m _ c cX11_most 2 RX11 E L := B
  have hx := B.1
  have hb := B.2.1
  have hl := lv_entry ([.ref a0, .int x1]) (n := 2) (Nat.le_of_ble_eq_true rfl)
  rw [lg_entry_eq]
  generalize (lg_sl ([.ref a0, .int x1]) ++ List.replicate (2 - (lg_sl ([.ref a0, .int x1])).length) Slot.unset).toArray = ls at hl ⊢
  have hl : lv_has ls 2 [(0, .ref a0), (1, .int x1)] := hl
  unfold fX11_most at h
  refine lv_iload_n hx hb dX11_most_0 rfl (lv_at hl 1 rfl) ?_
  refine lv_iconst (v := 0) hx hb dX11_most_1 (by decide) ?_
  refine lv_bipush (v := 10) hx hb dX11_most_2 (by decide) ?_
  obtain ⟨r_4, hc_4, h⟩ := bi_el h
  refine is_X11_163 B hR hl.1 (mX11_isIn fu _  hc_4) (Nat.le_of_ble_eq_true rfl) dX11_most_4 (fun H locs hR => ?_)
  refine lv_if_eq (tgt := 18) hx hb dX11_most_7 (by decide) (fun c_7 => ?_) (fun c_7 => ?_)
  · rw [if_pos c_7] at h
    refine lv_iconst (v := (-1)) hx hb dX11_most_18 (by decide) ?_
    exact wX11_most_j19 B hr hlk  h hR (lv_sub hl [] rfl)
  · rw [if_neg c_7] at h
    refine lv_aload_n hx hb dX11_most_10 rfl (lv_at hl 0 rfl) ?_
    refine lv_iload_n hx hb dX11_most_11 rfl (lv_at hl 1 rfl) ?_
    obtain ⟨r_12, M_12, hc_12, h⟩ := bw_el h
    refine iv_X11_404 B hR (h0.at0 rfl) hl.1 (mX11_layAllMost fu _ h0 hc_12) (Nat.le_of_ble_eq_true rfl) dX11_most_12 (fun H locs hR => ?_)
    refine lv_goto (tgt := 19) hx hb dX11_most_15 (by decide) ?_
    exact wX11_most_j19 B hr hlk  h hR (lv_sub hl [] rfl)
def fX11_mostAt (fu : Nat) (a0 : Nat) (x1 : Int32) (x2 : Int32) (x3 : Int32) (M : Mm) : Option Int32 :=
  if (((66 * x1) + (11 * x2)) + x3) < 0 ∨ 135168 ≤ ix (((66 * x1) + (11 * x2)) + x3) then none else
  some (M.1 (a0 + 18) (ix (((66 * x1) + (11 * x2)) + x3)))
set_option maxRecDepth 100000 in
set_option maxHeartbeats 4000000 in
theorem mX11_mostAt {l : Launch} {E : Ge} {L : Lay} (fu d : Nat) {a0 : Nat} {x1 : Int32} {x2 : Int32} {x3 : Int32} {M : Mm} {r : Int32}  (h0 : At L a0 T11) (h : fX11_mostAt fu a0 x1 x2 x3 M = some r) : Ct l E L yX11_mostAt cX11_mostAt 4 (some .int) (d + 0) [.ref a0, .int x1, .int x2, .int x3] M (some (.int r)) M := by
  refine Ct.of (by decide) ?_
  intro p e s m below meth c hr hlk B hR
  have B : Bx p s m _ c cX11_mostAt 4 RX11 E L := B
  have hx := B.1
  have hb := B.2.1
  have hl := lv_entry ([.ref a0, .int x1, .int x2, .int x3]) (n := 4) (Nat.le_of_ble_eq_true rfl)
  rw [lg_entry_eq]
  generalize (lg_sl ([.ref a0, .int x1, .int x2, .int x3]) ++ List.replicate (4 - (lg_sl ([.ref a0, .int x1, .int x2, .int x3])).length) Slot.unset).toArray = ls at hl ⊢
  have hl : lv_has ls 4 [(0, .ref a0), (1, .int x1), (2, .int x2), (3, .int x3)] := hl
  unfold fX11_mostAt at h
  refine lv_aload_n hx hb dX11_mostAt_0 rfl (lv_at hl 0 rfl) ?_
  refine gf_X11_67 B hR (h0.at0 rfl) dX11_mostAt_1 ?_
  refine lv_bipush (v := 66) hx hb dX11_mostAt_4 (by decide) ?_
  refine lv_iload_n hx hb dX11_mostAt_6 rfl (lv_at hl 1 rfl) ?_
  refine lv_imul hx hb dX11_mostAt_7 ?_
  refine lv_bipush (v := 11) hx hb dX11_mostAt_8 (by decide) ?_
  refine lv_iload_n hx hb dX11_mostAt_10 rfl (lv_at hl 2 rfl) ?_
  refine lv_imul hx hb dX11_mostAt_11 ?_
  refine lv_iadd hx hb dX11_mostAt_12 ?_
  refine lv_iload_n hx hb dX11_mostAt_13 rfl (lv_at hl 3 rfl) ?_
  refine lv_iadd hx hb dX11_mostAt_14 ?_
  obtain ⟨hi_15, h⟩ := ifn_el h
  refine r_iald B hR (h0.at 18 rfl) hi_15 dX11_mostAt_15 ?_
  exact r_iretP B hR hr hlk h dX11_mostAt_16
def fX11_waitsWith (fu : Nat) (a0 : Nat) (x1 : Int32) (x2 : Int32) (x3 : Int32) (M : Mm) : Option Mm :=
  if (M.1 a0 32) < 0 ∨ 4200 ≤ ix (M.1 a0 32) then none else
  lt (wI M (a0 + 19) (ix (M.1 a0 32)) x3) fun M_9 =>
  bm (fX11_waits fu a0 x1 x2 M_9) fun M_13 =>
  some M_13
set_option maxRecDepth 100000 in
set_option maxHeartbeats 4000000 in
theorem mX11_waitsWith {l : Launch} {E : Ge} {L : Lay} (fu d : Nat) {a0 : Nat} {x1 : Int32} {x2 : Int32} {x3 : Int32} {M : Mm} {M' : Mm}  (h0 : At L a0 T11) (h : fX11_waitsWith fu a0 x1 x2 x3 M = some M') : Ct l E L yX11_waitsWith cX11_waitsWith 4 none (d + 1) [.ref a0, .int x1, .int x2, .int x3] M none M' := by
  refine Ct.of (by decide) ?_
  intro p e s m below meth c hr hlk B hR
  have B : Bx p s m _ c cX11_waitsWith 4 RX11 E L := B
  have hx := B.1
  have hb := B.2.1
  have hl := lv_entry ([.ref a0, .int x1, .int x2, .int x3]) (n := 4) (Nat.le_of_ble_eq_true rfl)
  rw [lg_entry_eq]
  generalize (lg_sl ([.ref a0, .int x1, .int x2, .int x3]) ++ List.replicate (4 - (lg_sl ([.ref a0, .int x1, .int x2, .int x3])).length) Slot.unset).toArray = ls at hl ⊢
  have hl : lv_has ls 4 [(0, .ref a0), (1, .int x1), (2, .int x2), (3, .int x3)] := hl
  unfold fX11_waitsWith at h
  refine lv_aload_n hx hb dX11_waitsWith_0 rfl (lv_at hl 0 rfl) ?_
  refine gf_X11_70 B hR (h0.at0 rfl) dX11_waitsWith_1 ?_
  refine lv_aload_n hx hb dX11_waitsWith_4 rfl (lv_at hl 0 rfl) ?_
  refine gf_X11_347 B hR (h0.at0 rfl) dX11_waitsWith_5 ?_
  refine lv_iload_n hx hb dX11_waitsWith_8 rfl (lv_at hl 3 rfl) ?_
  obtain ⟨hi_9, h⟩ := ifn_el h
  obtain ⟨M_9, eM_9, h⟩ := lt_el h
  refine r_iast B hR (h0.at 19 rfl) hi_9 dX11_waitsWith_9 (fun H locs hR => ?_)
  rw [← eM_9] at hR
  refine lv_aload_n hx hb dX11_waitsWith_10 rfl (lv_at hl 0 rfl) ?_
  refine lv_iload_n hx hb dX11_waitsWith_11 rfl (lv_at hl 1 rfl) ?_
  refine lv_iload_n hx hb dX11_waitsWith_12 rfl (lv_at hl 2 rfl) ?_
  obtain ⟨M_13, hc_13, h⟩ := bm_el h
  refine iv_X11_356 B hR (h0.at0 rfl) hl.1 (mX11_waits fu _ h0 hc_13) (Nat.le_of_ble_eq_true rfl) dX11_waitsWith_13 (fun H locs hR => ?_)
  exact r_vretW B hR hr hlk h dX11_waitsWith_16
def fX11_laySetAt_j133 (fu : Nat) (k105 : Int32 → Option Mm) (a0 : Nat) (x1 : Int32) (x2 : Int32) (x3 : Int32) (x4 : Int32) (x5 : Int32) (M : Mm) : Option Mm :=
  lt (x5 + 1) fun x5_133 =>
  k105 x5_133
set_option maxRecDepth 100000 in
set_option maxHeartbeats 4000000 in
theorem wX11_laySetAt_j133 {M' : Mm}  {k105 : Int32 → Option Mm} {a0 : Nat} {x1 : Int32} {x2 : Int32} {x3 : Int32} {x4 : Int32} {x5 : Int32} {M : Mm} (B : Bx p s m args c cX11_laySetAt 6 RX11 E L) (hr : meth.sig.returnType = none) (hlk : meth.locks = false) (ih105 : ∀ (x5 : Int32), k105 x5 = some M' → ∀ (H : Heap) (locs : List Loc) (ls : Array Slot), Rx s E L M H locs → lv_has ls 6 [(0, .ref a0), (1, .int x1), (2, .int x2), (3, .int x3), (4, .int x4), (5, .int x5)] → W p l e (rmD (d + 4)) s m args below meth c H locs 0 0 (MQ below (QcM E L none M') args s 0 0 E.2.2.2) (F0 m 105 ls [])) (h0 : At L a0 T11) (h : fX11_laySetAt_j133 fu k105 a0 x1 x2 x3 x4 x5 M = some M') (hR : Rx s E L M H locs) (hl : lv_has ls 6 [(0, .ref a0), (1, .int x1), (2, .int x2), (3, .int x3), (4, .int x4), (5, .int x5)]) : W p l e (rmD (d + 4)) s m args below meth c H locs 0 0 (MQ below (QcM E L none M') args s 0 0 E.2.2.2) (F0 m 133 ls []) := by
  have hx := B.1
  have hb := B.2.1
  unfold fX11_laySetAt_j133 at h
  obtain ⟨x5_133, ex5_133, h⟩ := lt_el h
  refine lv_iinc (v := x5_133) (lv' := [(5, .int x5_133), (0, .ref a0), (1, .int x1), (2, .int x2), (3, .int x3), (4, .int x4)]) hx hb dX11_laySetAt_133 hl (k := 5) rfl (by rw [ex5_133]; rfl) (by decide) rfl (fun ls hl => ?_)
  refine lv_goto (tgt := 105) hx hb dX11_laySetAt_136 (by decide) ?_
  exact ih105 x5_133 h _ _ _ hR (lv_sub hl [1, 2, 3, 4, 5, 0] rfl)
def fX11_laySetAt_j139 (fu : Nat) (a0 : Nat) (x1 : Int32) (x2 : Int32) (x3 : Int32) (x5 : Int32) (M : Mm) : Option Mm :=
  bm (fX11_layBlock fu a0 x1 x5 M) fun M_143 =>
  bi (fX11_madeBy fu x2 x5) fun r_151 =>
  bm (fX11_waitsWith fu a0 x1 r_151 (x3 - 1) M_143) fun M_157 =>
  some M_157
set_option maxRecDepth 100000 in
set_option maxHeartbeats 4000000 in
theorem wX11_laySetAt_j139 {M' : Mm}   {a0 : Nat} {x1 : Int32} {x2 : Int32} {x3 : Int32} {x5 : Int32} {M : Mm} (B : Bx p s m args c cX11_laySetAt 6 RX11 E L) (hr : meth.sig.returnType = none) (hlk : meth.locks = false)  (h0 : At L a0 T11) (h : fX11_laySetAt_j139 fu a0 x1 x2 x3 x5 M = some M') (hR : Rx s E L M H locs) (hl : lv_has ls 6 [(0, .ref a0), (1, .int x1), (2, .int x2), (3, .int x3), (5, .int x5)]) : W p l e (rmD (d + 4)) s m args below meth c H locs 0 0 (MQ below (QcM E L none M') args s 0 0 E.2.2.2) (F0 m 139 ls []) := by
  have hx := B.1
  have hb := B.2.1
  unfold fX11_laySetAt_j139 at h
  refine lv_aload_n hx hb dX11_laySetAt_139 rfl (lv_at hl 0 rfl) ?_
  refine lv_iload_n hx hb dX11_laySetAt_140 rfl (lv_at hl 1 rfl) ?_
  refine lv_iload hx hb dX11_laySetAt_141 (lv_at hl 4 rfl) ?_
  obtain ⟨M_143, hc_143, h⟩ := bm_el h
  refine iv_X11_360 B hR (h0.at0 rfl) hl.1 (mX11_layBlock fu _ h0 hc_143) (Nat.le_of_ble_eq_true rfl) dX11_laySetAt_143 (fun H locs hR => ?_)
  refine lv_aload_n hx hb dX11_laySetAt_146 rfl (lv_at hl 0 rfl) ?_
  refine lv_iload_n hx hb dX11_laySetAt_147 rfl (lv_at hl 1 rfl) ?_
  refine lv_iload_n hx hb dX11_laySetAt_148 rfl (lv_at hl 2 rfl) ?_
  refine lv_iload hx hb dX11_laySetAt_149 (lv_at hl 4 rfl) ?_
  obtain ⟨r_151, hc_151, h⟩ := bi_el h
  refine is_X11_332 B hR hl.1 (mX11_madeBy fu _  hc_151) (Nat.le_of_ble_eq_true rfl) dX11_laySetAt_151 (fun H locs hR => ?_)
  refine lv_iload_n hx hb dX11_laySetAt_154 rfl (lv_at hl 3 rfl) ?_
  refine lv_iconst (v := 1) hx hb dX11_laySetAt_155 (by decide) ?_
  refine lv_isub hx hb dX11_laySetAt_156 ?_
  obtain ⟨M_157, hc_157, h⟩ := bm_el h
  refine iv_X11_407 B hR (h0.at0 rfl) hl.1 (mX11_waitsWith fu _ h0 hc_157) (Nat.le_of_ble_eq_true rfl) dX11_laySetAt_157 (fun H locs hR => ?_)
  exact r_vretW B hR hr hlk h dX11_laySetAt_160
def fX11_laySetAt_b105 (fu : Nat) (k105 : Int32 → Option Mm) (a0 : Nat) (x1 : Int32) (x2 : Int32) (x3 : Int32) (x4 : Int32) (x5 : Int32) (M : Mm) : Option Mm :=
  bi (fX11_madeBy fu x2 x5) fun r_108 =>
  if r_108 < 0 then
    fX11_laySetAt_j133 fu k105 a0 x1 x2 x3 x4 x5 M
  else
    bi (fX11_madeBy fu x2 x5) fun r_119 =>
    bi (fX11_mostAt fu a0 x1 r_119 (x3 - 1) M) fun r_125 =>
    if r_125 = x4 then
      fX11_laySetAt_j139 fu a0 x1 x2 x3 x5 M
    else
      fX11_laySetAt_j133 fu k105 a0 x1 x2 x3 x4 x5 M
set_option maxRecDepth 100000 in
set_option maxHeartbeats 4000000 in
theorem wX11_laySetAt_b105 {M' : Mm}   {k105 : Int32 → Option Mm} {a0 : Nat} {x1 : Int32} {x2 : Int32} {x3 : Int32} {x4 : Int32} {x5 : Int32} {M : Mm} (B : Bx p s m args c cX11_laySetAt 6 RX11 E L) (hr : meth.sig.returnType = none) (hlk : meth.locks = false)  (ih105 : ∀ (x5 : Int32), k105 x5 = some M' → ∀ (H : Heap) (locs : List Loc) (ls : Array Slot), Rx s E L M H locs → lv_has ls 6 [(0, .ref a0), (1, .int x1), (2, .int x2), (3, .int x3), (4, .int x4), (5, .int x5)] → W p l e (rmD (d + 4)) s m args below meth c H locs 0 0 (MQ below (QcM E L none M') args s 0 0 E.2.2.2) (F0 m 105 ls [])) (h0 : At L a0 T11) (h : fX11_laySetAt_b105 fu k105 a0 x1 x2 x3 x4 x5 M = some M') (hR : Rx s E L M H locs) (hl : lv_has ls 6 [(0, .ref a0), (1, .int x1), (2, .int x2), (3, .int x3), (4, .int x4), (5, .int x5)]) : W p l e (rmD (d + 4)) s m args below meth c H locs 0 0 (MQ below (QcM E L none M') args s 0 0 E.2.2.2) (F0 m 105 ls []) := by
  have hx := B.1
  have hb := B.2.1
  unfold fX11_laySetAt_b105 at h
  refine lv_iload_n hx hb dX11_laySetAt_105 rfl (lv_at hl 2 rfl) ?_
  refine lv_iload hx hb dX11_laySetAt_106 (lv_at hl 5 rfl) ?_
  obtain ⟨r_108, hc_108, h⟩ := bi_el h
  refine is_X11_332 B hR hl.1 (mX11_madeBy fu _  hc_108) (Nat.le_of_ble_eq_true rfl) dX11_laySetAt_108 (fun H locs hR => ?_)
  refine lv_if_lt (tgt := 133) hx hb dX11_laySetAt_111 (by decide) (fun c_111 => ?_) (fun c_111 => ?_)
  · rw [if_pos c_111] at h
    exact wX11_laySetAt_j133 B hr hlk ih105 h0 h hR hl
  · rw [if_neg c_111] at h
    refine lv_aload_n hx hb dX11_laySetAt_114 rfl (lv_at hl 0 rfl) ?_
    refine lv_iload_n hx hb dX11_laySetAt_115 rfl (lv_at hl 1 rfl) ?_
    refine lv_iload_n hx hb dX11_laySetAt_116 rfl (lv_at hl 2 rfl) ?_
    refine lv_iload hx hb dX11_laySetAt_117 (lv_at hl 5 rfl) ?_
    obtain ⟨r_119, hc_119, h⟩ := bi_el h
    refine is_X11_332 B hR hl.1 (mX11_madeBy fu _  hc_119) (Nat.le_of_ble_eq_true rfl) dX11_laySetAt_119 (fun H locs hR => ?_)
    refine lv_iload_n hx hb dX11_laySetAt_122 rfl (lv_at hl 3 rfl) ?_
    refine lv_iconst (v := 1) hx hb dX11_laySetAt_123 (by decide) ?_
    refine lv_isub hx hb dX11_laySetAt_124 ?_
    obtain ⟨r_125, hc_125, h⟩ := bi_el h
    refine iv_X11_413 B hR (h0.at0 rfl) hl.1 (mX11_mostAt fu _ h0 hc_125) (Nat.le_of_ble_eq_true rfl) dX11_laySetAt_125 (fun H locs hR => ?_)
    refine lv_iload hx hb dX11_laySetAt_128 (lv_at hl 4 rfl) ?_
    refine lv_icmp_eq (tgt := 139) hx hb dX11_laySetAt_130 (by decide) (fun c_130 => ?_) (fun c_130 => ?_)
    · rw [if_pos c_130] at h
      exact wX11_laySetAt_j139 B hr hlk h0 h hR (lv_sub hl [0, 1, 2, 3, 5] rfl)
    · rw [if_neg c_130] at h
      exact wX11_laySetAt_j133 B hr hlk ih105 h0 h hR hl
def fX11_laySetAt_l105 (fu : Nat) (a0 : Nat) (x1 : Int32) (x2 : Int32) (x3 : Int32) (x4 : Int32) (M : Mm) (x5 : Int32) : Option Mm := lp (fun (rec : Int32 → Option Mm) (s : Int32) => fX11_laySetAt_b105 fu  (fun x5 => rec (x5)) a0 x1 x2 x3 x4 s M) fu (x5)
set_option maxRecDepth 100000 in
set_option maxHeartbeats 4000000 in
theorem wX11_laySetAt_l105 {M' : Mm}   {a0 : Nat} {x1 : Int32} {x2 : Int32} {x3 : Int32} {x4 : Int32} {x5 : Int32} {M : Mm} (B : Bx p s m args c cX11_laySetAt 6 RX11 E L) (hr : meth.sig.returnType = none) (hlk : meth.locks = false)  (h0 : At L a0 T11) (h : fX11_laySetAt_l105 fu a0 x1 x2 x3 x4 M x5 = some M') (hR : Rx s E L M H locs) (hl : lv_has ls 6 [(0, .ref a0), (1, .int x1), (2, .int x2), (3, .int x3), (4, .int x4), (5, .int x5)]) : W p l e (rmD (d + 4)) s m args below meth c H locs 0 0 (MQ below (QcM E L none M') args s 0 0 E.2.2.2) (F0 m 105 ls []) := by
  refine lp_G (G := fun z : Int32 => ∀ (H : Heap) (locs : List Loc) (ls : Array Slot), Rx s E L M H locs → lv_has ls 6 [(0, .ref a0), (1, .int x1), (2, .int x2), (3, .int x3), (4, .int x4), (5, .int z)] → W p l e (rmD (d + 4)) s m args below meth c H locs 0 0 (MQ below (QcM E L none M') args s 0 0 E.2.2.2) (F0 m 105 ls [])) (fun rec ih z h H locs ls hR hl => ?_) fu _ h H locs ls hR hl
  exact wX11_laySetAt_b105 B hr hlk  (fun x5 h => ih (x5) h) h0 h hR hl
def fX11_laySetAt_j102 (fu : Nat) (a0 : Nat) (x1 : Int32) (x2 : Int32) (x3 : Int32) (x4 : Int32) (M : Mm) : Option Mm :=
  fX11_laySetAt_l105 fu a0 x1 x2 x3 x4 M 0
set_option maxRecDepth 100000 in
set_option maxHeartbeats 4000000 in
theorem wX11_laySetAt_j102 {M' : Mm}   {a0 : Nat} {x1 : Int32} {x2 : Int32} {x3 : Int32} {x4 : Int32} {M : Mm} (B : Bx p s m args c cX11_laySetAt 6 RX11 E L) (hr : meth.sig.returnType = none) (hlk : meth.locks = false)  (h0 : At L a0 T11) (h : fX11_laySetAt_j102 fu a0 x1 x2 x3 x4 M = some M') (hR : Rx s E L M H locs) (hl : lv_has ls 6 [(0, .ref a0), (1, .int x1), (2, .int x2), (3, .int x3), (4, .int x4)]) : W p l e (rmD (d + 4)) s m args below meth c H locs 0 0 (MQ below (QcM E L none M') args s 0 0 E.2.2.2) (F0 m 102 ls []) := by
  have hx := B.1
  have hb := B.2.1
  unfold fX11_laySetAt_j102 at h
  refine lv_iconst (v := 0) hx hb dX11_laySetAt_102 (by decide) ?_
  refine lv_istore (lv' := [(5, .int 0), (0, .ref a0), (1, .int x1), (2, .int x2), (3, .int x3), (4, .int x4)]) hx hb dX11_laySetAt_103 hl (by decide) rfl (fun ls hl => ?_)
  exact wX11_laySetAt_l105 B hr hlk h0 h hR (lv_sub hl [1, 2, 3, 4, 5, 0] rfl)
def fX11_laySetAt_j71 (fu : Nat) (a0 : Nat) (x1 : Int32) (x2 : Int32) (x3 : Int32) (x5 : Int32) (M : Mm) : Option Mm :=
  bm (fX11_waitsWith fu a0 ((2 * x1) + 1) x2 (x3 - x5) M) fun M_82 =>
  bm (fX11_waitsWith fu a0 (2 * x1) x2 x5 M_82) fun M_92 =>
  some M_92
set_option maxRecDepth 100000 in
set_option maxHeartbeats 4000000 in
theorem wX11_laySetAt_j71 {M' : Mm}   {a0 : Nat} {x1 : Int32} {x2 : Int32} {x3 : Int32} {x5 : Int32} {M : Mm} (B : Bx p s m args c cX11_laySetAt 6 RX11 E L) (hr : meth.sig.returnType = none) (hlk : meth.locks = false)  (h0 : At L a0 T11) (h : fX11_laySetAt_j71 fu a0 x1 x2 x3 x5 M = some M') (hR : Rx s E L M H locs) (hl : lv_has ls 6 [(0, .ref a0), (1, .int x1), (2, .int x2), (3, .int x3), (5, .int x5)]) : W p l e (rmD (d + 4)) s m args below meth c H locs 0 0 (MQ below (QcM E L none M') args s 0 0 E.2.2.2) (F0 m 71 ls []) := by
  have hx := B.1
  have hb := B.2.1
  unfold fX11_laySetAt_j71 at h
  refine lv_aload_n hx hb dX11_laySetAt_71 rfl (lv_at hl 0 rfl) ?_
  refine lv_iconst (v := 2) hx hb dX11_laySetAt_72 (by decide) ?_
  refine lv_iload_n hx hb dX11_laySetAt_73 rfl (lv_at hl 1 rfl) ?_
  refine lv_imul hx hb dX11_laySetAt_74 ?_
  refine lv_iconst (v := 1) hx hb dX11_laySetAt_75 (by decide) ?_
  refine lv_iadd hx hb dX11_laySetAt_76 ?_
  refine lv_iload_n hx hb dX11_laySetAt_77 rfl (lv_at hl 2 rfl) ?_
  refine lv_iload_n hx hb dX11_laySetAt_78 rfl (lv_at hl 3 rfl) ?_
  refine lv_iload hx hb dX11_laySetAt_79 (lv_at hl 4 rfl) ?_
  refine lv_isub hx hb dX11_laySetAt_81 ?_
  obtain ⟨M_82, hc_82, h⟩ := bm_el h
  refine iv_X11_407 B hR (h0.at0 rfl) hl.1 (mX11_waitsWith fu _ h0 hc_82) (Nat.le_of_ble_eq_true rfl) dX11_laySetAt_82 (fun H locs hR => ?_)
  refine lv_aload_n hx hb dX11_laySetAt_85 rfl (lv_at hl 0 rfl) ?_
  refine lv_iconst (v := 2) hx hb dX11_laySetAt_86 (by decide) ?_
  refine lv_iload_n hx hb dX11_laySetAt_87 rfl (lv_at hl 1 rfl) ?_
  refine lv_imul hx hb dX11_laySetAt_88 ?_
  refine lv_iload_n hx hb dX11_laySetAt_89 rfl (lv_at hl 2 rfl) ?_
  refine lv_iload hx hb dX11_laySetAt_90 (lv_at hl 4 rfl) ?_
  obtain ⟨M_92, hc_92, h⟩ := bm_el h
  refine iv_X11_407 B hR (h0.at0 rfl) hl.1 (mX11_waitsWith fu _ h0 hc_92) (Nat.le_of_ble_eq_true rfl) dX11_laySetAt_92 (fun H locs hR => ?_)
  exact r_vretW B hR hr hlk h dX11_laySetAt_95
def fX11_laySetAt_b24 (fu : Nat) (k24 : Int32 → Option Mm) (a0 : Nat) (x1 : Int32) (x2 : Int32) (x3 : Int32) (x4 : Int32) (x5 : Int32) (M : Mm) : Option Mm :=
  if x3 < x5 then
    fX11_laySetAt_j102 fu a0 x1 x2 x3 x4 M
  else
    bi (fX11_addresses fu a0 M) fun r_32 =>
    if r_32 ≤ x1 then
      fX11_laySetAt_j102 fu a0 x1 x2 x3 x4 M
    else
      bi (fX11_mostAt fu a0 (2 * x1) x2 x5 M) fun r_45 =>
      bi (fX11_mostAt fu a0 ((2 * x1) + 1) x2 (x3 - x5) M) fun r_59 =>
      if (r_45 + r_59) = x4 then
        fX11_laySetAt_j71 fu a0 x1 x2 x3 x5 M
      else
        lt (x5 + 1) fun x5_96 =>
        k24 x5_96
set_option maxRecDepth 100000 in
set_option maxHeartbeats 4000000 in
theorem wX11_laySetAt_b24 {M' : Mm}   {k24 : Int32 → Option Mm} {a0 : Nat} {x1 : Int32} {x2 : Int32} {x3 : Int32} {x4 : Int32} {x5 : Int32} {M : Mm} (B : Bx p s m args c cX11_laySetAt 6 RX11 E L) (hr : meth.sig.returnType = none) (hlk : meth.locks = false)  (ih24 : ∀ (x5 : Int32), k24 x5 = some M' → ∀ (H : Heap) (locs : List Loc) (ls : Array Slot), Rx s E L M H locs → lv_has ls 6 [(0, .ref a0), (1, .int x1), (2, .int x2), (3, .int x3), (4, .int x4), (5, .int x5)] → W p l e (rmD (d + 4)) s m args below meth c H locs 0 0 (MQ below (QcM E L none M') args s 0 0 E.2.2.2) (F0 m 24 ls [])) (h0 : At L a0 T11) (h : fX11_laySetAt_b24 fu k24 a0 x1 x2 x3 x4 x5 M = some M') (hR : Rx s E L M H locs) (hl : lv_has ls 6 [(0, .ref a0), (1, .int x1), (2, .int x2), (3, .int x3), (4, .int x4), (5, .int x5)]) : W p l e (rmD (d + 4)) s m args below meth c H locs 0 0 (MQ below (QcM E L none M') args s 0 0 E.2.2.2) (F0 m 24 ls []) := by
  have hx := B.1
  have hb := B.2.1
  unfold fX11_laySetAt_b24 at h
  refine lv_iload hx hb dX11_laySetAt_24 (lv_at hl 5 rfl) ?_
  refine lv_iload_n hx hb dX11_laySetAt_26 rfl (lv_at hl 3 rfl) ?_
  refine lv_icmp_gt (tgt := 102) hx hb dX11_laySetAt_27 (by decide) (fun c_27 => ?_) (fun c_27 => ?_)
  · rw [if_pos c_27] at h
    exact wX11_laySetAt_j102 B hr hlk h0 h hR (lv_sub hl [0, 1, 2, 3, 4] rfl)
  · rw [if_neg c_27] at h
    refine lv_iload_n hx hb dX11_laySetAt_30 rfl (lv_at hl 1 rfl) ?_
    refine lv_aload_n hx hb dX11_laySetAt_31 rfl (lv_at hl 0 rfl) ?_
    obtain ⟨r_32, hc_32, h⟩ := bi_el h
    refine iv_X11_240 B hR (h0.at0 rfl) hl.1 (mX11_addresses fu _ h0 hc_32) (Nat.le_of_ble_eq_true rfl) dX11_laySetAt_32 (fun H locs hR => ?_)
    refine lv_icmp_ge (tgt := 102) hx hb dX11_laySetAt_35 (by decide) (fun c_35 => ?_) (fun c_35 => ?_)
    · rw [if_pos c_35] at h
      exact wX11_laySetAt_j102 B hr hlk h0 h hR (lv_sub hl [0, 1, 2, 3, 4] rfl)
    · rw [if_neg c_35] at h
      refine lv_aload_n hx hb dX11_laySetAt_38 rfl (lv_at hl 0 rfl) ?_
      refine lv_iconst (v := 2) hx hb dX11_laySetAt_39 (by decide) ?_
      refine lv_iload_n hx hb dX11_laySetAt_40 rfl (lv_at hl 1 rfl) ?_
      refine lv_imul hx hb dX11_laySetAt_41 ?_
      refine lv_iload_n hx hb dX11_laySetAt_42 rfl (lv_at hl 2 rfl) ?_
      refine lv_iload hx hb dX11_laySetAt_43 (lv_at hl 5 rfl) ?_
      obtain ⟨r_45, hc_45, h⟩ := bi_el h
      refine iv_X11_413 B hR (h0.at0 rfl) hl.1 (mX11_mostAt fu _ h0 hc_45) (Nat.le_of_ble_eq_true rfl) dX11_laySetAt_45 (fun H locs hR => ?_)
      refine lv_aload_n hx hb dX11_laySetAt_48 rfl (lv_at hl 0 rfl) ?_
      refine lv_iconst (v := 2) hx hb dX11_laySetAt_49 (by decide) ?_
      refine lv_iload_n hx hb dX11_laySetAt_50 rfl (lv_at hl 1 rfl) ?_
      refine lv_imul hx hb dX11_laySetAt_51 ?_
      refine lv_iconst (v := 1) hx hb dX11_laySetAt_52 (by decide) ?_
      refine lv_iadd hx hb dX11_laySetAt_53 ?_
      refine lv_iload_n hx hb dX11_laySetAt_54 rfl (lv_at hl 2 rfl) ?_
      refine lv_iload_n hx hb dX11_laySetAt_55 rfl (lv_at hl 3 rfl) ?_
      refine lv_iload hx hb dX11_laySetAt_56 (lv_at hl 5 rfl) ?_
      refine lv_isub hx hb dX11_laySetAt_58 ?_
      obtain ⟨r_59, hc_59, h⟩ := bi_el h
      refine iv_X11_413 B hR (h0.at0 rfl) hl.1 (mX11_mostAt fu _ h0 hc_59) (Nat.le_of_ble_eq_true rfl) dX11_laySetAt_59 (fun H locs hR => ?_)
      refine lv_iadd hx hb dX11_laySetAt_62 ?_
      refine lv_iload hx hb dX11_laySetAt_63 (lv_at hl 4 rfl) ?_
      refine lv_icmp_eq (tgt := 71) hx hb dX11_laySetAt_65 (by decide) (fun c_65 => ?_) (fun c_65 => ?_)
      · rw [if_pos c_65] at h
        exact wX11_laySetAt_j71 B hr hlk h0 h hR (lv_sub hl [0, 1, 2, 3, 5] rfl)
      · rw [if_neg c_65] at h
        refine lv_goto (tgt := 96) hx hb dX11_laySetAt_68 (by decide) ?_
        obtain ⟨x5_96, ex5_96, h⟩ := lt_el h
        refine lv_iinc (v := x5_96) (lv' := [(5, .int x5_96), (0, .ref a0), (1, .int x1), (2, .int x2), (3, .int x3), (4, .int x4)]) hx hb dX11_laySetAt_96 hl (k := 5) rfl (by rw [ex5_96]; rfl) (by decide) rfl (fun ls hl => ?_)
        refine lv_goto (tgt := 24) hx hb dX11_laySetAt_99 (by decide) ?_
        exact ih24 x5_96 h _ _ _ hR (lv_sub hl [1, 2, 3, 4, 5, 0] rfl)
def fX11_laySetAt_l24 (fu : Nat) (a0 : Nat) (x1 : Int32) (x2 : Int32) (x3 : Int32) (x4 : Int32) (M : Mm) (x5 : Int32) : Option Mm := lp (fun (rec : Int32 → Option Mm) (s : Int32) => fX11_laySetAt_b24 fu  (fun x5 => rec (x5)) a0 x1 x2 x3 x4 s M) fu (x5)
set_option maxRecDepth 100000 in
set_option maxHeartbeats 4000000 in
theorem wX11_laySetAt_l24 {M' : Mm}   {a0 : Nat} {x1 : Int32} {x2 : Int32} {x3 : Int32} {x4 : Int32} {x5 : Int32} {M : Mm} (B : Bx p s m args c cX11_laySetAt 6 RX11 E L) (hr : meth.sig.returnType = none) (hlk : meth.locks = false)  (h0 : At L a0 T11) (h : fX11_laySetAt_l24 fu a0 x1 x2 x3 x4 M x5 = some M') (hR : Rx s E L M H locs) (hl : lv_has ls 6 [(0, .ref a0), (1, .int x1), (2, .int x2), (3, .int x3), (4, .int x4), (5, .int x5)]) : W p l e (rmD (d + 4)) s m args below meth c H locs 0 0 (MQ below (QcM E L none M') args s 0 0 E.2.2.2) (F0 m 24 ls []) := by
  refine lp_G (G := fun z : Int32 => ∀ (H : Heap) (locs : List Loc) (ls : Array Slot), Rx s E L M H locs → lv_has ls 6 [(0, .ref a0), (1, .int x1), (2, .int x2), (3, .int x3), (4, .int x4), (5, .int z)] → W p l e (rmD (d + 4)) s m args below meth c H locs 0 0 (MQ below (QcM E L none M') args s 0 0 E.2.2.2) (F0 m 24 ls [])) (fun rec ih z h H locs ls hR hl => ?_) fu _ h H locs ls hR hl
  exact wX11_laySetAt_b24 B hr hlk  (fun x5 h => ih (x5) h) h0 h hR hl
def fX11_laySetAt (fu : Nat) (a0 : Nat) (x1 : Int32) (x2 : Int32) (x3 : Int32) (M : Mm) : Option Mm :=
  bi (fX11_mostAt fu a0 x1 x2 x3 M) fun r_4 =>
  bi (fX11_rightIn fu a0 x1 x2 M) fun r_12 =>
  if r_12 = r_4 then
    some M
  else
    fX11_laySetAt_l24 fu a0 x1 x2 x3 r_4 M 0
set_option maxRecDepth 100000 in
set_option maxHeartbeats 4000000 in
theorem mX11_laySetAt {l : Launch} {E : Ge} {L : Lay} (fu d : Nat) {a0 : Nat} {x1 : Int32} {x2 : Int32} {x3 : Int32} {M : Mm} {M' : Mm}  (h0 : At L a0 T11) (h : fX11_laySetAt fu a0 x1 x2 x3 M = some M') : Ct l E L yX11_laySetAt cX11_laySetAt 6 none (d + 4) [.ref a0, .int x1, .int x2, .int x3] M none M' := by
  refine Ct.of (by decide) ?_
  intro p e s m below meth c hr hlk B hR
  have B : Bx p s m _ c cX11_laySetAt 6 RX11 E L := B
  have hx := B.1
  have hb := B.2.1
  have hl := lv_entry ([.ref a0, .int x1, .int x2, .int x3]) (n := 6) (Nat.le_of_ble_eq_true rfl)
  rw [lg_entry_eq]
  generalize (lg_sl ([.ref a0, .int x1, .int x2, .int x3]) ++ List.replicate (6 - (lg_sl ([.ref a0, .int x1, .int x2, .int x3])).length) Slot.unset).toArray = ls at hl ⊢
  have hl : lv_has ls 6 [(0, .ref a0), (1, .int x1), (2, .int x2), (3, .int x3)] := hl
  unfold fX11_laySetAt at h
  refine lv_aload_n hx hb dX11_laySetAt_0 rfl (lv_at hl 0 rfl) ?_
  refine lv_iload_n hx hb dX11_laySetAt_1 rfl (lv_at hl 1 rfl) ?_
  refine lv_iload_n hx hb dX11_laySetAt_2 rfl (lv_at hl 2 rfl) ?_
  refine lv_iload_n hx hb dX11_laySetAt_3 rfl (lv_at hl 3 rfl) ?_
  obtain ⟨r_4, hc_4, h⟩ := bi_el h
  refine iv_X11_413 B hR (h0.at0 rfl) hl.1 (mX11_mostAt fu _ h0 hc_4) (Nat.le_of_ble_eq_true rfl) dX11_laySetAt_4 (fun H locs hR => ?_)
  refine lv_istore (lv' := [(4, .int r_4), (0, .ref a0), (1, .int x1), (2, .int x2), (3, .int x3)]) hx hb dX11_laySetAt_7 hl (by decide) rfl (fun ls hl => ?_)
  refine lv_aload_n hx hb dX11_laySetAt_9 rfl (lv_at hl 1 rfl) ?_
  refine lv_iload_n hx hb dX11_laySetAt_10 rfl (lv_at hl 2 rfl) ?_
  refine lv_iload_n hx hb dX11_laySetAt_11 rfl (lv_at hl 3 rfl) ?_
  obtain ⟨r_12, hc_12, h⟩ := bi_el h
  refine iv_X11_394 B hR (h0.at0 rfl) hl.1 (mX11_rightIn fu _ h0 hc_12) (Nat.le_of_ble_eq_true rfl) dX11_laySetAt_12 (fun H locs hR => ?_)
  refine lv_iload hx hb dX11_laySetAt_15 (lv_at hl 0 rfl) ?_
  refine lv_icmp_ne (tgt := 21) hx hb dX11_laySetAt_17 (by decide) (fun c_17 => ?_) (fun c_17 => ?_)
  · rw [if_neg c_17] at h
    refine lv_iconst (v := 0) hx hb dX11_laySetAt_21 (by decide) ?_
    refine lv_istore (lv' := [(5, .int 0), (4, .int r_4), (0, .ref a0), (1, .int x1), (2, .int x2), (3, .int x3)]) hx hb dX11_laySetAt_22 hl (by decide) rfl (fun ls hl => ?_)
    exact wX11_laySetAt_l24 B hr hlk h0 h hR (lv_sub hl [2, 3, 4, 5, 1, 0] rfl)
  · rw [if_pos c_17] at h
    exact r_vretW B hR hr hlk h dX11_laySetAt_20
def fX11_laySet_j76 (fu : Nat) (M : Mm) : Option Mm :=
  some M
set_option maxRecDepth 100000 in
set_option maxHeartbeats 4000000 in
theorem wX11_laySet_j76 {M' : Mm}    {M : Mm} (B : Bx p s m args c cX11_laySet 2 RX11 E L) (hr : meth.sig.returnType = none) (hlk : meth.locks = false)   (h : fX11_laySet_j76 fu M = some M') (hR : Rx s E L M H locs) (hl : lv_has ls 2 []) : W p l e (rmD (d + 6)) s m args below meth c H locs 0 0 (MQ below (QcM E L none M') args s 0 0 E.2.2.2) (F0 m 76 ls []) := by
  have hx := B.1
  have hb := B.2.1
  unfold fX11_laySet_j76 at h
  exact r_vretW B hR hr hlk h dX11_laySet_76
def fX11_laySet_b25 (fu : Nat) (k25 : Mm → Option Mm) (a0 : Nat) (M : Mm) : Option Mm :=
  if (M.1 a0 32) ≤ 0 then
    fX11_laySet_j76 fu M
  else
    lt (wI M a0 32 ((M.1 a0 32) - 1)) fun M_39 =>
    if (M_39.1 a0 32) < 0 ∨ 4200 ≤ ix (M_39.1 a0 32) then none else
    bm (fX11_laySetAt fu a0 (M_39.1 (a0 + 12) (ix (M_39.1 a0 32))) (M_39.1 (a0 + 13) (ix (M_39.1 a0 32))) (M_39.1 (a0 + 19) (ix (M_39.1 a0 32))) M_39) fun M_70 =>
    k25 M_70
set_option maxRecDepth 100000 in
set_option maxHeartbeats 4000000 in
theorem wX11_laySet_b25 {M' : Mm}   {k25 : Mm → Option Mm} {a0 : Nat} {M : Mm} (B : Bx p s m args c cX11_laySet 2 RX11 E L) (hr : meth.sig.returnType = none) (hlk : meth.locks = false)  (ih25 : ∀ (M : Mm), k25 M = some M' → ∀ (H : Heap) (locs : List Loc) (ls : Array Slot), Rx s E L M H locs → lv_has ls 2 [(0, .ref a0)] → W p l e (rmD (d + 6)) s m args below meth c H locs 0 0 (MQ below (QcM E L none M') args s 0 0 E.2.2.2) (F0 m 25 ls [])) (h0 : At L a0 T11) (h : fX11_laySet_b25 fu k25 a0 M = some M') (hR : Rx s E L M H locs) (hl : lv_has ls 2 [(0, .ref a0)]) : W p l e (rmD (d + 6)) s m args below meth c H locs 0 0 (MQ below (QcM E L none M') args s 0 0 E.2.2.2) (F0 m 25 ls []) := by
  have hx := B.1
  have hb := B.2.1
  unfold fX11_laySet_b25 at h
  refine lv_aload_n hx hb dX11_laySet_25 rfl (lv_at hl 0 rfl) ?_
  refine gf_X11_347 B hR (h0.at0 rfl) dX11_laySet_26 ?_
  refine lv_if_le (tgt := 76) hx hb dX11_laySet_29 (by decide) (fun c_29 => ?_) (fun c_29 => ?_)
  · rw [if_pos c_29] at h
    exact wX11_laySet_j76 B hr hlk  h hR (lv_sub hl [] rfl)
  · rw [if_neg c_29] at h
    refine lv_aload_n hx hb dX11_laySet_32 rfl (lv_at hl 0 rfl) ?_
    refine lv_dup hx hb dX11_laySet_33 rfl ?_
    refine gf_X11_347 B hR (h0.at0 rfl) dX11_laySet_34 ?_
    refine lv_iconst (v := 1) hx hb dX11_laySet_37 (by decide) ?_
    refine lv_isub hx hb dX11_laySet_38 ?_
    obtain ⟨M_39, eM_39, h⟩ := lt_el h
    refine pf_X11_347 B hR (h0.at0 rfl) dX11_laySet_39 (fun H locs hR => ?_)
    rw [← eM_39] at hR
    refine lv_aload_n hx hb dX11_laySet_42 rfl (lv_at hl 0 rfl) ?_
    refine lv_aload_n hx hb dX11_laySet_43 rfl (lv_at hl 0 rfl) ?_
    refine gf_X11_48 B hR (h0.at0 rfl) dX11_laySet_44 ?_
    refine lv_aload_n hx hb dX11_laySet_47 rfl (lv_at hl 0 rfl) ?_
    refine gf_X11_347 B hR (h0.at0 rfl) dX11_laySet_48 ?_
    obtain ⟨hi_51, h⟩ := ifn_el h
    refine r_iald B hR (h0.at 12 rfl) hi_51 dX11_laySet_51 ?_
    refine lv_aload_n hx hb dX11_laySet_52 rfl (lv_at hl 0 rfl) ?_
    refine gf_X11_51 B hR (h0.at0 rfl) dX11_laySet_53 ?_
    refine lv_aload_n hx hb dX11_laySet_56 rfl (lv_at hl 0 rfl) ?_
    refine gf_X11_347 B hR (h0.at0 rfl) dX11_laySet_57 ?_
    refine r_iald B hR (h0.at 13 rfl) hi_51 dX11_laySet_60 ?_
    refine lv_aload_n hx hb dX11_laySet_61 rfl (lv_at hl 0 rfl) ?_
    refine gf_X11_70 B hR (h0.at0 rfl) dX11_laySet_62 ?_
    refine lv_aload_n hx hb dX11_laySet_65 rfl (lv_at hl 0 rfl) ?_
    refine gf_X11_347 B hR (h0.at0 rfl) dX11_laySet_66 ?_
    refine r_iald B hR (h0.at 19 rfl) hi_51 dX11_laySet_69 ?_
    obtain ⟨M_70, hc_70, h⟩ := bm_el h
    refine iv_X11_410 B hR (h0.at0 rfl) hl.1 (mX11_laySetAt fu _ h0 hc_70) (Nat.le_of_ble_eq_true rfl) dX11_laySet_70 (fun H locs hR => ?_)
    refine lv_goto (tgt := 25) hx hb dX11_laySet_73 (by decide) ?_
    exact ih25 M_70 h _ _ _ hR hl
def fX11_laySet_l25 (fu : Nat) (a0 : Nat) (M : Mm) : Option Mm := lp (fun (rec : Mm → Option Mm) (s : Mm) => fX11_laySet_b25 fu  (fun M => rec (M)) a0 s) fu (M)
set_option maxRecDepth 100000 in
set_option maxHeartbeats 4000000 in
theorem wX11_laySet_l25 {M' : Mm}   {a0 : Nat} {M : Mm} (B : Bx p s m args c cX11_laySet 2 RX11 E L) (hr : meth.sig.returnType = none) (hlk : meth.locks = false)  (h0 : At L a0 T11) (h : fX11_laySet_l25 fu a0 M = some M') (hR : Rx s E L M H locs) (hl : lv_has ls 2 [(0, .ref a0)]) : W p l e (rmD (d + 6)) s m args below meth c H locs 0 0 (MQ below (QcM E L none M') args s 0 0 E.2.2.2) (F0 m 25 ls []) := by
  refine lp_G (G := fun z : Mm => ∀ (H : Heap) (locs : List Loc) (ls : Array Slot), Rx s E L z H locs → lv_has ls 2 [(0, .ref a0)] → W p l e (rmD (d + 6)) s m args below meth c H locs 0 0 (MQ below (QcM E L none M') args s 0 0 E.2.2.2) (F0 m 25 ls [])) (fun rec ih z h H locs ls hR hl => ?_) fu _ h H locs ls hR hl
  exact wX11_laySet_b25 B hr hlk  (fun M h => ih (M) h) h0 h hR hl
def fX11_laySet (fu : Nat) (a0 : Nat) (x1 : Int32) (M : Mm) : Option Mm :=
  lt (wI M a0 33 0) fun M_2 =>
  lt (wI M_2 a0 32 0) fun M_7 =>
  bw (fX11_layAllMost fu a0 x1 M_7) fun r_12 M_12 =>
  if r_12 < 0 then
    fX11_laySet_l25 fu a0 M_12
  else
    bm (fX11_waitsWith fu a0 1 5 x1 M_12) fun M_22 =>
    fX11_laySet_l25 fu a0 M_22
set_option maxRecDepth 100000 in
set_option maxHeartbeats 4000000 in
theorem mX11_laySet {l : Launch} {E : Ge} {L : Lay} (fu d : Nat) {a0 : Nat} {x1 : Int32} {M : Mm} {M' : Mm}  (h0 : At L a0 T11) (h : fX11_laySet fu a0 x1 M = some M') : Ct l E L yX11_laySet cX11_laySet 2 none (d + 6) [.ref a0, .int x1] M none M' := by
  refine Ct.of (by decide) ?_
  intro p e s m below meth c hr hlk B hR
  have B : Bx p s m _ c cX11_laySet 2 RX11 E L := B
  have hx := B.1
  have hb := B.2.1
  have hl := lv_entry ([.ref a0, .int x1]) (n := 2) (Nat.le_of_ble_eq_true rfl)
  rw [lg_entry_eq]
  generalize (lg_sl ([.ref a0, .int x1]) ++ List.replicate (2 - (lg_sl ([.ref a0, .int x1])).length) Slot.unset).toArray = ls at hl ⊢
  have hl : lv_has ls 2 [(0, .ref a0), (1, .int x1)] := hl
  unfold fX11_laySet at h
  refine lv_aload_n hx hb dX11_laySet_0 rfl (lv_at hl 0 rfl) ?_
  refine lv_iconst (v := 0) hx hb dX11_laySet_1 (by decide) ?_
  obtain ⟨M_2, eM_2, h⟩ := lt_el h
  refine pf_X11_350 B hR (h0.at0 rfl) dX11_laySet_2 (fun H locs hR => ?_)
  rw [← eM_2] at hR
  refine lv_aload_n hx hb dX11_laySet_5 rfl (lv_at hl 0 rfl) ?_
  refine lv_iconst (v := 0) hx hb dX11_laySet_6 (by decide) ?_
  obtain ⟨M_7, eM_7, h⟩ := lt_el h
  refine pf_X11_347 B hR (h0.at0 rfl) dX11_laySet_7 (fun H locs hR => ?_)
  rw [← eM_7] at hR
  refine lv_aload_n hx hb dX11_laySet_10 rfl (lv_at hl 0 rfl) ?_
  refine lv_iload_n hx hb dX11_laySet_11 rfl (lv_at hl 1 rfl) ?_
  obtain ⟨r_12, M_12, hc_12, h⟩ := bw_el h
  refine iv_X11_404 B hR (h0.at0 rfl) hl.1 (mX11_layAllMost fu _ h0 hc_12) (Nat.le_of_ble_eq_true rfl) dX11_laySet_12 (fun H locs hR => ?_)
  refine lv_if_lt (tgt := 25) hx hb dX11_laySet_15 (by decide) (fun c_15 => ?_) (fun c_15 => ?_)
  · rw [if_pos c_15] at h
    exact wX11_laySet_l25 B hr hlk h0 h hR (lv_sub hl [0] rfl)
  · rw [if_neg c_15] at h
    refine lv_aload_n hx hb dX11_laySet_18 rfl (lv_at hl 0 rfl) ?_
    refine lv_iconst (v := 1) hx hb dX11_laySet_19 (by decide) ?_
    refine lv_iconst (v := 5) hx hb dX11_laySet_20 (by decide) ?_
    refine lv_iload_n hx hb dX11_laySet_21 rfl (lv_at hl 1 rfl) ?_
    obtain ⟨M_22, hc_22, h⟩ := bm_el h
    refine iv_X11_407 B hR (h0.at0 rfl) hl.1 (mX11_waitsWith fu _ h0 hc_22) (Nat.le_of_ble_eq_true rfl) dX11_laySet_22 (fun H locs hR => ?_)
    exact wX11_laySet_l25 B hr hlk h0 h hR (lv_sub hl [0] rfl)
def fX11_bestSet (fu : Nat) (a0 : Nat) (x1 : Int32) (x2 : Int32) (x3 : Int32) (M : Mm) : Option (Int32 × Mm) :=
  bi (fX11_isIn fu x1 0 10) fun r_4 =>
  if r_4 = 0 then
    some ((-1), M)
  else
    bm (fX11_laySet fu a0 x1 M) fun M_14 =>
    bi (fX11_blockOf fu a0 x2 x3 M_14) fun r_20 =>
    some (r_20, M_14)
set_option maxRecDepth 100000 in
set_option maxHeartbeats 4000000 in
theorem mX11_bestSet {l : Launch} {E : Ge} {L : Lay} (fu d : Nat) {a0 : Nat} {x1 : Int32} {x2 : Int32} {x3 : Int32} {M : Mm} {r : Int32} {M' : Mm}  (h0 : At L a0 T11) (h : fX11_bestSet fu a0 x1 x2 x3 M = some (r, M')) : Ct l E L yX11_bestSet cX11_bestSet 4 (some .int) (d + 7) [.ref a0, .int x1, .int x2, .int x3] M (some (.int r)) M' := by
  refine Ct.of (by decide) ?_
  intro p e s m below meth c hr hlk B hR
  have B : Bx p s m _ c cX11_bestSet 4 RX11 E L := B
  have hx := B.1
  have hb := B.2.1
  have hl := lv_entry ([.ref a0, .int x1, .int x2, .int x3]) (n := 4) (Nat.le_of_ble_eq_true rfl)
  rw [lg_entry_eq]
  generalize (lg_sl ([.ref a0, .int x1, .int x2, .int x3]) ++ List.replicate (4 - (lg_sl ([.ref a0, .int x1, .int x2, .int x3])).length) Slot.unset).toArray = ls at hl ⊢
  have hl : lv_has ls 4 [(0, .ref a0), (1, .int x1), (2, .int x2), (3, .int x3)] := hl
  unfold fX11_bestSet at h
  refine lv_iload_n hx hb dX11_bestSet_0 rfl (lv_at hl 1 rfl) ?_
  refine lv_iconst (v := 0) hx hb dX11_bestSet_1 (by decide) ?_
  refine lv_bipush (v := 10) hx hb dX11_bestSet_2 (by decide) ?_
  obtain ⟨r_4, hc_4, h⟩ := bi_el h
  refine is_X11_163 B hR hl.1 (mX11_isIn fu _  hc_4) (Nat.le_of_ble_eq_true rfl) dX11_bestSet_4 (fun H locs hR => ?_)
  refine lv_if_ne (tgt := 12) hx hb dX11_bestSet_7 (by decide) (fun c_7 => ?_) (fun c_7 => ?_)
  · rw [if_neg c_7] at h
    refine lv_aload_n hx hb dX11_bestSet_12 rfl (lv_at hl 0 rfl) ?_
    refine lv_iload_n hx hb dX11_bestSet_13 rfl (lv_at hl 1 rfl) ?_
    obtain ⟨M_14, hc_14, h⟩ := bm_el h
    refine iv_X11_417 B hR (h0.at0 rfl) hl.1 (mX11_laySet fu _ h0 hc_14) (Nat.le_of_ble_eq_true rfl) dX11_bestSet_14 (fun H locs hR => ?_)
    refine lv_aload_n hx hb dX11_bestSet_17 rfl (lv_at hl 0 rfl) ?_
    refine lv_iload_n hx hb dX11_bestSet_18 rfl (lv_at hl 2 rfl) ?_
    refine lv_iload_n hx hb dX11_bestSet_19 rfl (lv_at hl 3 rfl) ?_
    obtain ⟨r_20, hc_20, h⟩ := bi_el h
    refine iv_X11_373 B hR (h0.at0 rfl) hl.1 (mX11_blockOf fu _ h0 hc_20) (Nat.le_of_ble_eq_true rfl) dX11_bestSet_20 (fun H locs hR => ?_)
    exact r_iretW B hR hr hlk h dX11_bestSet_23
  · rw [if_pos c_7] at h
    refine lv_iconst (v := (-1)) hx hb dX11_bestSet_10 (by decide) ?_
    exact r_iretW B hR hr hlk h dX11_bestSet_11
def fX11_idle_j42 (fu : Nat) (M : Mm) : Option Int32 :=
  some 1
set_option maxRecDepth 100000 in
set_option maxHeartbeats 4000000 in
theorem wX11_idle_j42 {r : Int32}    {M : Mm} (B : Bx p s m args c cX11_idle 3 RX11 E L) (hr : meth.sig.returnType = (some .int)) (hlk : meth.locks = false)   (h : fX11_idle_j42 fu M = some r) (hR : Rx s E L M H locs) (hl : lv_has ls 3 []) : W p l e (rmD (d + 5)) s m args below meth c H locs 0 0 (MQ below (QcM E L (some (.int r)) M) args s 0 0 E.2.2.2) (F0 m 42 ls []) := by
  have hx := B.1
  have hb := B.2.1
  unfold fX11_idle_j42 at h
  refine lv_iconst (v := 1) hx hb dX11_idle_42 (by decide) ?_
  exact r_iretP B hR hr hlk h dX11_idle_43
def fX11_idle_j34 (fu : Nat) (M : Mm) : Option Int32 :=
  some 0
set_option maxRecDepth 100000 in
set_option maxHeartbeats 4000000 in
theorem wX11_idle_j34 {r : Int32}    {M : Mm} (B : Bx p s m args c cX11_idle 3 RX11 E L) (hr : meth.sig.returnType = (some .int)) (hlk : meth.locks = false)   (h : fX11_idle_j34 fu M = some r) (hR : Rx s E L M H locs) (hl : lv_has ls 3 []) : W p l e (rmD (d + 5)) s m args below meth c H locs 0 0 (MQ below (QcM E L (some (.int r)) M) args s 0 0 E.2.2.2) (F0 m 34 ls []) := by
  have hx := B.1
  have hb := B.2.1
  unfold fX11_idle_j34 at h
  refine lv_iconst (v := 0) hx hb dX11_idle_34 (by decide) ?_
  exact r_iretP B hR hr hlk h dX11_idle_35
def fX11_idle_b12 (fu : Nat) (k12 : Int32 → Option Int32) (a0 : Nat) (x1 : Int32) (x2 : Int32) (M : Mm) : Option Int32 :=
  bi (fX11_addresses fu a0 M) fun r_14 =>
  if r_14 ≤ x2 then
    fX11_idle_j42 fu M
  else
    bi (fX11_kindAt fu a0 x2 M) fun r_22 =>
    bi (fX11_kindWithout fu a0 x2 x1 M) fun r_28 =>
    if r_22 = r_28 then
      lt (x2 + 1) fun x2_36 =>
      k12 x2_36
    else
      fX11_idle_j34 fu M
set_option maxRecDepth 100000 in
set_option maxHeartbeats 4000000 in
theorem wX11_idle_b12 {r : Int32}   {k12 : Int32 → Option Int32} {a0 : Nat} {x1 : Int32} {x2 : Int32} {M : Mm} (B : Bx p s m args c cX11_idle 3 RX11 E L) (hr : meth.sig.returnType = (some .int)) (hlk : meth.locks = false)  (ih12 : ∀ (x2 : Int32), k12 x2 = some r → ∀ (H : Heap) (locs : List Loc) (ls : Array Slot), Rx s E L M H locs → lv_has ls 3 [(0, .ref a0), (1, .int x1), (2, .int x2)] → W p l e (rmD (d + 5)) s m args below meth c H locs 0 0 (MQ below (QcM E L (some (.int r)) M) args s 0 0 E.2.2.2) (F0 m 12 ls [])) (h0 : At L a0 T11) (h : fX11_idle_b12 fu k12 a0 x1 x2 M = some r) (hR : Rx s E L M H locs) (hl : lv_has ls 3 [(0, .ref a0), (1, .int x1), (2, .int x2)]) : W p l e (rmD (d + 5)) s m args below meth c H locs 0 0 (MQ below (QcM E L (some (.int r)) M) args s 0 0 E.2.2.2) (F0 m 12 ls []) := by
  have hx := B.1
  have hb := B.2.1
  unfold fX11_idle_b12 at h
  refine lv_iload_n hx hb dX11_idle_12 rfl (lv_at hl 2 rfl) ?_
  refine lv_aload_n hx hb dX11_idle_13 rfl (lv_at hl 0 rfl) ?_
  obtain ⟨r_14, hc_14, h⟩ := bi_el h
  refine iv_X11_240 B hR (h0.at0 rfl) hl.1 (mX11_addresses fu _ h0 hc_14) (Nat.le_of_ble_eq_true rfl) dX11_idle_14 (fun H locs hR => ?_)
  refine lv_icmp_ge (tgt := 42) hx hb dX11_idle_17 (by decide) (fun c_17 => ?_) (fun c_17 => ?_)
  · rw [if_pos c_17] at h
    exact wX11_idle_j42 B hr hlk  h hR (lv_sub hl [] rfl)
  · rw [if_neg c_17] at h
    refine lv_aload_n hx hb dX11_idle_20 rfl (lv_at hl 0 rfl) ?_
    refine lv_iload_n hx hb dX11_idle_21 rfl (lv_at hl 2 rfl) ?_
    obtain ⟨r_22, hc_22, h⟩ := bi_el h
    refine iv_X11_276 B hR (h0.at0 rfl) hl.1 (mX11_kindAt fu _ h0 hc_22) (Nat.le_of_ble_eq_true rfl) dX11_idle_22 (fun H locs hR => ?_)
    refine lv_aload_n hx hb dX11_idle_25 rfl (lv_at hl 0 rfl) ?_
    refine lv_iload_n hx hb dX11_idle_26 rfl (lv_at hl 2 rfl) ?_
    refine lv_iload_n hx hb dX11_idle_27 rfl (lv_at hl 1 rfl) ?_
    obtain ⟨r_28, hc_28, h⟩ := bi_el h
    refine iv_X11_270 B hR (h0.at0 rfl) hl.1 (mX11_kindWithout fu _ h0 hc_28) (Nat.le_of_ble_eq_true rfl) dX11_idle_28 (fun H locs hR => ?_)
    refine lv_icmp_eq (tgt := 36) hx hb dX11_idle_31 (by decide) (fun c_31 => ?_) (fun c_31 => ?_)
    · rw [if_pos c_31] at h
      obtain ⟨x2_36, ex2_36, h⟩ := lt_el h
      refine lv_iinc (v := x2_36) (lv' := [(2, .int x2_36), (0, .ref a0), (1, .int x1)]) hx hb dX11_idle_36 hl (k := 2) rfl (by rw [ex2_36]; rfl) (by decide) rfl (fun ls hl => ?_)
      refine lv_goto (tgt := 12) hx hb dX11_idle_39 (by decide) ?_
      exact ih12 x2_36 h _ _ _ hR (lv_sub hl [1, 2, 0] rfl)
    · rw [if_neg c_31] at h
      exact wX11_idle_j34 B hr hlk  h hR (lv_sub hl [] rfl)
def fX11_idle_l12 (fu : Nat) (a0 : Nat) (x1 : Int32) (M : Mm) (x2 : Int32) : Option Int32 := lp (fun (rec : Int32 → Option Int32) (s : Int32) => fX11_idle_b12 fu  (fun x2 => rec (x2)) a0 x1 s M) fu (x2)
set_option maxRecDepth 100000 in
set_option maxHeartbeats 4000000 in
theorem wX11_idle_l12 {r : Int32}   {a0 : Nat} {x1 : Int32} {x2 : Int32} {M : Mm} (B : Bx p s m args c cX11_idle 3 RX11 E L) (hr : meth.sig.returnType = (some .int)) (hlk : meth.locks = false)  (h0 : At L a0 T11) (h : fX11_idle_l12 fu a0 x1 M x2 = some r) (hR : Rx s E L M H locs) (hl : lv_has ls 3 [(0, .ref a0), (1, .int x1), (2, .int x2)]) : W p l e (rmD (d + 5)) s m args below meth c H locs 0 0 (MQ below (QcM E L (some (.int r)) M) args s 0 0 E.2.2.2) (F0 m 12 ls []) := by
  refine lp_G (G := fun z : Int32 => ∀ (H : Heap) (locs : List Loc) (ls : Array Slot), Rx s E L M H locs → lv_has ls 3 [(0, .ref a0), (1, .int x1), (2, .int z)] → W p l e (rmD (d + 5)) s m args below meth c H locs 0 0 (MQ below (QcM E L (some (.int r)) M) args s 0 0 E.2.2.2) (F0 m 12 ls [])) (fun rec ih z h H locs ls hR hl => ?_) fu _ h H locs ls hR hl
  exact wX11_idle_b12 B hr hlk  (fun x2 h => ih (x2) h) h0 h hR hl
def fX11_idle (fu : Nat) (a0 : Nat) (x1 : Int32) (M : Mm) : Option Int32 :=
  bi (fX11_isSet fu a0 x1 M) fun r_2 =>
  if r_2 = 0 then
    some (-1)
  else
    fX11_idle_l12 fu a0 x1 M 0
set_option maxRecDepth 100000 in
set_option maxHeartbeats 4000000 in
theorem mX11_idle {l : Launch} {E : Ge} {L : Lay} (fu d : Nat) {a0 : Nat} {x1 : Int32} {M : Mm} {r : Int32}  (h0 : At L a0 T11) (h : fX11_idle fu a0 x1 M = some r) : Ct l E L yX11_idle cX11_idle 3 (some .int) (d + 5) [.ref a0, .int x1] M (some (.int r)) M := by
  refine Ct.of (by decide) ?_
  intro p e s m below meth c hr hlk B hR
  have B : Bx p s m _ c cX11_idle 3 RX11 E L := B
  have hx := B.1
  have hb := B.2.1
  have hl := lv_entry ([.ref a0, .int x1]) (n := 3) (Nat.le_of_ble_eq_true rfl)
  rw [lg_entry_eq]
  generalize (lg_sl ([.ref a0, .int x1]) ++ List.replicate (3 - (lg_sl ([.ref a0, .int x1])).length) Slot.unset).toArray = ls at hl ⊢
  have hl : lv_has ls 3 [(0, .ref a0), (1, .int x1)] := hl
  unfold fX11_idle at h
  refine lv_aload_n hx hb dX11_idle_0 rfl (lv_at hl 0 rfl) ?_
  refine lv_iload_n hx hb dX11_idle_1 rfl (lv_at hl 1 rfl) ?_
  obtain ⟨r_2, hc_2, h⟩ := bi_el h
  refine iv_X11_294 B hR (h0.at0 rfl) hl.1 (mX11_isSet fu _ h0 hc_2) (Nat.le_of_ble_eq_true rfl) dX11_idle_2 (fun H locs hR => ?_)
  refine lv_if_ne (tgt := 10) hx hb dX11_idle_5 (by decide) (fun c_5 => ?_) (fun c_5 => ?_)
  · rw [if_neg c_5] at h
    refine lv_iconst (v := 0) hx hb dX11_idle_10 (by decide) ?_
    refine lv_istore_n (lv' := [(2, .int 0), (0, .ref a0), (1, .int x1)]) hx hb dX11_idle_11 rfl hl (by decide) rfl (fun ls hl => ?_)
    exact wX11_idle_l12 B hr hlk h0 h hR (lv_sub hl [1, 2, 0] rfl)
  · rw [if_pos c_5] at h
    refine lv_iconst (v := (-1)) hx hb dX11_idle_8 (by decide) ?_
    exact r_iretP B hR hr hlk h dX11_idle_9
def fX11_without_j71 (fu : Nat) (x2 : Int32) (M : Mm) : Option Int32 :=
  some x2
set_option maxRecDepth 100000 in
set_option maxHeartbeats 4000000 in
theorem wX11_without_j71 {r : Int32}   {x2 : Int32} {M : Mm} (B : Bx p s m args c cX11_without 4 RX11 E L) (hr : meth.sig.returnType = (some .int)) (hlk : meth.locks = false)   (h : fX11_without_j71 fu x2 M = some r) (hR : Rx s E L M H locs) (hl : lv_has ls 4 [(2, .int x2)]) : W p l e (rmD (d + 5)) s m args below meth c H locs 0 0 (MQ below (QcM E L (some (.int r)) M) args s 0 0 E.2.2.2) (F0 m 71 ls []) := by
  have hx := B.1
  have hb := B.2.1
  unfold fX11_without_j71 at h
  refine lv_iload_n hx hb dX11_without_71 rfl (lv_at hl 0 rfl) ?_
  exact r_iretP B hR hr hlk h dX11_without_72
def fX11_without_j62 (fu : Nat) (k16 : Int32 → Int32 → Option Int32) (a0 : Nat) (x1 : Int32) (x3 : Int32) (t0 : Int32) (t1 : Int32) (t2 : Int32) (M : Mm) : Option Int32 :=
  lt ((t0 + (t1 - t2))) fun x2_64 =>
  lt (x3 + 1) fun x3_65 =>
  k16 x2_64 x3_65
set_option maxRecDepth 100000 in
set_option maxHeartbeats 4000000 in
theorem wX11_without_j62 {r : Int32}  {k16 : Int32 → Int32 → Option Int32} {a0 : Nat} {x1 : Int32} {x3 : Int32} {t0 : Int32} {t1 : Int32} {t2 : Int32} {M : Mm} (B : Bx p s m args c cX11_without 4 RX11 E L) (hr : meth.sig.returnType = (some .int)) (hlk : meth.locks = false) (ih16 : ∀ (x2 : Int32) (x3 : Int32), k16 x2 x3 = some r → ∀ (H : Heap) (locs : List Loc) (ls : Array Slot), Rx s E L M H locs → lv_has ls 4 [(0, .ref a0), (1, .int x1), (2, .int x2), (3, .int x3)] → W p l e (rmD (d + 5)) s m args below meth c H locs 0 0 (MQ below (QcM E L (some (.int r)) M) args s 0 0 E.2.2.2) (F0 m 16 ls [])) (h0 : At L a0 T11) (h : fX11_without_j62 fu k16 a0 x1 x3 t0 t1 t2 M = some r) (hR : Rx s E L M H locs) (hl : lv_has ls 4 [(0, .ref a0), (1, .int x1), (3, .int x3)]) : W p l e (rmD (d + 5)) s m args below meth c H locs 0 0 (MQ below (QcM E L (some (.int r)) M) args s 0 0 E.2.2.2) (F0 m 62 ls [.int t2, .int t1, .int t0]) := by
  have hx := B.1
  have hb := B.2.1
  unfold fX11_without_j62 at h
  refine lv_isub hx hb dX11_without_62 ?_
  refine lv_iadd hx hb dX11_without_63 ?_
  obtain ⟨x2_64, ex2_64, h⟩ := lt_el h
  refine r_nmI ex2_64 ?_
  refine lv_istore_n (lv' := [(2, .int x2_64), (0, .ref a0), (1, .int x1), (3, .int x3)]) hx hb dX11_without_64 rfl hl (by decide) rfl (fun ls hl => ?_)
  obtain ⟨x3_65, ex3_65, h⟩ := lt_el h
  refine lv_iinc (v := x3_65) (lv' := [(3, .int x3_65), (2, .int x2_64), (0, .ref a0), (1, .int x1)]) hx hb dX11_without_65 hl (k := 3) rfl (by rw [ex3_65]; rfl) (by decide) rfl (fun ls hl => ?_)
  refine lv_goto (tgt := 16) hx hb dX11_without_68 (by decide) ?_
  exact ih16 x2_64 x3_65 h _ _ _ hR (lv_sub hl [2, 3, 1, 0] rfl)
def fX11_without_j44 (fu : Nat) (k16 : Int32 → Int32 → Option Int32) (a0 : Nat) (x1 : Int32) (x3 : Int32) (t0 : Int32) (t1 : Int32) (M : Mm) : Option Int32 :=
  bi (fX11_kindAt fu a0 x3 M) fun r_46 =>
  bi (fX11_wantedAt fu a0 x3 M) fun r_51 =>
  if r_46 = r_51 then
    fX11_without_j62 fu k16 a0 x1 x3 t0 t1 1 M
  else
    fX11_without_j62 fu k16 a0 x1 x3 t0 t1 0 M
set_option maxRecDepth 100000 in
set_option maxHeartbeats 4000000 in
theorem wX11_without_j44 {r : Int32}  {k16 : Int32 → Int32 → Option Int32} {a0 : Nat} {x1 : Int32} {x3 : Int32} {t0 : Int32} {t1 : Int32} {M : Mm} (B : Bx p s m args c cX11_without 4 RX11 E L) (hr : meth.sig.returnType = (some .int)) (hlk : meth.locks = false) (ih16 : ∀ (x2 : Int32) (x3 : Int32), k16 x2 x3 = some r → ∀ (H : Heap) (locs : List Loc) (ls : Array Slot), Rx s E L M H locs → lv_has ls 4 [(0, .ref a0), (1, .int x1), (2, .int x2), (3, .int x3)] → W p l e (rmD (d + 5)) s m args below meth c H locs 0 0 (MQ below (QcM E L (some (.int r)) M) args s 0 0 E.2.2.2) (F0 m 16 ls [])) (h0 : At L a0 T11) (h : fX11_without_j44 fu k16 a0 x1 x3 t0 t1 M = some r) (hR : Rx s E L M H locs) (hl : lv_has ls 4 [(0, .ref a0), (1, .int x1), (3, .int x3)]) : W p l e (rmD (d + 5)) s m args below meth c H locs 0 0 (MQ below (QcM E L (some (.int r)) M) args s 0 0 E.2.2.2) (F0 m 44 ls [.int t1, .int t0]) := by
  have hx := B.1
  have hb := B.2.1
  unfold fX11_without_j44 at h
  refine lv_aload_n hx hb dX11_without_44 rfl (lv_at hl 0 rfl) ?_
  refine lv_iload_n hx hb dX11_without_45 rfl (lv_at hl 2 rfl) ?_
  obtain ⟨r_46, hc_46, h⟩ := bi_el h
  refine iv_X11_276 B hR (h0.at0 rfl) hl.1 (mX11_kindAt fu _ h0 hc_46) (Nat.le_of_ble_eq_true rfl) dX11_without_46 (fun H locs hR => ?_)
  refine lv_aload_n hx hb dX11_without_49 rfl (lv_at hl 0 rfl) ?_
  refine lv_iload_n hx hb dX11_without_50 rfl (lv_at hl 2 rfl) ?_
  obtain ⟨r_51, hc_51, h⟩ := bi_el h
  refine iv_X11_285 B hR (h0.at0 rfl) hl.1 (mX11_wantedAt fu _ h0 hc_51) (Nat.le_of_ble_eq_true rfl) dX11_without_51 (fun H locs hR => ?_)
  refine lv_icmp_ne (tgt := 61) hx hb dX11_without_54 (by decide) (fun c_54 => ?_) (fun c_54 => ?_)
  · rw [if_neg c_54] at h
    refine lv_iconst (v := 0) hx hb dX11_without_61 (by decide) ?_
    exact wX11_without_j62 B hr hlk ih16 h0 h hR hl
  · rw [if_pos c_54] at h
    refine lv_iconst (v := 1) hx hb dX11_without_57 (by decide) ?_
    refine lv_goto (tgt := 62) hx hb dX11_without_58 (by decide) ?_
    exact wX11_without_j62 B hr hlk ih16 h0 h hR hl
def fX11_without_b16 (fu : Nat) (k16 : Int32 → Int32 → Option Int32) (a0 : Nat) (x1 : Int32) (x2 : Int32) (x3 : Int32) (M : Mm) : Option Int32 :=
  bi (fX11_addresses fu a0 M) fun r_18 =>
  if r_18 ≤ x3 then
    fX11_without_j71 fu x2 M
  else
    bi (fX11_kindWithout fu a0 x3 x1 M) fun r_28 =>
    bi (fX11_wantedAt fu a0 x3 M) fun r_33 =>
    if r_28 = r_33 then
      fX11_without_j44 fu k16 a0 x1 x3 x2 1 M
    else
      fX11_without_j44 fu k16 a0 x1 x3 x2 0 M
set_option maxRecDepth 100000 in
set_option maxHeartbeats 4000000 in
theorem wX11_without_b16 {r : Int32}   {k16 : Int32 → Int32 → Option Int32} {a0 : Nat} {x1 : Int32} {x2 : Int32} {x3 : Int32} {M : Mm} (B : Bx p s m args c cX11_without 4 RX11 E L) (hr : meth.sig.returnType = (some .int)) (hlk : meth.locks = false)  (ih16 : ∀ (x2 : Int32) (x3 : Int32), k16 x2 x3 = some r → ∀ (H : Heap) (locs : List Loc) (ls : Array Slot), Rx s E L M H locs → lv_has ls 4 [(0, .ref a0), (1, .int x1), (2, .int x2), (3, .int x3)] → W p l e (rmD (d + 5)) s m args below meth c H locs 0 0 (MQ below (QcM E L (some (.int r)) M) args s 0 0 E.2.2.2) (F0 m 16 ls [])) (h0 : At L a0 T11) (h : fX11_without_b16 fu k16 a0 x1 x2 x3 M = some r) (hR : Rx s E L M H locs) (hl : lv_has ls 4 [(0, .ref a0), (1, .int x1), (2, .int x2), (3, .int x3)]) : W p l e (rmD (d + 5)) s m args below meth c H locs 0 0 (MQ below (QcM E L (some (.int r)) M) args s 0 0 E.2.2.2) (F0 m 16 ls []) := by
  have hx := B.1
  have hb := B.2.1
  unfold fX11_without_b16 at h
  refine lv_iload_n hx hb dX11_without_16 rfl (lv_at hl 3 rfl) ?_
  refine lv_aload_n hx hb dX11_without_17 rfl (lv_at hl 0 rfl) ?_
  obtain ⟨r_18, hc_18, h⟩ := bi_el h
  refine iv_X11_240 B hR (h0.at0 rfl) hl.1 (mX11_addresses fu _ h0 hc_18) (Nat.le_of_ble_eq_true rfl) dX11_without_18 (fun H locs hR => ?_)
  refine lv_icmp_ge (tgt := 71) hx hb dX11_without_21 (by decide) (fun c_21 => ?_) (fun c_21 => ?_)
  · rw [if_pos c_21] at h
    exact wX11_without_j71 B hr hlk  h hR (lv_sub hl [2] rfl)
  · rw [if_neg c_21] at h
    refine lv_iload_n hx hb dX11_without_24 rfl (lv_at hl 2 rfl) ?_
    refine lv_aload_n hx hb dX11_without_25 rfl (lv_at hl 0 rfl) ?_
    refine lv_iload_n hx hb dX11_without_26 rfl (lv_at hl 3 rfl) ?_
    refine lv_iload_n hx hb dX11_without_27 rfl (lv_at hl 1 rfl) ?_
    obtain ⟨r_28, hc_28, h⟩ := bi_el h
    refine iv_X11_270 B hR (h0.at0 rfl) hl.1 (mX11_kindWithout fu _ h0 hc_28) (Nat.le_of_ble_eq_true rfl) dX11_without_28 (fun H locs hR => ?_)
    refine lv_aload_n hx hb dX11_without_31 rfl (lv_at hl 0 rfl) ?_
    refine lv_iload_n hx hb dX11_without_32 rfl (lv_at hl 3 rfl) ?_
    obtain ⟨r_33, hc_33, h⟩ := bi_el h
    refine iv_X11_285 B hR (h0.at0 rfl) hl.1 (mX11_wantedAt fu _ h0 hc_33) (Nat.le_of_ble_eq_true rfl) dX11_without_33 (fun H locs hR => ?_)
    refine lv_icmp_ne (tgt := 43) hx hb dX11_without_36 (by decide) (fun c_36 => ?_) (fun c_36 => ?_)
    · rw [if_neg c_36] at h
      refine lv_iconst (v := 0) hx hb dX11_without_43 (by decide) ?_
      exact wX11_without_j44 B hr hlk ih16 h0 h hR (lv_sub hl [0, 1, 3] rfl)
    · rw [if_pos c_36] at h
      refine lv_iconst (v := 1) hx hb dX11_without_39 (by decide) ?_
      refine lv_goto (tgt := 44) hx hb dX11_without_40 (by decide) ?_
      exact wX11_without_j44 B hr hlk ih16 h0 h hR (lv_sub hl [0, 1, 3] rfl)
def fX11_without_l16 (fu : Nat) (a0 : Nat) (x1 : Int32) (M : Mm) (x2 : Int32) (x3 : Int32) : Option Int32 := lp (fun (rec : (Int32 × Int32) → Option Int32) (s : Int32 × Int32) => fX11_without_b16 fu  (fun x2 x3 => rec (x2, x3)) a0 x1 s.1 s.2 M) fu (x2, x3)
set_option maxRecDepth 100000 in
set_option maxHeartbeats 4000000 in
theorem wX11_without_l16 {r : Int32}   {a0 : Nat} {x1 : Int32} {x2 : Int32} {x3 : Int32} {M : Mm} (B : Bx p s m args c cX11_without 4 RX11 E L) (hr : meth.sig.returnType = (some .int)) (hlk : meth.locks = false)  (h0 : At L a0 T11) (h : fX11_without_l16 fu a0 x1 M x2 x3 = some r) (hR : Rx s E L M H locs) (hl : lv_has ls 4 [(0, .ref a0), (1, .int x1), (2, .int x2), (3, .int x3)]) : W p l e (rmD (d + 5)) s m args below meth c H locs 0 0 (MQ below (QcM E L (some (.int r)) M) args s 0 0 E.2.2.2) (F0 m 16 ls []) := by
  refine lp_G (G := fun z : Int32 × Int32 => ∀ (H : Heap) (locs : List Loc) (ls : Array Slot), Rx s E L M H locs → lv_has ls 4 [(0, .ref a0), (1, .int x1), (2, .int z.1), (3, .int z.2)] → W p l e (rmD (d + 5)) s m args below meth c H locs 0 0 (MQ below (QcM E L (some (.int r)) M) args s 0 0 E.2.2.2) (F0 m 16 ls [])) (fun rec ih z h H locs ls hR hl => ?_) fu _ h H locs ls hR hl
  exact wX11_without_b16 B hr hlk  (fun x2 x3 h => ih (x2, x3) h) h0 h hR hl
def fX11_without (fu : Nat) (a0 : Nat) (x1 : Int32) (M : Mm) : Option Int32 :=
  bi (fX11_isSet fu a0 x1 M) fun r_2 =>
  if r_2 = 0 then
    some (-2000)
  else
    fX11_without_l16 fu a0 x1 M 0 0
set_option maxRecDepth 100000 in
set_option maxHeartbeats 4000000 in
theorem mX11_without {l : Launch} {E : Ge} {L : Lay} (fu d : Nat) {a0 : Nat} {x1 : Int32} {M : Mm} {r : Int32}  (h0 : At L a0 T11) (h : fX11_without fu a0 x1 M = some r) : Ct l E L yX11_without cX11_without 4 (some .int) (d + 5) [.ref a0, .int x1] M (some (.int r)) M := by
  refine Ct.of (by decide) ?_
  intro p e s m below meth c hr hlk B hR
  have B : Bx p s m _ c cX11_without 4 RX11 E L := B
  have hx := B.1
  have hb := B.2.1
  have hl := lv_entry ([.ref a0, .int x1]) (n := 4) (Nat.le_of_ble_eq_true rfl)
  rw [lg_entry_eq]
  generalize (lg_sl ([.ref a0, .int x1]) ++ List.replicate (4 - (lg_sl ([.ref a0, .int x1])).length) Slot.unset).toArray = ls at hl ⊢
  have hl : lv_has ls 4 [(0, .ref a0), (1, .int x1)] := hl
  unfold fX11_without at h
  refine lv_aload_n hx hb dX11_without_0 rfl (lv_at hl 0 rfl) ?_
  refine lv_iload_n hx hb dX11_without_1 rfl (lv_at hl 1 rfl) ?_
  obtain ⟨r_2, hc_2, h⟩ := bi_el h
  refine iv_X11_294 B hR (h0.at0 rfl) hl.1 (mX11_isSet fu _ h0 hc_2) (Nat.le_of_ble_eq_true rfl) dX11_without_2 (fun H locs hR => ?_)
  refine lv_if_ne (tgt := 12) hx hb dX11_without_5 (by decide) (fun c_5 => ?_) (fun c_5 => ?_)
  · rw [if_neg c_5] at h
    refine lv_iconst (v := 0) hx hb dX11_without_12 (by decide) ?_
    refine lv_istore_n (lv' := [(2, .int 0), (0, .ref a0), (1, .int x1)]) hx hb dX11_without_13 rfl hl (by decide) rfl (fun ls hl => ?_)
    refine lv_iconst (v := 0) hx hb dX11_without_14 (by decide) ?_
    refine lv_istore_n (lv' := [(3, .int 0), (2, .int 0), (0, .ref a0), (1, .int x1)]) hx hb dX11_without_15 rfl hl (by decide) rfl (fun ls hl => ?_)
    exact wX11_without_l16 B hr hlk h0 h hR (lv_sub hl [2, 3, 1, 0] rfl)
  · rw [if_pos c_5] at h
    refine lv_sipush (v := (-2000)) hx hb dX11_without_8 (by decide) ?_
    exact r_iretP B hR hr hlk h dX11_without_11
end G23_model2_lean_txt
