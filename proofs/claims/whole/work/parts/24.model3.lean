theorem dX11_isTaken_0 : decode cX11_isTaken 0 = .ok (.iconst 0, 1) := by decide +kernel
theorem dX11_isTaken_1 : decode cX11_isTaken 1 = .ok (.istore 4, 2) := by decide +kernel
theorem dX11_isTaken_3 : decode cX11_isTaken 3 = .ok (.iload 4, 2) := by decide +kernel
theorem dX11_isTaken_5 : decode cX11_isTaken 5 = .ok (.aload_n 0, 1) := by decide +kernel
theorem dX11_isTaken_6 : decode cX11_isTaken 6 = .ok (.invokevirtual 243, 3) := by decide +kernel
theorem dX11_isTaken_9 : decode cX11_isTaken 9 = .ok (.if_icmp .ge 37, 3) := by decide +kernel
theorem dX11_isTaken_12 : decode cX11_isTaken 12 = .ok (.iload 4, 2) := by decide +kernel
theorem dX11_isTaken_14 : decode cX11_isTaken 14 = .ok (.iload_n 3, 1) := by decide +kernel
theorem dX11_isTaken_15 : decode cX11_isTaken 15 = .ok (.if_icmp .eq 25, 3) := by decide +kernel
theorem dX11_isTaken_18 : decode cX11_isTaken 18 = .ok (.aload_n 0, 1) := by decide +kernel
theorem dX11_isTaken_19 : decode cX11_isTaken 19 = .ok (.iload 4, 2) := by decide +kernel
theorem dX11_isTaken_21 : decode cX11_isTaken 21 = .ok (.invokevirtual 249, 3) := by decide +kernel
theorem dX11_isTaken_24 : decode cX11_isTaken 24 = .ok (.iload_n 2, 1) := by decide +kernel
theorem dX11_isTaken_25 : decode cX11_isTaken 25 = .ok (.if_icmp .ne 15, 3) := by decide +kernel
theorem dX11_isTaken_28 : decode cX11_isTaken 28 = .ok (.aload_n 0, 1) := by decide +kernel
theorem dX11_isTaken_29 : decode cX11_isTaken 29 = .ok (.iload 4, 2) := by decide +kernel
theorem dX11_isTaken_31 : decode cX11_isTaken 31 = .ok (.invokevirtual 252, 3) := by decide +kernel
theorem dX11_isTaken_34 : decode cX11_isTaken 34 = .ok (.iload_n 1, 1) := by decide +kernel
theorem dX11_isTaken_35 : decode cX11_isTaken 35 = .ok (.if_icmp .ne 5, 3) := by decide +kernel
theorem dX11_isTaken_38 : decode cX11_isTaken 38 = .ok (.iconst 1, 1) := by decide +kernel
theorem dX11_isTaken_39 : decode cX11_isTaken 39 = .ok (.ireturn, 1) := by decide +kernel
theorem dX11_isTaken_40 : decode cX11_isTaken 40 = .ok (.iinc 4 1, 3) := by decide +kernel
theorem dX11_isTaken_43 : decode cX11_isTaken 43 = .ok (.goto (-40), 3) := by decide +kernel
theorem dX11_isTaken_46 : decode cX11_isTaken 46 = .ok (.iconst 0, 1) := by decide +kernel
theorem dX11_isTaken_47 : decode cX11_isTaken 47 = .ok (.ireturn, 1) := by decide +kernel
theorem dX11_gain_0 : decode cX11_gain 0 = .ok (.iconst 0, 1) := by decide +kernel
theorem dX11_gain_1 : decode cX11_gain 1 = .ok (.istore 4, 2) := by decide +kernel
theorem dX11_gain_3 : decode cX11_gain 3 = .ok (.iload_n 1, 1) := by decide +kernel
theorem dX11_gain_4 : decode cX11_gain 4 = .ok (.istore 5, 2) := by decide +kernel
theorem dX11_gain_6 : decode cX11_gain 6 = .ok (.iload 5, 2) := by decide +kernel
theorem dX11_gain_8 : decode cX11_gain 8 = .ok (.iload_n 1, 1) := by decide +kernel
theorem dX11_gain_9 : decode cX11_gain 9 = .ok (.iload_n 2, 1) := by decide +kernel
theorem dX11_gain_10 : decode cX11_gain 10 = .ok (.iadd, 1) := by decide +kernel
theorem dX11_gain_11 : decode cX11_gain 11 = .ok (.if_icmp .ge 73, 3) := by decide +kernel
theorem dX11_gain_14 : decode cX11_gain 14 = .ok (.aload_n 0, 1) := by decide +kernel
theorem dX11_gain_15 : decode cX11_gain 15 = .ok (.iload 5, 2) := by decide +kernel
theorem dX11_gain_17 : decode cX11_gain 17 = .ok (.invokevirtual 255, 3) := by decide +kernel
theorem dX11_gain_20 : decode cX11_gain 20 = .ok (.ifCond .ne 58, 3) := by decide +kernel
theorem dX11_gain_23 : decode cX11_gain 23 = .ok (.iload 4, 2) := by decide +kernel
theorem dX11_gain_25 : decode cX11_gain 25 = .ok (.aload_n 0, 1) := by decide +kernel
theorem dX11_gain_26 : decode cX11_gain 26 = .ok (.aload_n 0, 1) := by decide +kernel
theorem dX11_gain_27 : decode cX11_gain 27 = .ok (.iload 5, 2) := by decide +kernel
theorem dX11_gain_29 : decode cX11_gain 29 = .ok (.iconst (-1), 1) := by decide +kernel
theorem dX11_gain_30 : decode cX11_gain 30 = .ok (.invokevirtual 258, 3) := by decide +kernel
theorem dX11_gain_33 : decode cX11_gain 33 = .ok (.iconst 1, 1) := by decide +kernel
theorem dX11_gain_34 : decode cX11_gain 34 = .ok (.iload_n 3, 1) := by decide +kernel
theorem dX11_gain_35 : decode cX11_gain 35 = .ok (.ishl, 1) := by decide +kernel
theorem dX11_gain_36 : decode cX11_gain 36 = .ok (.ior, 1) := by decide +kernel
theorem dX11_gain_37 : decode cX11_gain 37 = .ok (.invokevirtual 261, 3) := by decide +kernel
theorem dX11_gain_40 : decode cX11_gain 40 = .ok (.aload_n 0, 1) := by decide +kernel
theorem dX11_gain_41 : decode cX11_gain 41 = .ok (.iload 5, 2) := by decide +kernel
theorem dX11_gain_43 : decode cX11_gain 43 = .ok (.invokevirtual 285, 3) := by decide +kernel
theorem dX11_gain_46 : decode cX11_gain 46 = .ok (.if_icmp .ne 7, 3) := by decide +kernel
theorem dX11_gain_49 : decode cX11_gain 49 = .ok (.iconst 1, 1) := by decide +kernel
theorem dX11_gain_50 : decode cX11_gain 50 = .ok (.goto 4, 3) := by decide +kernel
theorem dX11_gain_53 : decode cX11_gain 53 = .ok (.iconst 0, 1) := by decide +kernel
theorem dX11_gain_54 : decode cX11_gain 54 = .ok (.aload_n 0, 1) := by decide +kernel
theorem dX11_gain_55 : decode cX11_gain 55 = .ok (.iload 5, 2) := by decide +kernel
theorem dX11_gain_57 : decode cX11_gain 57 = .ok (.invokevirtual 276, 3) := by decide +kernel
theorem dX11_gain_60 : decode cX11_gain 60 = .ok (.aload_n 0, 1) := by decide +kernel
theorem dX11_gain_61 : decode cX11_gain 61 = .ok (.iload 5, 2) := by decide +kernel
theorem dX11_gain_63 : decode cX11_gain 63 = .ok (.invokevirtual 285, 3) := by decide +kernel
theorem dX11_gain_66 : decode cX11_gain 66 = .ok (.if_icmp .ne 7, 3) := by decide +kernel
theorem dX11_gain_69 : decode cX11_gain 69 = .ok (.iconst 1, 1) := by decide +kernel
theorem dX11_gain_70 : decode cX11_gain 70 = .ok (.goto 4, 3) := by decide +kernel
theorem dX11_gain_73 : decode cX11_gain 73 = .ok (.iconst 0, 1) := by decide +kernel
theorem dX11_gain_74 : decode cX11_gain 74 = .ok (.isub, 1) := by decide +kernel
theorem dX11_gain_75 : decode cX11_gain 75 = .ok (.iadd, 1) := by decide +kernel
theorem dX11_gain_76 : decode cX11_gain 76 = .ok (.istore 4, 2) := by decide +kernel
theorem dX11_gain_78 : decode cX11_gain 78 = .ok (.iinc 5 1, 3) := by decide +kernel
theorem dX11_gain_81 : decode cX11_gain 81 = .ok (.goto (-75), 3) := by decide +kernel
theorem dX11_gain_84 : decode cX11_gain 84 = .ok (.iload 4, 2) := by decide +kernel
theorem dX11_gain_86 : decode cX11_gain 86 = .ok (.ireturn, 1) := by decide +kernel
theorem dX11_besides_0 : decode cX11_besides 0 = .ok (.iconst 0, 1) := by decide +kernel
theorem dX11_besides_1 : decode cX11_besides 1 = .ok (.iload_n 1, 1) := by decide +kernel
theorem dX11_besides_2 : decode cX11_besides 2 = .ok (.aload_n 0, 1) := by decide +kernel
theorem dX11_besides_3 : decode cX11_besides 3 = .ok (.invokevirtual 240, 3) := by decide +kernel
theorem dX11_besides_6 : decode cX11_besides 6 = .ok (.invokestatic 222, 3) := by decide +kernel
theorem dX11_besides_9 : decode cX11_besides 9 = .ok (.ifCond .eq 19, 3) := by decide +kernel
theorem dX11_besides_12 : decode cX11_besides 12 = .ok (.iload_n 2, 1) := by decide +kernel
theorem dX11_besides_13 : decode cX11_besides 13 = .ok (.invokestatic 306, 3) := by decide +kernel
theorem dX11_besides_16 : decode cX11_besides 16 = .ok (.ifCond .eq 12, 3) := by decide +kernel
theorem dX11_besides_19 : decode cX11_besides 19 = .ok (.iload_n 3, 1) := by decide +kernel
theorem dX11_besides_20 : decode cX11_besides 20 = .ok (.iconst 0, 1) := by decide +kernel
theorem dX11_besides_21 : decode cX11_besides 21 = .ok (.iconst 1, 1) := by decide +kernel
theorem dX11_besides_22 : decode cX11_besides 22 = .ok (.invokestatic 163, 3) := by decide +kernel
theorem dX11_besides_25 : decode cX11_besides 25 = .ok (.ifCond .ne 7, 3) := by decide +kernel
theorem dX11_besides_28 : decode cX11_besides 28 = .ok (.sipush (-2000), 3) := by decide +kernel
theorem dX11_besides_31 : decode cX11_besides 31 = .ok (.ireturn, 1) := by decide +kernel
theorem dX11_besides_32 : decode cX11_besides 32 = .ok (.iconst (-1), 1) := by decide +kernel
theorem dX11_besides_33 : decode cX11_besides 33 = .ok (.istore 4, 2) := by decide +kernel
theorem dX11_besides_35 : decode cX11_besides 35 = .ok (.iconst 0, 1) := by decide +kernel
theorem dX11_besides_36 : decode cX11_besides 36 = .ok (.istore 5, 2) := by decide +kernel
theorem dX11_besides_38 : decode cX11_besides 38 = .ok (.iconst 0, 1) := by decide +kernel
theorem dX11_besides_39 : decode cX11_besides 39 = .ok (.istore 6, 2) := by decide +kernel
theorem dX11_besides_41 : decode cX11_besides 41 = .ok (.iload 6, 2) := by decide +kernel
theorem dX11_besides_43 : decode cX11_besides 43 = .ok (.aload_n 0, 1) := by decide +kernel
theorem dX11_besides_44 : decode cX11_besides 44 = .ok (.invokevirtual 240, 3) := by decide +kernel
theorem dX11_besides_47 : decode cX11_besides 47 = .ok (.if_icmp .ge 59, 3) := by decide +kernel
theorem dX11_besides_50 : decode cX11_besides 50 = .ok (.aload_n 0, 1) := by decide +kernel
theorem dX11_besides_51 : decode cX11_besides 51 = .ok (.iload 6, 2) := by decide +kernel
theorem dX11_besides_53 : decode cX11_besides 53 = .ok (.iload_n 1, 1) := by decide +kernel
theorem dX11_besides_54 : decode cX11_besides 54 = .ok (.iconst (-1), 1) := by decide +kernel
theorem dX11_besides_55 : decode cX11_besides 55 = .ok (.invokevirtual 420, 3) := by decide +kernel
theorem dX11_besides_58 : decode cX11_besides 58 = .ok (.ifCond .eq 6, 3) := by decide +kernel
theorem dX11_besides_61 : decode cX11_besides 61 = .ok (.goto 36, 3) := by decide +kernel
theorem dX11_besides_64 : decode cX11_besides 64 = .ok (.aload_n 0, 1) := by decide +kernel
theorem dX11_besides_65 : decode cX11_besides 65 = .ok (.iload 6, 2) := by decide +kernel
theorem dX11_besides_67 : decode cX11_besides 67 = .ok (.iload_n 1, 1) := by decide +kernel
theorem dX11_besides_68 : decode cX11_besides 68 = .ok (.iload_n 2, 1) := by decide +kernel
theorem dX11_besides_69 : decode cX11_besides 69 = .ok (.invokevirtual 423, 3) := by decide +kernel
theorem dX11_besides_72 : decode cX11_besides 72 = .ok (.istore 7, 2) := by decide +kernel
theorem dX11_besides_74 : decode cX11_besides 74 = .ok (.iload 4, 2) := by decide +kernel
theorem dX11_besides_76 : decode cX11_besides 76 = .ok (.ifCond .lt 13, 3) := by decide +kernel
theorem dX11_besides_79 : decode cX11_besides 79 = .ok (.iload 7, 2) := by decide +kernel
theorem dX11_besides_81 : decode cX11_besides 81 = .ok (.iload 5, 2) := by decide +kernel
theorem dX11_besides_83 : decode cX11_besides 83 = .ok (.if_icmp .gt 6, 3) := by decide +kernel
theorem dX11_besides_86 : decode cX11_besides 86 = .ok (.goto 11, 3) := by decide +kernel
theorem dX11_besides_89 : decode cX11_besides 89 = .ok (.iload 6, 2) := by decide +kernel
theorem dX11_besides_91 : decode cX11_besides 91 = .ok (.istore 4, 2) := by decide +kernel
theorem dX11_besides_93 : decode cX11_besides 93 = .ok (.iload 7, 2) := by decide +kernel
theorem dX11_besides_95 : decode cX11_besides 95 = .ok (.istore 5, 2) := by decide +kernel
theorem dX11_besides_97 : decode cX11_besides 97 = .ok (.iload 6, 2) := by decide +kernel
theorem dX11_besides_99 : decode cX11_besides 99 = .ok (.iload_n 1, 1) := by decide +kernel
theorem dX11_besides_100 : decode cX11_besides 100 = .ok (.iadd, 1) := by decide +kernel
theorem dX11_besides_101 : decode cX11_besides 101 = .ok (.istore 6, 2) := by decide +kernel
theorem dX11_besides_103 : decode cX11_besides 103 = .ok (.goto (-62), 3) := by decide +kernel
theorem dX11_besides_106 : decode cX11_besides 106 = .ok (.iload 4, 2) := by decide +kernel
theorem dX11_besides_108 : decode cX11_besides 108 = .ok (.ifCond .ge 9, 3) := by decide +kernel
theorem dX11_besides_111 : decode cX11_besides 111 = .ok (.sipush (-2000), 3) := by decide +kernel
theorem dX11_besides_114 : decode cX11_besides 114 = .ok (.goto 14, 3) := by decide +kernel
theorem dX11_besides_117 : decode cX11_besides 117 = .ok (.iload_n 3, 1) := by decide +kernel
theorem dX11_besides_118 : decode cX11_besides 118 = .ok (.ifCond .ne 8, 3) := by decide +kernel
theorem dX11_besides_121 : decode cX11_besides 121 = .ok (.iload 5, 2) := by decide +kernel
theorem dX11_besides_123 : decode cX11_besides 123 = .ok (.goto 5, 3) := by decide +kernel
theorem dX11_besides_126 : decode cX11_besides 126 = .ok (.iload 4, 2) := by decide +kernel
theorem dX11_besides_128 : decode cX11_besides 128 = .ok (.ireturn, 1) := by decide +kernel
theorem dX11_isInPlan_0 : decode cX11_isInPlan 0 = .ok (.iconst 0, 1) := by decide +kernel
theorem dX11_isInPlan_1 : decode cX11_isInPlan 1 = .ok (.istore_n 2, 1) := by decide +kernel
theorem dX11_isInPlan_2 : decode cX11_isInPlan 2 = .ok (.iload_n 2, 1) := by decide +kernel
theorem dX11_isInPlan_3 : decode cX11_isInPlan 3 = .ok (.aload_n 0, 1) := by decide +kernel
theorem dX11_isInPlan_4 : decode cX11_isInPlan 4 = .ok (.getfield 350, 3) := by decide +kernel
theorem dX11_isInPlan_7 : decode cX11_isInPlan 7 = .ok (.if_icmp .ge 53, 3) := by decide +kernel
theorem dX11_isInPlan_10 : decode cX11_isInPlan 10 = .ok (.aload_n 0, 1) := by decide +kernel
theorem dX11_isInPlan_11 : decode cX11_isInPlan 11 = .ok (.getfield 54, 3) := by decide +kernel
theorem dX11_isInPlan_14 : decode cX11_isInPlan 14 = .ok (.iload_n 2, 1) := by decide +kernel
theorem dX11_isInPlan_15 : decode cX11_isInPlan 15 = .ok (.iaload, 1) := by decide +kernel
theorem dX11_isInPlan_16 : decode cX11_isInPlan 16 = .ok (.aload_n 0, 1) := by decide +kernel
theorem dX11_isInPlan_17 : decode cX11_isInPlan 17 = .ok (.iload_n 1, 1) := by decide +kernel
theorem dX11_isInPlan_18 : decode cX11_isInPlan 18 = .ok (.invokevirtual 252, 3) := by decide +kernel
theorem dX11_isInPlan_21 : decode cX11_isInPlan 21 = .ok (.if_icmp .ne 33, 3) := by decide +kernel
theorem dX11_isInPlan_24 : decode cX11_isInPlan 24 = .ok (.aload_n 0, 1) := by decide +kernel
theorem dX11_isInPlan_25 : decode cX11_isInPlan 25 = .ok (.getfield 57, 3) := by decide +kernel
theorem dX11_isInPlan_28 : decode cX11_isInPlan 28 = .ok (.iload_n 2, 1) := by decide +kernel
theorem dX11_isInPlan_29 : decode cX11_isInPlan 29 = .ok (.iaload, 1) := by decide +kernel
theorem dX11_isInPlan_30 : decode cX11_isInPlan 30 = .ok (.aload_n 0, 1) := by decide +kernel
theorem dX11_isInPlan_31 : decode cX11_isInPlan 31 = .ok (.iload_n 1, 1) := by decide +kernel
theorem dX11_isInPlan_32 : decode cX11_isInPlan 32 = .ok (.invokevirtual 249, 3) := by decide +kernel
theorem dX11_isInPlan_35 : decode cX11_isInPlan 35 = .ok (.if_icmp .ne 19, 3) := by decide +kernel
theorem dX11_isInPlan_38 : decode cX11_isInPlan 38 = .ok (.aload_n 0, 1) := by decide +kernel
theorem dX11_isInPlan_39 : decode cX11_isInPlan 39 = .ok (.getfield 60, 3) := by decide +kernel
theorem dX11_isInPlan_42 : decode cX11_isInPlan 42 = .ok (.iload_n 2, 1) := by decide +kernel
theorem dX11_isInPlan_43 : decode cX11_isInPlan 43 = .ok (.iaload, 1) := by decide +kernel
theorem dX11_isInPlan_44 : decode cX11_isInPlan 44 = .ok (.aload_n 0, 1) := by decide +kernel
theorem dX11_isInPlan_45 : decode cX11_isInPlan 45 = .ok (.iload_n 1, 1) := by decide +kernel
theorem dX11_isInPlan_46 : decode cX11_isInPlan 46 = .ok (.invokevirtual 267, 3) := by decide +kernel
theorem dX11_isInPlan_49 : decode cX11_isInPlan 49 = .ok (.if_icmp .ne 5, 3) := by decide +kernel
theorem dX11_isInPlan_52 : decode cX11_isInPlan 52 = .ok (.iconst 1, 1) := by decide +kernel
theorem dX11_isInPlan_53 : decode cX11_isInPlan 53 = .ok (.ireturn, 1) := by decide +kernel
theorem dX11_isInPlan_54 : decode cX11_isInPlan 54 = .ok (.iinc 2 1, 3) := by decide +kernel
theorem dX11_isInPlan_57 : decode cX11_isInPlan 57 = .ok (.goto (-55), 3) := by decide +kernel
theorem dX11_isInPlan_60 : decode cX11_isInPlan 60 = .ok (.iconst 0, 1) := by decide +kernel
theorem dX11_isInPlan_61 : decode cX11_isInPlan 61 = .ok (.ireturn, 1) := by decide +kernel
theorem dX11_isInRegisters_0 : decode cX11_isInRegisters 0 = .ok (.iconst 0, 1) := by decide +kernel
theorem dX11_isInRegisters_1 : decode cX11_isInRegisters 1 = .ok (.istore_n 2, 1) := by decide +kernel
theorem dX11_isInRegisters_2 : decode cX11_isInRegisters 2 = .ok (.iload_n 2, 1) := by decide +kernel
theorem dX11_isInRegisters_3 : decode cX11_isInRegisters 3 = .ok (.aload_n 0, 1) := by decide +kernel
theorem dX11_isInRegisters_4 : decode cX11_isInRegisters 4 = .ok (.invokevirtual 243, 3) := by decide +kernel
theorem dX11_isInRegisters_7 : decode cX11_isInRegisters 7 = .ok (.if_icmp .ge 53, 3) := by decide +kernel
theorem dX11_isInRegisters_10 : decode cX11_isInRegisters 10 = .ok (.aload_n 0, 1) := by decide +kernel
theorem dX11_isInRegisters_11 : decode cX11_isInRegisters 11 = .ok (.getfield 54, 3) := by decide +kernel
theorem dX11_isInRegisters_14 : decode cX11_isInRegisters 14 = .ok (.iload_n 1, 1) := by decide +kernel
theorem dX11_isInRegisters_15 : decode cX11_isInRegisters 15 = .ok (.iaload, 1) := by decide +kernel
theorem dX11_isInRegisters_16 : decode cX11_isInRegisters 16 = .ok (.aload_n 0, 1) := by decide +kernel
theorem dX11_isInRegisters_17 : decode cX11_isInRegisters 17 = .ok (.iload_n 2, 1) := by decide +kernel
theorem dX11_isInRegisters_18 : decode cX11_isInRegisters 18 = .ok (.invokevirtual 252, 3) := by decide +kernel
theorem dX11_isInRegisters_21 : decode cX11_isInRegisters 21 = .ok (.if_icmp .ne 33, 3) := by decide +kernel
theorem dX11_isInRegisters_24 : decode cX11_isInRegisters 24 = .ok (.aload_n 0, 1) := by decide +kernel
theorem dX11_isInRegisters_25 : decode cX11_isInRegisters 25 = .ok (.getfield 57, 3) := by decide +kernel
theorem dX11_isInRegisters_28 : decode cX11_isInRegisters 28 = .ok (.iload_n 1, 1) := by decide +kernel
theorem dX11_isInRegisters_29 : decode cX11_isInRegisters 29 = .ok (.iaload, 1) := by decide +kernel
theorem dX11_isInRegisters_30 : decode cX11_isInRegisters 30 = .ok (.aload_n 0, 1) := by decide +kernel
theorem dX11_isInRegisters_31 : decode cX11_isInRegisters 31 = .ok (.iload_n 2, 1) := by decide +kernel
theorem dX11_isInRegisters_32 : decode cX11_isInRegisters 32 = .ok (.invokevirtual 249, 3) := by decide +kernel
theorem dX11_isInRegisters_35 : decode cX11_isInRegisters 35 = .ok (.if_icmp .ne 19, 3) := by decide +kernel
theorem dX11_isInRegisters_38 : decode cX11_isInRegisters 38 = .ok (.aload_n 0, 1) := by decide +kernel
theorem dX11_isInRegisters_39 : decode cX11_isInRegisters 39 = .ok (.getfield 60, 3) := by decide +kernel
theorem dX11_isInRegisters_42 : decode cX11_isInRegisters 42 = .ok (.iload_n 1, 1) := by decide +kernel
theorem dX11_isInRegisters_43 : decode cX11_isInRegisters 43 = .ok (.iaload, 1) := by decide +kernel
theorem dX11_isInRegisters_44 : decode cX11_isInRegisters 44 = .ok (.aload_n 0, 1) := by decide +kernel
theorem dX11_isInRegisters_45 : decode cX11_isInRegisters 45 = .ok (.iload_n 2, 1) := by decide +kernel
theorem dX11_isInRegisters_46 : decode cX11_isInRegisters 46 = .ok (.invokevirtual 267, 3) := by decide +kernel
theorem dX11_isInRegisters_49 : decode cX11_isInRegisters 49 = .ok (.if_icmp .ne 5, 3) := by decide +kernel
theorem dX11_isInRegisters_52 : decode cX11_isInRegisters 52 = .ok (.iconst 1, 1) := by decide +kernel
theorem dX11_isInRegisters_53 : decode cX11_isInRegisters 53 = .ok (.ireturn, 1) := by decide +kernel
theorem dX11_isInRegisters_54 : decode cX11_isInRegisters 54 = .ok (.iinc 2 1, 3) := by decide +kernel
theorem dX11_isInRegisters_57 : decode cX11_isInRegisters 57 = .ok (.goto (-55), 3) := by decide +kernel
theorem dX11_isInRegisters_60 : decode cX11_isInRegisters 60 = .ok (.iconst 0, 1) := by decide +kernel
theorem dX11_isInRegisters_61 : decode cX11_isInRegisters 61 = .ok (.ireturn, 1) := by decide +kernel
theorem dX11_addEdge_0 : decode cX11_addEdge 0 = .ok (.iconst 0, 1) := by decide +kernel
theorem dX11_addEdge_1 : decode cX11_addEdge 1 = .ok (.istore_n 2, 1) := by decide +kernel
theorem dX11_addEdge_2 : decode cX11_addEdge 2 = .ok (.iload_n 2, 1) := by decide +kernel
theorem dX11_addEdge_3 : decode cX11_addEdge 3 = .ok (.aload_n 0, 1) := by decide +kernel
theorem dX11_addEdge_4 : decode cX11_addEdge 4 = .ok (.getfield 426, 3) := by decide +kernel
theorem dX11_addEdge_7 : decode cX11_addEdge 7 = .ok (.if_icmp .ge 20, 3) := by decide +kernel
theorem dX11_addEdge_10 : decode cX11_addEdge 10 = .ok (.aload_n 0, 1) := by decide +kernel
theorem dX11_addEdge_11 : decode cX11_addEdge 11 = .ok (.getfield 76, 3) := by decide +kernel
theorem dX11_addEdge_14 : decode cX11_addEdge 14 = .ok (.iload_n 2, 1) := by decide +kernel
theorem dX11_addEdge_15 : decode cX11_addEdge 15 = .ok (.iaload, 1) := by decide +kernel
theorem dX11_addEdge_16 : decode cX11_addEdge 16 = .ok (.iload_n 1, 1) := by decide +kernel
theorem dX11_addEdge_17 : decode cX11_addEdge 17 = .ok (.if_icmp .ne 4, 3) := by decide +kernel
theorem dX11_addEdge_20 : decode cX11_addEdge 20 = .ok (.return_, 1) := by decide +kernel
theorem dX11_addEdge_21 : decode cX11_addEdge 21 = .ok (.iinc 2 1, 3) := by decide +kernel
theorem dX11_addEdge_24 : decode cX11_addEdge 24 = .ok (.goto (-22), 3) := by decide +kernel
theorem dX11_addEdge_27 : decode cX11_addEdge 27 = .ok (.iload_n 1, 1) := by decide +kernel
theorem dX11_addEdge_28 : decode cX11_addEdge 28 = .ok (.aload_n 0, 1) := by decide +kernel
theorem dX11_addEdge_29 : decode cX11_addEdge 29 = .ok (.invokevirtual 240, 3) := by decide +kernel
theorem dX11_addEdge_32 : decode cX11_addEdge 32 = .ok (.if_icmp .lt 4, 3) := by decide +kernel
theorem dX11_addEdge_35 : decode cX11_addEdge 35 = .ok (.return_, 1) := by decide +kernel
theorem dX11_addEdge_36 : decode cX11_addEdge 36 = .ok (.aload_n 0, 1) := by decide +kernel
theorem dX11_addEdge_37 : decode cX11_addEdge 37 = .ok (.getfield 76, 3) := by decide +kernel
theorem dX11_addEdge_40 : decode cX11_addEdge 40 = .ok (.aload_n 0, 1) := by decide +kernel
theorem dX11_addEdge_41 : decode cX11_addEdge 41 = .ok (.getfield 426, 3) := by decide +kernel
theorem dX11_addEdge_44 : decode cX11_addEdge 44 = .ok (.iload_n 1, 1) := by decide +kernel
theorem dX11_addEdge_45 : decode cX11_addEdge 45 = .ok (.iastore, 1) := by decide +kernel
theorem dX11_addEdge_46 : decode cX11_addEdge 46 = .ok (.aload_n 0, 1) := by decide +kernel
theorem dX11_addEdge_47 : decode cX11_addEdge 47 = .ok (.dup, 1) := by decide +kernel
theorem dX11_addEdge_48 : decode cX11_addEdge 48 = .ok (.getfield 426, 3) := by decide +kernel
theorem dX11_addEdge_51 : decode cX11_addEdge 51 = .ok (.iconst 1, 1) := by decide +kernel
theorem dX11_addEdge_52 : decode cX11_addEdge 52 = .ok (.iadd, 1) := by decide +kernel
theorem dX11_addEdge_53 : decode cX11_addEdge 53 = .ok (.putfield 426, 3) := by decide +kernel
theorem dX11_addEdge_56 : decode cX11_addEdge 56 = .ok (.return_, 1) := by decide +kernel
theorem dX11_laySteps_0 : decode cX11_laySteps 0 = .ok (.aload_n 0, 1) := by decide +kernel
theorem dX11_laySteps_1 : decode cX11_laySteps 1 = .ok (.invokevirtual 370, 3) := by decide +kernel
theorem dX11_laySteps_4 : decode cX11_laySteps 4 = .ok (.aload_n 0, 1) := by decide +kernel
theorem dX11_laySteps_5 : decode cX11_laySteps 5 = .ok (.iconst 0, 1) := by decide +kernel
theorem dX11_laySteps_6 : decode cX11_laySteps 6 = .ok (.putfield 429, 3) := by decide +kernel
theorem dX11_laySteps_9 : decode cX11_laySteps 9 = .ok (.iconst 0, 1) := by decide +kernel
theorem dX11_laySteps_10 : decode cX11_laySteps 10 = .ok (.istore_n 1, 1) := by decide +kernel
theorem dX11_laySteps_11 : decode cX11_laySteps 11 = .ok (.iload_n 1, 1) := by decide +kernel
theorem dX11_laySteps_12 : decode cX11_laySteps 12 = .ok (.aload_n 0, 1) := by decide +kernel
theorem dX11_laySteps_13 : decode cX11_laySteps 13 = .ok (.invokevirtual 243, 3) := by decide +kernel
theorem dX11_laySteps_16 : decode cX11_laySteps 16 = .ok (.if_icmp .ge 57, 3) := by decide +kernel
theorem dX11_laySteps_19 : decode cX11_laySteps 19 = .ok (.aload_n 0, 1) := by decide +kernel
theorem dX11_laySteps_20 : decode cX11_laySteps 20 = .ok (.iload_n 1, 1) := by decide +kernel
theorem dX11_laySteps_21 : decode cX11_laySteps 21 = .ok (.invokevirtual 249, 3) := by decide +kernel
theorem dX11_laySteps_24 : decode cX11_laySteps 24 = .ok (.ifCond .eq 43, 3) := by decide +kernel
theorem dX11_laySteps_27 : decode cX11_laySteps 27 = .ok (.aload_n 0, 1) := by decide +kernel
theorem dX11_laySteps_28 : decode cX11_laySteps 28 = .ok (.iload_n 1, 1) := by decide +kernel
theorem dX11_laySteps_29 : decode cX11_laySteps 29 = .ok (.invokevirtual 432, 3) := by decide +kernel
theorem dX11_laySteps_32 : decode cX11_laySteps 32 = .ok (.ifCond .eq 6, 3) := by decide +kernel
theorem dX11_laySteps_35 : decode cX11_laySteps 35 = .ok (.goto 32, 3) := by decide +kernel
theorem dX11_laySteps_38 : decode cX11_laySteps 38 = .ok (.aload_n 0, 1) := by decide +kernel
theorem dX11_laySteps_39 : decode cX11_laySteps 39 = .ok (.getfield 429, 3) := by decide +kernel
theorem dX11_laySteps_42 : decode cX11_laySteps 42 = .ok (.bipush 32, 2) := by decide +kernel
theorem dX11_laySteps_44 : decode cX11_laySteps 44 = .ok (.if_icmp .ge 13, 3) := by decide +kernel
theorem dX11_laySteps_47 : decode cX11_laySteps 47 = .ok (.aload_n 0, 1) := by decide +kernel
theorem dX11_laySteps_48 : decode cX11_laySteps 48 = .ok (.getfield 73, 3) := by decide +kernel
theorem dX11_laySteps_51 : decode cX11_laySteps 51 = .ok (.aload_n 0, 1) := by decide +kernel
theorem dX11_laySteps_52 : decode cX11_laySteps 52 = .ok (.getfield 429, 3) := by decide +kernel
theorem dX11_laySteps_55 : decode cX11_laySteps 55 = .ok (.iload_n 1, 1) := by decide +kernel
theorem dX11_laySteps_56 : decode cX11_laySteps 56 = .ok (.iastore, 1) := by decide +kernel
theorem dX11_laySteps_57 : decode cX11_laySteps 57 = .ok (.aload_n 0, 1) := by decide +kernel
theorem dX11_laySteps_58 : decode cX11_laySteps 58 = .ok (.dup, 1) := by decide +kernel
theorem dX11_laySteps_59 : decode cX11_laySteps 59 = .ok (.getfield 429, 3) := by decide +kernel
theorem dX11_laySteps_62 : decode cX11_laySteps 62 = .ok (.iconst 1, 1) := by decide +kernel
theorem dX11_laySteps_63 : decode cX11_laySteps 63 = .ok (.iadd, 1) := by decide +kernel
theorem dX11_laySteps_64 : decode cX11_laySteps 64 = .ok (.putfield 429, 3) := by decide +kernel
theorem dX11_laySteps_67 : decode cX11_laySteps 67 = .ok (.iinc 1 1, 3) := by decide +kernel
theorem dX11_laySteps_70 : decode cX11_laySteps 70 = .ok (.goto (-59), 3) := by decide +kernel
theorem dX11_laySteps_73 : decode cX11_laySteps 73 = .ok (.aload_n 0, 1) := by decide +kernel
theorem dX11_laySteps_74 : decode cX11_laySteps 74 = .ok (.aload_n 0, 1) := by decide +kernel
theorem dX11_laySteps_75 : decode cX11_laySteps 75 = .ok (.getfield 429, 3) := by decide +kernel
theorem dX11_laySteps_78 : decode cX11_laySteps 78 = .ok (.putfield 435, 3) := by decide +kernel
theorem dX11_laySteps_81 : decode cX11_laySteps 81 = .ok (.iconst 0, 1) := by decide +kernel
theorem dX11_laySteps_82 : decode cX11_laySteps 82 = .ok (.istore_n 1, 1) := by decide +kernel
theorem dX11_laySteps_83 : decode cX11_laySteps 83 = .ok (.iload_n 1, 1) := by decide +kernel
theorem dX11_laySteps_84 : decode cX11_laySteps 84 = .ok (.aload_n 0, 1) := by decide +kernel
theorem dX11_laySteps_85 : decode cX11_laySteps 85 = .ok (.getfield 350, 3) := by decide +kernel
theorem dX11_laySteps_88 : decode cX11_laySteps 88 = .ok (.if_icmp .ge 49, 3) := by decide +kernel
theorem dX11_laySteps_91 : decode cX11_laySteps 91 = .ok (.aload_n 0, 1) := by decide +kernel
theorem dX11_laySteps_92 : decode cX11_laySteps 92 = .ok (.iload_n 1, 1) := by decide +kernel
theorem dX11_laySteps_93 : decode cX11_laySteps 93 = .ok (.invokevirtual 438, 3) := by decide +kernel
theorem dX11_laySteps_96 : decode cX11_laySteps 96 = .ok (.ifCond .eq 6, 3) := by decide +kernel
theorem dX11_laySteps_99 : decode cX11_laySteps 99 = .ok (.goto 32, 3) := by decide +kernel
theorem dX11_laySteps_102 : decode cX11_laySteps 102 = .ok (.aload_n 0, 1) := by decide +kernel
theorem dX11_laySteps_103 : decode cX11_laySteps 103 = .ok (.getfield 429, 3) := by decide +kernel
theorem dX11_laySteps_106 : decode cX11_laySteps 106 = .ok (.bipush 32, 2) := by decide +kernel
theorem dX11_laySteps_108 : decode cX11_laySteps 108 = .ok (.if_icmp .ge 13, 3) := by decide +kernel
theorem dX11_laySteps_111 : decode cX11_laySteps 111 = .ok (.aload_n 0, 1) := by decide +kernel
theorem dX11_laySteps_112 : decode cX11_laySteps 112 = .ok (.getfield 73, 3) := by decide +kernel
theorem dX11_laySteps_115 : decode cX11_laySteps 115 = .ok (.aload_n 0, 1) := by decide +kernel
theorem dX11_laySteps_116 : decode cX11_laySteps 116 = .ok (.getfield 429, 3) := by decide +kernel
theorem dX11_laySteps_119 : decode cX11_laySteps 119 = .ok (.iload_n 1, 1) := by decide +kernel
theorem dX11_laySteps_120 : decode cX11_laySteps 120 = .ok (.iastore, 1) := by decide +kernel
theorem dX11_laySteps_121 : decode cX11_laySteps 121 = .ok (.aload_n 0, 1) := by decide +kernel
theorem dX11_laySteps_122 : decode cX11_laySteps 122 = .ok (.dup, 1) := by decide +kernel
theorem dX11_laySteps_123 : decode cX11_laySteps 123 = .ok (.getfield 429, 3) := by decide +kernel
theorem dX11_laySteps_126 : decode cX11_laySteps 126 = .ok (.iconst 1, 1) := by decide +kernel
theorem dX11_laySteps_127 : decode cX11_laySteps 127 = .ok (.iadd, 1) := by decide +kernel
theorem dX11_laySteps_128 : decode cX11_laySteps 128 = .ok (.putfield 429, 3) := by decide +kernel
theorem dX11_laySteps_131 : decode cX11_laySteps 131 = .ok (.iinc 1 1, 3) := by decide +kernel
theorem dX11_laySteps_134 : decode cX11_laySteps 134 = .ok (.goto (-51), 3) := by decide +kernel
theorem dX11_laySteps_137 : decode cX11_laySteps 137 = .ok (.return_, 1) := by decide +kernel
theorem dX11_layEdges_0 : decode cX11_layEdges 0 = .ok (.aload_n 0, 1) := by decide +kernel
theorem dX11_layEdges_1 : decode cX11_layEdges 1 = .ok (.iconst 0, 1) := by decide +kernel
theorem dX11_layEdges_2 : decode cX11_layEdges 2 = .ok (.putfield 426, 3) := by decide +kernel
theorem dX11_layEdges_5 : decode cX11_layEdges 5 = .ok (.aload_n 0, 1) := by decide +kernel
theorem dX11_layEdges_6 : decode cX11_layEdges 6 = .ok (.iconst 0, 1) := by decide +kernel
theorem dX11_layEdges_7 : decode cX11_layEdges 7 = .ok (.invokevirtual 441, 3) := by decide +kernel
theorem dX11_layEdges_10 : decode cX11_layEdges 10 = .ok (.aload_n 0, 1) := by decide +kernel
theorem dX11_layEdges_11 : decode cX11_layEdges 11 = .ok (.aload_n 0, 1) := by decide +kernel
theorem dX11_layEdges_12 : decode cX11_layEdges 12 = .ok (.getfield 19, 3) := by decide +kernel
theorem dX11_layEdges_15 : decode cX11_layEdges 15 = .ok (.aload_n 0, 1) := by decide +kernel
theorem dX11_layEdges_16 : decode cX11_layEdges 16 = .ok (.getfield 225, 3) := by decide +kernel
theorem dX11_layEdges_19 : decode cX11_layEdges 19 = .ok (.iaload, 1) := by decide +kernel
theorem dX11_layEdges_20 : decode cX11_layEdges 20 = .ok (.invokevirtual 441, 3) := by decide +kernel
theorem dX11_layEdges_23 : decode cX11_layEdges 23 = .ok (.iconst 0, 1) := by decide +kernel
theorem dX11_layEdges_24 : decode cX11_layEdges 24 = .ok (.istore_n 1, 1) := by decide +kernel
theorem dX11_layEdges_25 : decode cX11_layEdges 25 = .ok (.iload_n 1, 1) := by decide +kernel
theorem dX11_layEdges_26 : decode cX11_layEdges 26 = .ok (.aload_n 0, 1) := by decide +kernel
theorem dX11_layEdges_27 : decode cX11_layEdges 27 = .ok (.invokevirtual 243, 3) := by decide +kernel
theorem dX11_layEdges_30 : decode cX11_layEdges 30 = .ok (.if_icmp .ge 44, 3) := by decide +kernel
theorem dX11_layEdges_33 : decode cX11_layEdges 33 = .ok (.aload_n 0, 1) := by decide +kernel
theorem dX11_layEdges_34 : decode cX11_layEdges 34 = .ok (.iload_n 1, 1) := by decide +kernel
theorem dX11_layEdges_35 : decode cX11_layEdges 35 = .ok (.invokevirtual 249, 3) := by decide +kernel
theorem dX11_layEdges_38 : decode cX11_layEdges 38 = .ok (.ifCond .ne 6, 3) := by decide +kernel
theorem dX11_layEdges_41 : decode cX11_layEdges 41 = .ok (.goto 27, 3) := by decide +kernel
theorem dX11_layEdges_44 : decode cX11_layEdges 44 = .ok (.aload_n 0, 1) := by decide +kernel
theorem dX11_layEdges_45 : decode cX11_layEdges 45 = .ok (.aload_n 0, 1) := by decide +kernel
theorem dX11_layEdges_46 : decode cX11_layEdges 46 = .ok (.iload_n 1, 1) := by decide +kernel
theorem dX11_layEdges_47 : decode cX11_layEdges 47 = .ok (.invokevirtual 252, 3) := by decide +kernel
theorem dX11_layEdges_50 : decode cX11_layEdges 50 = .ok (.invokevirtual 441, 3) := by decide +kernel
theorem dX11_layEdges_53 : decode cX11_layEdges 53 = .ok (.aload_n 0, 1) := by decide +kernel
theorem dX11_layEdges_54 : decode cX11_layEdges 54 = .ok (.aload_n 0, 1) := by decide +kernel
theorem dX11_layEdges_55 : decode cX11_layEdges 55 = .ok (.iload_n 1, 1) := by decide +kernel
theorem dX11_layEdges_56 : decode cX11_layEdges 56 = .ok (.invokevirtual 252, 3) := by decide +kernel
theorem dX11_layEdges_59 : decode cX11_layEdges 59 = .ok (.aload_n 0, 1) := by decide +kernel
theorem dX11_layEdges_60 : decode cX11_layEdges 60 = .ok (.iload_n 1, 1) := by decide +kernel
theorem dX11_layEdges_61 : decode cX11_layEdges 61 = .ok (.invokevirtual 249, 3) := by decide +kernel
theorem dX11_layEdges_64 : decode cX11_layEdges 64 = .ok (.iadd, 1) := by decide +kernel
theorem dX11_layEdges_65 : decode cX11_layEdges 65 = .ok (.invokevirtual 441, 3) := by decide +kernel
theorem dX11_layEdges_68 : decode cX11_layEdges 68 = .ok (.iinc 1 1, 3) := by decide +kernel
theorem dX11_layEdges_71 : decode cX11_layEdges 71 = .ok (.goto (-46), 3) := by decide +kernel
theorem dX11_layEdges_74 : decode cX11_layEdges 74 = .ok (.iconst 0, 1) := by decide +kernel
theorem dX11_layEdges_75 : decode cX11_layEdges 75 = .ok (.istore_n 1, 1) := by decide +kernel
theorem dX11_layEdges_76 : decode cX11_layEdges 76 = .ok (.iload_n 1, 1) := by decide +kernel
theorem dX11_layEdges_77 : decode cX11_layEdges 77 = .ok (.aload_n 0, 1) := by decide +kernel
theorem dX11_layEdges_78 : decode cX11_layEdges 78 = .ok (.getfield 350, 3) := by decide +kernel
theorem dX11_layEdges_81 : decode cX11_layEdges 81 = .ok (.if_icmp .ge 36, 3) := by decide +kernel
theorem dX11_layEdges_84 : decode cX11_layEdges 84 = .ok (.aload_n 0, 1) := by decide +kernel
theorem dX11_layEdges_85 : decode cX11_layEdges 85 = .ok (.aload_n 0, 1) := by decide +kernel
theorem dX11_layEdges_86 : decode cX11_layEdges 86 = .ok (.getfield 54, 3) := by decide +kernel
theorem dX11_layEdges_89 : decode cX11_layEdges 89 = .ok (.iload_n 1, 1) := by decide +kernel
theorem dX11_layEdges_90 : decode cX11_layEdges 90 = .ok (.iaload, 1) := by decide +kernel
theorem dX11_layEdges_91 : decode cX11_layEdges 91 = .ok (.invokevirtual 441, 3) := by decide +kernel
theorem dX11_layEdges_94 : decode cX11_layEdges 94 = .ok (.aload_n 0, 1) := by decide +kernel
theorem dX11_layEdges_95 : decode cX11_layEdges 95 = .ok (.aload_n 0, 1) := by decide +kernel
theorem dX11_layEdges_96 : decode cX11_layEdges 96 = .ok (.getfield 54, 3) := by decide +kernel
theorem dX11_layEdges_99 : decode cX11_layEdges 99 = .ok (.iload_n 1, 1) := by decide +kernel
theorem dX11_layEdges_100 : decode cX11_layEdges 100 = .ok (.iaload, 1) := by decide +kernel
theorem dX11_layEdges_101 : decode cX11_layEdges 101 = .ok (.aload_n 0, 1) := by decide +kernel
theorem dX11_layEdges_102 : decode cX11_layEdges 102 = .ok (.getfield 57, 3) := by decide +kernel
theorem dX11_layEdges_105 : decode cX11_layEdges 105 = .ok (.iload_n 1, 1) := by decide +kernel
theorem dX11_layEdges_106 : decode cX11_layEdges 106 = .ok (.iaload, 1) := by decide +kernel
theorem dX11_layEdges_107 : decode cX11_layEdges 107 = .ok (.iadd, 1) := by decide +kernel
theorem dX11_layEdges_108 : decode cX11_layEdges 108 = .ok (.invokevirtual 441, 3) := by decide +kernel
theorem dX11_layEdges_111 : decode cX11_layEdges 111 = .ok (.iinc 1 1, 3) := by decide +kernel
theorem dX11_layEdges_114 : decode cX11_layEdges 114 = .ok (.goto (-38), 3) := by decide +kernel
theorem dX11_layEdges_117 : decode cX11_layEdges 117 = .ok (.return_, 1) := by decide +kernel
theorem dX11_isGone_0 : decode cX11_isGone 0 = .ok (.iconst 0, 1) := by decide +kernel
theorem dX11_isGone_1 : decode cX11_isGone 1 = .ok (.istore_n 3, 1) := by decide +kernel
theorem dX11_isGone_2 : decode cX11_isGone 2 = .ok (.iload_n 3, 1) := by decide +kernel
theorem dX11_isGone_3 : decode cX11_isGone 3 = .ok (.aload_n 0, 1) := by decide +kernel
theorem dX11_isGone_4 : decode cX11_isGone 4 = .ok (.getfield 435, 3) := by decide +kernel
theorem dX11_isGone_7 : decode cX11_isGone 7 = .ok (.if_icmp .ge 34, 3) := by decide +kernel
theorem dX11_isGone_10 : decode cX11_isGone 10 = .ok (.aload_n 0, 1) := by decide +kernel
theorem dX11_isGone_11 : decode cX11_isGone 11 = .ok (.getfield 73, 3) := by decide +kernel
theorem dX11_isGone_14 : decode cX11_isGone 14 = .ok (.iload_n 3, 1) := by decide +kernel
theorem dX11_isGone_15 : decode cX11_isGone 15 = .ok (.iaload, 1) := by decide +kernel
theorem dX11_isGone_16 : decode cX11_isGone 16 = .ok (.iload_n 1, 1) := by decide +kernel
theorem dX11_isGone_17 : decode cX11_isGone 17 = .ok (.if_icmp .ne 18, 3) := by decide +kernel
theorem dX11_isGone_20 : decode cX11_isGone 20 = .ok (.iload_n 2, 1) := by decide +kernel
theorem dX11_isGone_21 : decode cX11_isGone 21 = .ok (.iload_n 3, 1) := by decide +kernel
theorem dX11_isGone_22 : decode cX11_isGone 22 = .ok (.ishr, 1) := by decide +kernel
theorem dX11_isGone_23 : decode cX11_isGone 23 = .ok (.iconst 1, 1) := by decide +kernel
theorem dX11_isGone_24 : decode cX11_isGone 24 = .ok (.iand, 1) := by decide +kernel
theorem dX11_isGone_25 : decode cX11_isGone 25 = .ok (.iconst 1, 1) := by decide +kernel
theorem dX11_isGone_26 : decode cX11_isGone 26 = .ok (.if_icmp .ne 7, 3) := by decide +kernel
theorem dX11_isGone_29 : decode cX11_isGone 29 = .ok (.iconst 1, 1) := by decide +kernel
theorem dX11_isGone_30 : decode cX11_isGone 30 = .ok (.goto 4, 3) := by decide +kernel
theorem dX11_isGone_33 : decode cX11_isGone 33 = .ok (.iconst 0, 1) := by decide +kernel
theorem dX11_isGone_34 : decode cX11_isGone 34 = .ok (.ireturn, 1) := by decide +kernel
theorem dX11_isGone_35 : decode cX11_isGone 35 = .ok (.iinc 3 1, 3) := by decide +kernel
theorem dX11_isGone_38 : decode cX11_isGone 38 = .ok (.goto (-36), 3) := by decide +kernel
theorem dX11_isGone_41 : decode cX11_isGone 41 = .ok (.iconst 0, 1) := by decide +kernel
theorem dX11_isGone_42 : decode cX11_isGone 42 = .ok (.ireturn, 1) := by decide +kernel
theorem dX11_kindBehind_0 : decode cX11_kindBehind 0 = .ok (.iconst 0, 1) := by decide +kernel
theorem dX11_kindBehind_1 : decode cX11_kindBehind 1 = .ok (.istore_n 3, 1) := by decide +kernel
theorem dX11_kindBehind_2 : decode cX11_kindBehind 2 = .ok (.iconst 0, 1) := by decide +kernel
theorem dX11_kindBehind_3 : decode cX11_kindBehind 3 = .ok (.istore 4, 2) := by decide +kernel
theorem dX11_kindBehind_5 : decode cX11_kindBehind 5 = .ok (.iload 4, 2) := by decide +kernel
theorem dX11_kindBehind_7 : decode cX11_kindBehind 7 = .ok (.aload_n 0, 1) := by decide +kernel
theorem dX11_kindBehind_8 : decode cX11_kindBehind 8 = .ok (.invokevirtual 243, 3) := by decide +kernel
theorem dX11_kindBehind_11 : decode cX11_kindBehind 11 = .ok (.if_icmp .ge 40, 3) := by decide +kernel
theorem dX11_kindBehind_14 : decode cX11_kindBehind 14 = .ok (.aload_n 0, 1) := by decide +kernel
theorem dX11_kindBehind_15 : decode cX11_kindBehind 15 = .ok (.iload 4, 2) := by decide +kernel
theorem dX11_kindBehind_17 : decode cX11_kindBehind 17 = .ok (.iload_n 1, 1) := by decide +kernel
theorem dX11_kindBehind_18 : decode cX11_kindBehind 18 = .ok (.invokevirtual 264, 3) := by decide +kernel
theorem dX11_kindBehind_21 : decode cX11_kindBehind 21 = .ok (.ifCond .eq 24, 3) := by decide +kernel
theorem dX11_kindBehind_24 : decode cX11_kindBehind 24 = .ok (.aload_n 0, 1) := by decide +kernel
theorem dX11_kindBehind_25 : decode cX11_kindBehind 25 = .ok (.iload 4, 2) := by decide +kernel
theorem dX11_kindBehind_27 : decode cX11_kindBehind 27 = .ok (.iload_n 2, 1) := by decide +kernel
theorem dX11_kindBehind_28 : decode cX11_kindBehind 28 = .ok (.invokevirtual 444, 3) := by decide +kernel
theorem dX11_kindBehind_31 : decode cX11_kindBehind 31 = .ok (.ifCond .ne 14, 3) := by decide +kernel
theorem dX11_kindBehind_34 : decode cX11_kindBehind 34 = .ok (.iload_n 3, 1) := by decide +kernel
theorem dX11_kindBehind_35 : decode cX11_kindBehind 35 = .ok (.iconst 1, 1) := by decide +kernel
theorem dX11_kindBehind_36 : decode cX11_kindBehind 36 = .ok (.aload_n 0, 1) := by decide +kernel
theorem dX11_kindBehind_37 : decode cX11_kindBehind 37 = .ok (.iload 4, 2) := by decide +kernel
theorem dX11_kindBehind_39 : decode cX11_kindBehind 39 = .ok (.invokevirtual 267, 3) := by decide +kernel
theorem dX11_kindBehind_42 : decode cX11_kindBehind 42 = .ok (.ishl, 1) := by decide +kernel
theorem dX11_kindBehind_43 : decode cX11_kindBehind 43 = .ok (.ior, 1) := by decide +kernel
theorem dX11_kindBehind_44 : decode cX11_kindBehind 44 = .ok (.istore_n 3, 1) := by decide +kernel
theorem dX11_kindBehind_45 : decode cX11_kindBehind 45 = .ok (.iinc 4 1, 3) := by decide +kernel
theorem dX11_kindBehind_48 : decode cX11_kindBehind 48 = .ok (.goto (-43), 3) := by decide +kernel
theorem dX11_kindBehind_51 : decode cX11_kindBehind 51 = .ok (.aload_n 0, 1) := by decide +kernel
theorem dX11_kindBehind_52 : decode cX11_kindBehind 52 = .ok (.getfield 435, 3) := by decide +kernel
theorem dX11_kindBehind_55 : decode cX11_kindBehind 55 = .ok (.istore 4, 2) := by decide +kernel
theorem dX11_kindBehind_57 : decode cX11_kindBehind 57 = .ok (.iload 4, 2) := by decide +kernel
theorem dX11_kindBehind_59 : decode cX11_kindBehind 59 = .ok (.aload_n 0, 1) := by decide +kernel
theorem dX11_kindBehind_60 : decode cX11_kindBehind 60 = .ok (.getfield 429, 3) := by decide +kernel
theorem dX11_kindBehind_63 : decode cX11_kindBehind 63 = .ok (.if_icmp .ge 82, 3) := by decide +kernel
theorem dX11_kindBehind_66 : decode cX11_kindBehind 66 = .ok (.iload_n 2, 1) := by decide +kernel
theorem dX11_kindBehind_67 : decode cX11_kindBehind 67 = .ok (.iload 4, 2) := by decide +kernel
theorem dX11_kindBehind_69 : decode cX11_kindBehind 69 = .ok (.ishr, 1) := by decide +kernel
theorem dX11_kindBehind_70 : decode cX11_kindBehind 70 = .ok (.iconst 1, 1) := by decide +kernel
theorem dX11_kindBehind_71 : decode cX11_kindBehind 71 = .ok (.iand, 1) := by decide +kernel
theorem dX11_kindBehind_72 : decode cX11_kindBehind 72 = .ok (.iconst 1, 1) := by decide +kernel
theorem dX11_kindBehind_73 : decode cX11_kindBehind 73 = .ok (.if_icmp .ne 66, 3) := by decide +kernel
theorem dX11_kindBehind_76 : decode cX11_kindBehind 76 = .ok (.iload_n 1, 1) := by decide +kernel
theorem dX11_kindBehind_77 : decode cX11_kindBehind 77 = .ok (.aload_n 0, 1) := by decide +kernel
theorem dX11_kindBehind_78 : decode cX11_kindBehind 78 = .ok (.getfield 54, 3) := by decide +kernel
theorem dX11_kindBehind_81 : decode cX11_kindBehind 81 = .ok (.aload_n 0, 1) := by decide +kernel
theorem dX11_kindBehind_82 : decode cX11_kindBehind 82 = .ok (.getfield 73, 3) := by decide +kernel
theorem dX11_kindBehind_85 : decode cX11_kindBehind 85 = .ok (.iload 4, 2) := by decide +kernel
theorem dX11_kindBehind_87 : decode cX11_kindBehind 87 = .ok (.iaload, 1) := by decide +kernel
theorem dX11_kindBehind_88 : decode cX11_kindBehind 88 = .ok (.iaload, 1) := by decide +kernel
theorem dX11_kindBehind_89 : decode cX11_kindBehind 89 = .ok (.aload_n 0, 1) := by decide +kernel
theorem dX11_kindBehind_90 : decode cX11_kindBehind 90 = .ok (.getfield 54, 3) := by decide +kernel
theorem dX11_kindBehind_93 : decode cX11_kindBehind 93 = .ok (.aload_n 0, 1) := by decide +kernel
theorem dX11_kindBehind_94 : decode cX11_kindBehind 94 = .ok (.getfield 73, 3) := by decide +kernel
theorem dX11_kindBehind_97 : decode cX11_kindBehind 97 = .ok (.iload 4, 2) := by decide +kernel
theorem dX11_kindBehind_99 : decode cX11_kindBehind 99 = .ok (.iaload, 1) := by decide +kernel
theorem dX11_kindBehind_100 : decode cX11_kindBehind 100 = .ok (.iaload, 1) := by decide +kernel
theorem dX11_kindBehind_101 : decode cX11_kindBehind 101 = .ok (.aload_n 0, 1) := by decide +kernel
theorem dX11_kindBehind_102 : decode cX11_kindBehind 102 = .ok (.getfield 57, 3) := by decide +kernel
theorem dX11_kindBehind_105 : decode cX11_kindBehind 105 = .ok (.aload_n 0, 1) := by decide +kernel
theorem dX11_kindBehind_106 : decode cX11_kindBehind 106 = .ok (.getfield 73, 3) := by decide +kernel
theorem dX11_kindBehind_109 : decode cX11_kindBehind 109 = .ok (.iload 4, 2) := by decide +kernel
theorem dX11_kindBehind_111 : decode cX11_kindBehind 111 = .ok (.iaload, 1) := by decide +kernel
theorem dX11_kindBehind_112 : decode cX11_kindBehind 112 = .ok (.iaload, 1) := by decide +kernel
theorem dX11_kindBehind_113 : decode cX11_kindBehind 113 = .ok (.iadd, 1) := by decide +kernel
theorem dX11_kindBehind_114 : decode cX11_kindBehind 114 = .ok (.iconst 1, 1) := by decide +kernel
theorem dX11_kindBehind_115 : decode cX11_kindBehind 115 = .ok (.isub, 1) := by decide +kernel
theorem dX11_kindBehind_116 : decode cX11_kindBehind 116 = .ok (.invokestatic 163, 3) := by decide +kernel
theorem dX11_kindBehind_119 : decode cX11_kindBehind 119 = .ok (.ifCond .eq 20, 3) := by decide +kernel
theorem dX11_kindBehind_122 : decode cX11_kindBehind 122 = .ok (.iload_n 3, 1) := by decide +kernel
theorem dX11_kindBehind_123 : decode cX11_kindBehind 123 = .ok (.iconst 1, 1) := by decide +kernel
theorem dX11_kindBehind_124 : decode cX11_kindBehind 124 = .ok (.aload_n 0, 1) := by decide +kernel
theorem dX11_kindBehind_125 : decode cX11_kindBehind 125 = .ok (.getfield 60, 3) := by decide +kernel
theorem dX11_kindBehind_128 : decode cX11_kindBehind 128 = .ok (.aload_n 0, 1) := by decide +kernel
theorem dX11_kindBehind_129 : decode cX11_kindBehind 129 = .ok (.getfield 73, 3) := by decide +kernel
theorem dX11_kindBehind_132 : decode cX11_kindBehind 132 = .ok (.iload 4, 2) := by decide +kernel
theorem dX11_kindBehind_134 : decode cX11_kindBehind 134 = .ok (.iaload, 1) := by decide +kernel
theorem dX11_kindBehind_135 : decode cX11_kindBehind 135 = .ok (.iaload, 1) := by decide +kernel
theorem dX11_kindBehind_136 : decode cX11_kindBehind 136 = .ok (.ishl, 1) := by decide +kernel
theorem dX11_kindBehind_137 : decode cX11_kindBehind 137 = .ok (.ior, 1) := by decide +kernel
theorem dX11_kindBehind_138 : decode cX11_kindBehind 138 = .ok (.istore_n 3, 1) := by decide +kernel
theorem dX11_kindBehind_139 : decode cX11_kindBehind 139 = .ok (.iinc 4 1, 3) := by decide +kernel
theorem dX11_kindBehind_142 : decode cX11_kindBehind 142 = .ok (.goto (-85), 3) := by decide +kernel
theorem dX11_kindBehind_145 : decode cX11_kindBehind 145 = .ok (.aload_n 0, 1) := by decide +kernel
theorem dX11_kindBehind_146 : decode cX11_kindBehind 146 = .ok (.iload_n 3, 1) := by decide +kernel
theorem dX11_kindBehind_147 : decode cX11_kindBehind 147 = .ok (.invokevirtual 261, 3) := by decide +kernel
theorem dX11_kindBehind_150 : decode cX11_kindBehind 150 = .ok (.ireturn, 1) := by decide +kernel
theorem dX11_isSafe_0 : decode cX11_isSafe 0 = .ok (.iconst 1, 1) := by decide +kernel
theorem dX11_isSafe_1 : decode cX11_isSafe 1 = .ok (.aload_n 0, 1) := by decide +kernel
theorem dX11_isSafe_2 : decode cX11_isSafe 2 = .ok (.getfield 429, 3) := by decide +kernel
theorem dX11_isSafe_5 : decode cX11_isSafe 5 = .ok (.ishl, 1) := by decide +kernel
theorem dX11_isSafe_6 : decode cX11_isSafe 6 = .ok (.iconst 1, 1) := by decide +kernel
theorem dX11_isSafe_7 : decode cX11_isSafe 7 = .ok (.isub, 1) := by decide +kernel
theorem dX11_isSafe_8 : decode cX11_isSafe 8 = .ok (.istore_n 2, 1) := by decide +kernel
theorem dX11_isSafe_9 : decode cX11_isSafe 9 = .ok (.iconst 0, 1) := by decide +kernel
theorem dX11_isSafe_10 : decode cX11_isSafe 10 = .ok (.istore_n 3, 1) := by decide +kernel
theorem dX11_isSafe_11 : decode cX11_isSafe 11 = .ok (.iload_n 3, 1) := by decide +kernel
theorem dX11_isSafe_12 : decode cX11_isSafe 12 = .ok (.aload_n 0, 1) := by decide +kernel
theorem dX11_isSafe_13 : decode cX11_isSafe 13 = .ok (.getfield 426, 3) := by decide +kernel
theorem dX11_isSafe_16 : decode cX11_isSafe 16 = .ok (.if_icmp .ge 77, 3) := by decide +kernel
theorem dX11_isSafe_19 : decode cX11_isSafe 19 = .ok (.aload_n 0, 1) := by decide +kernel
theorem dX11_isSafe_20 : decode cX11_isSafe 20 = .ok (.aload_n 0, 1) := by decide +kernel
theorem dX11_isSafe_21 : decode cX11_isSafe 21 = .ok (.getfield 76, 3) := by decide +kernel
theorem dX11_isSafe_24 : decode cX11_isSafe 24 = .ok (.iload_n 3, 1) := by decide +kernel
theorem dX11_isSafe_25 : decode cX11_isSafe 25 = .ok (.iaload, 1) := by decide +kernel
theorem dX11_isSafe_26 : decode cX11_isSafe 26 = .ok (.invokevirtual 255, 3) := by decide +kernel
theorem dX11_isSafe_29 : decode cX11_isSafe 29 = .ok (.ifCond .eq 6, 3) := by decide +kernel
theorem dX11_isSafe_32 : decode cX11_isSafe 32 = .ok (.goto 55, 3) := by decide +kernel
theorem dX11_isSafe_35 : decode cX11_isSafe 35 = .ok (.aload_n 0, 1) := by decide +kernel
theorem dX11_isSafe_36 : decode cX11_isSafe 36 = .ok (.aload_n 0, 1) := by decide +kernel
theorem dX11_isSafe_37 : decode cX11_isSafe 37 = .ok (.getfield 76, 3) := by decide +kernel
theorem dX11_isSafe_40 : decode cX11_isSafe 40 = .ok (.iload_n 3, 1) := by decide +kernel
theorem dX11_isSafe_41 : decode cX11_isSafe 41 = .ok (.iaload, 1) := by decide +kernel
theorem dX11_isSafe_42 : decode cX11_isSafe 42 = .ok (.iload_n 1, 1) := by decide +kernel
theorem dX11_isSafe_43 : decode cX11_isSafe 43 = .ok (.invokevirtual 447, 3) := by decide +kernel
theorem dX11_isSafe_46 : decode cX11_isSafe 46 = .ok (.istore 4, 2) := by decide +kernel
theorem dX11_isSafe_48 : decode cX11_isSafe 48 = .ok (.iload 4, 2) := by decide +kernel
theorem dX11_isSafe_50 : decode cX11_isSafe 50 = .ok (.ifCond .eq 37, 3) := by decide +kernel
theorem dX11_isSafe_53 : decode cX11_isSafe 53 = .ok (.iload 4, 2) := by decide +kernel
theorem dX11_isSafe_55 : decode cX11_isSafe 55 = .ok (.aload_n 0, 1) := by decide +kernel
theorem dX11_isSafe_56 : decode cX11_isSafe 56 = .ok (.aload_n 0, 1) := by decide +kernel
theorem dX11_isSafe_57 : decode cX11_isSafe 57 = .ok (.getfield 76, 3) := by decide +kernel
theorem dX11_isSafe_60 : decode cX11_isSafe 60 = .ok (.iload_n 3, 1) := by decide +kernel
theorem dX11_isSafe_61 : decode cX11_isSafe 61 = .ok (.iaload, 1) := by decide +kernel
theorem dX11_isSafe_62 : decode cX11_isSafe 62 = .ok (.iconst 0, 1) := by decide +kernel
theorem dX11_isSafe_63 : decode cX11_isSafe 63 = .ok (.invokevirtual 447, 3) := by decide +kernel
theorem dX11_isSafe_66 : decode cX11_isSafe 66 = .ok (.if_icmp .eq 21, 3) := by decide +kernel
theorem dX11_isSafe_69 : decode cX11_isSafe 69 = .ok (.iload 4, 2) := by decide +kernel
theorem dX11_isSafe_71 : decode cX11_isSafe 71 = .ok (.aload_n 0, 1) := by decide +kernel
theorem dX11_isSafe_72 : decode cX11_isSafe 72 = .ok (.aload_n 0, 1) := by decide +kernel
theorem dX11_isSafe_73 : decode cX11_isSafe 73 = .ok (.getfield 76, 3) := by decide +kernel
theorem dX11_isSafe_76 : decode cX11_isSafe 76 = .ok (.iload_n 3, 1) := by decide +kernel
theorem dX11_isSafe_77 : decode cX11_isSafe 77 = .ok (.iaload, 1) := by decide +kernel
theorem dX11_isSafe_78 : decode cX11_isSafe 78 = .ok (.iload_n 2, 1) := by decide +kernel
theorem dX11_isSafe_79 : decode cX11_isSafe 79 = .ok (.invokevirtual 447, 3) := by decide +kernel
theorem dX11_isSafe_82 : decode cX11_isSafe 82 = .ok (.if_icmp .eq 5, 3) := by decide +kernel
theorem dX11_isSafe_85 : decode cX11_isSafe 85 = .ok (.iconst 0, 1) := by decide +kernel
theorem dX11_isSafe_86 : decode cX11_isSafe 86 = .ok (.ireturn, 1) := by decide +kernel
theorem dX11_isSafe_87 : decode cX11_isSafe 87 = .ok (.iinc 3 1, 3) := by decide +kernel
theorem dX11_isSafe_90 : decode cX11_isSafe 90 = .ok (.goto (-79), 3) := by decide +kernel
theorem dX11_isSafe_93 : decode cX11_isSafe 93 = .ok (.iconst 1, 1) := by decide +kernel
theorem dX11_isSafe_94 : decode cX11_isSafe 94 = .ok (.ireturn, 1) := by decide +kernel
theorem dX11_emptyBehind_0 : decode cX11_emptyBehind 0 = .ok (.iconst 0, 1) := by decide +kernel
theorem dX11_emptyBehind_1 : decode cX11_emptyBehind 1 = .ok (.istore_n 2, 1) := by decide +kernel
theorem dX11_emptyBehind_2 : decode cX11_emptyBehind 2 = .ok (.iconst 0, 1) := by decide +kernel
theorem dX11_emptyBehind_3 : decode cX11_emptyBehind 3 = .ok (.istore_n 3, 1) := by decide +kernel
theorem dX11_emptyBehind_4 : decode cX11_emptyBehind 4 = .ok (.iload_n 3, 1) := by decide +kernel
theorem dX11_emptyBehind_5 : decode cX11_emptyBehind 5 = .ok (.aload_n 0, 1) := by decide +kernel
theorem dX11_emptyBehind_6 : decode cX11_emptyBehind 6 = .ok (.invokevirtual 243, 3) := by decide +kernel
theorem dX11_emptyBehind_9 : decode cX11_emptyBehind 9 = .ok (.if_icmp .ge 25, 3) := by decide +kernel
theorem dX11_emptyBehind_12 : decode cX11_emptyBehind 12 = .ok (.iload_n 2, 1) := by decide +kernel
theorem dX11_emptyBehind_13 : decode cX11_emptyBehind 13 = .ok (.aload_n 0, 1) := by decide +kernel
theorem dX11_emptyBehind_14 : decode cX11_emptyBehind 14 = .ok (.iload_n 3, 1) := by decide +kernel
theorem dX11_emptyBehind_15 : decode cX11_emptyBehind 15 = .ok (.invokevirtual 249, 3) := by decide +kernel
theorem dX11_emptyBehind_18 : decode cX11_emptyBehind 18 = .ok (.ifCond .ne 7, 3) := by decide +kernel
theorem dX11_emptyBehind_21 : decode cX11_emptyBehind 21 = .ok (.iconst 1, 1) := by decide +kernel
theorem dX11_emptyBehind_22 : decode cX11_emptyBehind 22 = .ok (.goto 4, 3) := by decide +kernel
theorem dX11_emptyBehind_25 : decode cX11_emptyBehind 25 = .ok (.iconst 0, 1) := by decide +kernel
theorem dX11_emptyBehind_26 : decode cX11_emptyBehind 26 = .ok (.iadd, 1) := by decide +kernel
theorem dX11_emptyBehind_27 : decode cX11_emptyBehind 27 = .ok (.istore_n 2, 1) := by decide +kernel
theorem dX11_emptyBehind_28 : decode cX11_emptyBehind 28 = .ok (.iinc 3 1, 3) := by decide +kernel
theorem dX11_emptyBehind_31 : decode cX11_emptyBehind 31 = .ok (.goto (-27), 3) := by decide +kernel
theorem dX11_emptyBehind_34 : decode cX11_emptyBehind 34 = .ok (.iconst 0, 1) := by decide +kernel
theorem dX11_emptyBehind_35 : decode cX11_emptyBehind 35 = .ok (.istore_n 3, 1) := by decide +kernel
theorem dX11_emptyBehind_36 : decode cX11_emptyBehind 36 = .ok (.iload_n 3, 1) := by decide +kernel
theorem dX11_emptyBehind_37 : decode cX11_emptyBehind 37 = .ok (.aload_n 0, 1) := by decide +kernel
theorem dX11_emptyBehind_38 : decode cX11_emptyBehind 38 = .ok (.getfield 429, 3) := by decide +kernel
theorem dX11_emptyBehind_41 : decode cX11_emptyBehind 41 = .ok (.if_icmp .ge 34, 3) := by decide +kernel
theorem dX11_emptyBehind_44 : decode cX11_emptyBehind 44 = .ok (.iload_n 1, 1) := by decide +kernel
theorem dX11_emptyBehind_45 : decode cX11_emptyBehind 45 = .ok (.iload_n 3, 1) := by decide +kernel
theorem dX11_emptyBehind_46 : decode cX11_emptyBehind 46 = .ok (.ishr, 1) := by decide +kernel
theorem dX11_emptyBehind_47 : decode cX11_emptyBehind 47 = .ok (.iconst 1, 1) := by decide +kernel
theorem dX11_emptyBehind_48 : decode cX11_emptyBehind 48 = .ok (.iand, 1) := by decide +kernel
theorem dX11_emptyBehind_49 : decode cX11_emptyBehind 49 = .ok (.iconst 1, 1) := by decide +kernel
theorem dX11_emptyBehind_50 : decode cX11_emptyBehind 50 = .ok (.if_icmp .ne 19, 3) := by decide +kernel
theorem dX11_emptyBehind_53 : decode cX11_emptyBehind 53 = .ok (.iload_n 2, 1) := by decide +kernel
theorem dX11_emptyBehind_54 : decode cX11_emptyBehind 54 = .ok (.iload_n 3, 1) := by decide +kernel
theorem dX11_emptyBehind_55 : decode cX11_emptyBehind 55 = .ok (.aload_n 0, 1) := by decide +kernel
theorem dX11_emptyBehind_56 : decode cX11_emptyBehind 56 = .ok (.getfield 435, 3) := by decide +kernel
theorem dX11_emptyBehind_59 : decode cX11_emptyBehind 59 = .ok (.if_icmp .ge 7, 3) := by decide +kernel
theorem dX11_emptyBehind_62 : decode cX11_emptyBehind 62 = .ok (.iconst 1, 1) := by decide +kernel
theorem dX11_emptyBehind_63 : decode cX11_emptyBehind 63 = .ok (.goto 4, 3) := by decide +kernel
theorem dX11_emptyBehind_66 : decode cX11_emptyBehind 66 = .ok (.iconst (-1), 1) := by decide +kernel
theorem dX11_emptyBehind_67 : decode cX11_emptyBehind 67 = .ok (.iadd, 1) := by decide +kernel
theorem dX11_emptyBehind_68 : decode cX11_emptyBehind 68 = .ok (.istore_n 2, 1) := by decide +kernel
theorem dX11_emptyBehind_69 : decode cX11_emptyBehind 69 = .ok (.iinc 3 1, 3) := by decide +kernel
theorem dX11_emptyBehind_72 : decode cX11_emptyBehind 72 = .ok (.goto (-36), 3) := by decide +kernel
theorem dX11_emptyBehind_75 : decode cX11_emptyBehind 75 = .ok (.iload_n 2, 1) := by decide +kernel
theorem dX11_emptyBehind_76 : decode cX11_emptyBehind 76 = .ok (.ireturn, 1) := by decide +kernel
theorem dX11_canStep_0 : decode cX11_canStep 0 = .ok (.iload_n 1, 1) := by decide +kernel
theorem dX11_canStep_1 : decode cX11_canStep 1 = .ok (.iload_n 2, 1) := by decide +kernel
theorem dX11_canStep_2 : decode cX11_canStep 2 = .ok (.ishr, 1) := by decide +kernel
theorem dX11_canStep_3 : decode cX11_canStep 3 = .ok (.iconst 1, 1) := by decide +kernel
theorem dX11_canStep_4 : decode cX11_canStep 4 = .ok (.iand, 1) := by decide +kernel
theorem dX11_canStep_5 : decode cX11_canStep 5 = .ok (.ifCond .ne 36, 3) := by decide +kernel
theorem dX11_canStep_8 : decode cX11_canStep 8 = .ok (.iload_n 2, 1) := by decide +kernel
theorem dX11_canStep_9 : decode cX11_canStep 9 = .ok (.aload_n 0, 1) := by decide +kernel
theorem dX11_canStep_10 : decode cX11_canStep 10 = .ok (.getfield 435, 3) := by decide +kernel
theorem dX11_canStep_13 : decode cX11_canStep 13 = .ok (.if_icmp .lt 11, 3) := by decide +kernel
theorem dX11_canStep_16 : decode cX11_canStep 16 = .ok (.aload_n 0, 1) := by decide +kernel
theorem dX11_canStep_17 : decode cX11_canStep 17 = .ok (.iload_n 1, 1) := by decide +kernel
theorem dX11_canStep_18 : decode cX11_canStep 18 = .ok (.invokevirtual 450, 3) := by decide +kernel
theorem dX11_canStep_21 : decode cX11_canStep 21 = .ok (.ifCond .le 20, 3) := by decide +kernel
theorem dX11_canStep_24 : decode cX11_canStep 24 = .ok (.aload_n 0, 1) := by decide +kernel
theorem dX11_canStep_25 : decode cX11_canStep 25 = .ok (.getfield 79, 3) := by decide +kernel
theorem dX11_canStep_28 : decode cX11_canStep 28 = .ok (.iload_n 1, 1) := by decide +kernel
theorem dX11_canStep_29 : decode cX11_canStep 29 = .ok (.iconst 1, 1) := by decide +kernel
theorem dX11_canStep_30 : decode cX11_canStep 30 = .ok (.iload_n 2, 1) := by decide +kernel
theorem dX11_canStep_31 : decode cX11_canStep 31 = .ok (.ishl, 1) := by decide +kernel
theorem dX11_canStep_32 : decode cX11_canStep 32 = .ok (.ior, 1) := by decide +kernel
theorem dX11_canStep_33 : decode cX11_canStep 33 = .ok (.baload, 1) := by decide +kernel
theorem dX11_canStep_34 : decode cX11_canStep 34 = .ok (.ifCond .eq 7, 3) := by decide +kernel
theorem dX11_canStep_37 : decode cX11_canStep 37 = .ok (.iconst 1, 1) := by decide +kernel
theorem dX11_canStep_38 : decode cX11_canStep 38 = .ok (.goto 4, 3) := by decide +kernel
theorem dX11_canStep_41 : decode cX11_canStep 41 = .ok (.iconst 0, 1) := by decide +kernel
theorem dX11_canStep_42 : decode cX11_canStep 42 = .ok (.ireturn, 1) := by decide +kernel
theorem dX11_layChange_0 : decode cX11_layChange 0 = .ok (.aload_n 0, 1) := by decide +kernel
theorem dX11_layChange_1 : decode cX11_layChange 1 = .ok (.invokevirtual 453, 3) := by decide +kernel
theorem dX11_layChange_4 : decode cX11_layChange 4 = .ok (.aload_n 0, 1) := by decide +kernel
theorem dX11_layChange_5 : decode cX11_layChange 5 = .ok (.getfield 350, 3) := by decide +kernel
theorem dX11_layChange_8 : decode cX11_layChange 8 = .ok (.aload_n 0, 1) := by decide +kernel
theorem dX11_layChange_9 : decode cX11_layChange 9 = .ok (.invokevirtual 243, 3) := by decide +kernel
theorem dX11_layChange_12 : decode cX11_layChange 12 = .ok (.if_icmp .gt 12, 3) := by decide +kernel
theorem dX11_layChange_15 : decode cX11_layChange 15 = .ok (.aload_n 0, 1) := by decide +kernel
theorem dX11_layChange_16 : decode cX11_layChange 16 = .ok (.getfield 429, 3) := by decide +kernel
theorem dX11_layChange_19 : decode cX11_layChange 19 = .ok (.bipush 12, 2) := by decide +kernel
theorem dX11_layChange_21 : decode cX11_layChange 21 = .ok (.if_icmp .le 5, 3) := by decide +kernel
theorem dX11_layChange_24 : decode cX11_layChange 24 = .ok (.iconst 0, 1) := by decide +kernel
theorem dX11_layChange_25 : decode cX11_layChange 25 = .ok (.ireturn, 1) := by decide +kernel
theorem dX11_layChange_26 : decode cX11_layChange 26 = .ok (.aload_n 0, 1) := by decide +kernel
theorem dX11_layChange_27 : decode cX11_layChange 27 = .ok (.invokevirtual 456, 3) := by decide +kernel
theorem dX11_layChange_30 : decode cX11_layChange 30 = .ok (.iconst 1, 1) := by decide +kernel
theorem dX11_layChange_31 : decode cX11_layChange 31 = .ok (.aload_n 0, 1) := by decide +kernel
theorem dX11_layChange_32 : decode cX11_layChange 32 = .ok (.getfield 429, 3) := by decide +kernel
theorem dX11_layChange_35 : decode cX11_layChange 35 = .ok (.ishl, 1) := by decide +kernel
theorem dX11_layChange_36 : decode cX11_layChange 36 = .ok (.iconst 1, 1) := by decide +kernel
theorem dX11_layChange_37 : decode cX11_layChange 37 = .ok (.isub, 1) := by decide +kernel
theorem dX11_layChange_38 : decode cX11_layChange 38 = .ok (.istore_n 1, 1) := by decide +kernel
theorem dX11_layChange_39 : decode cX11_layChange 39 = .ok (.iload_n 1, 1) := by decide +kernel
theorem dX11_layChange_40 : decode cX11_layChange 40 = .ok (.istore_n 2, 1) := by decide +kernel
theorem dX11_layChange_41 : decode cX11_layChange 41 = .ok (.iload_n 2, 1) := by decide +kernel
theorem dX11_layChange_42 : decode cX11_layChange 42 = .ok (.ifCond .lt 77, 3) := by decide +kernel
theorem dX11_layChange_45 : decode cX11_layChange 45 = .ok (.iload_n 2, 1) := by decide +kernel
theorem dX11_layChange_46 : decode cX11_layChange 46 = .ok (.iload_n 1, 1) := by decide +kernel
theorem dX11_layChange_47 : decode cX11_layChange 47 = .ok (.if_icmp .ne 7, 3) := by decide +kernel
theorem dX11_layChange_50 : decode cX11_layChange 50 = .ok (.iconst 1, 1) := by decide +kernel
theorem dX11_layChange_51 : decode cX11_layChange 51 = .ok (.goto 4, 3) := by decide +kernel
theorem dX11_layChange_54 : decode cX11_layChange 54 = .ok (.iconst 0, 1) := by decide +kernel
theorem dX11_layChange_55 : decode cX11_layChange 55 = .ok (.istore_n 3, 1) := by decide +kernel
theorem dX11_layChange_56 : decode cX11_layChange 56 = .ok (.iconst 0, 1) := by decide +kernel
theorem dX11_layChange_57 : decode cX11_layChange 57 = .ok (.istore 4, 2) := by decide +kernel
theorem dX11_layChange_59 : decode cX11_layChange 59 = .ok (.iload 4, 2) := by decide +kernel
theorem dX11_layChange_61 : decode cX11_layChange 61 = .ok (.aload_n 0, 1) := by decide +kernel
theorem dX11_layChange_62 : decode cX11_layChange 62 = .ok (.getfield 429, 3) := by decide +kernel
theorem dX11_layChange_65 : decode cX11_layChange 65 = .ok (.if_icmp .ge 21, 3) := by decide +kernel
theorem dX11_layChange_68 : decode cX11_layChange 68 = .ok (.iload_n 3, 1) := by decide +kernel
theorem dX11_layChange_69 : decode cX11_layChange 69 = .ok (.ifCond .ne 17, 3) := by decide +kernel
theorem dX11_layChange_72 : decode cX11_layChange 72 = .ok (.aload_n 0, 1) := by decide +kernel
theorem dX11_layChange_73 : decode cX11_layChange 73 = .ok (.iload_n 2, 1) := by decide +kernel
theorem dX11_layChange_74 : decode cX11_layChange 74 = .ok (.iload 4, 2) := by decide +kernel
theorem dX11_layChange_76 : decode cX11_layChange 76 = .ok (.invokevirtual 459, 3) := by decide +kernel
theorem dX11_layChange_79 : decode cX11_layChange 79 = .ok (.istore_n 3, 1) := by decide +kernel
theorem dX11_layChange_80 : decode cX11_layChange 80 = .ok (.iinc 4 1, 3) := by decide +kernel
theorem dX11_layChange_83 : decode cX11_layChange 83 = .ok (.goto (-24), 3) := by decide +kernel
theorem dX11_layChange_86 : decode cX11_layChange 86 = .ok (.aload_n 0, 1) := by decide +kernel
theorem dX11_layChange_87 : decode cX11_layChange 87 = .ok (.getfield 79, 3) := by decide +kernel
theorem dX11_layChange_90 : decode cX11_layChange 90 = .ok (.iload_n 2, 1) := by decide +kernel
theorem dX11_layChange_91 : decode cX11_layChange 91 = .ok (.iload_n 3, 1) := by decide +kernel
theorem dX11_layChange_92 : decode cX11_layChange 92 = .ok (.ifCond .eq 19, 3) := by decide +kernel
theorem dX11_layChange_95 : decode cX11_layChange 95 = .ok (.iload_n 2, 1) := by decide +kernel
theorem dX11_layChange_96 : decode cX11_layChange 96 = .ok (.ifCond .eq 11, 3) := by decide +kernel
theorem dX11_layChange_99 : decode cX11_layChange 99 = .ok (.aload_n 0, 1) := by decide +kernel
theorem dX11_layChange_100 : decode cX11_layChange 100 = .ok (.iload_n 2, 1) := by decide +kernel
theorem dX11_layChange_101 : decode cX11_layChange 101 = .ok (.invokevirtual 462, 3) := by decide +kernel
theorem dX11_layChange_104 : decode cX11_layChange 104 = .ok (.ifCond .eq 7, 3) := by decide +kernel
theorem dX11_layChange_107 : decode cX11_layChange 107 = .ok (.iconst 1, 1) := by decide +kernel
theorem dX11_layChange_108 : decode cX11_layChange 108 = .ok (.goto 4, 3) := by decide +kernel
theorem dX11_layChange_111 : decode cX11_layChange 111 = .ok (.iconst 0, 1) := by decide +kernel
theorem dX11_layChange_112 : decode cX11_layChange 112 = .ok (.bastore, 1) := by decide +kernel
theorem dX11_layChange_113 : decode cX11_layChange 113 = .ok (.iinc 2 (-1), 3) := by decide +kernel
theorem dX11_layChange_116 : decode cX11_layChange 116 = .ok (.goto (-75), 3) := by decide +kernel
theorem dX11_layChange_119 : decode cX11_layChange 119 = .ok (.iconst 1, 1) := by decide +kernel
theorem dX11_layChange_120 : decode cX11_layChange 120 = .ok (.ireturn, 1) := by decide +kernel
theorem dX11_change_0 : decode cX11_change 0 = .ok (.iload_n 1, 1) := by decide +kernel
theorem dX11_change_1 : decode cX11_change 1 = .ok (.iconst 0, 1) := by decide +kernel
theorem dX11_change_2 : decode cX11_change 2 = .ok (.iconst 2, 1) := by decide +kernel
theorem dX11_change_3 : decode cX11_change 3 = .ok (.invokestatic 163, 3) := by decide +kernel
theorem dX11_change_6 : decode cX11_change 6 = .ok (.ifCond .ne 5, 3) := by decide +kernel
theorem dX11_change_9 : decode cX11_change 9 = .ok (.iconst (-1), 1) := by decide +kernel
theorem dX11_change_10 : decode cX11_change 10 = .ok (.ireturn, 1) := by decide +kernel
theorem dX11_change_11 : decode cX11_change 11 = .ok (.aload_n 0, 1) := by decide +kernel
theorem dX11_change_12 : decode cX11_change 12 = .ok (.invokevirtual 465, 3) := by decide +kernel
theorem dX11_change_15 : decode cX11_change 15 = .ok (.istore_n 2, 1) := by decide +kernel
theorem dX11_change_16 : decode cX11_change 16 = .ok (.iload_n 1, 1) := by decide +kernel
theorem dX11_change_17 : decode cX11_change 17 = .ok (.ifCond .ne 10, 3) := by decide +kernel
theorem dX11_change_20 : decode cX11_change 20 = .ok (.aload_n 0, 1) := by decide +kernel
theorem dX11_change_21 : decode cX11_change 21 = .ok (.getfield 429, 3) := by decide +kernel
theorem dX11_change_24 : decode cX11_change 24 = .ok (.goto 37, 3) := by decide +kernel
theorem dX11_change_27 : decode cX11_change 27 = .ok (.iload_n 1, 1) := by decide +kernel
theorem dX11_change_28 : decode cX11_change 28 = .ok (.iconst 1, 1) := by decide +kernel
theorem dX11_change_29 : decode cX11_change 29 = .ok (.if_icmp .ne 10, 3) := by decide +kernel
theorem dX11_change_32 : decode cX11_change 32 = .ok (.aload_n 0, 1) := by decide +kernel
theorem dX11_change_33 : decode cX11_change 33 = .ok (.getfield 435, 3) := by decide +kernel
theorem dX11_change_36 : decode cX11_change 36 = .ok (.goto 25, 3) := by decide +kernel
theorem dX11_change_39 : decode cX11_change 39 = .ok (.iload_n 2, 1) := by decide +kernel
theorem dX11_change_40 : decode cX11_change 40 = .ok (.ifCond .ne 7, 3) := by decide +kernel
theorem dX11_change_43 : decode cX11_change 43 = .ok (.iconst (-1), 1) := by decide +kernel
theorem dX11_change_44 : decode cX11_change 44 = .ok (.goto 17, 3) := by decide +kernel
theorem dX11_change_47 : decode cX11_change 47 = .ok (.aload_n 0, 1) := by decide +kernel
theorem dX11_change_48 : decode cX11_change 48 = .ok (.getfield 79, 3) := by decide +kernel
theorem dX11_change_51 : decode cX11_change 51 = .ok (.iconst 0, 1) := by decide +kernel
theorem dX11_change_52 : decode cX11_change 52 = .ok (.baload, 1) := by decide +kernel
theorem dX11_change_53 : decode cX11_change 53 = .ok (.ifCond .eq 7, 3) := by decide +kernel
theorem dX11_change_56 : decode cX11_change 56 = .ok (.iconst 1, 1) := by decide +kernel
theorem dX11_change_57 : decode cX11_change 57 = .ok (.goto 4, 3) := by decide +kernel
theorem dX11_change_60 : decode cX11_change 60 = .ok (.iconst 0, 1) := by decide +kernel
theorem dX11_change_61 : decode cX11_change 61 = .ok (.ireturn, 1) := by decide +kernel
theorem dX11_orderAt_0 : decode cX11_orderAt 0 = .ok (.aload_n 0, 1) := by decide +kernel
theorem dX11_orderAt_1 : decode cX11_orderAt 1 = .ok (.invokevirtual 465, 3) := by decide +kernel
theorem dX11_orderAt_4 : decode cX11_orderAt 4 = .ok (.ifCond .eq 26, 3) := by decide +kernel
theorem dX11_orderAt_7 : decode cX11_orderAt 7 = .ok (.aload_n 0, 1) := by decide +kernel
theorem dX11_orderAt_8 : decode cX11_orderAt 8 = .ok (.getfield 79, 3) := by decide +kernel
theorem dX11_orderAt_11 : decode cX11_orderAt 11 = .ok (.iconst 0, 1) := by decide +kernel
theorem dX11_orderAt_12 : decode cX11_orderAt 12 = .ok (.baload, 1) := by decide +kernel
theorem dX11_orderAt_13 : decode cX11_orderAt 13 = .ok (.ifCond .eq 17, 3) := by decide +kernel
theorem dX11_orderAt_16 : decode cX11_orderAt 16 = .ok (.iload_n 1, 1) := by decide +kernel
theorem dX11_orderAt_17 : decode cX11_orderAt 17 = .ok (.iconst 0, 1) := by decide +kernel
theorem dX11_orderAt_18 : decode cX11_orderAt 18 = .ok (.aload_n 0, 1) := by decide +kernel
theorem dX11_orderAt_19 : decode cX11_orderAt 19 = .ok (.getfield 429, 3) := by decide +kernel
theorem dX11_orderAt_22 : decode cX11_orderAt 22 = .ok (.iconst 1, 1) := by decide +kernel
theorem dX11_orderAt_23 : decode cX11_orderAt 23 = .ok (.isub, 1) := by decide +kernel
theorem dX11_orderAt_24 : decode cX11_orderAt 24 = .ok (.invokestatic 163, 3) := by decide +kernel
theorem dX11_orderAt_27 : decode cX11_orderAt 27 = .ok (.ifCond .ne 5, 3) := by decide +kernel
theorem dX11_orderAt_30 : decode cX11_orderAt 30 = .ok (.iconst (-1), 1) := by decide +kernel
theorem dX11_orderAt_31 : decode cX11_orderAt 31 = .ok (.ireturn, 1) := by decide +kernel
theorem dX11_orderAt_32 : decode cX11_orderAt 32 = .ok (.iconst 0, 1) := by decide +kernel
theorem dX11_orderAt_33 : decode cX11_orderAt 33 = .ok (.istore_n 2, 1) := by decide +kernel
theorem dX11_orderAt_34 : decode cX11_orderAt 34 = .ok (.iconst 0, 1) := by decide +kernel
theorem dX11_orderAt_35 : decode cX11_orderAt 35 = .ok (.istore_n 3, 1) := by decide +kernel
theorem dX11_orderAt_36 : decode cX11_orderAt 36 = .ok (.iconst 0, 1) := by decide +kernel
theorem dX11_orderAt_37 : decode cX11_orderAt 37 = .ok (.istore 4, 2) := by decide +kernel
theorem dX11_orderAt_39 : decode cX11_orderAt 39 = .ok (.iload 4, 2) := by decide +kernel
theorem dX11_orderAt_41 : decode cX11_orderAt 41 = .ok (.iload_n 1, 1) := by decide +kernel
theorem dX11_orderAt_42 : decode cX11_orderAt 42 = .ok (.if_icmp .gt 37, 3) := by decide +kernel
theorem dX11_orderAt_45 : decode cX11_orderAt 45 = .ok (.iconst 0, 1) := by decide +kernel
theorem dX11_orderAt_46 : decode cX11_orderAt 46 = .ok (.istore_n 3, 1) := by decide +kernel
theorem dX11_orderAt_47 : decode cX11_orderAt 47 = .ok (.aload_n 0, 1) := by decide +kernel
theorem dX11_orderAt_48 : decode cX11_orderAt 48 = .ok (.iload_n 2, 1) := by decide +kernel
theorem dX11_orderAt_49 : decode cX11_orderAt 49 = .ok (.iload_n 3, 1) := by decide +kernel
theorem dX11_orderAt_50 : decode cX11_orderAt 50 = .ok (.invokevirtual 459, 3) := by decide +kernel
theorem dX11_orderAt_53 : decode cX11_orderAt 53 = .ok (.ifCond .ne 9, 3) := by decide +kernel
theorem dX11_orderAt_56 : decode cX11_orderAt 56 = .ok (.iinc 3 1, 3) := by decide +kernel
theorem dX11_orderAt_59 : decode cX11_orderAt 59 = .ok (.goto (-12), 3) := by decide +kernel
theorem dX11_orderAt_62 : decode cX11_orderAt 62 = .ok (.aload_n 0, 1) := by decide +kernel
theorem dX11_orderAt_63 : decode cX11_orderAt 63 = .ok (.iload_n 2, 1) := by decide +kernel
theorem dX11_orderAt_64 : decode cX11_orderAt 64 = .ok (.putfield 468, 3) := by decide +kernel
theorem dX11_orderAt_67 : decode cX11_orderAt 67 = .ok (.iload_n 2, 1) := by decide +kernel
theorem dX11_orderAt_68 : decode cX11_orderAt 68 = .ok (.iconst 1, 1) := by decide +kernel
theorem dX11_orderAt_69 : decode cX11_orderAt 69 = .ok (.iload_n 3, 1) := by decide +kernel
theorem dX11_orderAt_70 : decode cX11_orderAt 70 = .ok (.ishl, 1) := by decide +kernel
theorem dX11_orderAt_71 : decode cX11_orderAt 71 = .ok (.ior, 1) := by decide +kernel
theorem dX11_orderAt_72 : decode cX11_orderAt 72 = .ok (.istore_n 2, 1) := by decide +kernel
theorem dX11_orderAt_73 : decode cX11_orderAt 73 = .ok (.iinc 4 1, 3) := by decide +kernel
theorem dX11_orderAt_76 : decode cX11_orderAt 76 = .ok (.goto (-37), 3) := by decide +kernel
theorem dX11_orderAt_79 : decode cX11_orderAt 79 = .ok (.iload_n 3, 1) := by decide +kernel
theorem dX11_orderAt_80 : decode cX11_orderAt 80 = .ok (.ireturn, 1) := by decide +kernel
theorem dX11_order_0 : decode cX11_order 0 = .ok (.aload_n 0, 1) := by decide +kernel
theorem dX11_order_1 : decode cX11_order 1 = .ok (.iload_n 1, 1) := by decide +kernel
theorem dX11_order_2 : decode cX11_order 2 = .ok (.invokevirtual 471, 3) := by decide +kernel
theorem dX11_order_5 : decode cX11_order 5 = .ok (.ireturn, 1) := by decide +kernel
theorem dX11_stir_0 : decode cX11_stir 0 = .ok (.aload_n 0, 1) := by decide +kernel
theorem dX11_stir_1 : decode cX11_stir 1 = .ok (.iload_n 1, 1) := by decide +kernel
theorem dX11_stir_2 : decode cX11_stir 2 = .ok (.invokevirtual 471, 3) := by decide +kernel
theorem dX11_stir_5 : decode cX11_stir 5 = .ok (.istore_n 2, 1) := by decide +kernel
theorem dX11_stir_6 : decode cX11_stir 6 = .ok (.iload_n 2, 1) := by decide +kernel
theorem dX11_stir_7 : decode cX11_stir 7 = .ok (.ifCond .ge 5, 3) := by decide +kernel
theorem dX11_stir_10 : decode cX11_stir 10 = .ok (.iconst (-1), 1) := by decide +kernel
theorem dX11_stir_11 : decode cX11_stir 11 = .ok (.ireturn, 1) := by decide +kernel
theorem dX11_stir_12 : decode cX11_stir 12 = .ok (.iconst 0, 1) := by decide +kernel
theorem dX11_stir_13 : decode cX11_stir 13 = .ok (.istore_n 3, 1) := by decide +kernel
theorem dX11_stir_14 : decode cX11_stir 14 = .ok (.iconst 0, 1) := by decide +kernel
theorem dX11_stir_15 : decode cX11_stir 15 = .ok (.istore 4, 2) := by decide +kernel
theorem dX11_stir_17 : decode cX11_stir 17 = .ok (.iload 4, 2) := by decide +kernel
theorem dX11_stir_19 : decode cX11_stir 19 = .ok (.aload_n 0, 1) := by decide +kernel
theorem dX11_stir_20 : decode cX11_stir 20 = .ok (.invokevirtual 240, 3) := by decide +kernel
theorem dX11_stir_23 : decode cX11_stir 23 = .ok (.if_icmp .ge 53, 3) := by decide +kernel
theorem dX11_stir_26 : decode cX11_stir 26 = .ok (.iload_n 3, 1) := by decide +kernel
theorem dX11_stir_27 : decode cX11_stir 27 = .ok (.aload_n 0, 1) := by decide +kernel
theorem dX11_stir_28 : decode cX11_stir 28 = .ok (.iload 4, 2) := by decide +kernel
theorem dX11_stir_30 : decode cX11_stir 30 = .ok (.invokevirtual 255, 3) := by decide +kernel
theorem dX11_stir_33 : decode cX11_stir 33 = .ok (.ifCond .ne 34, 3) := by decide +kernel
theorem dX11_stir_36 : decode cX11_stir 36 = .ok (.aload_n 0, 1) := by decide +kernel
theorem dX11_stir_37 : decode cX11_stir 37 = .ok (.iload 4, 2) := by decide +kernel
theorem dX11_stir_39 : decode cX11_stir 39 = .ok (.aload_n 0, 1) := by decide +kernel
theorem dX11_stir_40 : decode cX11_stir 40 = .ok (.getfield 468, 3) := by decide +kernel
theorem dX11_stir_43 : decode cX11_stir 43 = .ok (.invokevirtual 447, 3) := by decide +kernel
theorem dX11_stir_46 : decode cX11_stir 46 = .ok (.aload_n 0, 1) := by decide +kernel
theorem dX11_stir_47 : decode cX11_stir 47 = .ok (.iload 4, 2) := by decide +kernel
theorem dX11_stir_49 : decode cX11_stir 49 = .ok (.aload_n 0, 1) := by decide +kernel
theorem dX11_stir_50 : decode cX11_stir 50 = .ok (.getfield 468, 3) := by decide +kernel
theorem dX11_stir_53 : decode cX11_stir 53 = .ok (.iconst 1, 1) := by decide +kernel
theorem dX11_stir_54 : decode cX11_stir 54 = .ok (.iload_n 2, 1) := by decide +kernel
theorem dX11_stir_55 : decode cX11_stir 55 = .ok (.ishl, 1) := by decide +kernel
theorem dX11_stir_56 : decode cX11_stir 56 = .ok (.ior, 1) := by decide +kernel
theorem dX11_stir_57 : decode cX11_stir 57 = .ok (.invokevirtual 447, 3) := by decide +kernel
theorem dX11_stir_60 : decode cX11_stir 60 = .ok (.if_icmp .eq 7, 3) := by decide +kernel
theorem dX11_stir_63 : decode cX11_stir 63 = .ok (.iconst 1, 1) := by decide +kernel
theorem dX11_stir_64 : decode cX11_stir 64 = .ok (.goto 4, 3) := by decide +kernel
theorem dX11_stir_67 : decode cX11_stir 67 = .ok (.iconst 0, 1) := by decide +kernel
theorem dX11_stir_68 : decode cX11_stir 68 = .ok (.iadd, 1) := by decide +kernel
theorem dX11_stir_69 : decode cX11_stir 69 = .ok (.istore_n 3, 1) := by decide +kernel
theorem dX11_stir_70 : decode cX11_stir 70 = .ok (.iinc 4 1, 3) := by decide +kernel
theorem dX11_stir_73 : decode cX11_stir 73 = .ok (.goto (-56), 3) := by decide +kernel
theorem dX11_stir_76 : decode cX11_stir 76 = .ok (.iload_n 3, 1) := by decide +kernel
theorem dX11_stir_77 : decode cX11_stir 77 = .ok (.ireturn, 1) := by decide +kernel
theorem dX11_keepAct_0 : decode cX11_keepAct 0 = .ok (.aload_n 0, 1) := by decide +kernel
theorem dX11_keepAct_1 : decode cX11_keepAct 1 = .ok (.getfield 234, 3) := by decide +kernel
theorem dX11_keepAct_4 : decode cX11_keepAct 4 = .ok (.bipush 16, 2) := by decide +kernel
theorem dX11_keepAct_6 : decode cX11_keepAct 6 = .ok (.if_icmp .ne 44, 3) := by decide +kernel
theorem dX11_keepAct_9 : decode cX11_keepAct 9 = .ok (.iconst 0, 1) := by decide +kernel
theorem dX11_keepAct_10 : decode cX11_keepAct 10 = .ok (.istore_n 1, 1) := by decide +kernel
theorem dX11_keepAct_11 : decode cX11_keepAct 11 = .ok (.iload_n 1, 1) := by decide +kernel
theorem dX11_keepAct_12 : decode cX11_keepAct 12 = .ok (.sipush 2240, 3) := by decide +kernel
theorem dX11_keepAct_15 : decode cX11_keepAct 15 = .ok (.if_icmp .ge 25, 3) := by decide +kernel
theorem dX11_keepAct_18 : decode cX11_keepAct 18 = .ok (.aload_n 0, 1) := by decide +kernel
theorem dX11_keepAct_19 : decode cX11_keepAct 19 = .ok (.getfield 95, 3) := by decide +kernel
theorem dX11_keepAct_22 : decode cX11_keepAct 22 = .ok (.iload_n 1, 1) := by decide +kernel
theorem dX11_keepAct_23 : decode cX11_keepAct 23 = .ok (.aload_n 0, 1) := by decide +kernel
theorem dX11_keepAct_24 : decode cX11_keepAct 24 = .ok (.getfield 95, 3) := by decide +kernel
theorem dX11_keepAct_27 : decode cX11_keepAct 27 = .ok (.iload_n 1, 1) := by decide +kernel
theorem dX11_keepAct_28 : decode cX11_keepAct 28 = .ok (.sipush 140, 3) := by decide +kernel
theorem dX11_keepAct_31 : decode cX11_keepAct 31 = .ok (.iadd, 1) := by decide +kernel
theorem dX11_keepAct_32 : decode cX11_keepAct 32 = .ok (.iaload, 1) := by decide +kernel
theorem dX11_keepAct_33 : decode cX11_keepAct 33 = .ok (.iastore, 1) := by decide +kernel
theorem dX11_keepAct_34 : decode cX11_keepAct 34 = .ok (.iinc 1 1, 3) := by decide +kernel
theorem dX11_keepAct_37 : decode cX11_keepAct 37 = .ok (.goto (-26), 3) := by decide +kernel
theorem dX11_keepAct_40 : decode cX11_keepAct 40 = .ok (.aload_n 0, 1) := by decide +kernel
theorem dX11_keepAct_41 : decode cX11_keepAct 41 = .ok (.dup, 1) := by decide +kernel
theorem dX11_keepAct_42 : decode cX11_keepAct 42 = .ok (.getfield 234, 3) := by decide +kernel
theorem dX11_keepAct_45 : decode cX11_keepAct 45 = .ok (.iconst 1, 1) := by decide +kernel
theorem dX11_keepAct_46 : decode cX11_keepAct 46 = .ok (.isub, 1) := by decide +kernel
theorem dX11_keepAct_47 : decode cX11_keepAct 47 = .ok (.putfield 234, 3) := by decide +kernel
theorem dX11_keepAct_50 : decode cX11_keepAct 50 = .ok (.iconst 0, 1) := by decide +kernel
theorem dX11_keepAct_51 : decode cX11_keepAct 51 = .ok (.istore_n 1, 1) := by decide +kernel
theorem dX11_keepAct_52 : decode cX11_keepAct 52 = .ok (.iload_n 1, 1) := by decide +kernel
theorem dX11_keepAct_53 : decode cX11_keepAct 53 = .ok (.sipush 140, 3) := by decide +kernel
theorem dX11_keepAct_56 : decode cX11_keepAct 56 = .ok (.if_icmp .ge 30, 3) := by decide +kernel
theorem dX11_keepAct_59 : decode cX11_keepAct 59 = .ok (.aload_n 0, 1) := by decide +kernel
theorem dX11_keepAct_60 : decode cX11_keepAct 60 = .ok (.getfield 95, 3) := by decide +kernel
theorem dX11_keepAct_63 : decode cX11_keepAct 63 = .ok (.sipush 140, 3) := by decide +kernel
theorem dX11_keepAct_66 : decode cX11_keepAct 66 = .ok (.aload_n 0, 1) := by decide +kernel
theorem dX11_keepAct_67 : decode cX11_keepAct 67 = .ok (.getfield 234, 3) := by decide +kernel
theorem dX11_keepAct_70 : decode cX11_keepAct 70 = .ok (.imul, 1) := by decide +kernel
theorem dX11_keepAct_71 : decode cX11_keepAct 71 = .ok (.iload_n 1, 1) := by decide +kernel
theorem dX11_keepAct_72 : decode cX11_keepAct 72 = .ok (.iadd, 1) := by decide +kernel
theorem dX11_keepAct_73 : decode cX11_keepAct 73 = .ok (.aload_n 0, 1) := by decide +kernel
theorem dX11_keepAct_74 : decode cX11_keepAct 74 = .ok (.getfield 7, 3) := by decide +kernel
theorem dX11_keepAct_77 : decode cX11_keepAct 77 = .ok (.iload_n 1, 1) := by decide +kernel
theorem dX11_keepAct_78 : decode cX11_keepAct 78 = .ok (.iaload, 1) := by decide +kernel
theorem dX11_keepAct_79 : decode cX11_keepAct 79 = .ok (.iastore, 1) := by decide +kernel
theorem dX11_keepAct_80 : decode cX11_keepAct 80 = .ok (.iinc 1 1, 3) := by decide +kernel
theorem dX11_keepAct_83 : decode cX11_keepAct 83 = .ok (.goto (-31), 3) := by decide +kernel
theorem dX11_keepAct_86 : decode cX11_keepAct 86 = .ok (.aload_n 0, 1) := by decide +kernel
theorem dX11_keepAct_87 : decode cX11_keepAct 87 = .ok (.dup, 1) := by decide +kernel
theorem dX11_keepAct_88 : decode cX11_keepAct 88 = .ok (.getfield 234, 3) := by decide +kernel
theorem dX11_keepAct_91 : decode cX11_keepAct 91 = .ok (.iconst 1, 1) := by decide +kernel
theorem dX11_keepAct_92 : decode cX11_keepAct 92 = .ok (.iadd, 1) := by decide +kernel
theorem dX11_keepAct_93 : decode cX11_keepAct 93 = .ok (.putfield 234, 3) := by decide +kernel
theorem dX11_keepAct_96 : decode cX11_keepAct 96 = .ok (.aload_n 0, 1) := by decide +kernel
theorem dX11_keepAct_97 : decode cX11_keepAct 97 = .ok (.iconst 0, 1) := by decide +kernel
theorem dX11_keepAct_98 : decode cX11_keepAct 98 = .ok (.putfield 237, 3) := by decide +kernel
theorem dX11_keepAct_101 : decode cX11_keepAct 101 = .ok (.return_, 1) := by decide +kernel
theorem dX11_span_0 : decode cX11_span 0 = .ok (.aload_n 0, 1) := by decide +kernel
theorem dX11_span_1 : decode cX11_span 1 = .ok (.iload_n 1, 1) := by decide +kernel
theorem dX11_span_2 : decode cX11_span 2 = .ok (.invokevirtual 282, 3) := by decide +kernel
theorem dX11_span_5 : decode cX11_span 5 = .ok (.ifCond .eq 34, 3) := by decide +kernel
theorem dX11_span_8 : decode cX11_span 8 = .ok (.aload_n 0, 1) := by decide +kernel
theorem dX11_span_9 : decode cX11_span 9 = .ok (.iload_n 2, 1) := by decide +kernel
theorem dX11_span_10 : decode cX11_span 10 = .ok (.invokevirtual 282, 3) := by decide +kernel
theorem dX11_span_13 : decode cX11_span 13 = .ok (.ifCond .eq 26, 3) := by decide +kernel
theorem dX11_span_16 : decode cX11_span 16 = .ok (.iload_n 2, 1) := by decide +kernel
theorem dX11_span_17 : decode cX11_span 17 = .ok (.iload_n 1, 1) := by decide +kernel
theorem dX11_span_18 : decode cX11_span 18 = .ok (.if_icmp .lt 21, 3) := by decide +kernel
theorem dX11_span_21 : decode cX11_span 21 = .ok (.iload_n 3, 1) := by decide +kernel
theorem dX11_span_22 : decode cX11_span 22 = .ok (.invokestatic 306, 3) := by decide +kernel
theorem dX11_span_25 : decode cX11_span 25 = .ok (.ifCond .eq 14, 3) := by decide +kernel
theorem dX11_span_28 : decode cX11_span 28 = .ok (.aload_n 0, 1) := by decide +kernel
theorem dX11_span_29 : decode cX11_span 29 = .ok (.getfield 7, 3) := by decide +kernel
theorem dX11_span_32 : decode cX11_span 32 = .ok (.iconst 1, 1) := by decide +kernel
theorem dX11_span_33 : decode cX11_span 33 = .ok (.iaload, 1) := by decide +kernel
theorem dX11_span_34 : decode cX11_span 34 = .ok (.bipush 12, 2) := by decide +kernel
theorem dX11_span_36 : decode cX11_span 36 = .ok (.if_icmp .ne 5, 3) := by decide +kernel
theorem dX11_span_39 : decode cX11_span 39 = .ok (.iconst (-1), 1) := by decide +kernel
theorem dX11_span_40 : decode cX11_span 40 = .ok (.ireturn, 1) := by decide +kernel
theorem dX11_span_41 : decode cX11_span 41 = .ok (.aload_n 0, 1) := by decide +kernel
theorem dX11_span_42 : decode cX11_span 42 = .ok (.invokevirtual 474, 3) := by decide +kernel
theorem dX11_span_45 : decode cX11_span 45 = .ok (.iconst 2, 1) := by decide +kernel
theorem dX11_span_46 : decode cX11_span 46 = .ok (.iconst 3, 1) := by decide +kernel
theorem dX11_span_47 : decode cX11_span 47 = .ok (.aload_n 0, 1) := by decide +kernel
theorem dX11_span_48 : decode cX11_span 48 = .ok (.getfield 7, 3) := by decide +kernel
theorem dX11_span_51 : decode cX11_span 51 = .ok (.iconst 1, 1) := by decide +kernel
theorem dX11_span_52 : decode cX11_span 52 = .ok (.iaload, 1) := by decide +kernel
theorem dX11_span_53 : decode cX11_span 53 = .ok (.imul, 1) := by decide +kernel
theorem dX11_span_54 : decode cX11_span 54 = .ok (.iadd, 1) := by decide +kernel
theorem dX11_span_55 : decode cX11_span 55 = .ok (.istore 4, 2) := by decide +kernel
theorem dX11_span_57 : decode cX11_span 57 = .ok (.aload_n 0, 1) := by decide +kernel
theorem dX11_span_58 : decode cX11_span 58 = .ok (.getfield 7, 3) := by decide +kernel
theorem dX11_span_61 : decode cX11_span 61 = .ok (.iload 4, 2) := by decide +kernel
theorem dX11_span_63 : decode cX11_span 63 = .ok (.iload_n 1, 1) := by decide +kernel
theorem dX11_span_64 : decode cX11_span 64 = .ok (.iastore, 1) := by decide +kernel
theorem dX11_span_65 : decode cX11_span 65 = .ok (.aload_n 0, 1) := by decide +kernel
theorem dX11_span_66 : decode cX11_span 66 = .ok (.getfield 7, 3) := by decide +kernel
theorem dX11_span_69 : decode cX11_span 69 = .ok (.iload 4, 2) := by decide +kernel
theorem dX11_span_71 : decode cX11_span 71 = .ok (.iconst 1, 1) := by decide +kernel
theorem dX11_span_72 : decode cX11_span 72 = .ok (.iadd, 1) := by decide +kernel
theorem dX11_span_73 : decode cX11_span 73 = .ok (.iload_n 2, 1) := by decide +kernel
theorem dX11_span_74 : decode cX11_span 74 = .ok (.iastore, 1) := by decide +kernel
theorem dX11_span_75 : decode cX11_span 75 = .ok (.aload_n 0, 1) := by decide +kernel
theorem dX11_span_76 : decode cX11_span 76 = .ok (.getfield 7, 3) := by decide +kernel
theorem dX11_span_79 : decode cX11_span 79 = .ok (.iload 4, 2) := by decide +kernel
theorem dX11_span_81 : decode cX11_span 81 = .ok (.iconst 2, 1) := by decide +kernel
theorem dX11_span_82 : decode cX11_span 82 = .ok (.iadd, 1) := by decide +kernel
theorem dX11_span_83 : decode cX11_span 83 = .ok (.iload_n 3, 1) := by decide +kernel
theorem dX11_span_84 : decode cX11_span 84 = .ok (.iastore, 1) := by decide +kernel
theorem dX11_span_85 : decode cX11_span 85 = .ok (.aload_n 0, 1) := by decide +kernel
theorem dX11_span_86 : decode cX11_span 86 = .ok (.getfield 7, 3) := by decide +kernel
theorem dX11_span_89 : decode cX11_span 89 = .ok (.iconst 1, 1) := by decide +kernel
theorem dX11_span_90 : decode cX11_span 90 = .ok (.dup2, 1) := by decide +kernel
theorem dX11_span_91 : decode cX11_span 91 = .ok (.iaload, 1) := by decide +kernel
theorem dX11_span_92 : decode cX11_span 92 = .ok (.iconst 1, 1) := by decide +kernel
theorem dX11_span_93 : decode cX11_span 93 = .ok (.iadd, 1) := by decide +kernel
theorem dX11_span_94 : decode cX11_span 94 = .ok (.iastore, 1) := by decide +kernel
theorem dX11_span_95 : decode cX11_span 95 = .ok (.aload_n 0, 1) := by decide +kernel
theorem dX11_span_96 : decode cX11_span 96 = .ok (.getfield 7, 3) := by decide +kernel
theorem dX11_span_99 : decode cX11_span 99 = .ok (.iconst 1, 1) := by decide +kernel
theorem dX11_span_100 : decode cX11_span 100 = .ok (.iaload, 1) := by decide +kernel
theorem dX11_span_101 : decode cX11_span 101 = .ok (.iconst 1, 1) := by decide +kernel
theorem dX11_span_102 : decode cX11_span 102 = .ok (.isub, 1) := by decide +kernel
theorem dX11_span_103 : decode cX11_span 103 = .ok (.ireturn, 1) := by decide +kernel
theorem dX11_drop_0 : decode cX11_drop 0 = .ok (.iload_n 1, 1) := by decide +kernel
theorem dX11_drop_1 : decode cX11_drop 1 = .ok (.iconst 0, 1) := by decide +kernel
theorem dX11_drop_2 : decode cX11_drop 2 = .ok (.aload_n 0, 1) := by decide +kernel
theorem dX11_drop_3 : decode cX11_drop 3 = .ok (.getfield 7, 3) := by decide +kernel
theorem dX11_drop_6 : decode cX11_drop 6 = .ok (.iconst 1, 1) := by decide +kernel
theorem dX11_drop_7 : decode cX11_drop 7 = .ok (.iaload, 1) := by decide +kernel
theorem dX11_drop_8 : decode cX11_drop 8 = .ok (.iconst 1, 1) := by decide +kernel
theorem dX11_drop_9 : decode cX11_drop 9 = .ok (.isub, 1) := by decide +kernel
theorem dX11_drop_10 : decode cX11_drop 10 = .ok (.invokestatic 163, 3) := by decide +kernel
theorem dX11_drop_13 : decode cX11_drop 13 = .ok (.ifCond .ne 5, 3) := by decide +kernel
theorem dX11_drop_16 : decode cX11_drop 16 = .ok (.iconst (-1), 1) := by decide +kernel
theorem dX11_drop_17 : decode cX11_drop 17 = .ok (.ireturn, 1) := by decide +kernel
theorem dX11_drop_18 : decode cX11_drop 18 = .ok (.aload_n 0, 1) := by decide +kernel
theorem dX11_drop_19 : decode cX11_drop 19 = .ok (.invokevirtual 474, 3) := by decide +kernel
theorem dX11_drop_22 : decode cX11_drop 22 = .ok (.aload_n 0, 1) := by decide +kernel
theorem dX11_drop_23 : decode cX11_drop 23 = .ok (.getfield 7, 3) := by decide +kernel
theorem dX11_drop_26 : decode cX11_drop 26 = .ok (.iconst 1, 1) := by decide +kernel
theorem dX11_drop_27 : decode cX11_drop 27 = .ok (.dup2, 1) := by decide +kernel
theorem dX11_drop_28 : decode cX11_drop 28 = .ok (.iaload, 1) := by decide +kernel
theorem dX11_drop_29 : decode cX11_drop 29 = .ok (.iconst 1, 1) := by decide +kernel
theorem dX11_drop_30 : decode cX11_drop 30 = .ok (.isub, 1) := by decide +kernel
theorem dX11_drop_31 : decode cX11_drop 31 = .ok (.iastore, 1) := by decide +kernel
theorem dX11_drop_32 : decode cX11_drop 32 = .ok (.iconst 2, 1) := by decide +kernel
theorem dX11_drop_33 : decode cX11_drop 33 = .ok (.iconst 3, 1) := by decide +kernel
theorem dX11_drop_34 : decode cX11_drop 34 = .ok (.iload_n 1, 1) := by decide +kernel
theorem dX11_drop_35 : decode cX11_drop 35 = .ok (.imul, 1) := by decide +kernel
theorem dX11_drop_36 : decode cX11_drop 36 = .ok (.iadd, 1) := by decide +kernel
theorem dX11_drop_37 : decode cX11_drop 37 = .ok (.istore_n 2, 1) := by decide +kernel
theorem dX11_drop_38 : decode cX11_drop 38 = .ok (.iload_n 2, 1) := by decide +kernel
theorem dX11_drop_39 : decode cX11_drop 39 = .ok (.iconst 2, 1) := by decide +kernel
theorem dX11_drop_40 : decode cX11_drop 40 = .ok (.iconst 3, 1) := by decide +kernel
theorem dX11_drop_41 : decode cX11_drop 41 = .ok (.aload_n 0, 1) := by decide +kernel
theorem dX11_drop_42 : decode cX11_drop 42 = .ok (.getfield 7, 3) := by decide +kernel
theorem dX11_drop_45 : decode cX11_drop 45 = .ok (.iconst 1, 1) := by decide +kernel
theorem dX11_drop_46 : decode cX11_drop 46 = .ok (.iaload, 1) := by decide +kernel
theorem dX11_drop_47 : decode cX11_drop 47 = .ok (.imul, 1) := by decide +kernel
theorem dX11_drop_48 : decode cX11_drop 48 = .ok (.iadd, 1) := by decide +kernel
theorem dX11_drop_49 : decode cX11_drop 49 = .ok (.if_icmp .ge 23, 3) := by decide +kernel
theorem dX11_drop_52 : decode cX11_drop 52 = .ok (.aload_n 0, 1) := by decide +kernel
theorem dX11_drop_53 : decode cX11_drop 53 = .ok (.getfield 7, 3) := by decide +kernel
theorem dX11_drop_56 : decode cX11_drop 56 = .ok (.iload_n 2, 1) := by decide +kernel
theorem dX11_drop_57 : decode cX11_drop 57 = .ok (.aload_n 0, 1) := by decide +kernel
theorem dX11_drop_58 : decode cX11_drop 58 = .ok (.getfield 7, 3) := by decide +kernel
theorem dX11_drop_61 : decode cX11_drop 61 = .ok (.iload_n 2, 1) := by decide +kernel
theorem dX11_drop_62 : decode cX11_drop 62 = .ok (.iconst 3, 1) := by decide +kernel
theorem dX11_drop_63 : decode cX11_drop 63 = .ok (.iadd, 1) := by decide +kernel
theorem dX11_drop_64 : decode cX11_drop 64 = .ok (.iaload, 1) := by decide +kernel
theorem dX11_drop_65 : decode cX11_drop 65 = .ok (.iastore, 1) := by decide +kernel
theorem dX11_drop_66 : decode cX11_drop 66 = .ok (.iinc 2 1, 3) := by decide +kernel
theorem dX11_drop_69 : decode cX11_drop 69 = .ok (.goto (-31), 3) := by decide +kernel
theorem dX11_drop_72 : decode cX11_drop 72 = .ok (.aload_n 0, 1) := by decide +kernel
theorem dX11_drop_73 : decode cX11_drop 73 = .ok (.getfield 7, 3) := by decide +kernel
theorem dX11_drop_76 : decode cX11_drop 76 = .ok (.iconst 1, 1) := by decide +kernel
theorem dX11_drop_77 : decode cX11_drop 77 = .ok (.iaload, 1) := by decide +kernel
theorem dX11_drop_78 : decode cX11_drop 78 = .ok (.ireturn, 1) := by decide +kernel
theorem dX11_becomes_0 : decode cX11_becomes 0 = .ok (.aload_n 0, 1) := by decide +kernel
theorem dX11_becomes_1 : decode cX11_becomes 1 = .ok (.invokevirtual 474, 3) := by decide +kernel
theorem dX11_becomes_4 : decode cX11_becomes 4 = .ok (.aload_n 0, 1) := by decide +kernel
theorem dX11_becomes_5 : decode cX11_becomes 5 = .ok (.getfield 7, 3) := by decide +kernel
theorem dX11_becomes_8 : decode cX11_becomes 8 = .ok (.iload_n 1, 1) := by decide +kernel
theorem dX11_becomes_9 : decode cX11_becomes 9 = .ok (.iaload, 1) := by decide +kernel
theorem dX11_becomes_10 : decode cX11_becomes 10 = .ok (.istore_n 3, 1) := by decide +kernel
theorem dX11_becomes_11 : decode cX11_becomes 11 = .ok (.aload_n 0, 1) := by decide +kernel
theorem dX11_becomes_12 : decode cX11_becomes 12 = .ok (.getfield 7, 3) := by decide +kernel
theorem dX11_becomes_15 : decode cX11_becomes 15 = .ok (.iload_n 1, 1) := by decide +kernel
theorem dX11_becomes_16 : decode cX11_becomes 16 = .ok (.iload_n 2, 1) := by decide +kernel
theorem dX11_becomes_17 : decode cX11_becomes 17 = .ok (.iastore, 1) := by decide +kernel
theorem dX11_becomes_18 : decode cX11_becomes 18 = .ok (.iload_n 3, 1) := by decide +kernel
theorem dX11_becomes_19 : decode cX11_becomes 19 = .ok (.ireturn, 1) := by decide +kernel
theorem dX11_prefer_0 : decode cX11_prefer 0 = .ok (.iload_n 1, 1) := by decide +kernel
theorem dX11_prefer_1 : decode cX11_prefer 1 = .ok (.invokestatic 306, 3) := by decide +kernel
theorem dX11_prefer_4 : decode cX11_prefer 4 = .ok (.ifCond .eq 12, 3) := by decide +kernel
theorem dX11_prefer_7 : decode cX11_prefer 7 = .ok (.aload_n 0, 1) := by decide +kernel
theorem dX11_prefer_8 : decode cX11_prefer 8 = .ok (.iconst 0, 1) := by decide +kernel
theorem dX11_prefer_9 : decode cX11_prefer 9 = .ok (.iload_n 1, 1) := by decide +kernel
theorem dX11_prefer_10 : decode cX11_prefer 10 = .ok (.invokevirtual 477, 3) := by decide +kernel
theorem dX11_prefer_13 : decode cX11_prefer 13 = .ok (.goto 4, 3) := by decide +kernel
theorem dX11_prefer_16 : decode cX11_prefer 16 = .ok (.iconst (-1), 1) := by decide +kernel
theorem dX11_prefer_17 : decode cX11_prefer 17 = .ok (.ireturn, 1) := by decide +kernel
theorem dX11_fix_0 : decode cX11_fix 0 = .ok (.aload_n 0, 1) := by decide +kernel
theorem dX11_fix_1 : decode cX11_fix 1 = .ok (.getfield 19, 3) := by decide +kernel
theorem dX11_fix_4 : decode cX11_fix 4 = .ok (.aload_n 0, 1) := by decide +kernel
theorem dX11_fix_5 : decode cX11_fix 5 = .ok (.getfield 225, 3) := by decide +kernel
theorem dX11_fix_8 : decode cX11_fix 8 = .ok (.iaload, 1) := by decide +kernel
theorem dX11_fix_9 : decode cX11_fix 9 = .ok (.ifCond .le 32, 3) := by decide +kernel
theorem dX11_fix_12 : decode cX11_fix 12 = .ok (.iload_n 1, 1) := by decide +kernel
theorem dX11_fix_13 : decode cX11_fix 13 = .ok (.iconst 0, 1) := by decide +kernel
theorem dX11_fix_14 : decode cX11_fix 14 = .ok (.bipush 7, 2) := by decide +kernel
theorem dX11_fix_16 : decode cX11_fix 16 = .ok (.invokestatic 163, 3) := by decide +kernel
theorem dX11_fix_19 : decode cX11_fix 19 = .ok (.ifCond .eq 22, 3) := by decide +kernel
theorem dX11_fix_22 : decode cX11_fix 22 = .ok (.iload_n 2, 1) := by decide +kernel
theorem dX11_fix_23 : decode cX11_fix 23 = .ok (.invokestatic 306, 3) := by decide +kernel
theorem dX11_fix_26 : decode cX11_fix 26 = .ok (.ifCond .eq 15, 3) := by decide +kernel
theorem dX11_fix_29 : decode cX11_fix 29 = .ok (.aload_n 0, 1) := by decide +kernel
theorem dX11_fix_30 : decode cX11_fix 30 = .ok (.bipush 68, 2) := by decide +kernel
theorem dX11_fix_32 : decode cX11_fix 32 = .ok (.iload_n 1, 1) := by decide +kernel
theorem dX11_fix_33 : decode cX11_fix 33 = .ok (.iadd, 1) := by decide +kernel
theorem dX11_fix_34 : decode cX11_fix 34 = .ok (.iload_n 2, 1) := by decide +kernel
theorem dX11_fix_35 : decode cX11_fix 35 = .ok (.invokevirtual 477, 3) := by decide +kernel
theorem dX11_fix_38 : decode cX11_fix 38 = .ok (.goto 4, 3) := by decide +kernel
theorem dX11_fix_41 : decode cX11_fix 41 = .ok (.iconst (-1), 1) := by decide +kernel
theorem dX11_fix_42 : decode cX11_fix 42 = .ok (.ireturn, 1) := by decide +kernel
theorem dX11_page_0 : decode cX11_page 0 = .ok (.iload_n 1, 1) := by decide +kernel
theorem dX11_page_1 : decode cX11_page 1 = .ok (.iconst 0, 1) := by decide +kernel
theorem dX11_page_2 : decode cX11_page 2 = .ok (.aload_n 0, 1) := by decide +kernel
theorem dX11_page_3 : decode cX11_page 3 = .ok (.invokevirtual 291, 3) := by decide +kernel
theorem dX11_page_6 : decode cX11_page 6 = .ok (.iconst 1, 1) := by decide +kernel
theorem dX11_page_7 : decode cX11_page 7 = .ok (.isub, 1) := by decide +kernel
theorem dX11_page_8 : decode cX11_page 8 = .ok (.invokestatic 163, 3) := by decide +kernel
theorem dX11_page_11 : decode cX11_page 11 = .ok (.ifCond .eq 24, 3) := by decide +kernel
theorem dX11_page_14 : decode cX11_page 14 = .ok (.iload_n 2, 1) := by decide +kernel
theorem dX11_page_15 : decode cX11_page 15 = .ok (.iconst 0, 1) := by decide +kernel
theorem dX11_page_16 : decode cX11_page 16 = .ok (.iconst 5, 1) := by decide +kernel
theorem dX11_page_17 : decode cX11_page 17 = .ok (.invokestatic 163, 3) := by decide +kernel
theorem dX11_page_20 : decode cX11_page 20 = .ok (.ifCond .eq 15, 3) := by decide +kernel
theorem dX11_page_23 : decode cX11_page 23 = .ok (.aload_n 0, 1) := by decide +kernel
theorem dX11_page_24 : decode cX11_page 24 = .ok (.bipush 76, 2) := by decide +kernel
theorem dX11_page_26 : decode cX11_page 26 = .ok (.iload_n 1, 1) := by decide +kernel
theorem dX11_page_27 : decode cX11_page 27 = .ok (.iadd, 1) := by decide +kernel
theorem dX11_page_28 : decode cX11_page 28 = .ok (.iload_n 2, 1) := by decide +kernel
theorem dX11_page_29 : decode cX11_page 29 = .ok (.invokevirtual 477, 3) := by decide +kernel
theorem dX11_page_32 : decode cX11_page 32 = .ok (.goto 4, 3) := by decide +kernel
theorem dX11_page_35 : decode cX11_page 35 = .ok (.iconst (-1), 1) := by decide +kernel
theorem dX11_page_36 : decode cX11_page 36 = .ok (.ireturn, 1) := by decide +kernel
theorem dX11_setOne_0 : decode cX11_setOne 0 = .ok (.aload_n 0, 1) := by decide +kernel
theorem dX11_setOne_1 : decode cX11_setOne 1 = .ok (.getfield 7, 3) := by decide +kernel
theorem dX11_setOne_4 : decode cX11_setOne 4 = .ok (.bipush 38, 2) := by decide +kernel
theorem dX11_setOne_6 : decode cX11_setOne 6 = .ok (.iconst 3, 1) := by decide +kernel
theorem dX11_setOne_7 : decode cX11_setOne 7 = .ok (.iload_n 1, 1) := by decide +kernel
theorem dX11_setOne_8 : decode cX11_setOne 8 = .ok (.imul, 1) := by decide +kernel
theorem dX11_setOne_9 : decode cX11_setOne 9 = .ok (.iadd, 1) := by decide +kernel
theorem dX11_setOne_10 : decode cX11_setOne 10 = .ok (.iload_n 2, 1) := by decide +kernel
theorem dX11_setOne_11 : decode cX11_setOne 11 = .ok (.iastore, 1) := by decide +kernel
theorem dX11_setOne_12 : decode cX11_setOne 12 = .ok (.aload_n 0, 1) := by decide +kernel
theorem dX11_setOne_13 : decode cX11_setOne 13 = .ok (.getfield 7, 3) := by decide +kernel
theorem dX11_setOne_16 : decode cX11_setOne 16 = .ok (.bipush 38, 2) := by decide +kernel
theorem dX11_setOne_18 : decode cX11_setOne 18 = .ok (.iconst 3, 1) := by decide +kernel
theorem dX11_setOne_19 : decode cX11_setOne 19 = .ok (.iload_n 1, 1) := by decide +kernel
theorem dX11_setOne_20 : decode cX11_setOne 20 = .ok (.imul, 1) := by decide +kernel
theorem dX11_setOne_21 : decode cX11_setOne 21 = .ok (.iadd, 1) := by decide +kernel
theorem dX11_setOne_22 : decode cX11_setOne 22 = .ok (.iconst 1, 1) := by decide +kernel
theorem dX11_setOne_23 : decode cX11_setOne 23 = .ok (.iadd, 1) := by decide +kernel
theorem dX11_setOne_24 : decode cX11_setOne 24 = .ok (.iload_n 3, 1) := by decide +kernel
theorem dX11_setOne_25 : decode cX11_setOne 25 = .ok (.iastore, 1) := by decide +kernel
theorem dX11_setOne_26 : decode cX11_setOne 26 = .ok (.aload_n 0, 1) := by decide +kernel
theorem dX11_setOne_27 : decode cX11_setOne 27 = .ok (.getfield 7, 3) := by decide +kernel
theorem dX11_setOne_30 : decode cX11_setOne 30 = .ok (.bipush 38, 2) := by decide +kernel
theorem dX11_setOne_32 : decode cX11_setOne 32 = .ok (.iconst 3, 1) := by decide +kernel
theorem dX11_setOne_33 : decode cX11_setOne 33 = .ok (.iload_n 1, 1) := by decide +kernel
theorem dX11_setOne_34 : decode cX11_setOne 34 = .ok (.imul, 1) := by decide +kernel
theorem dX11_setOne_35 : decode cX11_setOne 35 = .ok (.iadd, 1) := by decide +kernel
theorem dX11_setOne_36 : decode cX11_setOne 36 = .ok (.iconst 2, 1) := by decide +kernel
theorem dX11_setOne_37 : decode cX11_setOne 37 = .ok (.iadd, 1) := by decide +kernel
theorem dX11_setOne_38 : decode cX11_setOne 38 = .ok (.iload 4, 2) := by decide +kernel
theorem dX11_setOne_40 : decode cX11_setOne 40 = .ok (.iastore, 1) := by decide +kernel
theorem dX11_setOne_41 : decode cX11_setOne 41 = .ok (.return_, 1) := by decide +kernel
section G24_model3_lean_txt
variable {p : Program} {l : Launch} {e : Env} {s : State} {m : MethodId} {args : Array Value} {below : List Frame} {meth : Method} {c : Code} {H : Heap} {locs : List Loc} {ls : Array Slot} {E : Ge} {L : Lay} {fu d : Nat}
def fX11_isTaken_j46 (fu : Nat) (M : Mm) : Option Int32 :=
  some 0
set_option maxRecDepth 100000 in
set_option maxHeartbeats 4000000 in
theorem wX11_isTaken_j46 {r : Int32}    {M : Mm} (B : Bx p s m args c cX11_isTaken 5 RX11 E L) (hr : meth.sig.returnType = (some .boolean)) (hlk : meth.locks = false)   (h : fX11_isTaken_j46 fu M = some r) (hR : Rx s E L M H locs) (hl : lv_has ls 5 []) : W p l e (rmD (d + 1)) s m args below meth c H locs 0 0 (MQ below (QcM E L (some (.int r)) M) args s 0 0 E.2.2.2) (F0 m 46 ls []) := by
  have hx := B.1
  have hb := B.2.1
  unfold fX11_isTaken_j46 at h
  refine lv_iconst (v := 0) hx hb dX11_isTaken_46 (by decide) ?_
  exact r_zretP B hR hr hlk (Or.inl rfl) h dX11_isTaken_47
def fX11_isTaken_j40 (fu : Nat) (k3 : Int32 → Option Int32) (a0 : Nat) (x1 : Int32) (x2 : Int32) (x3 : Int32) (x4 : Int32) (M : Mm) : Option Int32 :=
  lt (x4 + 1) fun x4_40 =>
  k3 x4_40
set_option maxRecDepth 100000 in
set_option maxHeartbeats 4000000 in
theorem wX11_isTaken_j40 {r : Int32}  {k3 : Int32 → Option Int32} {a0 : Nat} {x1 : Int32} {x2 : Int32} {x3 : Int32} {x4 : Int32} {M : Mm} (B : Bx p s m args c cX11_isTaken 5 RX11 E L) (hr : meth.sig.returnType = (some .boolean)) (hlk : meth.locks = false) (ih3 : ∀ (x4 : Int32), k3 x4 = some r → ∀ (H : Heap) (locs : List Loc) (ls : Array Slot), Rx s E L M H locs → lv_has ls 5 [(0, .ref a0), (1, .int x1), (2, .int x2), (3, .int x3), (4, .int x4)] → W p l e (rmD (d + 1)) s m args below meth c H locs 0 0 (MQ below (QcM E L (some (.int r)) M) args s 0 0 E.2.2.2) (F0 m 3 ls [])) (h0 : At L a0 T11) (h : fX11_isTaken_j40 fu k3 a0 x1 x2 x3 x4 M = some r) (hR : Rx s E L M H locs) (hl : lv_has ls 5 [(0, .ref a0), (1, .int x1), (2, .int x2), (3, .int x3), (4, .int x4)]) : W p l e (rmD (d + 1)) s m args below meth c H locs 0 0 (MQ below (QcM E L (some (.int r)) M) args s 0 0 E.2.2.2) (F0 m 40 ls []) := by
  have hx := B.1
  have hb := B.2.1
  unfold fX11_isTaken_j40 at h
  obtain ⟨x4_40, ex4_40, h⟩ := lt_el h
  refine lv_iinc (v := x4_40) (lv' := [(4, .int x4_40), (0, .ref a0), (1, .int x1), (2, .int x2), (3, .int x3)]) hx hb dX11_isTaken_40 hl (k := 4) rfl (by rw [ex4_40]; rfl) (by decide) rfl (fun ls hl => ?_)
  refine lv_goto (tgt := 3) hx hb dX11_isTaken_43 (by decide) ?_
  exact ih3 x4_40 h _ _ _ hR (lv_sub hl [1, 2, 3, 4, 0] rfl)
def fX11_isTaken_j38 (fu : Nat) (M : Mm) : Option Int32 :=
  some 1
set_option maxRecDepth 100000 in
set_option maxHeartbeats 4000000 in
theorem wX11_isTaken_j38 {r : Int32}    {M : Mm} (B : Bx p s m args c cX11_isTaken 5 RX11 E L) (hr : meth.sig.returnType = (some .boolean)) (hlk : meth.locks = false)   (h : fX11_isTaken_j38 fu M = some r) (hR : Rx s E L M H locs) (hl : lv_has ls 5 []) : W p l e (rmD (d + 1)) s m args below meth c H locs 0 0 (MQ below (QcM E L (some (.int r)) M) args s 0 0 E.2.2.2) (F0 m 38 ls []) := by
  have hx := B.1
  have hb := B.2.1
  unfold fX11_isTaken_j38 at h
  refine lv_iconst (v := 1) hx hb dX11_isTaken_38 (by decide) ?_
  exact r_zretP B hR hr hlk (Or.inr rfl) h dX11_isTaken_39
def fX11_isTaken_b3 (fu : Nat) (k3 : Int32 → Option Int32) (a0 : Nat) (x1 : Int32) (x2 : Int32) (x3 : Int32) (x4 : Int32) (M : Mm) : Option Int32 :=
  bi (fX11_registersNow fu a0 M) fun r_6 =>
  if r_6 ≤ x4 then
    fX11_isTaken_j46 fu M
  else
    if x4 = x3 then
      fX11_isTaken_j40 fu k3 a0 x1 x2 x3 x4 M
    else
      bi (fX11_sizeOf fu a0 x4 M) fun r_21 =>
      if r_21 = x2 then
        bi (fX11_baseOf fu a0 x4 M) fun r_31 =>
        if r_31 = x1 then
          fX11_isTaken_j38 fu M
        else
          fX11_isTaken_j40 fu k3 a0 x1 x2 x3 x4 M
      else
        fX11_isTaken_j40 fu k3 a0 x1 x2 x3 x4 M
set_option maxRecDepth 100000 in
set_option maxHeartbeats 4000000 in
theorem wX11_isTaken_b3 {r : Int32}   {k3 : Int32 → Option Int32} {a0 : Nat} {x1 : Int32} {x2 : Int32} {x3 : Int32} {x4 : Int32} {M : Mm} (B : Bx p s m args c cX11_isTaken 5 RX11 E L) (hr : meth.sig.returnType = (some .boolean)) (hlk : meth.locks = false)  (ih3 : ∀ (x4 : Int32), k3 x4 = some r → ∀ (H : Heap) (locs : List Loc) (ls : Array Slot), Rx s E L M H locs → lv_has ls 5 [(0, .ref a0), (1, .int x1), (2, .int x2), (3, .int x3), (4, .int x4)] → W p l e (rmD (d + 1)) s m args below meth c H locs 0 0 (MQ below (QcM E L (some (.int r)) M) args s 0 0 E.2.2.2) (F0 m 3 ls [])) (h0 : At L a0 T11) (h : fX11_isTaken_b3 fu k3 a0 x1 x2 x3 x4 M = some r) (hR : Rx s E L M H locs) (hl : lv_has ls 5 [(0, .ref a0), (1, .int x1), (2, .int x2), (3, .int x3), (4, .int x4)]) : W p l e (rmD (d + 1)) s m args below meth c H locs 0 0 (MQ below (QcM E L (some (.int r)) M) args s 0 0 E.2.2.2) (F0 m 3 ls []) := by
  have hx := B.1
  have hb := B.2.1
  unfold fX11_isTaken_b3 at h
  refine lv_iload hx hb dX11_isTaken_3 (lv_at hl 4 rfl) ?_
  refine lv_aload_n hx hb dX11_isTaken_5 rfl (lv_at hl 0 rfl) ?_
  obtain ⟨r_6, hc_6, h⟩ := bi_el h
  refine iv_X11_243 B hR (h0.at0 rfl) hl.1 (mX11_registersNow fu _ h0 hc_6) (Nat.le_of_ble_eq_true rfl) dX11_isTaken_6 (fun H locs hR => ?_)
  refine lv_icmp_ge (tgt := 46) hx hb dX11_isTaken_9 (by decide) (fun c_9 => ?_) (fun c_9 => ?_)
  · rw [if_pos c_9] at h
    exact wX11_isTaken_j46 B hr hlk  h hR (lv_sub hl [] rfl)
  · rw [if_neg c_9] at h
    refine lv_iload hx hb dX11_isTaken_12 (lv_at hl 4 rfl) ?_
    refine lv_iload_n hx hb dX11_isTaken_14 rfl (lv_at hl 3 rfl) ?_
    refine lv_icmp_eq (tgt := 40) hx hb dX11_isTaken_15 (by decide) (fun c_15 => ?_) (fun c_15 => ?_)
    · rw [if_pos c_15] at h
      exact wX11_isTaken_j40 B hr hlk ih3 h0 h hR hl
    · rw [if_neg c_15] at h
      refine lv_aload_n hx hb dX11_isTaken_18 rfl (lv_at hl 0 rfl) ?_
      refine lv_iload hx hb dX11_isTaken_19 (lv_at hl 4 rfl) ?_
      obtain ⟨r_21, hc_21, h⟩ := bi_el h
      refine iv_X11_249 B hR (h0.at0 rfl) hl.1 (mX11_sizeOf fu _ h0 hc_21) (Nat.le_of_ble_eq_true rfl) dX11_isTaken_21 (fun H locs hR => ?_)
      refine lv_iload_n hx hb dX11_isTaken_24 rfl (lv_at hl 2 rfl) ?_
      refine lv_icmp_ne (tgt := 40) hx hb dX11_isTaken_25 (by decide) (fun c_25 => ?_) (fun c_25 => ?_)
      · rw [if_neg c_25] at h
        exact wX11_isTaken_j40 B hr hlk ih3 h0 h hR hl
      · rw [if_pos c_25] at h
        refine lv_aload_n hx hb dX11_isTaken_28 rfl (lv_at hl 0 rfl) ?_
        refine lv_iload hx hb dX11_isTaken_29 (lv_at hl 4 rfl) ?_
        obtain ⟨r_31, hc_31, h⟩ := bi_el h
        refine iv_X11_252 B hR (h0.at0 rfl) hl.1 (mX11_baseOf fu _ h0 hc_31) (Nat.le_of_ble_eq_true rfl) dX11_isTaken_31 (fun H locs hR => ?_)
        refine lv_iload_n hx hb dX11_isTaken_34 rfl (lv_at hl 1 rfl) ?_
        refine lv_icmp_ne (tgt := 40) hx hb dX11_isTaken_35 (by decide) (fun c_35 => ?_) (fun c_35 => ?_)
        · rw [if_neg c_35] at h
          exact wX11_isTaken_j40 B hr hlk ih3 h0 h hR hl
        · rw [if_pos c_35] at h
          exact wX11_isTaken_j38 B hr hlk  h hR (lv_sub hl [] rfl)
def fX11_isTaken_l3 (fu : Nat) (a0 : Nat) (x1 : Int32) (x2 : Int32) (x3 : Int32) (M : Mm) (x4 : Int32) : Option Int32 := lp (fun (rec : Int32 → Option Int32) (s : Int32) => fX11_isTaken_b3 fu  (fun x4 => rec (x4)) a0 x1 x2 x3 s M) fu (x4)
set_option maxRecDepth 100000 in
set_option maxHeartbeats 4000000 in
theorem wX11_isTaken_l3 {r : Int32}   {a0 : Nat} {x1 : Int32} {x2 : Int32} {x3 : Int32} {x4 : Int32} {M : Mm} (B : Bx p s m args c cX11_isTaken 5 RX11 E L) (hr : meth.sig.returnType = (some .boolean)) (hlk : meth.locks = false)  (h0 : At L a0 T11) (h : fX11_isTaken_l3 fu a0 x1 x2 x3 M x4 = some r) (hR : Rx s E L M H locs) (hl : lv_has ls 5 [(0, .ref a0), (1, .int x1), (2, .int x2), (3, .int x3), (4, .int x4)]) : W p l e (rmD (d + 1)) s m args below meth c H locs 0 0 (MQ below (QcM E L (some (.int r)) M) args s 0 0 E.2.2.2) (F0 m 3 ls []) := by
  refine lp_G (G := fun z : Int32 => ∀ (H : Heap) (locs : List Loc) (ls : Array Slot), Rx s E L M H locs → lv_has ls 5 [(0, .ref a0), (1, .int x1), (2, .int x2), (3, .int x3), (4, .int z)] → W p l e (rmD (d + 1)) s m args below meth c H locs 0 0 (MQ below (QcM E L (some (.int r)) M) args s 0 0 E.2.2.2) (F0 m 3 ls [])) (fun rec ih z h H locs ls hR hl => ?_) fu _ h H locs ls hR hl
  exact wX11_isTaken_b3 B hr hlk  (fun x4 h => ih (x4) h) h0 h hR hl
def fX11_isTaken (fu : Nat) (a0 : Nat) (x1 : Int32) (x2 : Int32) (x3 : Int32) (M : Mm) : Option Int32 :=
  fX11_isTaken_l3 fu a0 x1 x2 x3 M 0
set_option maxRecDepth 100000 in
set_option maxHeartbeats 4000000 in
theorem mX11_isTaken {l : Launch} {E : Ge} {L : Lay} (fu d : Nat) {a0 : Nat} {x1 : Int32} {x2 : Int32} {x3 : Int32} {M : Mm} {r : Int32}  (h0 : At L a0 T11) (h : fX11_isTaken fu a0 x1 x2 x3 M = some r) : Ct l E L yX11_isTaken cX11_isTaken 5 (some .boolean) (d + 1) [.ref a0, .int x1, .int x2, .int x3] M (some (.int r)) M := by
  refine Ct.of (by decide) ?_
  intro p e s m below meth c hr hlk B hR
  have B : Bx p s m _ c cX11_isTaken 5 RX11 E L := B
  have hx := B.1
  have hb := B.2.1
  have hl := lv_entry ([.ref a0, .int x1, .int x2, .int x3]) (n := 5) (Nat.le_of_ble_eq_true rfl)
  rw [lg_entry_eq]
  generalize (lg_sl ([.ref a0, .int x1, .int x2, .int x3]) ++ List.replicate (5 - (lg_sl ([.ref a0, .int x1, .int x2, .int x3])).length) Slot.unset).toArray = ls at hl ⊢
  have hl : lv_has ls 5 [(0, .ref a0), (1, .int x1), (2, .int x2), (3, .int x3)] := hl
  unfold fX11_isTaken at h
  refine lv_iconst (v := 0) hx hb dX11_isTaken_0 (by decide) ?_
  refine lv_istore (lv' := [(4, .int 0), (0, .ref a0), (1, .int x1), (2, .int x2), (3, .int x3)]) hx hb dX11_isTaken_1 hl (by decide) rfl (fun ls hl => ?_)
  exact wX11_isTaken_l3 B hr hlk h0 h hR (lv_sub hl [1, 2, 3, 4, 0] rfl)
def fX11_gain_j84 (fu : Nat) (x4 : Int32) (M : Mm) : Option Int32 :=
  some x4
set_option maxRecDepth 100000 in
set_option maxHeartbeats 4000000 in
theorem wX11_gain_j84 {r : Int32}   {x4 : Int32} {M : Mm} (B : Bx p s m args c cX11_gain 6 RX11 E L) (hr : meth.sig.returnType = (some .int)) (hlk : meth.locks = false)   (h : fX11_gain_j84 fu x4 M = some r) (hR : Rx s E L M H locs) (hl : lv_has ls 6 [(4, .int x4)]) : W p l e (rmD (d + 5)) s m args below meth c H locs 0 0 (MQ below (QcM E L (some (.int r)) M) args s 0 0 E.2.2.2) (F0 m 84 ls []) := by
  have hx := B.1
  have hb := B.2.1
  unfold fX11_gain_j84 at h
  refine lv_iload hx hb dX11_gain_84 (lv_at hl 0 rfl) ?_
  exact r_iretP B hR hr hlk h dX11_gain_86
def fX11_gain_j78 (fu : Nat) (k6 : Int32 → Int32 → Option Int32) (a0 : Nat) (x1 : Int32) (x2 : Int32) (x3 : Int32) (x4 : Int32) (x5 : Int32) (M : Mm) : Option Int32 :=
  lt (x5 + 1) fun x5_78 =>
  k6 x4 x5_78
set_option maxRecDepth 100000 in
set_option maxHeartbeats 4000000 in
theorem wX11_gain_j78 {r : Int32}  {k6 : Int32 → Int32 → Option Int32} {a0 : Nat} {x1 : Int32} {x2 : Int32} {x3 : Int32} {x4 : Int32} {x5 : Int32} {M : Mm} (B : Bx p s m args c cX11_gain 6 RX11 E L) (hr : meth.sig.returnType = (some .int)) (hlk : meth.locks = false) (ih6 : ∀ (x4 : Int32) (x5 : Int32), k6 x4 x5 = some r → ∀ (H : Heap) (locs : List Loc) (ls : Array Slot), Rx s E L M H locs → lv_has ls 6 [(0, .ref a0), (1, .int x1), (2, .int x2), (3, .int x3), (4, .int x4), (5, .int x5)] → W p l e (rmD (d + 5)) s m args below meth c H locs 0 0 (MQ below (QcM E L (some (.int r)) M) args s 0 0 E.2.2.2) (F0 m 6 ls [])) (h0 : At L a0 T11) (h : fX11_gain_j78 fu k6 a0 x1 x2 x3 x4 x5 M = some r) (hR : Rx s E L M H locs) (hl : lv_has ls 6 [(0, .ref a0), (1, .int x1), (2, .int x2), (3, .int x3), (4, .int x4), (5, .int x5)]) : W p l e (rmD (d + 5)) s m args below meth c H locs 0 0 (MQ below (QcM E L (some (.int r)) M) args s 0 0 E.2.2.2) (F0 m 78 ls []) := by
  have hx := B.1
  have hb := B.2.1
  unfold fX11_gain_j78 at h
  obtain ⟨x5_78, ex5_78, h⟩ := lt_el h
  refine lv_iinc (v := x5_78) (lv' := [(5, .int x5_78), (0, .ref a0), (1, .int x1), (2, .int x2), (3, .int x3), (4, .int x4)]) hx hb dX11_gain_78 hl (k := 5) rfl (by rw [ex5_78]; rfl) (by decide) rfl (fun ls hl => ?_)
  refine lv_goto (tgt := 6) hx hb dX11_gain_81 (by decide) ?_
  exact ih6 x4 x5_78 h _ _ _ hR (lv_sub hl [1, 2, 3, 4, 5, 0] rfl)
def fX11_gain_j74 (fu : Nat) (k6 : Int32 → Int32 → Option Int32) (a0 : Nat) (x1 : Int32) (x2 : Int32) (x3 : Int32) (x5 : Int32) (t0 : Int32) (t1 : Int32) (t2 : Int32) (M : Mm) : Option Int32 :=
  lt ((t0 + (t1 - t2))) fun x4_76 =>
  fX11_gain_j78 fu k6 a0 x1 x2 x3 x4_76 x5 M
set_option maxRecDepth 100000 in
set_option maxHeartbeats 4000000 in
theorem wX11_gain_j74 {r : Int32}  {k6 : Int32 → Int32 → Option Int32} {a0 : Nat} {x1 : Int32} {x2 : Int32} {x3 : Int32} {x5 : Int32} {t0 : Int32} {t1 : Int32} {t2 : Int32} {M : Mm} (B : Bx p s m args c cX11_gain 6 RX11 E L) (hr : meth.sig.returnType = (some .int)) (hlk : meth.locks = false) (ih6 : ∀ (x4 : Int32) (x5 : Int32), k6 x4 x5 = some r → ∀ (H : Heap) (locs : List Loc) (ls : Array Slot), Rx s E L M H locs → lv_has ls 6 [(0, .ref a0), (1, .int x1), (2, .int x2), (3, .int x3), (4, .int x4), (5, .int x5)] → W p l e (rmD (d + 5)) s m args below meth c H locs 0 0 (MQ below (QcM E L (some (.int r)) M) args s 0 0 E.2.2.2) (F0 m 6 ls [])) (h0 : At L a0 T11) (h : fX11_gain_j74 fu k6 a0 x1 x2 x3 x5 t0 t1 t2 M = some r) (hR : Rx s E L M H locs) (hl : lv_has ls 6 [(0, .ref a0), (1, .int x1), (2, .int x2), (3, .int x3), (5, .int x5)]) : W p l e (rmD (d + 5)) s m args below meth c H locs 0 0 (MQ below (QcM E L (some (.int r)) M) args s 0 0 E.2.2.2) (F0 m 74 ls [.int t2, .int t1, .int t0]) := by
  have hx := B.1
  have hb := B.2.1
  unfold fX11_gain_j74 at h
  refine lv_isub hx hb dX11_gain_74 ?_
  refine lv_iadd hx hb dX11_gain_75 ?_
  obtain ⟨x4_76, ex4_76, h⟩ := lt_el h
  refine r_nmI ex4_76 ?_
  refine lv_istore (lv' := [(4, .int x4_76), (0, .ref a0), (1, .int x1), (2, .int x2), (3, .int x3), (5, .int x5)]) hx hb dX11_gain_76 hl (by decide) rfl (fun ls hl => ?_)
  exact wX11_gain_j78 B hr hlk ih6 h0 h hR (lv_sub hl [1, 2, 3, 4, 0, 5] rfl)
def fX11_gain_j54 (fu : Nat) (k6 : Int32 → Int32 → Option Int32) (a0 : Nat) (x1 : Int32) (x2 : Int32) (x3 : Int32) (x5 : Int32) (t0 : Int32) (t1 : Int32) (M : Mm) : Option Int32 :=
  bi (fX11_kindAt fu a0 x5 M) fun r_57 =>
  bi (fX11_wantedAt fu a0 x5 M) fun r_63 =>
  if r_57 = r_63 then
    fX11_gain_j74 fu k6 a0 x1 x2 x3 x5 t0 t1 1 M
  else
    fX11_gain_j74 fu k6 a0 x1 x2 x3 x5 t0 t1 0 M
set_option maxRecDepth 100000 in
set_option maxHeartbeats 4000000 in
theorem wX11_gain_j54 {r : Int32}  {k6 : Int32 → Int32 → Option Int32} {a0 : Nat} {x1 : Int32} {x2 : Int32} {x3 : Int32} {x5 : Int32} {t0 : Int32} {t1 : Int32} {M : Mm} (B : Bx p s m args c cX11_gain 6 RX11 E L) (hr : meth.sig.returnType = (some .int)) (hlk : meth.locks = false) (ih6 : ∀ (x4 : Int32) (x5 : Int32), k6 x4 x5 = some r → ∀ (H : Heap) (locs : List Loc) (ls : Array Slot), Rx s E L M H locs → lv_has ls 6 [(0, .ref a0), (1, .int x1), (2, .int x2), (3, .int x3), (4, .int x4), (5, .int x5)] → W p l e (rmD (d + 5)) s m args below meth c H locs 0 0 (MQ below (QcM E L (some (.int r)) M) args s 0 0 E.2.2.2) (F0 m 6 ls [])) (h0 : At L a0 T11) (h : fX11_gain_j54 fu k6 a0 x1 x2 x3 x5 t0 t1 M = some r) (hR : Rx s E L M H locs) (hl : lv_has ls 6 [(0, .ref a0), (1, .int x1), (2, .int x2), (3, .int x3), (5, .int x5)]) : W p l e (rmD (d + 5)) s m args below meth c H locs 0 0 (MQ below (QcM E L (some (.int r)) M) args s 0 0 E.2.2.2) (F0 m 54 ls [.int t1, .int t0]) := by
  have hx := B.1
  have hb := B.2.1
  unfold fX11_gain_j54 at h
  refine lv_aload_n hx hb dX11_gain_54 rfl (lv_at hl 0 rfl) ?_
  refine lv_iload hx hb dX11_gain_55 (lv_at hl 4 rfl) ?_
  obtain ⟨r_57, hc_57, h⟩ := bi_el h
  refine iv_X11_276 B hR (h0.at0 rfl) hl.1 (mX11_kindAt fu _ h0 hc_57) (Nat.le_of_ble_eq_true rfl) dX11_gain_57 (fun H locs hR => ?_)
  refine lv_aload_n hx hb dX11_gain_60 rfl (lv_at hl 0 rfl) ?_
  refine lv_iload hx hb dX11_gain_61 (lv_at hl 4 rfl) ?_
  obtain ⟨r_63, hc_63, h⟩ := bi_el h
  refine iv_X11_285 B hR (h0.at0 rfl) hl.1 (mX11_wantedAt fu _ h0 hc_63) (Nat.le_of_ble_eq_true rfl) dX11_gain_63 (fun H locs hR => ?_)
  refine lv_icmp_ne (tgt := 73) hx hb dX11_gain_66 (by decide) (fun c_66 => ?_) (fun c_66 => ?_)
  · rw [if_neg c_66] at h
    refine lv_iconst (v := 0) hx hb dX11_gain_73 (by decide) ?_
    exact wX11_gain_j74 B hr hlk ih6 h0 h hR hl
  · rw [if_pos c_66] at h
    refine lv_iconst (v := 1) hx hb dX11_gain_69 (by decide) ?_
    refine lv_goto (tgt := 74) hx hb dX11_gain_70 (by decide) ?_
    exact wX11_gain_j74 B hr hlk ih6 h0 h hR hl
def fX11_gain_b6 (fu : Nat) (k6 : Int32 → Int32 → Option Int32) (a0 : Nat) (x1 : Int32) (x2 : Int32) (x3 : Int32) (x4 : Int32) (x5 : Int32) (M : Mm) : Option Int32 :=
  if (x1 + x2) ≤ x5 then
    fX11_gain_j84 fu x4 M
  else
    bi (fX11_isFixed fu a0 x5 M) fun r_17 =>
    if r_17 = 0 then
      bi (fX11_setAt fu a0 x5 (-1) M) fun r_30 =>
      bi (fX11_together fu a0 (r_30 ||| (1 <<< (x3 &&& 31))) M) fun r_37 =>
      bi (fX11_wantedAt fu a0 x5 M) fun r_43 =>
      if r_37 = r_43 then
        fX11_gain_j54 fu k6 a0 x1 x2 x3 x5 x4 1 M
      else
        fX11_gain_j54 fu k6 a0 x1 x2 x3 x5 x4 0 M
    else
      fX11_gain_j78 fu k6 a0 x1 x2 x3 x4 x5 M
set_option maxRecDepth 100000 in
set_option maxHeartbeats 4000000 in
theorem wX11_gain_b6 {r : Int32}   {k6 : Int32 → Int32 → Option Int32} {a0 : Nat} {x1 : Int32} {x2 : Int32} {x3 : Int32} {x4 : Int32} {x5 : Int32} {M : Mm} (B : Bx p s m args c cX11_gain 6 RX11 E L) (hr : meth.sig.returnType = (some .int)) (hlk : meth.locks = false)  (ih6 : ∀ (x4 : Int32) (x5 : Int32), k6 x4 x5 = some r → ∀ (H : Heap) (locs : List Loc) (ls : Array Slot), Rx s E L M H locs → lv_has ls 6 [(0, .ref a0), (1, .int x1), (2, .int x2), (3, .int x3), (4, .int x4), (5, .int x5)] → W p l e (rmD (d + 5)) s m args below meth c H locs 0 0 (MQ below (QcM E L (some (.int r)) M) args s 0 0 E.2.2.2) (F0 m 6 ls [])) (h0 : At L a0 T11) (h : fX11_gain_b6 fu k6 a0 x1 x2 x3 x4 x5 M = some r) (hR : Rx s E L M H locs) (hl : lv_has ls 6 [(0, .ref a0), (1, .int x1), (2, .int x2), (3, .int x3), (4, .int x4), (5, .int x5)]) : W p l e (rmD (d + 5)) s m args below meth c H locs 0 0 (MQ below (QcM E L (some (.int r)) M) args s 0 0 E.2.2.2) (F0 m 6 ls []) := by
  have hx := B.1
  have hb := B.2.1
  unfold fX11_gain_b6 at h
  refine lv_iload hx hb dX11_gain_6 (lv_at hl 5 rfl) ?_
  refine lv_iload_n hx hb dX11_gain_8 rfl (lv_at hl 1 rfl) ?_
  refine lv_iload_n hx hb dX11_gain_9 rfl (lv_at hl 2 rfl) ?_
  refine lv_iadd hx hb dX11_gain_10 ?_
  refine lv_icmp_ge (tgt := 84) hx hb dX11_gain_11 (by decide) (fun c_11 => ?_) (fun c_11 => ?_)
  · rw [if_pos c_11] at h
    exact wX11_gain_j84 B hr hlk  h hR (lv_sub hl [4] rfl)
  · rw [if_neg c_11] at h
    refine lv_aload_n hx hb dX11_gain_14 rfl (lv_at hl 0 rfl) ?_
    refine lv_iload hx hb dX11_gain_15 (lv_at hl 5 rfl) ?_
    obtain ⟨r_17, hc_17, h⟩ := bi_el h
    refine iv_X11_255 B hR (h0.at0 rfl) hl.1 (mX11_isFixed fu _ h0 hc_17) (Nat.le_of_ble_eq_true rfl) dX11_gain_17 (fun H locs hR => ?_)
    refine lv_if_ne (tgt := 78) hx hb dX11_gain_20 (by decide) (fun c_20 => ?_) (fun c_20 => ?_)
    · rw [if_neg c_20] at h
      exact wX11_gain_j78 B hr hlk ih6 h0 h hR hl
    · rw [if_pos c_20] at h
      refine lv_iload hx hb dX11_gain_23 (lv_at hl 4 rfl) ?_
      refine lv_aload_n hx hb dX11_gain_25 rfl (lv_at hl 0 rfl) ?_
      refine lv_aload_n hx hb dX11_gain_26 rfl (lv_at hl 0 rfl) ?_
      refine lv_iload hx hb dX11_gain_27 (lv_at hl 5 rfl) ?_
      refine lv_iconst (v := (-1)) hx hb dX11_gain_29 (by decide) ?_
      obtain ⟨r_30, hc_30, h⟩ := bi_el h
      refine iv_X11_258 B hR (h0.at0 rfl) hl.1 (mX11_setAt fu _ h0 hc_30) (Nat.le_of_ble_eq_true rfl) dX11_gain_30 (fun H locs hR => ?_)
      refine lv_iconst (v := 1) hx hb dX11_gain_33 (by decide) ?_
      refine lv_iload_n hx hb dX11_gain_34 rfl (lv_at hl 3 rfl) ?_
      refine lv_ishl hx hb dX11_gain_35 ?_
      refine lv_ior hx hb dX11_gain_36 ?_
      obtain ⟨r_37, hc_37, h⟩ := bi_el h
      refine iv_X11_261 B hR (h0.at0 rfl) hl.1 (mX11_together fu _ h0 hc_37) (Nat.le_of_ble_eq_true rfl) dX11_gain_37 (fun H locs hR => ?_)
      refine lv_aload_n hx hb dX11_gain_40 rfl (lv_at hl 0 rfl) ?_
      refine lv_iload hx hb dX11_gain_41 (lv_at hl 5 rfl) ?_
      obtain ⟨r_43, hc_43, h⟩ := bi_el h
      refine iv_X11_285 B hR (h0.at0 rfl) hl.1 (mX11_wantedAt fu _ h0 hc_43) (Nat.le_of_ble_eq_true rfl) dX11_gain_43 (fun H locs hR => ?_)
      refine lv_icmp_ne (tgt := 53) hx hb dX11_gain_46 (by decide) (fun c_46 => ?_) (fun c_46 => ?_)
      · rw [if_neg c_46] at h
        refine lv_iconst (v := 0) hx hb dX11_gain_53 (by decide) ?_
        exact wX11_gain_j54 B hr hlk ih6 h0 h hR (lv_sub hl [0, 1, 2, 3, 5] rfl)
      · rw [if_pos c_46] at h
        refine lv_iconst (v := 1) hx hb dX11_gain_49 (by decide) ?_
        refine lv_goto (tgt := 54) hx hb dX11_gain_50 (by decide) ?_
        exact wX11_gain_j54 B hr hlk ih6 h0 h hR (lv_sub hl [0, 1, 2, 3, 5] rfl)
def fX11_gain_l6 (fu : Nat) (a0 : Nat) (x1 : Int32) (x2 : Int32) (x3 : Int32) (M : Mm) (x4 : Int32) (x5 : Int32) : Option Int32 := lp (fun (rec : (Int32 × Int32) → Option Int32) (s : Int32 × Int32) => fX11_gain_b6 fu  (fun x4 x5 => rec (x4, x5)) a0 x1 x2 x3 s.1 s.2 M) fu (x4, x5)
set_option maxRecDepth 100000 in
set_option maxHeartbeats 4000000 in
theorem wX11_gain_l6 {r : Int32}   {a0 : Nat} {x1 : Int32} {x2 : Int32} {x3 : Int32} {x4 : Int32} {x5 : Int32} {M : Mm} (B : Bx p s m args c cX11_gain 6 RX11 E L) (hr : meth.sig.returnType = (some .int)) (hlk : meth.locks = false)  (h0 : At L a0 T11) (h : fX11_gain_l6 fu a0 x1 x2 x3 M x4 x5 = some r) (hR : Rx s E L M H locs) (hl : lv_has ls 6 [(0, .ref a0), (1, .int x1), (2, .int x2), (3, .int x3), (4, .int x4), (5, .int x5)]) : W p l e (rmD (d + 5)) s m args below meth c H locs 0 0 (MQ below (QcM E L (some (.int r)) M) args s 0 0 E.2.2.2) (F0 m 6 ls []) := by
  refine lp_G (G := fun z : Int32 × Int32 => ∀ (H : Heap) (locs : List Loc) (ls : Array Slot), Rx s E L M H locs → lv_has ls 6 [(0, .ref a0), (1, .int x1), (2, .int x2), (3, .int x3), (4, .int z.1), (5, .int z.2)] → W p l e (rmD (d + 5)) s m args below meth c H locs 0 0 (MQ below (QcM E L (some (.int r)) M) args s 0 0 E.2.2.2) (F0 m 6 ls [])) (fun rec ih z h H locs ls hR hl => ?_) fu _ h H locs ls hR hl
  exact wX11_gain_b6 B hr hlk  (fun x4 x5 h => ih (x4, x5) h) h0 h hR hl
def fX11_gain (fu : Nat) (a0 : Nat) (x1 : Int32) (x2 : Int32) (x3 : Int32) (M : Mm) : Option Int32 :=
  fX11_gain_l6 fu a0 x1 x2 x3 M 0 x1
set_option maxRecDepth 100000 in
set_option maxHeartbeats 4000000 in
theorem mX11_gain {l : Launch} {E : Ge} {L : Lay} (fu d : Nat) {a0 : Nat} {x1 : Int32} {x2 : Int32} {x3 : Int32} {M : Mm} {r : Int32}  (h0 : At L a0 T11) (h : fX11_gain fu a0 x1 x2 x3 M = some r) : Ct l E L yX11_gain cX11_gain 6 (some .int) (d + 5) [.ref a0, .int x1, .int x2, .int x3] M (some (.int r)) M := by
  refine Ct.of (by decide) ?_
  intro p e s m below meth c hr hlk B hR
  have B : Bx p s m _ c cX11_gain 6 RX11 E L := B
  have hx := B.1
  have hb := B.2.1
  have hl := lv_entry ([.ref a0, .int x1, .int x2, .int x3]) (n := 6) (Nat.le_of_ble_eq_true rfl)
  rw [lg_entry_eq]
  generalize (lg_sl ([.ref a0, .int x1, .int x2, .int x3]) ++ List.replicate (6 - (lg_sl ([.ref a0, .int x1, .int x2, .int x3])).length) Slot.unset).toArray = ls at hl ⊢
  have hl : lv_has ls 6 [(0, .ref a0), (1, .int x1), (2, .int x2), (3, .int x3)] := hl
  unfold fX11_gain at h
  refine lv_iconst (v := 0) hx hb dX11_gain_0 (by decide) ?_
  refine lv_istore (lv' := [(4, .int 0), (0, .ref a0), (1, .int x1), (2, .int x2), (3, .int x3)]) hx hb dX11_gain_1 hl (by decide) rfl (fun ls hl => ?_)
  refine lv_iload_n hx hb dX11_gain_3 rfl (lv_at hl 2 rfl) ?_
  refine lv_istore (lv' := [(5, .int x1), (4, .int 0), (0, .ref a0), (1, .int x1), (2, .int x2), (3, .int x3)]) hx hb dX11_gain_4 hl (by decide) rfl (fun ls hl => ?_)
  exact wX11_gain_l6 B hr hlk h0 h hR (lv_sub hl [2, 3, 4, 5, 1, 0] rfl)
def fX11_besides_j28 (fu : Nat) (M : Mm) : Option Int32 :=
  some (-2000)
set_option maxRecDepth 100000 in
set_option maxHeartbeats 4000000 in
theorem wX11_besides_j28 {r : Int32}    {M : Mm} (B : Bx p s m args c cX11_besides 8 RX11 E L) (hr : meth.sig.returnType = (some .int)) (hlk : meth.locks = false)   (h : fX11_besides_j28 fu M = some r) (hR : Rx s E L M H locs) (hl : lv_has ls 8 []) : W p l e (rmD (d + 6)) s m args below meth c H locs 0 0 (MQ below (QcM E L (some (.int r)) M) args s 0 0 E.2.2.2) (F0 m 28 ls []) := by
  have hx := B.1
  have hb := B.2.1
  unfold fX11_besides_j28 at h
  refine lv_sipush (v := (-2000)) hx hb dX11_besides_28 (by decide) ?_
  exact r_iretP B hR hr hlk h dX11_besides_31
def fX11_besides_j128 (fu : Nat) (t0 : Int32) (M : Mm) : Option Int32 :=
  some t0
set_option maxRecDepth 100000 in
set_option maxHeartbeats 4000000 in
theorem wX11_besides_j128 {r : Int32}   {t0 : Int32} {M : Mm} (B : Bx p s m args c cX11_besides 8 RX11 E L) (hr : meth.sig.returnType = (some .int)) (hlk : meth.locks = false)   (h : fX11_besides_j128 fu t0 M = some r) (hR : Rx s E L M H locs) (hl : lv_has ls 8 []) : W p l e (rmD (d + 6)) s m args below meth c H locs 0 0 (MQ below (QcM E L (some (.int r)) M) args s 0 0 E.2.2.2) (F0 m 128 ls [.int t0]) := by
  have hx := B.1
  have hb := B.2.1
  unfold fX11_besides_j128 at h
  exact r_iretP B hR hr hlk h dX11_besides_128
def fX11_besides_j106 (fu : Nat) (x3 : Int32) (x4 : Int32) (x5 : Int32) (M : Mm) : Option Int32 :=
  if 0 ≤ x4 then
    if x3 = 0 then
      fX11_besides_j128 fu x5 M
    else
      fX11_besides_j128 fu x4 M
  else
    fX11_besides_j128 fu (-2000) M
set_option maxRecDepth 100000 in
set_option maxHeartbeats 4000000 in
theorem wX11_besides_j106 {r : Int32}   {x3 : Int32} {x4 : Int32} {x5 : Int32} {M : Mm} (B : Bx p s m args c cX11_besides 8 RX11 E L) (hr : meth.sig.returnType = (some .int)) (hlk : meth.locks = false)   (h : fX11_besides_j106 fu x3 x4 x5 M = some r) (hR : Rx s E L M H locs) (hl : lv_has ls 8 [(3, .int x3), (4, .int x4), (5, .int x5)]) : W p l e (rmD (d + 6)) s m args below meth c H locs 0 0 (MQ below (QcM E L (some (.int r)) M) args s 0 0 E.2.2.2) (F0 m 106 ls []) := by
  have hx := B.1
  have hb := B.2.1
  unfold fX11_besides_j106 at h
  refine lv_iload hx hb dX11_besides_106 (lv_at hl 1 rfl) ?_
  refine lv_if_ge (tgt := 117) hx hb dX11_besides_108 (by decide) (fun c_108 => ?_) (fun c_108 => ?_)
  · rw [if_pos c_108] at h
    refine lv_iload_n hx hb dX11_besides_117 rfl (lv_at hl 0 rfl) ?_
    refine lv_if_ne (tgt := 126) hx hb dX11_besides_118 (by decide) (fun c_118 => ?_) (fun c_118 => ?_)
    · rw [if_neg c_118] at h
      refine lv_iload hx hb dX11_besides_126 (lv_at hl 1 rfl) ?_
      exact wX11_besides_j128 B hr hlk  h hR (lv_sub hl [] rfl)
    · rw [if_pos c_118] at h
      refine lv_iload hx hb dX11_besides_121 (lv_at hl 2 rfl) ?_
      refine lv_goto (tgt := 128) hx hb dX11_besides_123 (by decide) ?_
      exact wX11_besides_j128 B hr hlk  h hR (lv_sub hl [] rfl)
  · rw [if_neg c_108] at h
    refine lv_sipush (v := (-2000)) hx hb dX11_besides_111 (by decide) ?_
    refine lv_goto (tgt := 128) hx hb dX11_besides_114 (by decide) ?_
    exact wX11_besides_j128 B hr hlk  h hR (lv_sub hl [] rfl)
def fX11_besides_j97 (fu : Nat) (k41 : Int32 → Int32 → Int32 → Option Int32) (a0 : Nat) (x1 : Int32) (x2 : Int32) (x3 : Int32) (x4 : Int32) (x5 : Int32) (x6 : Int32) (M : Mm) : Option Int32 :=
  lt ((x6 + x1)) fun x6_101 =>
  k41 x4 x5 x6_101
set_option maxRecDepth 100000 in
set_option maxHeartbeats 4000000 in
theorem wX11_besides_j97 {r : Int32}  {k41 : Int32 → Int32 → Int32 → Option Int32} {a0 : Nat} {x1 : Int32} {x2 : Int32} {x3 : Int32} {x4 : Int32} {x5 : Int32} {x6 : Int32} {M : Mm} (B : Bx p s m args c cX11_besides 8 RX11 E L) (hr : meth.sig.returnType = (some .int)) (hlk : meth.locks = false) (ih41 : ∀ (x4 : Int32) (x5 : Int32) (x6 : Int32), k41 x4 x5 x6 = some r → ∀ (H : Heap) (locs : List Loc) (ls : Array Slot), Rx s E L M H locs → lv_has ls 8 [(0, .ref a0), (1, .int x1), (2, .int x2), (3, .int x3), (4, .int x4), (5, .int x5), (6, .int x6)] → W p l e (rmD (d + 6)) s m args below meth c H locs 0 0 (MQ below (QcM E L (some (.int r)) M) args s 0 0 E.2.2.2) (F0 m 41 ls [])) (h0 : At L a0 T11) (h : fX11_besides_j97 fu k41 a0 x1 x2 x3 x4 x5 x6 M = some r) (hR : Rx s E L M H locs) (hl : lv_has ls 8 [(0, .ref a0), (1, .int x1), (2, .int x2), (3, .int x3), (4, .int x4), (5, .int x5), (6, .int x6)]) : W p l e (rmD (d + 6)) s m args below meth c H locs 0 0 (MQ below (QcM E L (some (.int r)) M) args s 0 0 E.2.2.2) (F0 m 97 ls []) := by
  have hx := B.1
  have hb := B.2.1
  unfold fX11_besides_j97 at h
  refine lv_iload hx hb dX11_besides_97 (lv_at hl 6 rfl) ?_
  refine lv_iload_n hx hb dX11_besides_99 rfl (lv_at hl 1 rfl) ?_
  refine lv_iadd hx hb dX11_besides_100 ?_
  obtain ⟨x6_101, ex6_101, h⟩ := lt_el h
  refine r_nmI ex6_101 ?_
  refine lv_istore (lv' := [(6, .int x6_101), (0, .ref a0), (1, .int x1), (2, .int x2), (3, .int x3), (4, .int x4), (5, .int x5)]) hx hb dX11_besides_101 hl (by decide) rfl (fun ls hl => ?_)
  refine lv_goto (tgt := 41) hx hb dX11_besides_103 (by decide) ?_
  exact ih41 x4 x5 x6_101 h _ _ _ hR (lv_sub hl [1, 2, 3, 4, 5, 6, 0] rfl)
def fX11_besides_j89 (fu : Nat) (k41 : Int32 → Int32 → Int32 → Option Int32) (a0 : Nat) (x1 : Int32) (x2 : Int32) (x3 : Int32) (x6 : Int32) (x7 : Int32) (M : Mm) : Option Int32 :=
  fX11_besides_j97 fu k41 a0 x1 x2 x3 x6 x7 x6 M
set_option maxRecDepth 100000 in
set_option maxHeartbeats 4000000 in
theorem wX11_besides_j89 {r : Int32}  {k41 : Int32 → Int32 → Int32 → Option Int32} {a0 : Nat} {x1 : Int32} {x2 : Int32} {x3 : Int32} {x6 : Int32} {x7 : Int32} {M : Mm} (B : Bx p s m args c cX11_besides 8 RX11 E L) (hr : meth.sig.returnType = (some .int)) (hlk : meth.locks = false) (ih41 : ∀ (x4 : Int32) (x5 : Int32) (x6 : Int32), k41 x4 x5 x6 = some r → ∀ (H : Heap) (locs : List Loc) (ls : Array Slot), Rx s E L M H locs → lv_has ls 8 [(0, .ref a0), (1, .int x1), (2, .int x2), (3, .int x3), (4, .int x4), (5, .int x5), (6, .int x6)] → W p l e (rmD (d + 6)) s m args below meth c H locs 0 0 (MQ below (QcM E L (some (.int r)) M) args s 0 0 E.2.2.2) (F0 m 41 ls [])) (h0 : At L a0 T11) (h : fX11_besides_j89 fu k41 a0 x1 x2 x3 x6 x7 M = some r) (hR : Rx s E L M H locs) (hl : lv_has ls 8 [(0, .ref a0), (1, .int x1), (2, .int x2), (3, .int x3), (6, .int x6), (7, .int x7)]) : W p l e (rmD (d + 6)) s m args below meth c H locs 0 0 (MQ below (QcM E L (some (.int r)) M) args s 0 0 E.2.2.2) (F0 m 89 ls []) := by
  have hx := B.1
  have hb := B.2.1
  unfold fX11_besides_j89 at h
  refine lv_iload hx hb dX11_besides_89 (lv_at hl 4 rfl) ?_
  refine lv_istore (lv' := [(4, .int x6), (0, .ref a0), (1, .int x1), (2, .int x2), (3, .int x3), (6, .int x6), (7, .int x7)]) hx hb dX11_besides_91 hl (by decide) rfl (fun ls hl => ?_)
  refine lv_iload hx hb dX11_besides_93 (lv_at hl 6 rfl) ?_
  refine lv_istore (lv' := [(5, .int x7), (4, .int x6), (0, .ref a0), (1, .int x1), (2, .int x2), (3, .int x3), (6, .int x6), (7, .int x7)]) hx hb dX11_besides_95 hl (by decide) rfl (fun ls hl => ?_)
  exact wX11_besides_j97 B hr hlk ih41 h0 h hR (lv_sub hl [2, 3, 4, 5, 1, 0, 6] rfl)
def fX11_besides_b41 (fu : Nat) (k41 : Int32 → Int32 → Int32 → Option Int32) (a0 : Nat) (x1 : Int32) (x2 : Int32) (x3 : Int32) (x4 : Int32) (x5 : Int32) (x6 : Int32) (M : Mm) : Option Int32 :=
  bi (fX11_addresses fu a0 M) fun r_44 =>
  if r_44 ≤ x6 then
    fX11_besides_j106 fu x3 x4 x5 M
  else
    bi (fX11_isTaken fu a0 x6 x1 (-1) M) fun r_55 =>
    if r_55 = 0 then
      bi (fX11_gain fu a0 x6 x1 x2 M) fun r_69 =>
      if x4 < 0 then
        fX11_besides_j89 fu k41 a0 x1 x2 x3 x6 r_69 M
      else
        if x5 < r_69 then
          fX11_besides_j89 fu k41 a0 x1 x2 x3 x6 r_69 M
        else
          fX11_besides_j97 fu k41 a0 x1 x2 x3 x4 x5 x6 M
    else
      fX11_besides_j97 fu k41 a0 x1 x2 x3 x4 x5 x6 M
set_option maxRecDepth 100000 in
set_option maxHeartbeats 4000000 in
theorem wX11_besides_b41 {r : Int32}   {k41 : Int32 → Int32 → Int32 → Option Int32} {a0 : Nat} {x1 : Int32} {x2 : Int32} {x3 : Int32} {x4 : Int32} {x5 : Int32} {x6 : Int32} {M : Mm} (B : Bx p s m args c cX11_besides 8 RX11 E L) (hr : meth.sig.returnType = (some .int)) (hlk : meth.locks = false)  (ih41 : ∀ (x4 : Int32) (x5 : Int32) (x6 : Int32), k41 x4 x5 x6 = some r → ∀ (H : Heap) (locs : List Loc) (ls : Array Slot), Rx s E L M H locs → lv_has ls 8 [(0, .ref a0), (1, .int x1), (2, .int x2), (3, .int x3), (4, .int x4), (5, .int x5), (6, .int x6)] → W p l e (rmD (d + 6)) s m args below meth c H locs 0 0 (MQ below (QcM E L (some (.int r)) M) args s 0 0 E.2.2.2) (F0 m 41 ls [])) (h0 : At L a0 T11) (h : fX11_besides_b41 fu k41 a0 x1 x2 x3 x4 x5 x6 M = some r) (hR : Rx s E L M H locs) (hl : lv_has ls 8 [(0, .ref a0), (1, .int x1), (2, .int x2), (3, .int x3), (4, .int x4), (5, .int x5), (6, .int x6)]) : W p l e (rmD (d + 6)) s m args below meth c H locs 0 0 (MQ below (QcM E L (some (.int r)) M) args s 0 0 E.2.2.2) (F0 m 41 ls []) := by
  have hx := B.1
  have hb := B.2.1
  unfold fX11_besides_b41 at h
  refine lv_iload hx hb dX11_besides_41 (lv_at hl 6 rfl) ?_
  refine lv_aload_n hx hb dX11_besides_43 rfl (lv_at hl 0 rfl) ?_
  obtain ⟨r_44, hc_44, h⟩ := bi_el h
  refine iv_X11_240 B hR (h0.at0 rfl) hl.1 (mX11_addresses fu _ h0 hc_44) (Nat.le_of_ble_eq_true rfl) dX11_besides_44 (fun H locs hR => ?_)
  refine lv_icmp_ge (tgt := 106) hx hb dX11_besides_47 (by decide) (fun c_47 => ?_) (fun c_47 => ?_)
  · rw [if_pos c_47] at h
    exact wX11_besides_j106 B hr hlk  h hR (lv_sub hl [3, 4, 5] rfl)
  · rw [if_neg c_47] at h
    refine lv_aload_n hx hb dX11_besides_50 rfl (lv_at hl 0 rfl) ?_
    refine lv_iload hx hb dX11_besides_51 (lv_at hl 6 rfl) ?_
    refine lv_iload_n hx hb dX11_besides_53 rfl (lv_at hl 1 rfl) ?_
    refine lv_iconst (v := (-1)) hx hb dX11_besides_54 (by decide) ?_
    obtain ⟨r_55, hc_55, h⟩ := bi_el h
    refine iv_X11_420 B hR (h0.at0 rfl) hl.1 (mX11_isTaken fu _ h0 hc_55) (Nat.le_of_ble_eq_true rfl) dX11_besides_55 (fun H locs hR => ?_)
    refine lv_if_eq (tgt := 64) hx hb dX11_besides_58 (by decide) (fun c_58 => ?_) (fun c_58 => ?_)
    · rw [if_pos c_58] at h
      refine lv_aload_n hx hb dX11_besides_64 rfl (lv_at hl 0 rfl) ?_
      refine lv_iload hx hb dX11_besides_65 (lv_at hl 6 rfl) ?_
      refine lv_iload_n hx hb dX11_besides_67 rfl (lv_at hl 1 rfl) ?_
      refine lv_iload_n hx hb dX11_besides_68 rfl (lv_at hl 2 rfl) ?_
      obtain ⟨r_69, hc_69, h⟩ := bi_el h
      refine iv_X11_423 B hR (h0.at0 rfl) hl.1 (mX11_gain fu _ h0 hc_69) (Nat.le_of_ble_eq_true rfl) dX11_besides_69 (fun H locs hR => ?_)
      refine lv_istore (lv' := [(7, .int r_69), (0, .ref a0), (1, .int x1), (2, .int x2), (3, .int x3), (4, .int x4), (5, .int x5), (6, .int x6)]) hx hb dX11_besides_72 hl (by decide) rfl (fun ls hl => ?_)
      refine lv_iload hx hb dX11_besides_74 (lv_at hl 5 rfl) ?_
      refine lv_if_lt (tgt := 89) hx hb dX11_besides_76 (by decide) (fun c_76 => ?_) (fun c_76 => ?_)
      · rw [if_pos c_76] at h
        exact wX11_besides_j89 B hr hlk ih41 h0 h hR (lv_sub hl [1, 2, 3, 4, 7, 0] rfl)
      · rw [if_neg c_76] at h
        refine lv_iload hx hb dX11_besides_79 (lv_at hl 0 rfl) ?_
        refine lv_iload hx hb dX11_besides_81 (lv_at hl 6 rfl) ?_
        refine lv_icmp_gt (tgt := 89) hx hb dX11_besides_83 (by decide) (fun c_83 => ?_) (fun c_83 => ?_)
        · rw [if_pos c_83] at h
          exact wX11_besides_j89 B hr hlk ih41 h0 h hR (lv_sub hl [1, 2, 3, 4, 7, 0] rfl)
        · rw [if_neg c_83] at h
          refine lv_goto (tgt := 97) hx hb dX11_besides_86 (by decide) ?_
          exact wX11_besides_j97 B hr hlk ih41 h0 h hR (lv_sub hl [1, 2, 3, 4, 5, 6, 7] rfl)
    · rw [if_neg c_58] at h
      refine lv_goto (tgt := 97) hx hb dX11_besides_61 (by decide) ?_
      exact wX11_besides_j97 B hr hlk ih41 h0 h hR hl
def fX11_besides_l41 (fu : Nat) (a0 : Nat) (x1 : Int32) (x2 : Int32) (x3 : Int32) (M : Mm) (x4 : Int32) (x5 : Int32) (x6 : Int32) : Option Int32 := lp (fun (rec : (Int32 × Int32 × Int32) → Option Int32) (s : Int32 × Int32 × Int32) => fX11_besides_b41 fu  (fun x4 x5 x6 => rec (x4, x5, x6)) a0 x1 x2 x3 s.1 s.2.1 s.2.2 M) fu (x4, x5, x6)
set_option maxRecDepth 100000 in
set_option maxHeartbeats 4000000 in
theorem wX11_besides_l41 {r : Int32}   {a0 : Nat} {x1 : Int32} {x2 : Int32} {x3 : Int32} {x4 : Int32} {x5 : Int32} {x6 : Int32} {M : Mm} (B : Bx p s m args c cX11_besides 8 RX11 E L) (hr : meth.sig.returnType = (some .int)) (hlk : meth.locks = false)  (h0 : At L a0 T11) (h : fX11_besides_l41 fu a0 x1 x2 x3 M x4 x5 x6 = some r) (hR : Rx s E L M H locs) (hl : lv_has ls 8 [(0, .ref a0), (1, .int x1), (2, .int x2), (3, .int x3), (4, .int x4), (5, .int x5), (6, .int x6)]) : W p l e (rmD (d + 6)) s m args below meth c H locs 0 0 (MQ below (QcM E L (some (.int r)) M) args s 0 0 E.2.2.2) (F0 m 41 ls []) := by
  refine lp_G (G := fun z : Int32 × Int32 × Int32 => ∀ (H : Heap) (locs : List Loc) (ls : Array Slot), Rx s E L M H locs → lv_has ls 8 [(0, .ref a0), (1, .int x1), (2, .int x2), (3, .int x3), (4, .int z.1), (5, .int z.2.1), (6, .int z.2.2)] → W p l e (rmD (d + 6)) s m args below meth c H locs 0 0 (MQ below (QcM E L (some (.int r)) M) args s 0 0 E.2.2.2) (F0 m 41 ls [])) (fun rec ih z h H locs ls hR hl => ?_) fu _ h H locs ls hR hl
  exact wX11_besides_b41 B hr hlk  (fun x4 x5 x6 h => ih (x4, x5, x6) h) h0 h hR hl
def fX11_besides (fu : Nat) (a0 : Nat) (x1 : Int32) (x2 : Int32) (x3 : Int32) (M : Mm) : Option Int32 :=
  bi (fX11_addresses fu a0 M) fun r_3 =>
  bi (fX11_isBlock fu 0 x1 r_3) fun r_6 =>
  if r_6 = 0 then
    fX11_besides_j28 fu M
  else
    bi (fX11_isKind fu x2) fun r_13 =>
    if r_13 = 0 then
      fX11_besides_j28 fu M
    else
      bi (fX11_isIn fu x3 0 1) fun r_22 =>
      if r_22 = 0 then
        fX11_besides_j28 fu M
      else
        fX11_besides_l41 fu a0 x1 x2 x3 M (-1) 0 0
set_option maxRecDepth 100000 in
set_option maxHeartbeats 4000000 in
theorem mX11_besides {l : Launch} {E : Ge} {L : Lay} (fu d : Nat) {a0 : Nat} {x1 : Int32} {x2 : Int32} {x3 : Int32} {M : Mm} {r : Int32}  (h0 : At L a0 T11) (h : fX11_besides fu a0 x1 x2 x3 M = some r) : Ct l E L yX11_besides cX11_besides 8 (some .int) (d + 6) [.ref a0, .int x1, .int x2, .int x3] M (some (.int r)) M := by
  refine Ct.of (by decide) ?_
  intro p e s m below meth c hr hlk B hR
  have B : Bx p s m _ c cX11_besides 8 RX11 E L := B
  have hx := B.1
  have hb := B.2.1
  have hl := lv_entry ([.ref a0, .int x1, .int x2, .int x3]) (n := 8) (Nat.le_of_ble_eq_true rfl)
  rw [lg_entry_eq]
  generalize (lg_sl ([.ref a0, .int x1, .int x2, .int x3]) ++ List.replicate (8 - (lg_sl ([.ref a0, .int x1, .int x2, .int x3])).length) Slot.unset).toArray = ls at hl ⊢
  have hl : lv_has ls 8 [(0, .ref a0), (1, .int x1), (2, .int x2), (3, .int x3)] := hl
  unfold fX11_besides at h
  refine lv_iconst (v := 0) hx hb dX11_besides_0 (by decide) ?_
  refine lv_iload_n hx hb dX11_besides_1 rfl (lv_at hl 1 rfl) ?_
  refine lv_aload_n hx hb dX11_besides_2 rfl (lv_at hl 0 rfl) ?_
  obtain ⟨r_3, hc_3, h⟩ := bi_el h
  refine iv_X11_240 B hR (h0.at0 rfl) hl.1 (mX11_addresses fu _ h0 hc_3) (Nat.le_of_ble_eq_true rfl) dX11_besides_3 (fun H locs hR => ?_)
  obtain ⟨r_6, hc_6, h⟩ := bi_el h
  refine is_X11_222 B hR hl.1 (mX11_isBlock fu _  hc_6) (Nat.le_of_ble_eq_true rfl) dX11_besides_6 (fun H locs hR => ?_)
  refine lv_if_eq (tgt := 28) hx hb dX11_besides_9 (by decide) (fun c_9 => ?_) (fun c_9 => ?_)
  · rw [if_pos c_9] at h
    exact wX11_besides_j28 B hr hlk  h hR (lv_sub hl [] rfl)
  · rw [if_neg c_9] at h
    refine lv_iload_n hx hb dX11_besides_12 rfl (lv_at hl 2 rfl) ?_
    obtain ⟨r_13, hc_13, h⟩ := bi_el h
    refine is_X11_306 B hR hl.1 (mX11_isKind fu _  hc_13) (Nat.le_of_ble_eq_true rfl) dX11_besides_13 (fun H locs hR => ?_)
    refine lv_if_eq (tgt := 28) hx hb dX11_besides_16 (by decide) (fun c_16 => ?_) (fun c_16 => ?_)
    · rw [if_pos c_16] at h
      exact wX11_besides_j28 B hr hlk  h hR (lv_sub hl [] rfl)
    · rw [if_neg c_16] at h
      refine lv_iload_n hx hb dX11_besides_19 rfl (lv_at hl 3 rfl) ?_
      refine lv_iconst (v := 0) hx hb dX11_besides_20 (by decide) ?_
      refine lv_iconst (v := 1) hx hb dX11_besides_21 (by decide) ?_
      obtain ⟨r_22, hc_22, h⟩ := bi_el h
      refine is_X11_163 B hR hl.1 (mX11_isIn fu _  hc_22) (Nat.le_of_ble_eq_true rfl) dX11_besides_22 (fun H locs hR => ?_)
      refine lv_if_ne (tgt := 32) hx hb dX11_besides_25 (by decide) (fun c_25 => ?_) (fun c_25 => ?_)
      · rw [if_neg c_25] at h
        refine lv_iconst (v := (-1)) hx hb dX11_besides_32 (by decide) ?_
        refine lv_istore (lv' := [(4, .int (-1)), (0, .ref a0), (1, .int x1), (2, .int x2), (3, .int x3)]) hx hb dX11_besides_33 hl (by decide) rfl (fun ls hl => ?_)
        refine lv_iconst (v := 0) hx hb dX11_besides_35 (by decide) ?_
        refine lv_istore (lv' := [(5, .int 0), (4, .int (-1)), (0, .ref a0), (1, .int x1), (2, .int x2), (3, .int x3)]) hx hb dX11_besides_36 hl (by decide) rfl (fun ls hl => ?_)
        refine lv_iconst (v := 0) hx hb dX11_besides_38 (by decide) ?_
        refine lv_istore (lv' := [(6, .int 0), (5, .int 0), (4, .int (-1)), (0, .ref a0), (1, .int x1), (2, .int x2), (3, .int x3)]) hx hb dX11_besides_39 hl (by decide) rfl (fun ls hl => ?_)
        exact wX11_besides_l41 B hr hlk h0 h hR (lv_sub hl [3, 4, 5, 6, 2, 1, 0] rfl)
      · rw [if_pos c_25] at h
        exact wX11_besides_j28 B hr hlk  h hR (lv_sub hl [] rfl)
def fX11_isInPlan_j60 (fu : Nat) (M : Mm) : Option Int32 :=
  some 0
set_option maxRecDepth 100000 in
set_option maxHeartbeats 4000000 in
theorem wX11_isInPlan_j60 {r : Int32}    {M : Mm} (B : Bx p s m args c cX11_isInPlan 3 RX11 E L) (hr : meth.sig.returnType = (some .boolean)) (hlk : meth.locks = false)   (h : fX11_isInPlan_j60 fu M = some r) (hR : Rx s E L M H locs) (hl : lv_has ls 3 []) : W p l e (rmD (d + 1)) s m args below meth c H locs 0 0 (MQ below (QcM E L (some (.int r)) M) args s 0 0 E.2.2.2) (F0 m 60 ls []) := by
  have hx := B.1
  have hb := B.2.1
  unfold fX11_isInPlan_j60 at h
  refine lv_iconst (v := 0) hx hb dX11_isInPlan_60 (by decide) ?_
  exact r_zretP B hR hr hlk (Or.inl rfl) h dX11_isInPlan_61
def fX11_isInPlan_j54 (fu : Nat) (k2 : Int32 → Option Int32) (a0 : Nat) (x1 : Int32) (x2 : Int32) (M : Mm) : Option Int32 :=
  lt (x2 + 1) fun x2_54 =>
  k2 x2_54
set_option maxRecDepth 100000 in
set_option maxHeartbeats 4000000 in
theorem wX11_isInPlan_j54 {r : Int32}  {k2 : Int32 → Option Int32} {a0 : Nat} {x1 : Int32} {x2 : Int32} {M : Mm} (B : Bx p s m args c cX11_isInPlan 3 RX11 E L) (hr : meth.sig.returnType = (some .boolean)) (hlk : meth.locks = false) (ih2 : ∀ (x2 : Int32), k2 x2 = some r → ∀ (H : Heap) (locs : List Loc) (ls : Array Slot), Rx s E L M H locs → lv_has ls 3 [(0, .ref a0), (1, .int x1), (2, .int x2)] → W p l e (rmD (d + 1)) s m args below meth c H locs 0 0 (MQ below (QcM E L (some (.int r)) M) args s 0 0 E.2.2.2) (F0 m 2 ls [])) (h0 : At L a0 T11) (h : fX11_isInPlan_j54 fu k2 a0 x1 x2 M = some r) (hR : Rx s E L M H locs) (hl : lv_has ls 3 [(0, .ref a0), (1, .int x1), (2, .int x2)]) : W p l e (rmD (d + 1)) s m args below meth c H locs 0 0 (MQ below (QcM E L (some (.int r)) M) args s 0 0 E.2.2.2) (F0 m 54 ls []) := by
  have hx := B.1
  have hb := B.2.1
  unfold fX11_isInPlan_j54 at h
  obtain ⟨x2_54, ex2_54, h⟩ := lt_el h
  refine lv_iinc (v := x2_54) (lv' := [(2, .int x2_54), (0, .ref a0), (1, .int x1)]) hx hb dX11_isInPlan_54 hl (k := 2) rfl (by rw [ex2_54]; rfl) (by decide) rfl (fun ls hl => ?_)
  refine lv_goto (tgt := 2) hx hb dX11_isInPlan_57 (by decide) ?_
  exact ih2 x2_54 h _ _ _ hR (lv_sub hl [1, 2, 0] rfl)
def fX11_isInPlan_j52 (fu : Nat) (M : Mm) : Option Int32 :=
  some 1
set_option maxRecDepth 100000 in
set_option maxHeartbeats 4000000 in
theorem wX11_isInPlan_j52 {r : Int32}    {M : Mm} (B : Bx p s m args c cX11_isInPlan 3 RX11 E L) (hr : meth.sig.returnType = (some .boolean)) (hlk : meth.locks = false)   (h : fX11_isInPlan_j52 fu M = some r) (hR : Rx s E L M H locs) (hl : lv_has ls 3 []) : W p l e (rmD (d + 1)) s m args below meth c H locs 0 0 (MQ below (QcM E L (some (.int r)) M) args s 0 0 E.2.2.2) (F0 m 52 ls []) := by
  have hx := B.1
  have hb := B.2.1
  unfold fX11_isInPlan_j52 at h
  refine lv_iconst (v := 1) hx hb dX11_isInPlan_52 (by decide) ?_
  exact r_zretP B hR hr hlk (Or.inr rfl) h dX11_isInPlan_53
def fX11_isInPlan_b2 (fu : Nat) (k2 : Int32 → Option Int32) (a0 : Nat) (x1 : Int32) (x2 : Int32) (M : Mm) : Option Int32 :=
  if (M.1 a0 33) ≤ x2 then
    fX11_isInPlan_j60 fu M
  else
    if x2 < 0 ∨ 2100 ≤ ix x2 then none else
    bi (fX11_baseOf fu a0 x1 M) fun r_18 =>
    if (M.1 (a0 + 14) (ix x2)) = r_18 then
      bi (fX11_sizeOf fu a0 x1 M) fun r_32 =>
      if (M.1 (a0 + 15) (ix x2)) = r_32 then
        bi (fX11_kindOf fu a0 x1 M) fun r_46 =>
        if (M.1 (a0 + 16) (ix x2)) = r_46 then
          fX11_isInPlan_j52 fu M
        else
          fX11_isInPlan_j54 fu k2 a0 x1 x2 M
      else
        fX11_isInPlan_j54 fu k2 a0 x1 x2 M
    else
      fX11_isInPlan_j54 fu k2 a0 x1 x2 M
set_option maxRecDepth 100000 in
set_option maxHeartbeats 4000000 in
theorem wX11_isInPlan_b2 {r : Int32}   {k2 : Int32 → Option Int32} {a0 : Nat} {x1 : Int32} {x2 : Int32} {M : Mm} (B : Bx p s m args c cX11_isInPlan 3 RX11 E L) (hr : meth.sig.returnType = (some .boolean)) (hlk : meth.locks = false)  (ih2 : ∀ (x2 : Int32), k2 x2 = some r → ∀ (H : Heap) (locs : List Loc) (ls : Array Slot), Rx s E L M H locs → lv_has ls 3 [(0, .ref a0), (1, .int x1), (2, .int x2)] → W p l e (rmD (d + 1)) s m args below meth c H locs 0 0 (MQ below (QcM E L (some (.int r)) M) args s 0 0 E.2.2.2) (F0 m 2 ls [])) (h0 : At L a0 T11) (h : fX11_isInPlan_b2 fu k2 a0 x1 x2 M = some r) (hR : Rx s E L M H locs) (hl : lv_has ls 3 [(0, .ref a0), (1, .int x1), (2, .int x2)]) : W p l e (rmD (d + 1)) s m args below meth c H locs 0 0 (MQ below (QcM E L (some (.int r)) M) args s 0 0 E.2.2.2) (F0 m 2 ls []) := by
  have hx := B.1
  have hb := B.2.1
  unfold fX11_isInPlan_b2 at h
  refine lv_iload_n hx hb dX11_isInPlan_2 rfl (lv_at hl 2 rfl) ?_
  refine lv_aload_n hx hb dX11_isInPlan_3 rfl (lv_at hl 0 rfl) ?_
  refine gf_X11_350 B hR (h0.at0 rfl) dX11_isInPlan_4 ?_
  refine lv_icmp_ge (tgt := 60) hx hb dX11_isInPlan_7 (by decide) (fun c_7 => ?_) (fun c_7 => ?_)
  · rw [if_pos c_7] at h
    exact wX11_isInPlan_j60 B hr hlk  h hR (lv_sub hl [] rfl)
  · rw [if_neg c_7] at h
    refine lv_aload_n hx hb dX11_isInPlan_10 rfl (lv_at hl 0 rfl) ?_
    refine gf_X11_54 B hR (h0.at0 rfl) dX11_isInPlan_11 ?_
    refine lv_iload_n hx hb dX11_isInPlan_14 rfl (lv_at hl 2 rfl) ?_
    obtain ⟨hi_15, h⟩ := ifn_el h
    refine r_iald B hR (h0.at 14 rfl) hi_15 dX11_isInPlan_15 ?_
    refine lv_aload_n hx hb dX11_isInPlan_16 rfl (lv_at hl 0 rfl) ?_
    refine lv_iload_n hx hb dX11_isInPlan_17 rfl (lv_at hl 1 rfl) ?_
    obtain ⟨r_18, hc_18, h⟩ := bi_el h
    refine iv_X11_252 B hR (h0.at0 rfl) hl.1 (mX11_baseOf fu _ h0 hc_18) (Nat.le_of_ble_eq_true rfl) dX11_isInPlan_18 (fun H locs hR => ?_)
    refine lv_icmp_ne (tgt := 54) hx hb dX11_isInPlan_21 (by decide) (fun c_21 => ?_) (fun c_21 => ?_)
    · rw [if_neg c_21] at h
      exact wX11_isInPlan_j54 B hr hlk ih2 h0 h hR hl
    · rw [if_pos c_21] at h
      refine lv_aload_n hx hb dX11_isInPlan_24 rfl (lv_at hl 0 rfl) ?_
      refine gf_X11_57 B hR (h0.at0 rfl) dX11_isInPlan_25 ?_
      refine lv_iload_n hx hb dX11_isInPlan_28 rfl (lv_at hl 2 rfl) ?_
      refine r_iald B hR (h0.at 15 rfl) hi_15 dX11_isInPlan_29 ?_
      refine lv_aload_n hx hb dX11_isInPlan_30 rfl (lv_at hl 0 rfl) ?_
      refine lv_iload_n hx hb dX11_isInPlan_31 rfl (lv_at hl 1 rfl) ?_
      obtain ⟨r_32, hc_32, h⟩ := bi_el h
      refine iv_X11_249 B hR (h0.at0 rfl) hl.1 (mX11_sizeOf fu _ h0 hc_32) (Nat.le_of_ble_eq_true rfl) dX11_isInPlan_32 (fun H locs hR => ?_)
      refine lv_icmp_ne (tgt := 54) hx hb dX11_isInPlan_35 (by decide) (fun c_35 => ?_) (fun c_35 => ?_)
      · rw [if_neg c_35] at h
        exact wX11_isInPlan_j54 B hr hlk ih2 h0 h hR hl
      · rw [if_pos c_35] at h
        refine lv_aload_n hx hb dX11_isInPlan_38 rfl (lv_at hl 0 rfl) ?_
        refine gf_X11_60 B hR (h0.at0 rfl) dX11_isInPlan_39 ?_
        refine lv_iload_n hx hb dX11_isInPlan_42 rfl (lv_at hl 2 rfl) ?_
        refine r_iald B hR (h0.at 16 rfl) hi_15 dX11_isInPlan_43 ?_
        refine lv_aload_n hx hb dX11_isInPlan_44 rfl (lv_at hl 0 rfl) ?_
        refine lv_iload_n hx hb dX11_isInPlan_45 rfl (lv_at hl 1 rfl) ?_
        obtain ⟨r_46, hc_46, h⟩ := bi_el h
        refine iv_X11_267 B hR (h0.at0 rfl) hl.1 (mX11_kindOf fu _ h0 hc_46) (Nat.le_of_ble_eq_true rfl) dX11_isInPlan_46 (fun H locs hR => ?_)
        refine lv_icmp_ne (tgt := 54) hx hb dX11_isInPlan_49 (by decide) (fun c_49 => ?_) (fun c_49 => ?_)
        · rw [if_neg c_49] at h
          exact wX11_isInPlan_j54 B hr hlk ih2 h0 h hR hl
        · rw [if_pos c_49] at h
          exact wX11_isInPlan_j52 B hr hlk  h hR (lv_sub hl [] rfl)
def fX11_isInPlan_l2 (fu : Nat) (a0 : Nat) (x1 : Int32) (M : Mm) (x2 : Int32) : Option Int32 := lp (fun (rec : Int32 → Option Int32) (s : Int32) => fX11_isInPlan_b2 fu  (fun x2 => rec (x2)) a0 x1 s M) fu (x2)
set_option maxRecDepth 100000 in
set_option maxHeartbeats 4000000 in
theorem wX11_isInPlan_l2 {r : Int32}   {a0 : Nat} {x1 : Int32} {x2 : Int32} {M : Mm} (B : Bx p s m args c cX11_isInPlan 3 RX11 E L) (hr : meth.sig.returnType = (some .boolean)) (hlk : meth.locks = false)  (h0 : At L a0 T11) (h : fX11_isInPlan_l2 fu a0 x1 M x2 = some r) (hR : Rx s E L M H locs) (hl : lv_has ls 3 [(0, .ref a0), (1, .int x1), (2, .int x2)]) : W p l e (rmD (d + 1)) s m args below meth c H locs 0 0 (MQ below (QcM E L (some (.int r)) M) args s 0 0 E.2.2.2) (F0 m 2 ls []) := by
  refine lp_G (G := fun z : Int32 => ∀ (H : Heap) (locs : List Loc) (ls : Array Slot), Rx s E L M H locs → lv_has ls 3 [(0, .ref a0), (1, .int x1), (2, .int z)] → W p l e (rmD (d + 1)) s m args below meth c H locs 0 0 (MQ below (QcM E L (some (.int r)) M) args s 0 0 E.2.2.2) (F0 m 2 ls [])) (fun rec ih z h H locs ls hR hl => ?_) fu _ h H locs ls hR hl
  exact wX11_isInPlan_b2 B hr hlk  (fun x2 h => ih (x2) h) h0 h hR hl
def fX11_isInPlan (fu : Nat) (a0 : Nat) (x1 : Int32) (M : Mm) : Option Int32 :=
  fX11_isInPlan_l2 fu a0 x1 M 0
set_option maxRecDepth 100000 in
set_option maxHeartbeats 4000000 in
theorem mX11_isInPlan {l : Launch} {E : Ge} {L : Lay} (fu d : Nat) {a0 : Nat} {x1 : Int32} {M : Mm} {r : Int32}  (h0 : At L a0 T11) (h : fX11_isInPlan fu a0 x1 M = some r) : Ct l E L yX11_isInPlan cX11_isInPlan 3 (some .boolean) (d + 1) [.ref a0, .int x1] M (some (.int r)) M := by
  refine Ct.of (by decide) ?_
  intro p e s m below meth c hr hlk B hR
  have B : Bx p s m _ c cX11_isInPlan 3 RX11 E L := B
  have hx := B.1
  have hb := B.2.1
  have hl := lv_entry ([.ref a0, .int x1]) (n := 3) (Nat.le_of_ble_eq_true rfl)
  rw [lg_entry_eq]
  generalize (lg_sl ([.ref a0, .int x1]) ++ List.replicate (3 - (lg_sl ([.ref a0, .int x1])).length) Slot.unset).toArray = ls at hl ⊢
  have hl : lv_has ls 3 [(0, .ref a0), (1, .int x1)] := hl
  unfold fX11_isInPlan at h
  refine lv_iconst (v := 0) hx hb dX11_isInPlan_0 (by decide) ?_
  refine lv_istore_n (lv' := [(2, .int 0), (0, .ref a0), (1, .int x1)]) hx hb dX11_isInPlan_1 rfl hl (by decide) rfl (fun ls hl => ?_)
  exact wX11_isInPlan_l2 B hr hlk h0 h hR (lv_sub hl [1, 2, 0] rfl)
def fX11_isInRegisters_j60 (fu : Nat) (M : Mm) : Option Int32 :=
  some 0
set_option maxRecDepth 100000 in
set_option maxHeartbeats 4000000 in
theorem wX11_isInRegisters_j60 {r : Int32}    {M : Mm} (B : Bx p s m args c cX11_isInRegisters 3 RX11 E L) (hr : meth.sig.returnType = (some .boolean)) (hlk : meth.locks = false)   (h : fX11_isInRegisters_j60 fu M = some r) (hR : Rx s E L M H locs) (hl : lv_has ls 3 []) : W p l e (rmD (d + 1)) s m args below meth c H locs 0 0 (MQ below (QcM E L (some (.int r)) M) args s 0 0 E.2.2.2) (F0 m 60 ls []) := by
  have hx := B.1
  have hb := B.2.1
  unfold fX11_isInRegisters_j60 at h
  refine lv_iconst (v := 0) hx hb dX11_isInRegisters_60 (by decide) ?_
  exact r_zretP B hR hr hlk (Or.inl rfl) h dX11_isInRegisters_61
def fX11_isInRegisters_j54 (fu : Nat) (k2 : Int32 → Option Int32) (a0 : Nat) (x1 : Int32) (x2 : Int32) (M : Mm) : Option Int32 :=
  lt (x2 + 1) fun x2_54 =>
  k2 x2_54
set_option maxRecDepth 100000 in
set_option maxHeartbeats 4000000 in
theorem wX11_isInRegisters_j54 {r : Int32}  {k2 : Int32 → Option Int32} {a0 : Nat} {x1 : Int32} {x2 : Int32} {M : Mm} (B : Bx p s m args c cX11_isInRegisters 3 RX11 E L) (hr : meth.sig.returnType = (some .boolean)) (hlk : meth.locks = false) (ih2 : ∀ (x2 : Int32), k2 x2 = some r → ∀ (H : Heap) (locs : List Loc) (ls : Array Slot), Rx s E L M H locs → lv_has ls 3 [(0, .ref a0), (1, .int x1), (2, .int x2)] → W p l e (rmD (d + 1)) s m args below meth c H locs 0 0 (MQ below (QcM E L (some (.int r)) M) args s 0 0 E.2.2.2) (F0 m 2 ls [])) (h0 : At L a0 T11) (h : fX11_isInRegisters_j54 fu k2 a0 x1 x2 M = some r) (hR : Rx s E L M H locs) (hl : lv_has ls 3 [(0, .ref a0), (1, .int x1), (2, .int x2)]) : W p l e (rmD (d + 1)) s m args below meth c H locs 0 0 (MQ below (QcM E L (some (.int r)) M) args s 0 0 E.2.2.2) (F0 m 54 ls []) := by
  have hx := B.1
  have hb := B.2.1
  unfold fX11_isInRegisters_j54 at h
  obtain ⟨x2_54, ex2_54, h⟩ := lt_el h
  refine lv_iinc (v := x2_54) (lv' := [(2, .int x2_54), (0, .ref a0), (1, .int x1)]) hx hb dX11_isInRegisters_54 hl (k := 2) rfl (by rw [ex2_54]; rfl) (by decide) rfl (fun ls hl => ?_)
  refine lv_goto (tgt := 2) hx hb dX11_isInRegisters_57 (by decide) ?_
  exact ih2 x2_54 h _ _ _ hR (lv_sub hl [1, 2, 0] rfl)
def fX11_isInRegisters_j52 (fu : Nat) (M : Mm) : Option Int32 :=
  some 1
set_option maxRecDepth 100000 in
set_option maxHeartbeats 4000000 in
theorem wX11_isInRegisters_j52 {r : Int32}    {M : Mm} (B : Bx p s m args c cX11_isInRegisters 3 RX11 E L) (hr : meth.sig.returnType = (some .boolean)) (hlk : meth.locks = false)   (h : fX11_isInRegisters_j52 fu M = some r) (hR : Rx s E L M H locs) (hl : lv_has ls 3 []) : W p l e (rmD (d + 1)) s m args below meth c H locs 0 0 (MQ below (QcM E L (some (.int r)) M) args s 0 0 E.2.2.2) (F0 m 52 ls []) := by
  have hx := B.1
  have hb := B.2.1
  unfold fX11_isInRegisters_j52 at h
  refine lv_iconst (v := 1) hx hb dX11_isInRegisters_52 (by decide) ?_
  exact r_zretP B hR hr hlk (Or.inr rfl) h dX11_isInRegisters_53
def fX11_isInRegisters_b2 (fu : Nat) (k2 : Int32 → Option Int32) (a0 : Nat) (x1 : Int32) (x2 : Int32) (M : Mm) : Option Int32 :=
  bi (fX11_registersNow fu a0 M) fun r_4 =>
  if r_4 ≤ x2 then
    fX11_isInRegisters_j60 fu M
  else
    if x1 < 0 ∨ 2100 ≤ ix x1 then none else
    bi (fX11_baseOf fu a0 x2 M) fun r_18 =>
    if (M.1 (a0 + 14) (ix x1)) = r_18 then
      bi (fX11_sizeOf fu a0 x2 M) fun r_32 =>
      if (M.1 (a0 + 15) (ix x1)) = r_32 then
        bi (fX11_kindOf fu a0 x2 M) fun r_46 =>
        if (M.1 (a0 + 16) (ix x1)) = r_46 then
          fX11_isInRegisters_j52 fu M
        else
          fX11_isInRegisters_j54 fu k2 a0 x1 x2 M
      else
        fX11_isInRegisters_j54 fu k2 a0 x1 x2 M
    else
      fX11_isInRegisters_j54 fu k2 a0 x1 x2 M
set_option maxRecDepth 100000 in
set_option maxHeartbeats 4000000 in
theorem wX11_isInRegisters_b2 {r : Int32}   {k2 : Int32 → Option Int32} {a0 : Nat} {x1 : Int32} {x2 : Int32} {M : Mm} (B : Bx p s m args c cX11_isInRegisters 3 RX11 E L) (hr : meth.sig.returnType = (some .boolean)) (hlk : meth.locks = false)  (ih2 : ∀ (x2 : Int32), k2 x2 = some r → ∀ (H : Heap) (locs : List Loc) (ls : Array Slot), Rx s E L M H locs → lv_has ls 3 [(0, .ref a0), (1, .int x1), (2, .int x2)] → W p l e (rmD (d + 1)) s m args below meth c H locs 0 0 (MQ below (QcM E L (some (.int r)) M) args s 0 0 E.2.2.2) (F0 m 2 ls [])) (h0 : At L a0 T11) (h : fX11_isInRegisters_b2 fu k2 a0 x1 x2 M = some r) (hR : Rx s E L M H locs) (hl : lv_has ls 3 [(0, .ref a0), (1, .int x1), (2, .int x2)]) : W p l e (rmD (d + 1)) s m args below meth c H locs 0 0 (MQ below (QcM E L (some (.int r)) M) args s 0 0 E.2.2.2) (F0 m 2 ls []) := by
  have hx := B.1
  have hb := B.2.1
  unfold fX11_isInRegisters_b2 at h
  refine lv_iload_n hx hb dX11_isInRegisters_2 rfl (lv_at hl 2 rfl) ?_
  refine lv_aload_n hx hb dX11_isInRegisters_3 rfl (lv_at hl 0 rfl) ?_
  obtain ⟨r_4, hc_4, h⟩ := bi_el h
  refine iv_X11_243 B hR (h0.at0 rfl) hl.1 (mX11_registersNow fu _ h0 hc_4) (Nat.le_of_ble_eq_true rfl) dX11_isInRegisters_4 (fun H locs hR => ?_)
  refine lv_icmp_ge (tgt := 60) hx hb dX11_isInRegisters_7 (by decide) (fun c_7 => ?_) (fun c_7 => ?_)
  · rw [if_pos c_7] at h
    exact wX11_isInRegisters_j60 B hr hlk  h hR (lv_sub hl [] rfl)
  · rw [if_neg c_7] at h
    refine lv_aload_n hx hb dX11_isInRegisters_10 rfl (lv_at hl 0 rfl) ?_
    refine gf_X11_54 B hR (h0.at0 rfl) dX11_isInRegisters_11 ?_
    refine lv_iload_n hx hb dX11_isInRegisters_14 rfl (lv_at hl 1 rfl) ?_
    obtain ⟨hi_15, h⟩ := ifn_el h
    refine r_iald B hR (h0.at 14 rfl) hi_15 dX11_isInRegisters_15 ?_
    refine lv_aload_n hx hb dX11_isInRegisters_16 rfl (lv_at hl 0 rfl) ?_
    refine lv_iload_n hx hb dX11_isInRegisters_17 rfl (lv_at hl 2 rfl) ?_
    obtain ⟨r_18, hc_18, h⟩ := bi_el h
    refine iv_X11_252 B hR (h0.at0 rfl) hl.1 (mX11_baseOf fu _ h0 hc_18) (Nat.le_of_ble_eq_true rfl) dX11_isInRegisters_18 (fun H locs hR => ?_)
    refine lv_icmp_ne (tgt := 54) hx hb dX11_isInRegisters_21 (by decide) (fun c_21 => ?_) (fun c_21 => ?_)
    · rw [if_neg c_21] at h
      exact wX11_isInRegisters_j54 B hr hlk ih2 h0 h hR hl
    · rw [if_pos c_21] at h
      refine lv_aload_n hx hb dX11_isInRegisters_24 rfl (lv_at hl 0 rfl) ?_
      refine gf_X11_57 B hR (h0.at0 rfl) dX11_isInRegisters_25 ?_
      refine lv_iload_n hx hb dX11_isInRegisters_28 rfl (lv_at hl 1 rfl) ?_
      refine r_iald B hR (h0.at 15 rfl) hi_15 dX11_isInRegisters_29 ?_
      refine lv_aload_n hx hb dX11_isInRegisters_30 rfl (lv_at hl 0 rfl) ?_
      refine lv_iload_n hx hb dX11_isInRegisters_31 rfl (lv_at hl 2 rfl) ?_
      obtain ⟨r_32, hc_32, h⟩ := bi_el h
      refine iv_X11_249 B hR (h0.at0 rfl) hl.1 (mX11_sizeOf fu _ h0 hc_32) (Nat.le_of_ble_eq_true rfl) dX11_isInRegisters_32 (fun H locs hR => ?_)
      refine lv_icmp_ne (tgt := 54) hx hb dX11_isInRegisters_35 (by decide) (fun c_35 => ?_) (fun c_35 => ?_)
      · rw [if_neg c_35] at h
        exact wX11_isInRegisters_j54 B hr hlk ih2 h0 h hR hl
      · rw [if_pos c_35] at h
        refine lv_aload_n hx hb dX11_isInRegisters_38 rfl (lv_at hl 0 rfl) ?_
        refine gf_X11_60 B hR (h0.at0 rfl) dX11_isInRegisters_39 ?_
        refine lv_iload_n hx hb dX11_isInRegisters_42 rfl (lv_at hl 1 rfl) ?_
        refine r_iald B hR (h0.at 16 rfl) hi_15 dX11_isInRegisters_43 ?_
        refine lv_aload_n hx hb dX11_isInRegisters_44 rfl (lv_at hl 0 rfl) ?_
        refine lv_iload_n hx hb dX11_isInRegisters_45 rfl (lv_at hl 2 rfl) ?_
        obtain ⟨r_46, hc_46, h⟩ := bi_el h
        refine iv_X11_267 B hR (h0.at0 rfl) hl.1 (mX11_kindOf fu _ h0 hc_46) (Nat.le_of_ble_eq_true rfl) dX11_isInRegisters_46 (fun H locs hR => ?_)
        refine lv_icmp_ne (tgt := 54) hx hb dX11_isInRegisters_49 (by decide) (fun c_49 => ?_) (fun c_49 => ?_)
        · rw [if_neg c_49] at h
          exact wX11_isInRegisters_j54 B hr hlk ih2 h0 h hR hl
        · rw [if_pos c_49] at h
          exact wX11_isInRegisters_j52 B hr hlk  h hR (lv_sub hl [] rfl)
def fX11_isInRegisters_l2 (fu : Nat) (a0 : Nat) (x1 : Int32) (M : Mm) (x2 : Int32) : Option Int32 := lp (fun (rec : Int32 → Option Int32) (s : Int32) => fX11_isInRegisters_b2 fu  (fun x2 => rec (x2)) a0 x1 s M) fu (x2)
set_option maxRecDepth 100000 in
set_option maxHeartbeats 4000000 in
theorem wX11_isInRegisters_l2 {r : Int32}   {a0 : Nat} {x1 : Int32} {x2 : Int32} {M : Mm} (B : Bx p s m args c cX11_isInRegisters 3 RX11 E L) (hr : meth.sig.returnType = (some .boolean)) (hlk : meth.locks = false)  (h0 : At L a0 T11) (h : fX11_isInRegisters_l2 fu a0 x1 M x2 = some r) (hR : Rx s E L M H locs) (hl : lv_has ls 3 [(0, .ref a0), (1, .int x1), (2, .int x2)]) : W p l e (rmD (d + 1)) s m args below meth c H locs 0 0 (MQ below (QcM E L (some (.int r)) M) args s 0 0 E.2.2.2) (F0 m 2 ls []) := by
  refine lp_G (G := fun z : Int32 => ∀ (H : Heap) (locs : List Loc) (ls : Array Slot), Rx s E L M H locs → lv_has ls 3 [(0, .ref a0), (1, .int x1), (2, .int z)] → W p l e (rmD (d + 1)) s m args below meth c H locs 0 0 (MQ below (QcM E L (some (.int r)) M) args s 0 0 E.2.2.2) (F0 m 2 ls [])) (fun rec ih z h H locs ls hR hl => ?_) fu _ h H locs ls hR hl
  exact wX11_isInRegisters_b2 B hr hlk  (fun x2 h => ih (x2) h) h0 h hR hl
def fX11_isInRegisters (fu : Nat) (a0 : Nat) (x1 : Int32) (M : Mm) : Option Int32 :=
  fX11_isInRegisters_l2 fu a0 x1 M 0
set_option maxRecDepth 100000 in
set_option maxHeartbeats 4000000 in
theorem mX11_isInRegisters {l : Launch} {E : Ge} {L : Lay} (fu d : Nat) {a0 : Nat} {x1 : Int32} {M : Mm} {r : Int32}  (h0 : At L a0 T11) (h : fX11_isInRegisters fu a0 x1 M = some r) : Ct l E L yX11_isInRegisters cX11_isInRegisters 3 (some .boolean) (d + 1) [.ref a0, .int x1] M (some (.int r)) M := by
  refine Ct.of (by decide) ?_
  intro p e s m below meth c hr hlk B hR
  have B : Bx p s m _ c cX11_isInRegisters 3 RX11 E L := B
  have hx := B.1
  have hb := B.2.1
  have hl := lv_entry ([.ref a0, .int x1]) (n := 3) (Nat.le_of_ble_eq_true rfl)
  rw [lg_entry_eq]
  generalize (lg_sl ([.ref a0, .int x1]) ++ List.replicate (3 - (lg_sl ([.ref a0, .int x1])).length) Slot.unset).toArray = ls at hl ⊢
  have hl : lv_has ls 3 [(0, .ref a0), (1, .int x1)] := hl
  unfold fX11_isInRegisters at h
  refine lv_iconst (v := 0) hx hb dX11_isInRegisters_0 (by decide) ?_
  refine lv_istore_n (lv' := [(2, .int 0), (0, .ref a0), (1, .int x1)]) hx hb dX11_isInRegisters_1 rfl hl (by decide) rfl (fun ls hl => ?_)
  exact wX11_isInRegisters_l2 B hr hlk h0 h hR (lv_sub hl [1, 2, 0] rfl)
def fX11_addEdge_j27 (fu : Nat) (a0 : Nat) (x1 : Int32) (M : Mm) : Option Mm :=
  bi (fX11_addresses fu a0 M) fun r_29 =>
  if x1 < r_29 then
    if (M.1 a0 41) < 0 ∨ 100 ≤ ix (M.1 a0 41) then none else
    lt (wI M (a0 + 21) (ix (M.1 a0 41)) x1) fun M_45 =>
    lt (wI M_45 a0 41 ((M_45.1 a0 41) + 1)) fun M_53 =>
    some M_53
  else
    some M
set_option maxRecDepth 100000 in
set_option maxHeartbeats 4000000 in
theorem wX11_addEdge_j27 {M' : Mm}   {a0 : Nat} {x1 : Int32} {M : Mm} (B : Bx p s m args c cX11_addEdge 3 RX11 E L) (hr : meth.sig.returnType = none) (hlk : meth.locks = false)  (h0 : At L a0 T11) (h : fX11_addEdge_j27 fu a0 x1 M = some M') (hR : Rx s E L M H locs) (hl : lv_has ls 3 [(0, .ref a0), (1, .int x1)]) : W p l e (rmD (d + 1)) s m args below meth c H locs 0 0 (MQ below (QcM E L none M') args s 0 0 E.2.2.2) (F0 m 27 ls []) := by
  have hx := B.1
  have hb := B.2.1
  unfold fX11_addEdge_j27 at h
  refine lv_iload_n hx hb dX11_addEdge_27 rfl (lv_at hl 1 rfl) ?_
  refine lv_aload_n hx hb dX11_addEdge_28 rfl (lv_at hl 0 rfl) ?_
  obtain ⟨r_29, hc_29, h⟩ := bi_el h
  refine iv_X11_240 B hR (h0.at0 rfl) hl.1 (mX11_addresses fu _ h0 hc_29) (Nat.le_of_ble_eq_true rfl) dX11_addEdge_29 (fun H locs hR => ?_)
  refine lv_icmp_lt (tgt := 36) hx hb dX11_addEdge_32 (by decide) (fun c_32 => ?_) (fun c_32 => ?_)
  · rw [if_pos c_32] at h
    refine lv_aload_n hx hb dX11_addEdge_36 rfl (lv_at hl 0 rfl) ?_
    refine gf_X11_76 B hR (h0.at0 rfl) dX11_addEdge_37 ?_
    refine lv_aload_n hx hb dX11_addEdge_40 rfl (lv_at hl 0 rfl) ?_
    refine gf_X11_426 B hR (h0.at0 rfl) dX11_addEdge_41 ?_
    refine lv_iload_n hx hb dX11_addEdge_44 rfl (lv_at hl 1 rfl) ?_
    obtain ⟨hi_45, h⟩ := ifn_el h
    obtain ⟨M_45, eM_45, h⟩ := lt_el h
    refine r_iast B hR (h0.at 21 rfl) hi_45 dX11_addEdge_45 (fun H locs hR => ?_)
    rw [← eM_45] at hR
    refine lv_aload_n hx hb dX11_addEdge_46 rfl (lv_at hl 0 rfl) ?_
    refine lv_dup hx hb dX11_addEdge_47 rfl ?_
    refine gf_X11_426 B hR (h0.at0 rfl) dX11_addEdge_48 ?_
    refine lv_iconst (v := 1) hx hb dX11_addEdge_51 (by decide) ?_
    refine lv_iadd hx hb dX11_addEdge_52 ?_
    obtain ⟨M_53, eM_53, h⟩ := lt_el h
    refine pf_X11_426 B hR (h0.at0 rfl) dX11_addEdge_53 (fun H locs hR => ?_)
    rw [← eM_53] at hR
    exact r_vretW B hR hr hlk h dX11_addEdge_56
  · rw [if_neg c_32] at h
    exact r_vretW B hR hr hlk h dX11_addEdge_35
def fX11_addEdge_j20 (fu : Nat) (M : Mm) : Option Mm :=
  some M
set_option maxRecDepth 100000 in
set_option maxHeartbeats 4000000 in
theorem wX11_addEdge_j20 {M' : Mm}    {M : Mm} (B : Bx p s m args c cX11_addEdge 3 RX11 E L) (hr : meth.sig.returnType = none) (hlk : meth.locks = false)   (h : fX11_addEdge_j20 fu M = some M') (hR : Rx s E L M H locs) (hl : lv_has ls 3 []) : W p l e (rmD (d + 1)) s m args below meth c H locs 0 0 (MQ below (QcM E L none M') args s 0 0 E.2.2.2) (F0 m 20 ls []) := by
  have hx := B.1
  have hb := B.2.1
  unfold fX11_addEdge_j20 at h
  exact r_vretW B hR hr hlk h dX11_addEdge_20
def fX11_addEdge_b2 (fu : Nat) (k2 : Int32 → Option Mm) (a0 : Nat) (x1 : Int32) (x2 : Int32) (M : Mm) : Option Mm :=
  if (M.1 a0 41) ≤ x2 then
    fX11_addEdge_j27 fu a0 x1 M
  else
    if x2 < 0 ∨ 100 ≤ ix x2 then none else
    if (M.1 (a0 + 21) (ix x2)) = x1 then
      fX11_addEdge_j20 fu M
    else
      lt (x2 + 1) fun x2_21 =>
      k2 x2_21
set_option maxRecDepth 100000 in
set_option maxHeartbeats 4000000 in
theorem wX11_addEdge_b2 {M' : Mm}   {k2 : Int32 → Option Mm} {a0 : Nat} {x1 : Int32} {x2 : Int32} {M : Mm} (B : Bx p s m args c cX11_addEdge 3 RX11 E L) (hr : meth.sig.returnType = none) (hlk : meth.locks = false)  (ih2 : ∀ (x2 : Int32), k2 x2 = some M' → ∀ (H : Heap) (locs : List Loc) (ls : Array Slot), Rx s E L M H locs → lv_has ls 3 [(0, .ref a0), (1, .int x1), (2, .int x2)] → W p l e (rmD (d + 1)) s m args below meth c H locs 0 0 (MQ below (QcM E L none M') args s 0 0 E.2.2.2) (F0 m 2 ls [])) (h0 : At L a0 T11) (h : fX11_addEdge_b2 fu k2 a0 x1 x2 M = some M') (hR : Rx s E L M H locs) (hl : lv_has ls 3 [(0, .ref a0), (1, .int x1), (2, .int x2)]) : W p l e (rmD (d + 1)) s m args below meth c H locs 0 0 (MQ below (QcM E L none M') args s 0 0 E.2.2.2) (F0 m 2 ls []) := by
  have hx := B.1
  have hb := B.2.1
  unfold fX11_addEdge_b2 at h
  refine lv_iload_n hx hb dX11_addEdge_2 rfl (lv_at hl 2 rfl) ?_
  refine lv_aload_n hx hb dX11_addEdge_3 rfl (lv_at hl 0 rfl) ?_
  refine gf_X11_426 B hR (h0.at0 rfl) dX11_addEdge_4 ?_
  refine lv_icmp_ge (tgt := 27) hx hb dX11_addEdge_7 (by decide) (fun c_7 => ?_) (fun c_7 => ?_)
  · rw [if_pos c_7] at h
    exact wX11_addEdge_j27 B hr hlk h0 h hR (lv_sub hl [0, 1] rfl)
  · rw [if_neg c_7] at h
    refine lv_aload_n hx hb dX11_addEdge_10 rfl (lv_at hl 0 rfl) ?_
    refine gf_X11_76 B hR (h0.at0 rfl) dX11_addEdge_11 ?_
    refine lv_iload_n hx hb dX11_addEdge_14 rfl (lv_at hl 2 rfl) ?_
    obtain ⟨hi_15, h⟩ := ifn_el h
    refine r_iald B hR (h0.at 21 rfl) hi_15 dX11_addEdge_15 ?_
    refine lv_iload_n hx hb dX11_addEdge_16 rfl (lv_at hl 1 rfl) ?_
    refine lv_icmp_ne (tgt := 21) hx hb dX11_addEdge_17 (by decide) (fun c_17 => ?_) (fun c_17 => ?_)
    · rw [if_neg c_17] at h
      obtain ⟨x2_21, ex2_21, h⟩ := lt_el h
      refine lv_iinc (v := x2_21) (lv' := [(2, .int x2_21), (0, .ref a0), (1, .int x1)]) hx hb dX11_addEdge_21 hl (k := 2) rfl (by rw [ex2_21]; rfl) (by decide) rfl (fun ls hl => ?_)
      refine lv_goto (tgt := 2) hx hb dX11_addEdge_24 (by decide) ?_
      exact ih2 x2_21 h _ _ _ hR (lv_sub hl [1, 2, 0] rfl)
    · rw [if_pos c_17] at h
      exact wX11_addEdge_j20 B hr hlk  h hR (lv_sub hl [] rfl)
def fX11_addEdge_l2 (fu : Nat) (a0 : Nat) (x1 : Int32) (M : Mm) (x2 : Int32) : Option Mm := lp (fun (rec : Int32 → Option Mm) (s : Int32) => fX11_addEdge_b2 fu  (fun x2 => rec (x2)) a0 x1 s M) fu (x2)
set_option maxRecDepth 100000 in
set_option maxHeartbeats 4000000 in
theorem wX11_addEdge_l2 {M' : Mm}   {a0 : Nat} {x1 : Int32} {x2 : Int32} {M : Mm} (B : Bx p s m args c cX11_addEdge 3 RX11 E L) (hr : meth.sig.returnType = none) (hlk : meth.locks = false)  (h0 : At L a0 T11) (h : fX11_addEdge_l2 fu a0 x1 M x2 = some M') (hR : Rx s E L M H locs) (hl : lv_has ls 3 [(0, .ref a0), (1, .int x1), (2, .int x2)]) : W p l e (rmD (d + 1)) s m args below meth c H locs 0 0 (MQ below (QcM E L none M') args s 0 0 E.2.2.2) (F0 m 2 ls []) := by
  refine lp_G (G := fun z : Int32 => ∀ (H : Heap) (locs : List Loc) (ls : Array Slot), Rx s E L M H locs → lv_has ls 3 [(0, .ref a0), (1, .int x1), (2, .int z)] → W p l e (rmD (d + 1)) s m args below meth c H locs 0 0 (MQ below (QcM E L none M') args s 0 0 E.2.2.2) (F0 m 2 ls [])) (fun rec ih z h H locs ls hR hl => ?_) fu _ h H locs ls hR hl
  exact wX11_addEdge_b2 B hr hlk  (fun x2 h => ih (x2) h) h0 h hR hl
def fX11_addEdge (fu : Nat) (a0 : Nat) (x1 : Int32) (M : Mm) : Option Mm :=
  fX11_addEdge_l2 fu a0 x1 M 0
set_option maxRecDepth 100000 in
set_option maxHeartbeats 4000000 in
theorem mX11_addEdge {l : Launch} {E : Ge} {L : Lay} (fu d : Nat) {a0 : Nat} {x1 : Int32} {M : Mm} {M' : Mm}  (h0 : At L a0 T11) (h : fX11_addEdge fu a0 x1 M = some M') : Ct l E L yX11_addEdge cX11_addEdge 3 none (d + 1) [.ref a0, .int x1] M none M' := by
  refine Ct.of (by decide) ?_
  intro p e s m below meth c hr hlk B hR
  have B : Bx p s m _ c cX11_addEdge 3 RX11 E L := B
  have hx := B.1
  have hb := B.2.1
  have hl := lv_entry ([.ref a0, .int x1]) (n := 3) (Nat.le_of_ble_eq_true rfl)
  rw [lg_entry_eq]
  generalize (lg_sl ([.ref a0, .int x1]) ++ List.replicate (3 - (lg_sl ([.ref a0, .int x1])).length) Slot.unset).toArray = ls at hl ⊢
  have hl : lv_has ls 3 [(0, .ref a0), (1, .int x1)] := hl
  unfold fX11_addEdge at h
  refine lv_iconst (v := 0) hx hb dX11_addEdge_0 (by decide) ?_
  refine lv_istore_n (lv' := [(2, .int 0), (0, .ref a0), (1, .int x1)]) hx hb dX11_addEdge_1 rfl hl (by decide) rfl (fun ls hl => ?_)
  exact wX11_addEdge_l2 B hr hlk h0 h hR (lv_sub hl [1, 2, 0] rfl)
def fX11_laySteps_j137 (fu : Nat) (M : Mm) : Option Mm :=
  some M
set_option maxRecDepth 100000 in
set_option maxHeartbeats 4000000 in
theorem wX11_laySteps_j137 {M' : Mm}    {M : Mm} (B : Bx p s m args c cX11_laySteps 2 RX11 E L) (hr : meth.sig.returnType = none) (hlk : meth.locks = false)   (h : fX11_laySteps_j137 fu M = some M') (hR : Rx s E L M H locs) (hl : lv_has ls 2 []) : W p l e (rmD (d + 7)) s m args below meth c H locs 0 0 (MQ below (QcM E L none M') args s 0 0 E.2.2.2) (F0 m 137 ls []) := by
  have hx := B.1
  have hb := B.2.1
  unfold fX11_laySteps_j137 at h
  exact r_vretW B hR hr hlk h dX11_laySteps_137
def fX11_laySteps_j131 (fu : Nat) (k83 : Int32 → Mm → Option Mm) (a0 : Nat) (x1 : Int32) (M : Mm) : Option Mm :=
  lt (x1 + 1) fun x1_131 =>
  k83 x1_131 M
set_option maxRecDepth 100000 in
set_option maxHeartbeats 4000000 in
theorem wX11_laySteps_j131 {M' : Mm}  {k83 : Int32 → Mm → Option Mm} {a0 : Nat} {x1 : Int32} {M : Mm} (B : Bx p s m args c cX11_laySteps 2 RX11 E L) (hr : meth.sig.returnType = none) (hlk : meth.locks = false) (ih83 : ∀ (x1 : Int32) (M : Mm), k83 x1 M = some M' → ∀ (H : Heap) (locs : List Loc) (ls : Array Slot), Rx s E L M H locs → lv_has ls 2 [(0, .ref a0), (1, .int x1)] → W p l e (rmD (d + 7)) s m args below meth c H locs 0 0 (MQ below (QcM E L none M') args s 0 0 E.2.2.2) (F0 m 83 ls [])) (h0 : At L a0 T11) (h : fX11_laySteps_j131 fu k83 a0 x1 M = some M') (hR : Rx s E L M H locs) (hl : lv_has ls 2 [(0, .ref a0), (1, .int x1)]) : W p l e (rmD (d + 7)) s m args below meth c H locs 0 0 (MQ below (QcM E L none M') args s 0 0 E.2.2.2) (F0 m 131 ls []) := by
  have hx := B.1
  have hb := B.2.1
  unfold fX11_laySteps_j131 at h
  obtain ⟨x1_131, ex1_131, h⟩ := lt_el h
  refine lv_iinc (v := x1_131) (lv' := [(1, .int x1_131), (0, .ref a0)]) hx hb dX11_laySteps_131 hl (k := 1) rfl (by rw [ex1_131]; rfl) (by decide) rfl (fun ls hl => ?_)
  refine lv_goto (tgt := 83) hx hb dX11_laySteps_134 (by decide) ?_
  exact ih83 x1_131 M h _ _ _ hR (lv_sub hl [1, 0] rfl)
def fX11_laySteps_j121 (fu : Nat) (k83 : Int32 → Mm → Option Mm) (a0 : Nat) (x1 : Int32) (M : Mm) : Option Mm :=
  lt (wI M a0 39 ((M.1 a0 39) + 1)) fun M_128 =>
  fX11_laySteps_j131 fu k83 a0 x1 M_128
set_option maxRecDepth 100000 in
set_option maxHeartbeats 4000000 in
theorem wX11_laySteps_j121 {M' : Mm}  {k83 : Int32 → Mm → Option Mm} {a0 : Nat} {x1 : Int32} {M : Mm} (B : Bx p s m args c cX11_laySteps 2 RX11 E L) (hr : meth.sig.returnType = none) (hlk : meth.locks = false) (ih83 : ∀ (x1 : Int32) (M : Mm), k83 x1 M = some M' → ∀ (H : Heap) (locs : List Loc) (ls : Array Slot), Rx s E L M H locs → lv_has ls 2 [(0, .ref a0), (1, .int x1)] → W p l e (rmD (d + 7)) s m args below meth c H locs 0 0 (MQ below (QcM E L none M') args s 0 0 E.2.2.2) (F0 m 83 ls [])) (h0 : At L a0 T11) (h : fX11_laySteps_j121 fu k83 a0 x1 M = some M') (hR : Rx s E L M H locs) (hl : lv_has ls 2 [(0, .ref a0), (1, .int x1)]) : W p l e (rmD (d + 7)) s m args below meth c H locs 0 0 (MQ below (QcM E L none M') args s 0 0 E.2.2.2) (F0 m 121 ls []) := by
  have hx := B.1
  have hb := B.2.1
  unfold fX11_laySteps_j121 at h
  refine lv_aload_n hx hb dX11_laySteps_121 rfl (lv_at hl 0 rfl) ?_
  refine lv_dup hx hb dX11_laySteps_122 rfl ?_
  refine gf_X11_429 B hR (h0.at0 rfl) dX11_laySteps_123 ?_
  refine lv_iconst (v := 1) hx hb dX11_laySteps_126 (by decide) ?_
  refine lv_iadd hx hb dX11_laySteps_127 ?_
  obtain ⟨M_128, eM_128, h⟩ := lt_el h
  refine pf_X11_429 B hR (h0.at0 rfl) dX11_laySteps_128 (fun H locs hR => ?_)
  rw [← eM_128] at hR
  exact wX11_laySteps_j131 B hr hlk ih83 h0 h hR hl
def fX11_laySteps_b83 (fu : Nat) (k83 : Int32 → Mm → Option Mm) (a0 : Nat) (x1 : Int32) (M : Mm) : Option Mm :=
  if (M.1 a0 33) ≤ x1 then
    fX11_laySteps_j137 fu M
  else
    bi (fX11_isInRegisters fu a0 x1 M) fun r_93 =>
    if r_93 = 0 then
      if 32 ≤ (M.1 a0 39) then
        fX11_laySteps_j121 fu k83 a0 x1 M
      else
        if (M.1 a0 39) < 0 ∨ 32 ≤ ix (M.1 a0 39) then none else
        lt (wI M (a0 + 20) (ix (M.1 a0 39)) x1) fun M_120 =>
        fX11_laySteps_j121 fu k83 a0 x1 M_120
    else
      fX11_laySteps_j131 fu k83 a0 x1 M
set_option maxRecDepth 100000 in
set_option maxHeartbeats 4000000 in
theorem wX11_laySteps_b83 {M' : Mm}   {k83 : Int32 → Mm → Option Mm} {a0 : Nat} {x1 : Int32} {M : Mm} (B : Bx p s m args c cX11_laySteps 2 RX11 E L) (hr : meth.sig.returnType = none) (hlk : meth.locks = false)  (ih83 : ∀ (x1 : Int32) (M : Mm), k83 x1 M = some M' → ∀ (H : Heap) (locs : List Loc) (ls : Array Slot), Rx s E L M H locs → lv_has ls 2 [(0, .ref a0), (1, .int x1)] → W p l e (rmD (d + 7)) s m args below meth c H locs 0 0 (MQ below (QcM E L none M') args s 0 0 E.2.2.2) (F0 m 83 ls [])) (h0 : At L a0 T11) (h : fX11_laySteps_b83 fu k83 a0 x1 M = some M') (hR : Rx s E L M H locs) (hl : lv_has ls 2 [(0, .ref a0), (1, .int x1)]) : W p l e (rmD (d + 7)) s m args below meth c H locs 0 0 (MQ below (QcM E L none M') args s 0 0 E.2.2.2) (F0 m 83 ls []) := by
  have hx := B.1
  have hb := B.2.1
  unfold fX11_laySteps_b83 at h
  refine lv_iload_n hx hb dX11_laySteps_83 rfl (lv_at hl 1 rfl) ?_
  refine lv_aload_n hx hb dX11_laySteps_84 rfl (lv_at hl 0 rfl) ?_
  refine gf_X11_350 B hR (h0.at0 rfl) dX11_laySteps_85 ?_
  refine lv_icmp_ge (tgt := 137) hx hb dX11_laySteps_88 (by decide) (fun c_88 => ?_) (fun c_88 => ?_)
  · rw [if_pos c_88] at h
    exact wX11_laySteps_j137 B hr hlk  h hR (lv_sub hl [] rfl)
  · rw [if_neg c_88] at h
    refine lv_aload_n hx hb dX11_laySteps_91 rfl (lv_at hl 0 rfl) ?_
    refine lv_iload_n hx hb dX11_laySteps_92 rfl (lv_at hl 1 rfl) ?_
    obtain ⟨r_93, hc_93, h⟩ := bi_el h
    refine iv_X11_438 B hR (h0.at0 rfl) hl.1 (mX11_isInRegisters fu _ h0 hc_93) (Nat.le_of_ble_eq_true rfl) dX11_laySteps_93 (fun H locs hR => ?_)
    refine lv_if_eq (tgt := 102) hx hb dX11_laySteps_96 (by decide) (fun c_96 => ?_) (fun c_96 => ?_)
    · rw [if_pos c_96] at h
      refine lv_aload_n hx hb dX11_laySteps_102 rfl (lv_at hl 0 rfl) ?_
      refine gf_X11_429 B hR (h0.at0 rfl) dX11_laySteps_103 ?_
      refine lv_bipush (v := 32) hx hb dX11_laySteps_106 (by decide) ?_
      refine lv_icmp_ge (tgt := 121) hx hb dX11_laySteps_108 (by decide) (fun c_108 => ?_) (fun c_108 => ?_)
      · rw [if_pos c_108] at h
        exact wX11_laySteps_j121 B hr hlk ih83 h0 h hR hl
      · rw [if_neg c_108] at h
        refine lv_aload_n hx hb dX11_laySteps_111 rfl (lv_at hl 0 rfl) ?_
        refine gf_X11_73 B hR (h0.at0 rfl) dX11_laySteps_112 ?_
        refine lv_aload_n hx hb dX11_laySteps_115 rfl (lv_at hl 0 rfl) ?_
        refine gf_X11_429 B hR (h0.at0 rfl) dX11_laySteps_116 ?_
        refine lv_iload_n hx hb dX11_laySteps_119 rfl (lv_at hl 1 rfl) ?_
        obtain ⟨hi_120, h⟩ := ifn_el h
        obtain ⟨M_120, eM_120, h⟩ := lt_el h
        refine r_iast B hR (h0.at 20 rfl) hi_120 dX11_laySteps_120 (fun H locs hR => ?_)
        rw [← eM_120] at hR
        exact wX11_laySteps_j121 B hr hlk ih83 h0 h hR hl
    · rw [if_neg c_96] at h
      refine lv_goto (tgt := 131) hx hb dX11_laySteps_99 (by decide) ?_
      exact wX11_laySteps_j131 B hr hlk ih83 h0 h hR hl
def fX11_laySteps_l83 (fu : Nat) (a0 : Nat) (x1 : Int32) (M : Mm) : Option Mm := lp (fun (rec : (Int32 × Mm) → Option Mm) (s : Int32 × Mm) => fX11_laySteps_b83 fu  (fun x1 M => rec (x1, M)) a0 s.1 s.2) fu (x1, M)
set_option maxRecDepth 100000 in
set_option maxHeartbeats 4000000 in
theorem wX11_laySteps_l83 {M' : Mm}   {a0 : Nat} {x1 : Int32} {M : Mm} (B : Bx p s m args c cX11_laySteps 2 RX11 E L) (hr : meth.sig.returnType = none) (hlk : meth.locks = false)  (h0 : At L a0 T11) (h : fX11_laySteps_l83 fu a0 x1 M = some M') (hR : Rx s E L M H locs) (hl : lv_has ls 2 [(0, .ref a0), (1, .int x1)]) : W p l e (rmD (d + 7)) s m args below meth c H locs 0 0 (MQ below (QcM E L none M') args s 0 0 E.2.2.2) (F0 m 83 ls []) := by
  refine lp_G (G := fun z : Int32 × Mm => ∀ (H : Heap) (locs : List Loc) (ls : Array Slot), Rx s E L z.2 H locs → lv_has ls 2 [(0, .ref a0), (1, .int z.1)] → W p l e (rmD (d + 7)) s m args below meth c H locs 0 0 (MQ below (QcM E L none M') args s 0 0 E.2.2.2) (F0 m 83 ls [])) (fun rec ih z h H locs ls hR hl => ?_) fu _ h H locs ls hR hl
  exact wX11_laySteps_b83 B hr hlk  (fun x1 M h => ih (x1, M) h) h0 h hR hl
def fX11_laySteps_j73 (fu : Nat) (a0 : Nat) (M : Mm) : Option Mm :=
  lt (wI M a0 40 (M.1 a0 39)) fun M_78 =>
  fX11_laySteps_l83 fu a0 0 M_78
set_option maxRecDepth 100000 in
set_option maxHeartbeats 4000000 in
theorem wX11_laySteps_j73 {M' : Mm}   {a0 : Nat} {M : Mm} (B : Bx p s m args c cX11_laySteps 2 RX11 E L) (hr : meth.sig.returnType = none) (hlk : meth.locks = false)  (h0 : At L a0 T11) (h : fX11_laySteps_j73 fu a0 M = some M') (hR : Rx s E L M H locs) (hl : lv_has ls 2 [(0, .ref a0)]) : W p l e (rmD (d + 7)) s m args below meth c H locs 0 0 (MQ below (QcM E L none M') args s 0 0 E.2.2.2) (F0 m 73 ls []) := by
  have hx := B.1
  have hb := B.2.1
  unfold fX11_laySteps_j73 at h
  refine lv_aload_n hx hb dX11_laySteps_73 rfl (lv_at hl 0 rfl) ?_
  refine lv_aload_n hx hb dX11_laySteps_74 rfl (lv_at hl 0 rfl) ?_
  refine gf_X11_429 B hR (h0.at0 rfl) dX11_laySteps_75 ?_
  obtain ⟨M_78, eM_78, h⟩ := lt_el h
  refine pf_X11_435 B hR (h0.at0 rfl) dX11_laySteps_78 (fun H locs hR => ?_)
  rw [← eM_78] at hR
  refine lv_iconst (v := 0) hx hb dX11_laySteps_81 (by decide) ?_
  refine lv_istore_n (lv' := [(1, .int 0), (0, .ref a0)]) hx hb dX11_laySteps_82 rfl hl (by decide) rfl (fun ls hl => ?_)
  exact wX11_laySteps_l83 B hr hlk h0 h hR (lv_sub hl [1, 0] rfl)
def fX11_laySteps_j67 (fu : Nat) (k11 : Int32 → Mm → Option Mm) (a0 : Nat) (x1 : Int32) (M : Mm) : Option Mm :=
  lt (x1 + 1) fun x1_67 =>
  k11 x1_67 M
set_option maxRecDepth 100000 in
set_option maxHeartbeats 4000000 in
theorem wX11_laySteps_j67 {M' : Mm}  {k11 : Int32 → Mm → Option Mm} {a0 : Nat} {x1 : Int32} {M : Mm} (B : Bx p s m args c cX11_laySteps 2 RX11 E L) (hr : meth.sig.returnType = none) (hlk : meth.locks = false) (ih11 : ∀ (x1 : Int32) (M : Mm), k11 x1 M = some M' → ∀ (H : Heap) (locs : List Loc) (ls : Array Slot), Rx s E L M H locs → lv_has ls 2 [(0, .ref a0), (1, .int x1)] → W p l e (rmD (d + 7)) s m args below meth c H locs 0 0 (MQ below (QcM E L none M') args s 0 0 E.2.2.2) (F0 m 11 ls [])) (h0 : At L a0 T11) (h : fX11_laySteps_j67 fu k11 a0 x1 M = some M') (hR : Rx s E L M H locs) (hl : lv_has ls 2 [(0, .ref a0), (1, .int x1)]) : W p l e (rmD (d + 7)) s m args below meth c H locs 0 0 (MQ below (QcM E L none M') args s 0 0 E.2.2.2) (F0 m 67 ls []) := by
  have hx := B.1
  have hb := B.2.1
  unfold fX11_laySteps_j67 at h
  obtain ⟨x1_67, ex1_67, h⟩ := lt_el h
  refine lv_iinc (v := x1_67) (lv' := [(1, .int x1_67), (0, .ref a0)]) hx hb dX11_laySteps_67 hl (k := 1) rfl (by rw [ex1_67]; rfl) (by decide) rfl (fun ls hl => ?_)
  refine lv_goto (tgt := 11) hx hb dX11_laySteps_70 (by decide) ?_
  exact ih11 x1_67 M h _ _ _ hR (lv_sub hl [1, 0] rfl)
def fX11_laySteps_j57 (fu : Nat) (k11 : Int32 → Mm → Option Mm) (a0 : Nat) (x1 : Int32) (M : Mm) : Option Mm :=
  lt (wI M a0 39 ((M.1 a0 39) + 1)) fun M_64 =>
  fX11_laySteps_j67 fu k11 a0 x1 M_64
set_option maxRecDepth 100000 in
set_option maxHeartbeats 4000000 in
theorem wX11_laySteps_j57 {M' : Mm}  {k11 : Int32 → Mm → Option Mm} {a0 : Nat} {x1 : Int32} {M : Mm} (B : Bx p s m args c cX11_laySteps 2 RX11 E L) (hr : meth.sig.returnType = none) (hlk : meth.locks = false) (ih11 : ∀ (x1 : Int32) (M : Mm), k11 x1 M = some M' → ∀ (H : Heap) (locs : List Loc) (ls : Array Slot), Rx s E L M H locs → lv_has ls 2 [(0, .ref a0), (1, .int x1)] → W p l e (rmD (d + 7)) s m args below meth c H locs 0 0 (MQ below (QcM E L none M') args s 0 0 E.2.2.2) (F0 m 11 ls [])) (h0 : At L a0 T11) (h : fX11_laySteps_j57 fu k11 a0 x1 M = some M') (hR : Rx s E L M H locs) (hl : lv_has ls 2 [(0, .ref a0), (1, .int x1)]) : W p l e (rmD (d + 7)) s m args below meth c H locs 0 0 (MQ below (QcM E L none M') args s 0 0 E.2.2.2) (F0 m 57 ls []) := by
  have hx := B.1
  have hb := B.2.1
  unfold fX11_laySteps_j57 at h
  refine lv_aload_n hx hb dX11_laySteps_57 rfl (lv_at hl 0 rfl) ?_
  refine lv_dup hx hb dX11_laySteps_58 rfl ?_
  refine gf_X11_429 B hR (h0.at0 rfl) dX11_laySteps_59 ?_
  refine lv_iconst (v := 1) hx hb dX11_laySteps_62 (by decide) ?_
  refine lv_iadd hx hb dX11_laySteps_63 ?_
  obtain ⟨M_64, eM_64, h⟩ := lt_el h
  refine pf_X11_429 B hR (h0.at0 rfl) dX11_laySteps_64 (fun H locs hR => ?_)
  rw [← eM_64] at hR
  exact wX11_laySteps_j67 B hr hlk ih11 h0 h hR hl
def fX11_laySteps_b11 (fu : Nat) (k11 : Int32 → Mm → Option Mm) (a0 : Nat) (x1 : Int32) (M : Mm) : Option Mm :=
  bi (fX11_registersNow fu a0 M) fun r_13 =>
  if r_13 ≤ x1 then
    fX11_laySteps_j73 fu a0 M
  else
    bi (fX11_sizeOf fu a0 x1 M) fun r_21 =>
    if r_21 = 0 then
      fX11_laySteps_j67 fu k11 a0 x1 M
    else
      bi (fX11_isInPlan fu a0 x1 M) fun r_29 =>
      if r_29 = 0 then
        if 32 ≤ (M.1 a0 39) then
          fX11_laySteps_j57 fu k11 a0 x1 M
        else
          if (M.1 a0 39) < 0 ∨ 32 ≤ ix (M.1 a0 39) then none else
          lt (wI M (a0 + 20) (ix (M.1 a0 39)) x1) fun M_56 =>
          fX11_laySteps_j57 fu k11 a0 x1 M_56
      else
        fX11_laySteps_j67 fu k11 a0 x1 M
set_option maxRecDepth 100000 in
set_option maxHeartbeats 4000000 in
theorem wX11_laySteps_b11 {M' : Mm}   {k11 : Int32 → Mm → Option Mm} {a0 : Nat} {x1 : Int32} {M : Mm} (B : Bx p s m args c cX11_laySteps 2 RX11 E L) (hr : meth.sig.returnType = none) (hlk : meth.locks = false)  (ih11 : ∀ (x1 : Int32) (M : Mm), k11 x1 M = some M' → ∀ (H : Heap) (locs : List Loc) (ls : Array Slot), Rx s E L M H locs → lv_has ls 2 [(0, .ref a0), (1, .int x1)] → W p l e (rmD (d + 7)) s m args below meth c H locs 0 0 (MQ below (QcM E L none M') args s 0 0 E.2.2.2) (F0 m 11 ls [])) (h0 : At L a0 T11) (h : fX11_laySteps_b11 fu k11 a0 x1 M = some M') (hR : Rx s E L M H locs) (hl : lv_has ls 2 [(0, .ref a0), (1, .int x1)]) : W p l e (rmD (d + 7)) s m args below meth c H locs 0 0 (MQ below (QcM E L none M') args s 0 0 E.2.2.2) (F0 m 11 ls []) := by
  have hx := B.1
  have hb := B.2.1
  unfold fX11_laySteps_b11 at h
  refine lv_iload_n hx hb dX11_laySteps_11 rfl (lv_at hl 1 rfl) ?_
  refine lv_aload_n hx hb dX11_laySteps_12 rfl (lv_at hl 0 rfl) ?_
  obtain ⟨r_13, hc_13, h⟩ := bi_el h
  refine iv_X11_243 B hR (h0.at0 rfl) hl.1 (mX11_registersNow fu _ h0 hc_13) (Nat.le_of_ble_eq_true rfl) dX11_laySteps_13 (fun H locs hR => ?_)
  refine lv_icmp_ge (tgt := 73) hx hb dX11_laySteps_16 (by decide) (fun c_16 => ?_) (fun c_16 => ?_)
  · rw [if_pos c_16] at h
    exact wX11_laySteps_j73 B hr hlk h0 h hR (lv_sub hl [0] rfl)
  · rw [if_neg c_16] at h
    refine lv_aload_n hx hb dX11_laySteps_19 rfl (lv_at hl 0 rfl) ?_
    refine lv_iload_n hx hb dX11_laySteps_20 rfl (lv_at hl 1 rfl) ?_
    obtain ⟨r_21, hc_21, h⟩ := bi_el h
    refine iv_X11_249 B hR (h0.at0 rfl) hl.1 (mX11_sizeOf fu _ h0 hc_21) (Nat.le_of_ble_eq_true rfl) dX11_laySteps_21 (fun H locs hR => ?_)
    refine lv_if_eq (tgt := 67) hx hb dX11_laySteps_24 (by decide) (fun c_24 => ?_) (fun c_24 => ?_)
    · rw [if_pos c_24] at h
      exact wX11_laySteps_j67 B hr hlk ih11 h0 h hR hl
    · rw [if_neg c_24] at h
      refine lv_aload_n hx hb dX11_laySteps_27 rfl (lv_at hl 0 rfl) ?_
      refine lv_iload_n hx hb dX11_laySteps_28 rfl (lv_at hl 1 rfl) ?_
      obtain ⟨r_29, hc_29, h⟩ := bi_el h
      refine iv_X11_432 B hR (h0.at0 rfl) hl.1 (mX11_isInPlan fu _ h0 hc_29) (Nat.le_of_ble_eq_true rfl) dX11_laySteps_29 (fun H locs hR => ?_)
      refine lv_if_eq (tgt := 38) hx hb dX11_laySteps_32 (by decide) (fun c_32 => ?_) (fun c_32 => ?_)
      · rw [if_pos c_32] at h
        refine lv_aload_n hx hb dX11_laySteps_38 rfl (lv_at hl 0 rfl) ?_
        refine gf_X11_429 B hR (h0.at0 rfl) dX11_laySteps_39 ?_
        refine lv_bipush (v := 32) hx hb dX11_laySteps_42 (by decide) ?_
        refine lv_icmp_ge (tgt := 57) hx hb dX11_laySteps_44 (by decide) (fun c_44 => ?_) (fun c_44 => ?_)
        · rw [if_pos c_44] at h
          exact wX11_laySteps_j57 B hr hlk ih11 h0 h hR hl
        · rw [if_neg c_44] at h
          refine lv_aload_n hx hb dX11_laySteps_47 rfl (lv_at hl 0 rfl) ?_
          refine gf_X11_73 B hR (h0.at0 rfl) dX11_laySteps_48 ?_
          refine lv_aload_n hx hb dX11_laySteps_51 rfl (lv_at hl 0 rfl) ?_
          refine gf_X11_429 B hR (h0.at0 rfl) dX11_laySteps_52 ?_
          refine lv_iload_n hx hb dX11_laySteps_55 rfl (lv_at hl 1 rfl) ?_
          obtain ⟨hi_56, h⟩ := ifn_el h
          obtain ⟨M_56, eM_56, h⟩ := lt_el h
          refine r_iast B hR (h0.at 20 rfl) hi_56 dX11_laySteps_56 (fun H locs hR => ?_)
          rw [← eM_56] at hR
          exact wX11_laySteps_j57 B hr hlk ih11 h0 h hR hl
      · rw [if_neg c_32] at h
        refine lv_goto (tgt := 67) hx hb dX11_laySteps_35 (by decide) ?_
        exact wX11_laySteps_j67 B hr hlk ih11 h0 h hR hl
def fX11_laySteps_l11 (fu : Nat) (a0 : Nat) (x1 : Int32) (M : Mm) : Option Mm := lp (fun (rec : (Int32 × Mm) → Option Mm) (s : Int32 × Mm) => fX11_laySteps_b11 fu  (fun x1 M => rec (x1, M)) a0 s.1 s.2) fu (x1, M)
set_option maxRecDepth 100000 in
set_option maxHeartbeats 4000000 in
theorem wX11_laySteps_l11 {M' : Mm}   {a0 : Nat} {x1 : Int32} {M : Mm} (B : Bx p s m args c cX11_laySteps 2 RX11 E L) (hr : meth.sig.returnType = none) (hlk : meth.locks = false)  (h0 : At L a0 T11) (h : fX11_laySteps_l11 fu a0 x1 M = some M') (hR : Rx s E L M H locs) (hl : lv_has ls 2 [(0, .ref a0), (1, .int x1)]) : W p l e (rmD (d + 7)) s m args below meth c H locs 0 0 (MQ below (QcM E L none M') args s 0 0 E.2.2.2) (F0 m 11 ls []) := by
  refine lp_G (G := fun z : Int32 × Mm => ∀ (H : Heap) (locs : List Loc) (ls : Array Slot), Rx s E L z.2 H locs → lv_has ls 2 [(0, .ref a0), (1, .int z.1)] → W p l e (rmD (d + 7)) s m args below meth c H locs 0 0 (MQ below (QcM E L none M') args s 0 0 E.2.2.2) (F0 m 11 ls [])) (fun rec ih z h H locs ls hR hl => ?_) fu _ h H locs ls hR hl
  exact wX11_laySteps_b11 B hr hlk  (fun x1 M h => ih (x1, M) h) h0 h hR hl
def fX11_laySteps (fu : Nat) (a0 : Nat) (M : Mm) : Option Mm :=
  bm (fX11_layPlan fu a0 M) fun M_1 =>
  lt (wI M_1 a0 39 0) fun M_6 =>
  fX11_laySteps_l11 fu a0 0 M_6
set_option maxRecDepth 100000 in
set_option maxHeartbeats 4000000 in
theorem mX11_laySteps {l : Launch} {E : Ge} {L : Lay} (fu d : Nat) {a0 : Nat} {M : Mm} {M' : Mm}  (h0 : At L a0 T11) (h : fX11_laySteps fu a0 M = some M') : Ct l E L yX11_laySteps cX11_laySteps 2 none (d + 7) [.ref a0] M none M' := by
  refine Ct.of (by decide) ?_
  intro p e s m below meth c hr hlk B hR
  have B : Bx p s m _ c cX11_laySteps 2 RX11 E L := B
  have hx := B.1
  have hb := B.2.1
  have hl := lv_entry ([.ref a0]) (n := 2) (Nat.le_of_ble_eq_true rfl)
  rw [lg_entry_eq]
  generalize (lg_sl ([.ref a0]) ++ List.replicate (2 - (lg_sl ([.ref a0])).length) Slot.unset).toArray = ls at hl ⊢
  have hl : lv_has ls 2 [(0, .ref a0)] := hl
  unfold fX11_laySteps at h
  refine lv_aload_n hx hb dX11_laySteps_0 rfl (lv_at hl 0 rfl) ?_
  obtain ⟨M_1, hc_1, h⟩ := bm_el h
  refine iv_X11_370 B hR (h0.at0 rfl) hl.1 (mX11_layPlan fu _ h0 hc_1) (Nat.le_of_ble_eq_true rfl) dX11_laySteps_1 (fun H locs hR => ?_)
  refine lv_aload_n hx hb dX11_laySteps_4 rfl (lv_at hl 0 rfl) ?_
  refine lv_iconst (v := 0) hx hb dX11_laySteps_5 (by decide) ?_
  obtain ⟨M_6, eM_6, h⟩ := lt_el h
  refine pf_X11_429 B hR (h0.at0 rfl) dX11_laySteps_6 (fun H locs hR => ?_)
  rw [← eM_6] at hR
  refine lv_iconst (v := 0) hx hb dX11_laySteps_9 (by decide) ?_
  refine lv_istore_n (lv' := [(1, .int 0), (0, .ref a0)]) hx hb dX11_laySteps_10 rfl hl (by decide) rfl (fun ls hl => ?_)
  exact wX11_laySteps_l11 B hr hlk h0 h hR (lv_sub hl [1, 0] rfl)
def fX11_layEdges_j117 (fu : Nat) (M : Mm) : Option Mm :=
  some M
set_option maxRecDepth 100000 in
set_option maxHeartbeats 4000000 in
theorem wX11_layEdges_j117 {M' : Mm}    {M : Mm} (B : Bx p s m args c cX11_layEdges 2 RX11 E L) (hr : meth.sig.returnType = none) (hlk : meth.locks = false)   (h : fX11_layEdges_j117 fu M = some M') (hR : Rx s E L M H locs) (hl : lv_has ls 2 []) : W p l e (rmD (d + 2)) s m args below meth c H locs 0 0 (MQ below (QcM E L none M') args s 0 0 E.2.2.2) (F0 m 117 ls []) := by
  have hx := B.1
  have hb := B.2.1
  unfold fX11_layEdges_j117 at h
  exact r_vretW B hR hr hlk h dX11_layEdges_117
def fX11_layEdges_b76 (fu : Nat) (k76 : Int32 → Mm → Option Mm) (a0 : Nat) (x1 : Int32) (M : Mm) : Option Mm :=
  if (M.1 a0 33) ≤ x1 then
    fX11_layEdges_j117 fu M
  else
    if x1 < 0 ∨ 2100 ≤ ix x1 then none else
    bm (fX11_addEdge fu a0 (M.1 (a0 + 14) (ix x1)) M) fun M_91 =>
    bm (fX11_addEdge fu a0 ((M_91.1 (a0 + 14) (ix x1)) + (M_91.1 (a0 + 15) (ix x1))) M_91) fun M_108 =>
    lt (x1 + 1) fun x1_111 =>
    k76 x1_111 M_108
set_option maxRecDepth 100000 in
set_option maxHeartbeats 4000000 in
theorem wX11_layEdges_b76 {M' : Mm}   {k76 : Int32 → Mm → Option Mm} {a0 : Nat} {x1 : Int32} {M : Mm} (B : Bx p s m args c cX11_layEdges 2 RX11 E L) (hr : meth.sig.returnType = none) (hlk : meth.locks = false)  (ih76 : ∀ (x1 : Int32) (M : Mm), k76 x1 M = some M' → ∀ (H : Heap) (locs : List Loc) (ls : Array Slot), Rx s E L M H locs → lv_has ls 2 [(0, .ref a0), (1, .int x1)] → W p l e (rmD (d + 2)) s m args below meth c H locs 0 0 (MQ below (QcM E L none M') args s 0 0 E.2.2.2) (F0 m 76 ls [])) (h0 : At L a0 T11) (h : fX11_layEdges_b76 fu k76 a0 x1 M = some M') (hR : Rx s E L M H locs) (hl : lv_has ls 2 [(0, .ref a0), (1, .int x1)]) : W p l e (rmD (d + 2)) s m args below meth c H locs 0 0 (MQ below (QcM E L none M') args s 0 0 E.2.2.2) (F0 m 76 ls []) := by
  have hx := B.1
  have hb := B.2.1
  unfold fX11_layEdges_b76 at h
  refine lv_iload_n hx hb dX11_layEdges_76 rfl (lv_at hl 1 rfl) ?_
  refine lv_aload_n hx hb dX11_layEdges_77 rfl (lv_at hl 0 rfl) ?_
  refine gf_X11_350 B hR (h0.at0 rfl) dX11_layEdges_78 ?_
  refine lv_icmp_ge (tgt := 117) hx hb dX11_layEdges_81 (by decide) (fun c_81 => ?_) (fun c_81 => ?_)
  · rw [if_pos c_81] at h
    exact wX11_layEdges_j117 B hr hlk  h hR (lv_sub hl [] rfl)
  · rw [if_neg c_81] at h
    refine lv_aload_n hx hb dX11_layEdges_84 rfl (lv_at hl 0 rfl) ?_
    refine lv_aload_n hx hb dX11_layEdges_85 rfl (lv_at hl 0 rfl) ?_
    refine gf_X11_54 B hR (h0.at0 rfl) dX11_layEdges_86 ?_
    refine lv_iload_n hx hb dX11_layEdges_89 rfl (lv_at hl 1 rfl) ?_
    obtain ⟨hi_90, h⟩ := ifn_el h
    refine r_iald B hR (h0.at 14 rfl) hi_90 dX11_layEdges_90 ?_
    obtain ⟨M_91, hc_91, h⟩ := bm_el h
    refine iv_X11_441 B hR (h0.at0 rfl) hl.1 (mX11_addEdge fu _ h0 hc_91) (Nat.le_of_ble_eq_true rfl) dX11_layEdges_91 (fun H locs hR => ?_)
    refine lv_aload_n hx hb dX11_layEdges_94 rfl (lv_at hl 0 rfl) ?_
    refine lv_aload_n hx hb dX11_layEdges_95 rfl (lv_at hl 0 rfl) ?_
    refine gf_X11_54 B hR (h0.at0 rfl) dX11_layEdges_96 ?_
    refine lv_iload_n hx hb dX11_layEdges_99 rfl (lv_at hl 1 rfl) ?_
    refine r_iald B hR (h0.at 14 rfl) hi_90 dX11_layEdges_100 ?_
    refine lv_aload_n hx hb dX11_layEdges_101 rfl (lv_at hl 0 rfl) ?_
    refine gf_X11_57 B hR (h0.at0 rfl) dX11_layEdges_102 ?_
    refine lv_iload_n hx hb dX11_layEdges_105 rfl (lv_at hl 1 rfl) ?_
    refine r_iald B hR (h0.at 15 rfl) hi_90 dX11_layEdges_106 ?_
    refine lv_iadd hx hb dX11_layEdges_107 ?_
    obtain ⟨M_108, hc_108, h⟩ := bm_el h
    refine iv_X11_441 B hR (h0.at0 rfl) hl.1 (mX11_addEdge fu _ h0 hc_108) (Nat.le_of_ble_eq_true rfl) dX11_layEdges_108 (fun H locs hR => ?_)
    obtain ⟨x1_111, ex1_111, h⟩ := lt_el h
    refine lv_iinc (v := x1_111) (lv' := [(1, .int x1_111), (0, .ref a0)]) hx hb dX11_layEdges_111 hl (k := 1) rfl (by rw [ex1_111]; rfl) (by decide) rfl (fun ls hl => ?_)
    refine lv_goto (tgt := 76) hx hb dX11_layEdges_114 (by decide) ?_
    exact ih76 x1_111 M_108 h _ _ _ hR (lv_sub hl [1, 0] rfl)
def fX11_layEdges_l76 (fu : Nat) (a0 : Nat) (x1 : Int32) (M : Mm) : Option Mm := lp (fun (rec : (Int32 × Mm) → Option Mm) (s : Int32 × Mm) => fX11_layEdges_b76 fu  (fun x1 M => rec (x1, M)) a0 s.1 s.2) fu (x1, M)
set_option maxRecDepth 100000 in
set_option maxHeartbeats 4000000 in
theorem wX11_layEdges_l76 {M' : Mm}   {a0 : Nat} {x1 : Int32} {M : Mm} (B : Bx p s m args c cX11_layEdges 2 RX11 E L) (hr : meth.sig.returnType = none) (hlk : meth.locks = false)  (h0 : At L a0 T11) (h : fX11_layEdges_l76 fu a0 x1 M = some M') (hR : Rx s E L M H locs) (hl : lv_has ls 2 [(0, .ref a0), (1, .int x1)]) : W p l e (rmD (d + 2)) s m args below meth c H locs 0 0 (MQ below (QcM E L none M') args s 0 0 E.2.2.2) (F0 m 76 ls []) := by
  refine lp_G (G := fun z : Int32 × Mm => ∀ (H : Heap) (locs : List Loc) (ls : Array Slot), Rx s E L z.2 H locs → lv_has ls 2 [(0, .ref a0), (1, .int z.1)] → W p l e (rmD (d + 2)) s m args below meth c H locs 0 0 (MQ below (QcM E L none M') args s 0 0 E.2.2.2) (F0 m 76 ls [])) (fun rec ih z h H locs ls hR hl => ?_) fu _ h H locs ls hR hl
  exact wX11_layEdges_b76 B hr hlk  (fun x1 M h => ih (x1, M) h) h0 h hR hl
def fX11_layEdges_j74 (fu : Nat) (a0 : Nat) (M : Mm) : Option Mm :=
  fX11_layEdges_l76 fu a0 0 M
set_option maxRecDepth 100000 in
set_option maxHeartbeats 4000000 in
theorem wX11_layEdges_j74 {M' : Mm}   {a0 : Nat} {M : Mm} (B : Bx p s m args c cX11_layEdges 2 RX11 E L) (hr : meth.sig.returnType = none) (hlk : meth.locks = false)  (h0 : At L a0 T11) (h : fX11_layEdges_j74 fu a0 M = some M') (hR : Rx s E L M H locs) (hl : lv_has ls 2 [(0, .ref a0)]) : W p l e (rmD (d + 2)) s m args below meth c H locs 0 0 (MQ below (QcM E L none M') args s 0 0 E.2.2.2) (F0 m 74 ls []) := by
  have hx := B.1
  have hb := B.2.1
  unfold fX11_layEdges_j74 at h
  refine lv_iconst (v := 0) hx hb dX11_layEdges_74 (by decide) ?_
  refine lv_istore_n (lv' := [(1, .int 0), (0, .ref a0)]) hx hb dX11_layEdges_75 rfl hl (by decide) rfl (fun ls hl => ?_)
  exact wX11_layEdges_l76 B hr hlk h0 h hR (lv_sub hl [1, 0] rfl)
def fX11_layEdges_j68 (fu : Nat) (k25 : Int32 → Mm → Option Mm) (a0 : Nat) (x1 : Int32) (M : Mm) : Option Mm :=
  lt (x1 + 1) fun x1_68 =>
  k25 x1_68 M
set_option maxRecDepth 100000 in
set_option maxHeartbeats 4000000 in
theorem wX11_layEdges_j68 {M' : Mm}  {k25 : Int32 → Mm → Option Mm} {a0 : Nat} {x1 : Int32} {M : Mm} (B : Bx p s m args c cX11_layEdges 2 RX11 E L) (hr : meth.sig.returnType = none) (hlk : meth.locks = false) (ih25 : ∀ (x1 : Int32) (M : Mm), k25 x1 M = some M' → ∀ (H : Heap) (locs : List Loc) (ls : Array Slot), Rx s E L M H locs → lv_has ls 2 [(0, .ref a0), (1, .int x1)] → W p l e (rmD (d + 2)) s m args below meth c H locs 0 0 (MQ below (QcM E L none M') args s 0 0 E.2.2.2) (F0 m 25 ls [])) (h0 : At L a0 T11) (h : fX11_layEdges_j68 fu k25 a0 x1 M = some M') (hR : Rx s E L M H locs) (hl : lv_has ls 2 [(0, .ref a0), (1, .int x1)]) : W p l e (rmD (d + 2)) s m args below meth c H locs 0 0 (MQ below (QcM E L none M') args s 0 0 E.2.2.2) (F0 m 68 ls []) := by
  have hx := B.1
  have hb := B.2.1
  unfold fX11_layEdges_j68 at h
  obtain ⟨x1_68, ex1_68, h⟩ := lt_el h
  refine lv_iinc (v := x1_68) (lv' := [(1, .int x1_68), (0, .ref a0)]) hx hb dX11_layEdges_68 hl (k := 1) rfl (by rw [ex1_68]; rfl) (by decide) rfl (fun ls hl => ?_)
  refine lv_goto (tgt := 25) hx hb dX11_layEdges_71 (by decide) ?_
  exact ih25 x1_68 M h _ _ _ hR (lv_sub hl [1, 0] rfl)
def fX11_layEdges_b25 (fu : Nat) (k25 : Int32 → Mm → Option Mm) (a0 : Nat) (x1 : Int32) (M : Mm) : Option Mm :=
  bi (fX11_registersNow fu a0 M) fun r_27 =>
  if r_27 ≤ x1 then
    fX11_layEdges_j74 fu a0 M
  else
    bi (fX11_sizeOf fu a0 x1 M) fun r_35 =>
    if r_35 = 0 then
      fX11_layEdges_j68 fu k25 a0 x1 M
    else
      bi (fX11_baseOf fu a0 x1 M) fun r_47 =>
      bm (fX11_addEdge fu a0 r_47 M) fun M_50 =>
      bi (fX11_baseOf fu a0 x1 M_50) fun r_56 =>
      bi (fX11_sizeOf fu a0 x1 M_50) fun r_61 =>
      bm (fX11_addEdge fu a0 (r_56 + r_61) M_50) fun M_65 =>
      fX11_layEdges_j68 fu k25 a0 x1 M_65
set_option maxRecDepth 100000 in
set_option maxHeartbeats 4000000 in
theorem wX11_layEdges_b25 {M' : Mm}   {k25 : Int32 → Mm → Option Mm} {a0 : Nat} {x1 : Int32} {M : Mm} (B : Bx p s m args c cX11_layEdges 2 RX11 E L) (hr : meth.sig.returnType = none) (hlk : meth.locks = false)  (ih25 : ∀ (x1 : Int32) (M : Mm), k25 x1 M = some M' → ∀ (H : Heap) (locs : List Loc) (ls : Array Slot), Rx s E L M H locs → lv_has ls 2 [(0, .ref a0), (1, .int x1)] → W p l e (rmD (d + 2)) s m args below meth c H locs 0 0 (MQ below (QcM E L none M') args s 0 0 E.2.2.2) (F0 m 25 ls [])) (h0 : At L a0 T11) (h : fX11_layEdges_b25 fu k25 a0 x1 M = some M') (hR : Rx s E L M H locs) (hl : lv_has ls 2 [(0, .ref a0), (1, .int x1)]) : W p l e (rmD (d + 2)) s m args below meth c H locs 0 0 (MQ below (QcM E L none M') args s 0 0 E.2.2.2) (F0 m 25 ls []) := by
  have hx := B.1
  have hb := B.2.1
  unfold fX11_layEdges_b25 at h
  refine lv_iload_n hx hb dX11_layEdges_25 rfl (lv_at hl 1 rfl) ?_
  refine lv_aload_n hx hb dX11_layEdges_26 rfl (lv_at hl 0 rfl) ?_
  obtain ⟨r_27, hc_27, h⟩ := bi_el h
  refine iv_X11_243 B hR (h0.at0 rfl) hl.1 (mX11_registersNow fu _ h0 hc_27) (Nat.le_of_ble_eq_true rfl) dX11_layEdges_27 (fun H locs hR => ?_)
  refine lv_icmp_ge (tgt := 74) hx hb dX11_layEdges_30 (by decide) (fun c_30 => ?_) (fun c_30 => ?_)
  · rw [if_pos c_30] at h
    exact wX11_layEdges_j74 B hr hlk h0 h hR (lv_sub hl [0] rfl)
  · rw [if_neg c_30] at h
    refine lv_aload_n hx hb dX11_layEdges_33 rfl (lv_at hl 0 rfl) ?_
    refine lv_iload_n hx hb dX11_layEdges_34 rfl (lv_at hl 1 rfl) ?_
    obtain ⟨r_35, hc_35, h⟩ := bi_el h
    refine iv_X11_249 B hR (h0.at0 rfl) hl.1 (mX11_sizeOf fu _ h0 hc_35) (Nat.le_of_ble_eq_true rfl) dX11_layEdges_35 (fun H locs hR => ?_)
    refine lv_if_ne (tgt := 44) hx hb dX11_layEdges_38 (by decide) (fun c_38 => ?_) (fun c_38 => ?_)
    · rw [if_neg c_38] at h
      refine lv_aload_n hx hb dX11_layEdges_44 rfl (lv_at hl 0 rfl) ?_
      refine lv_aload_n hx hb dX11_layEdges_45 rfl (lv_at hl 0 rfl) ?_
      refine lv_iload_n hx hb dX11_layEdges_46 rfl (lv_at hl 1 rfl) ?_
      obtain ⟨r_47, hc_47, h⟩ := bi_el h
      refine iv_X11_252 B hR (h0.at0 rfl) hl.1 (mX11_baseOf fu _ h0 hc_47) (Nat.le_of_ble_eq_true rfl) dX11_layEdges_47 (fun H locs hR => ?_)
      obtain ⟨M_50, hc_50, h⟩ := bm_el h
      refine iv_X11_441 B hR (h0.at0 rfl) hl.1 (mX11_addEdge fu _ h0 hc_50) (Nat.le_of_ble_eq_true rfl) dX11_layEdges_50 (fun H locs hR => ?_)
      refine lv_aload_n hx hb dX11_layEdges_53 rfl (lv_at hl 0 rfl) ?_
      refine lv_aload_n hx hb dX11_layEdges_54 rfl (lv_at hl 0 rfl) ?_
      refine lv_iload_n hx hb dX11_layEdges_55 rfl (lv_at hl 1 rfl) ?_
      obtain ⟨r_56, hc_56, h⟩ := bi_el h
      refine iv_X11_252 B hR (h0.at0 rfl) hl.1 (mX11_baseOf fu _ h0 hc_56) (Nat.le_of_ble_eq_true rfl) dX11_layEdges_56 (fun H locs hR => ?_)
      refine lv_aload_n hx hb dX11_layEdges_59 rfl (lv_at hl 0 rfl) ?_
      refine lv_iload_n hx hb dX11_layEdges_60 rfl (lv_at hl 1 rfl) ?_
      obtain ⟨r_61, hc_61, h⟩ := bi_el h
      refine iv_X11_249 B hR (h0.at0 rfl) hl.1 (mX11_sizeOf fu _ h0 hc_61) (Nat.le_of_ble_eq_true rfl) dX11_layEdges_61 (fun H locs hR => ?_)
      refine lv_iadd hx hb dX11_layEdges_64 ?_
      obtain ⟨M_65, hc_65, h⟩ := bm_el h
      refine iv_X11_441 B hR (h0.at0 rfl) hl.1 (mX11_addEdge fu _ h0 hc_65) (Nat.le_of_ble_eq_true rfl) dX11_layEdges_65 (fun H locs hR => ?_)
      exact wX11_layEdges_j68 B hr hlk ih25 h0 h hR hl
    · rw [if_pos c_38] at h
      refine lv_goto (tgt := 68) hx hb dX11_layEdges_41 (by decide) ?_
      exact wX11_layEdges_j68 B hr hlk ih25 h0 h hR hl
def fX11_layEdges_l25 (fu : Nat) (a0 : Nat) (x1 : Int32) (M : Mm) : Option Mm := lp (fun (rec : (Int32 × Mm) → Option Mm) (s : Int32 × Mm) => fX11_layEdges_b25 fu  (fun x1 M => rec (x1, M)) a0 s.1 s.2) fu (x1, M)
set_option maxRecDepth 100000 in
set_option maxHeartbeats 4000000 in
theorem wX11_layEdges_l25 {M' : Mm}   {a0 : Nat} {x1 : Int32} {M : Mm} (B : Bx p s m args c cX11_layEdges 2 RX11 E L) (hr : meth.sig.returnType = none) (hlk : meth.locks = false)  (h0 : At L a0 T11) (h : fX11_layEdges_l25 fu a0 x1 M = some M') (hR : Rx s E L M H locs) (hl : lv_has ls 2 [(0, .ref a0), (1, .int x1)]) : W p l e (rmD (d + 2)) s m args below meth c H locs 0 0 (MQ below (QcM E L none M') args s 0 0 E.2.2.2) (F0 m 25 ls []) := by
  refine lp_G (G := fun z : Int32 × Mm => ∀ (H : Heap) (locs : List Loc) (ls : Array Slot), Rx s E L z.2 H locs → lv_has ls 2 [(0, .ref a0), (1, .int z.1)] → W p l e (rmD (d + 2)) s m args below meth c H locs 0 0 (MQ below (QcM E L none M') args s 0 0 E.2.2.2) (F0 m 25 ls [])) (fun rec ih z h H locs ls hR hl => ?_) fu _ h H locs ls hR hl
  exact wX11_layEdges_b25 B hr hlk  (fun x1 M h => ih (x1, M) h) h0 h hR hl
def fX11_layEdges (fu : Nat) (a0 : Nat) (M : Mm) : Option Mm :=
  lt (wI M a0 41 0) fun M_2 =>
  bm (fX11_addEdge fu a0 0 M_2) fun M_7 =>
  if (M_7.1 a0 5) < 0 ∨ 2 ≤ ix (M_7.1 a0 5) then none else
  bm (fX11_addEdge fu a0 (M_7.1 (a0 + 4) (ix (M_7.1 a0 5))) M_7) fun M_20 =>
  fX11_layEdges_l25 fu a0 0 M_20
set_option maxRecDepth 100000 in
set_option maxHeartbeats 4000000 in
theorem mX11_layEdges {l : Launch} {E : Ge} {L : Lay} (fu d : Nat) {a0 : Nat} {M : Mm} {M' : Mm}  (h0 : At L a0 T11) (h : fX11_layEdges fu a0 M = some M') : Ct l E L yX11_layEdges cX11_layEdges 2 none (d + 2) [.ref a0] M none M' := by
  refine Ct.of (by decide) ?_
  intro p e s m below meth c hr hlk B hR
  have B : Bx p s m _ c cX11_layEdges 2 RX11 E L := B
  have hx := B.1
  have hb := B.2.1
  have hl := lv_entry ([.ref a0]) (n := 2) (Nat.le_of_ble_eq_true rfl)
  rw [lg_entry_eq]
  generalize (lg_sl ([.ref a0]) ++ List.replicate (2 - (lg_sl ([.ref a0])).length) Slot.unset).toArray = ls at hl ⊢
  have hl : lv_has ls 2 [(0, .ref a0)] := hl
  unfold fX11_layEdges at h
  refine lv_aload_n hx hb dX11_layEdges_0 rfl (lv_at hl 0 rfl) ?_
  refine lv_iconst (v := 0) hx hb dX11_layEdges_1 (by decide) ?_
  obtain ⟨M_2, eM_2, h⟩ := lt_el h
  refine pf_X11_426 B hR (h0.at0 rfl) dX11_layEdges_2 (fun H locs hR => ?_)
  rw [← eM_2] at hR
  refine lv_aload_n hx hb dX11_layEdges_5 rfl (lv_at hl 0 rfl) ?_
  refine lv_iconst (v := 0) hx hb dX11_layEdges_6 (by decide) ?_
  obtain ⟨M_7, hc_7, h⟩ := bm_el h
  refine iv_X11_441 B hR (h0.at0 rfl) hl.1 (mX11_addEdge fu _ h0 hc_7) (Nat.le_of_ble_eq_true rfl) dX11_layEdges_7 (fun H locs hR => ?_)
  refine lv_aload_n hx hb dX11_layEdges_10 rfl (lv_at hl 0 rfl) ?_
  refine lv_aload_n hx hb dX11_layEdges_11 rfl (lv_at hl 0 rfl) ?_
  refine gf_X11_19 B hR (h0.at0 rfl) dX11_layEdges_12 ?_
  refine lv_aload_n hx hb dX11_layEdges_15 rfl (lv_at hl 0 rfl) ?_
  refine gf_X11_225 B hR (h0.at0 rfl) dX11_layEdges_16 ?_
  obtain ⟨hi_19, h⟩ := ifn_el h
  refine r_iald B hR (h0.at 4 rfl) hi_19 dX11_layEdges_19 ?_
  obtain ⟨M_20, hc_20, h⟩ := bm_el h
  refine iv_X11_441 B hR (h0.at0 rfl) hl.1 (mX11_addEdge fu _ h0 hc_20) (Nat.le_of_ble_eq_true rfl) dX11_layEdges_20 (fun H locs hR => ?_)
  refine lv_iconst (v := 0) hx hb dX11_layEdges_23 (by decide) ?_
  refine lv_istore_n (lv' := [(1, .int 0), (0, .ref a0)]) hx hb dX11_layEdges_24 rfl hl (by decide) rfl (fun ls hl => ?_)
  exact wX11_layEdges_l25 B hr hlk h0 h hR (lv_sub hl [1, 0] rfl)
def fX11_isGone_j41 (fu : Nat) (M : Mm) : Option Int32 :=
  some 0
set_option maxRecDepth 100000 in
set_option maxHeartbeats 4000000 in
theorem wX11_isGone_j41 {r : Int32}    {M : Mm} (B : Bx p s m args c cX11_isGone 4 RX11 E L) (hr : meth.sig.returnType = (some .boolean)) (hlk : meth.locks = false)   (h : fX11_isGone_j41 fu M = some r) (hR : Rx s E L M H locs) (hl : lv_has ls 4 []) : W p l e (rmD (d + 0)) s m args below meth c H locs 0 0 (MQ below (QcM E L (some (.int r)) M) args s 0 0 E.2.2.2) (F0 m 41 ls []) := by
  have hx := B.1
  have hb := B.2.1
  unfold fX11_isGone_j41 at h
  refine lv_iconst (v := 0) hx hb dX11_isGone_41 (by decide) ?_
  exact r_zretP B hR hr hlk (Or.inl rfl) h dX11_isGone_42
def fX11_isGone_j34 (fu : Nat) (t0 : Int32) (M : Mm) : Option Int32 :=
  gd (t0 = 0 ∨ t0 = 1) <|
  some t0
set_option maxRecDepth 100000 in
set_option maxHeartbeats 4000000 in
theorem wX11_isGone_j34 {r : Int32}   {t0 : Int32} {M : Mm} (B : Bx p s m args c cX11_isGone 4 RX11 E L) (hr : meth.sig.returnType = (some .boolean)) (hlk : meth.locks = false)   (h : fX11_isGone_j34 fu t0 M = some r) (hR : Rx s E L M H locs) (hl : lv_has ls 4 []) : W p l e (rmD (d + 0)) s m args below meth c H locs 0 0 (MQ below (QcM E L (some (.int r)) M) args s 0 0 E.2.2.2) (F0 m 34 ls [.int t0]) := by
  have hx := B.1
  have hb := B.2.1
  unfold fX11_isGone_j34 at h
  obtain ⟨hz_34, h⟩ := gd_el h
  exact r_zretP B hR hr hlk hz_34 h dX11_isGone_34
def fX11_isGone_j20 (fu : Nat) (x2 : Int32) (x3 : Int32) (M : Mm) : Option Int32 :=
  if ((x2 >>> (x3 &&& 31)) &&& 1) = 1 then
    fX11_isGone_j34 fu 1 M
  else
    fX11_isGone_j34 fu 0 M
set_option maxRecDepth 100000 in
set_option maxHeartbeats 4000000 in
theorem wX11_isGone_j20 {r : Int32}   {x2 : Int32} {x3 : Int32} {M : Mm} (B : Bx p s m args c cX11_isGone 4 RX11 E L) (hr : meth.sig.returnType = (some .boolean)) (hlk : meth.locks = false)   (h : fX11_isGone_j20 fu x2 x3 M = some r) (hR : Rx s E L M H locs) (hl : lv_has ls 4 [(2, .int x2), (3, .int x3)]) : W p l e (rmD (d + 0)) s m args below meth c H locs 0 0 (MQ below (QcM E L (some (.int r)) M) args s 0 0 E.2.2.2) (F0 m 20 ls []) := by
  have hx := B.1
  have hb := B.2.1
  unfold fX11_isGone_j20 at h
  refine lv_iload_n hx hb dX11_isGone_20 rfl (lv_at hl 0 rfl) ?_
  refine lv_iload_n hx hb dX11_isGone_21 rfl (lv_at hl 1 rfl) ?_
  refine lv_ishr hx hb dX11_isGone_22 ?_
  refine lv_iconst (v := 1) hx hb dX11_isGone_23 (by decide) ?_
  refine lv_iand hx hb dX11_isGone_24 ?_
  refine lv_iconst (v := 1) hx hb dX11_isGone_25 (by decide) ?_
  refine lv_icmp_ne (tgt := 33) hx hb dX11_isGone_26 (by decide) (fun c_26 => ?_) (fun c_26 => ?_)
  · rw [if_neg c_26] at h
    refine lv_iconst (v := 0) hx hb dX11_isGone_33 (by decide) ?_
    exact wX11_isGone_j34 B hr hlk  h hR (lv_sub hl [] rfl)
  · rw [if_pos c_26] at h
    refine lv_iconst (v := 1) hx hb dX11_isGone_29 (by decide) ?_
    refine lv_goto (tgt := 34) hx hb dX11_isGone_30 (by decide) ?_
    exact wX11_isGone_j34 B hr hlk  h hR (lv_sub hl [] rfl)
def fX11_isGone_b2 (fu : Nat) (k2 : Int32 → Option Int32) (a0 : Nat) (x1 : Int32) (x2 : Int32) (x3 : Int32) (M : Mm) : Option Int32 :=
  if (M.1 a0 40) ≤ x3 then
    fX11_isGone_j41 fu M
  else
    if x3 < 0 ∨ 32 ≤ ix x3 then none else
    if (M.1 (a0 + 20) (ix x3)) = x1 then
      fX11_isGone_j20 fu x2 x3 M
    else
      lt (x3 + 1) fun x3_35 =>
      k2 x3_35
set_option maxRecDepth 100000 in
set_option maxHeartbeats 4000000 in
theorem wX11_isGone_b2 {r : Int32}   {k2 : Int32 → Option Int32} {a0 : Nat} {x1 : Int32} {x2 : Int32} {x3 : Int32} {M : Mm} (B : Bx p s m args c cX11_isGone 4 RX11 E L) (hr : meth.sig.returnType = (some .boolean)) (hlk : meth.locks = false)  (ih2 : ∀ (x3 : Int32), k2 x3 = some r → ∀ (H : Heap) (locs : List Loc) (ls : Array Slot), Rx s E L M H locs → lv_has ls 4 [(0, .ref a0), (1, .int x1), (2, .int x2), (3, .int x3)] → W p l e (rmD (d + 0)) s m args below meth c H locs 0 0 (MQ below (QcM E L (some (.int r)) M) args s 0 0 E.2.2.2) (F0 m 2 ls [])) (h0 : At L a0 T11) (h : fX11_isGone_b2 fu k2 a0 x1 x2 x3 M = some r) (hR : Rx s E L M H locs) (hl : lv_has ls 4 [(0, .ref a0), (1, .int x1), (2, .int x2), (3, .int x3)]) : W p l e (rmD (d + 0)) s m args below meth c H locs 0 0 (MQ below (QcM E L (some (.int r)) M) args s 0 0 E.2.2.2) (F0 m 2 ls []) := by
  have hx := B.1
  have hb := B.2.1
  unfold fX11_isGone_b2 at h
  refine lv_iload_n hx hb dX11_isGone_2 rfl (lv_at hl 3 rfl) ?_
  refine lv_aload_n hx hb dX11_isGone_3 rfl (lv_at hl 0 rfl) ?_
  refine gf_X11_435 B hR (h0.at0 rfl) dX11_isGone_4 ?_
  refine lv_icmp_ge (tgt := 41) hx hb dX11_isGone_7 (by decide) (fun c_7 => ?_) (fun c_7 => ?_)
  · rw [if_pos c_7] at h
    exact wX11_isGone_j41 B hr hlk  h hR (lv_sub hl [] rfl)
  · rw [if_neg c_7] at h
    refine lv_aload_n hx hb dX11_isGone_10 rfl (lv_at hl 0 rfl) ?_
    refine gf_X11_73 B hR (h0.at0 rfl) dX11_isGone_11 ?_
    refine lv_iload_n hx hb dX11_isGone_14 rfl (lv_at hl 3 rfl) ?_
    obtain ⟨hi_15, h⟩ := ifn_el h
    refine r_iald B hR (h0.at 20 rfl) hi_15 dX11_isGone_15 ?_
    refine lv_iload_n hx hb dX11_isGone_16 rfl (lv_at hl 1 rfl) ?_
    refine lv_icmp_ne (tgt := 35) hx hb dX11_isGone_17 (by decide) (fun c_17 => ?_) (fun c_17 => ?_)
    · rw [if_neg c_17] at h
      obtain ⟨x3_35, ex3_35, h⟩ := lt_el h
      refine lv_iinc (v := x3_35) (lv' := [(3, .int x3_35), (0, .ref a0), (1, .int x1), (2, .int x2)]) hx hb dX11_isGone_35 hl (k := 3) rfl (by rw [ex3_35]; rfl) (by decide) rfl (fun ls hl => ?_)
      refine lv_goto (tgt := 2) hx hb dX11_isGone_38 (by decide) ?_
      exact ih2 x3_35 h _ _ _ hR (lv_sub hl [1, 2, 3, 0] rfl)
    · rw [if_pos c_17] at h
      exact wX11_isGone_j20 B hr hlk  h hR (lv_sub hl [2, 3] rfl)
def fX11_isGone_l2 (fu : Nat) (a0 : Nat) (x1 : Int32) (x2 : Int32) (M : Mm) (x3 : Int32) : Option Int32 := lp (fun (rec : Int32 → Option Int32) (s : Int32) => fX11_isGone_b2 fu  (fun x3 => rec (x3)) a0 x1 x2 s M) fu (x3)
set_option maxRecDepth 100000 in
set_option maxHeartbeats 4000000 in
theorem wX11_isGone_l2 {r : Int32}   {a0 : Nat} {x1 : Int32} {x2 : Int32} {x3 : Int32} {M : Mm} (B : Bx p s m args c cX11_isGone 4 RX11 E L) (hr : meth.sig.returnType = (some .boolean)) (hlk : meth.locks = false)  (h0 : At L a0 T11) (h : fX11_isGone_l2 fu a0 x1 x2 M x3 = some r) (hR : Rx s E L M H locs) (hl : lv_has ls 4 [(0, .ref a0), (1, .int x1), (2, .int x2), (3, .int x3)]) : W p l e (rmD (d + 0)) s m args below meth c H locs 0 0 (MQ below (QcM E L (some (.int r)) M) args s 0 0 E.2.2.2) (F0 m 2 ls []) := by
  refine lp_G (G := fun z : Int32 => ∀ (H : Heap) (locs : List Loc) (ls : Array Slot), Rx s E L M H locs → lv_has ls 4 [(0, .ref a0), (1, .int x1), (2, .int x2), (3, .int z)] → W p l e (rmD (d + 0)) s m args below meth c H locs 0 0 (MQ below (QcM E L (some (.int r)) M) args s 0 0 E.2.2.2) (F0 m 2 ls [])) (fun rec ih z h H locs ls hR hl => ?_) fu _ h H locs ls hR hl
  exact wX11_isGone_b2 B hr hlk  (fun x3 h => ih (x3) h) h0 h hR hl
def fX11_isGone (fu : Nat) (a0 : Nat) (x1 : Int32) (x2 : Int32) (M : Mm) : Option Int32 :=
  fX11_isGone_l2 fu a0 x1 x2 M 0
set_option maxRecDepth 100000 in
set_option maxHeartbeats 4000000 in
theorem mX11_isGone {l : Launch} {E : Ge} {L : Lay} (fu d : Nat) {a0 : Nat} {x1 : Int32} {x2 : Int32} {M : Mm} {r : Int32}  (h0 : At L a0 T11) (h : fX11_isGone fu a0 x1 x2 M = some r) : Ct l E L yX11_isGone cX11_isGone 4 (some .boolean) (d + 0) [.ref a0, .int x1, .int x2] M (some (.int r)) M := by
  refine Ct.of (by decide) ?_
  intro p e s m below meth c hr hlk B hR
  have B : Bx p s m _ c cX11_isGone 4 RX11 E L := B
  have hx := B.1
  have hb := B.2.1
  have hl := lv_entry ([.ref a0, .int x1, .int x2]) (n := 4) (Nat.le_of_ble_eq_true rfl)
  rw [lg_entry_eq]
  generalize (lg_sl ([.ref a0, .int x1, .int x2]) ++ List.replicate (4 - (lg_sl ([.ref a0, .int x1, .int x2])).length) Slot.unset).toArray = ls at hl ⊢
  have hl : lv_has ls 4 [(0, .ref a0), (1, .int x1), (2, .int x2)] := hl
  unfold fX11_isGone at h
  refine lv_iconst (v := 0) hx hb dX11_isGone_0 (by decide) ?_
  refine lv_istore_n (lv' := [(3, .int 0), (0, .ref a0), (1, .int x1), (2, .int x2)]) hx hb dX11_isGone_1 rfl hl (by decide) rfl (fun ls hl => ?_)
  exact wX11_isGone_l2 B hr hlk h0 h hR (lv_sub hl [1, 2, 3, 0] rfl)
def fX11_kindBehind_j145 (fu : Nat) (a0 : Nat) (x3 : Int32) (M : Mm) : Option Int32 :=
  bi (fX11_together fu a0 x3 M) fun r_147 =>
  some r_147
set_option maxRecDepth 100000 in
set_option maxHeartbeats 4000000 in
theorem wX11_kindBehind_j145 {r : Int32}   {a0 : Nat} {x3 : Int32} {M : Mm} (B : Bx p s m args c cX11_kindBehind 5 RX11 E L) (hr : meth.sig.returnType = (some .int)) (hlk : meth.locks = false)  (h0 : At L a0 T11) (h : fX11_kindBehind_j145 fu a0 x3 M = some r) (hR : Rx s E L M H locs) (hl : lv_has ls 5 [(0, .ref a0), (3, .int x3)]) : W p l e (rmD (d + 2)) s m args below meth c H locs 0 0 (MQ below (QcM E L (some (.int r)) M) args s 0 0 E.2.2.2) (F0 m 145 ls []) := by
  have hx := B.1
  have hb := B.2.1
  unfold fX11_kindBehind_j145 at h
  refine lv_aload_n hx hb dX11_kindBehind_145 rfl (lv_at hl 0 rfl) ?_
  refine lv_iload_n hx hb dX11_kindBehind_146 rfl (lv_at hl 1 rfl) ?_
  obtain ⟨r_147, hc_147, h⟩ := bi_el h
  refine iv_X11_261 B hR (h0.at0 rfl) hl.1 (mX11_together fu _ h0 hc_147) (Nat.le_of_ble_eq_true rfl) dX11_kindBehind_147 (fun H locs hR => ?_)
  exact r_iretP B hR hr hlk h dX11_kindBehind_150
def fX11_kindBehind_j139 (fu : Nat) (k57 : Int32 → Int32 → Option Int32) (a0 : Nat) (x1 : Int32) (x2 : Int32) (x3 : Int32) (x4 : Int32) (M : Mm) : Option Int32 :=
  lt (x4 + 1) fun x4_139 =>
  k57 x3 x4_139
set_option maxRecDepth 100000 in
set_option maxHeartbeats 4000000 in
theorem wX11_kindBehind_j139 {r : Int32}  {k57 : Int32 → Int32 → Option Int32} {a0 : Nat} {x1 : Int32} {x2 : Int32} {x3 : Int32} {x4 : Int32} {M : Mm} (B : Bx p s m args c cX11_kindBehind 5 RX11 E L) (hr : meth.sig.returnType = (some .int)) (hlk : meth.locks = false) (ih57 : ∀ (x3 : Int32) (x4 : Int32), k57 x3 x4 = some r → ∀ (H : Heap) (locs : List Loc) (ls : Array Slot), Rx s E L M H locs → lv_has ls 5 [(0, .ref a0), (1, .int x1), (2, .int x2), (3, .int x3), (4, .int x4)] → W p l e (rmD (d + 2)) s m args below meth c H locs 0 0 (MQ below (QcM E L (some (.int r)) M) args s 0 0 E.2.2.2) (F0 m 57 ls [])) (h0 : At L a0 T11) (h : fX11_kindBehind_j139 fu k57 a0 x1 x2 x3 x4 M = some r) (hR : Rx s E L M H locs) (hl : lv_has ls 5 [(0, .ref a0), (1, .int x1), (2, .int x2), (3, .int x3), (4, .int x4)]) : W p l e (rmD (d + 2)) s m args below meth c H locs 0 0 (MQ below (QcM E L (some (.int r)) M) args s 0 0 E.2.2.2) (F0 m 139 ls []) := by
  have hx := B.1
  have hb := B.2.1
  unfold fX11_kindBehind_j139 at h
  obtain ⟨x4_139, ex4_139, h⟩ := lt_el h
  refine lv_iinc (v := x4_139) (lv' := [(4, .int x4_139), (0, .ref a0), (1, .int x1), (2, .int x2), (3, .int x3)]) hx hb dX11_kindBehind_139 hl (k := 4) rfl (by rw [ex4_139]; rfl) (by decide) rfl (fun ls hl => ?_)
  refine lv_goto (tgt := 57) hx hb dX11_kindBehind_142 (by decide) ?_
  exact ih57 x3 x4_139 h _ _ _ hR (lv_sub hl [1, 2, 3, 4, 0] rfl)
def fX11_kindBehind_b57 (fu : Nat) (k57 : Int32 → Int32 → Option Int32) (a0 : Nat) (x1 : Int32) (x2 : Int32) (x3 : Int32) (x4 : Int32) (M : Mm) : Option Int32 :=
  if (M.1 a0 39) ≤ x4 then
    fX11_kindBehind_j145 fu a0 x3 M
  else
    if ((x2 >>> (x4 &&& 31)) &&& 1) = 1 then
      if x4 < 0 ∨ 32 ≤ ix x4 then none else
      if (M.1 (a0 + 20) (ix x4)) < 0 ∨ 2100 ≤ ix (M.1 (a0 + 20) (ix x4)) then none else
      bi (fX11_isIn fu x1 (M.1 (a0 + 14) (ix (M.1 (a0 + 20) (ix x4)))) (((M.1 (a0 + 14) (ix (M.1 (a0 + 20) (ix x4)))) + (M.1 (a0 + 15) (ix (M.1 (a0 + 20) (ix x4))))) - 1)) fun r_116 =>
      if r_116 = 0 then
        fX11_kindBehind_j139 fu k57 a0 x1 x2 x3 x4 M
      else
        lt ((x3 ||| (1 <<< ((M.1 (a0 + 16) (ix (M.1 (a0 + 20) (ix x4)))) &&& 31)))) fun x3_138 =>
        fX11_kindBehind_j139 fu k57 a0 x1 x2 x3_138 x4 M
    else
      fX11_kindBehind_j139 fu k57 a0 x1 x2 x3 x4 M
set_option maxRecDepth 100000 in
set_option maxHeartbeats 4000000 in
theorem wX11_kindBehind_b57 {r : Int32}   {k57 : Int32 → Int32 → Option Int32} {a0 : Nat} {x1 : Int32} {x2 : Int32} {x3 : Int32} {x4 : Int32} {M : Mm} (B : Bx p s m args c cX11_kindBehind 5 RX11 E L) (hr : meth.sig.returnType = (some .int)) (hlk : meth.locks = false)  (ih57 : ∀ (x3 : Int32) (x4 : Int32), k57 x3 x4 = some r → ∀ (H : Heap) (locs : List Loc) (ls : Array Slot), Rx s E L M H locs → lv_has ls 5 [(0, .ref a0), (1, .int x1), (2, .int x2), (3, .int x3), (4, .int x4)] → W p l e (rmD (d + 2)) s m args below meth c H locs 0 0 (MQ below (QcM E L (some (.int r)) M) args s 0 0 E.2.2.2) (F0 m 57 ls [])) (h0 : At L a0 T11) (h : fX11_kindBehind_b57 fu k57 a0 x1 x2 x3 x4 M = some r) (hR : Rx s E L M H locs) (hl : lv_has ls 5 [(0, .ref a0), (1, .int x1), (2, .int x2), (3, .int x3), (4, .int x4)]) : W p l e (rmD (d + 2)) s m args below meth c H locs 0 0 (MQ below (QcM E L (some (.int r)) M) args s 0 0 E.2.2.2) (F0 m 57 ls []) := by
  have hx := B.1
  have hb := B.2.1
  unfold fX11_kindBehind_b57 at h
  refine lv_iload hx hb dX11_kindBehind_57 (lv_at hl 4 rfl) ?_
  refine lv_aload_n hx hb dX11_kindBehind_59 rfl (lv_at hl 0 rfl) ?_
  refine gf_X11_429 B hR (h0.at0 rfl) dX11_kindBehind_60 ?_
  refine lv_icmp_ge (tgt := 145) hx hb dX11_kindBehind_63 (by decide) (fun c_63 => ?_) (fun c_63 => ?_)
  · rw [if_pos c_63] at h
    exact wX11_kindBehind_j145 B hr hlk h0 h hR (lv_sub hl [0, 3] rfl)
  · rw [if_neg c_63] at h
    refine lv_iload_n hx hb dX11_kindBehind_66 rfl (lv_at hl 2 rfl) ?_
    refine lv_iload hx hb dX11_kindBehind_67 (lv_at hl 4 rfl) ?_
    refine lv_ishr hx hb dX11_kindBehind_69 ?_
    refine lv_iconst (v := 1) hx hb dX11_kindBehind_70 (by decide) ?_
    refine lv_iand hx hb dX11_kindBehind_71 ?_
    refine lv_iconst (v := 1) hx hb dX11_kindBehind_72 (by decide) ?_
    refine lv_icmp_ne (tgt := 139) hx hb dX11_kindBehind_73 (by decide) (fun c_73 => ?_) (fun c_73 => ?_)
    · rw [if_neg c_73] at h
      exact wX11_kindBehind_j139 B hr hlk ih57 h0 h hR hl
    · rw [if_pos c_73] at h
      refine lv_iload_n hx hb dX11_kindBehind_76 rfl (lv_at hl 1 rfl) ?_
      refine lv_aload_n hx hb dX11_kindBehind_77 rfl (lv_at hl 0 rfl) ?_
      refine gf_X11_54 B hR (h0.at0 rfl) dX11_kindBehind_78 ?_
      refine lv_aload_n hx hb dX11_kindBehind_81 rfl (lv_at hl 0 rfl) ?_
      refine gf_X11_73 B hR (h0.at0 rfl) dX11_kindBehind_82 ?_
      refine lv_iload hx hb dX11_kindBehind_85 (lv_at hl 4 rfl) ?_
      obtain ⟨hi_87, h⟩ := ifn_el h
      refine r_iald B hR (h0.at 20 rfl) hi_87 dX11_kindBehind_87 ?_
      obtain ⟨hi_88, h⟩ := ifn_el h
      refine r_iald B hR (h0.at 14 rfl) hi_88 dX11_kindBehind_88 ?_
      refine lv_aload_n hx hb dX11_kindBehind_89 rfl (lv_at hl 0 rfl) ?_
      refine gf_X11_54 B hR (h0.at0 rfl) dX11_kindBehind_90 ?_
      refine lv_aload_n hx hb dX11_kindBehind_93 rfl (lv_at hl 0 rfl) ?_
      refine gf_X11_73 B hR (h0.at0 rfl) dX11_kindBehind_94 ?_
      refine lv_iload hx hb dX11_kindBehind_97 (lv_at hl 4 rfl) ?_
      refine r_iald B hR (h0.at 20 rfl) hi_87 dX11_kindBehind_99 ?_
      refine r_iald B hR (h0.at 14 rfl) hi_88 dX11_kindBehind_100 ?_
      refine lv_aload_n hx hb dX11_kindBehind_101 rfl (lv_at hl 0 rfl) ?_
      refine gf_X11_57 B hR (h0.at0 rfl) dX11_kindBehind_102 ?_
      refine lv_aload_n hx hb dX11_kindBehind_105 rfl (lv_at hl 0 rfl) ?_
      refine gf_X11_73 B hR (h0.at0 rfl) dX11_kindBehind_106 ?_
      refine lv_iload hx hb dX11_kindBehind_109 (lv_at hl 4 rfl) ?_
      refine r_iald B hR (h0.at 20 rfl) hi_87 dX11_kindBehind_111 ?_
      refine r_iald B hR (h0.at 15 rfl) hi_88 dX11_kindBehind_112 ?_
      refine lv_iadd hx hb dX11_kindBehind_113 ?_
      refine lv_iconst (v := 1) hx hb dX11_kindBehind_114 (by decide) ?_
      refine lv_isub hx hb dX11_kindBehind_115 ?_
      obtain ⟨r_116, hc_116, h⟩ := bi_el h
      refine is_X11_163 B hR hl.1 (mX11_isIn fu _  hc_116) (Nat.le_of_ble_eq_true rfl) dX11_kindBehind_116 (fun H locs hR => ?_)
      refine lv_if_eq (tgt := 139) hx hb dX11_kindBehind_119 (by decide) (fun c_119 => ?_) (fun c_119 => ?_)
      · rw [if_pos c_119] at h
        exact wX11_kindBehind_j139 B hr hlk ih57 h0 h hR hl
      · rw [if_neg c_119] at h
        refine lv_iload_n hx hb dX11_kindBehind_122 rfl (lv_at hl 3 rfl) ?_
        refine lv_iconst (v := 1) hx hb dX11_kindBehind_123 (by decide) ?_
        refine lv_aload_n hx hb dX11_kindBehind_124 rfl (lv_at hl 0 rfl) ?_
        refine gf_X11_60 B hR (h0.at0 rfl) dX11_kindBehind_125 ?_
        refine lv_aload_n hx hb dX11_kindBehind_128 rfl (lv_at hl 0 rfl) ?_
        refine gf_X11_73 B hR (h0.at0 rfl) dX11_kindBehind_129 ?_
        refine lv_iload hx hb dX11_kindBehind_132 (lv_at hl 4 rfl) ?_
        refine r_iald B hR (h0.at 20 rfl) hi_87 dX11_kindBehind_134 ?_
        refine r_iald B hR (h0.at 16 rfl) hi_88 dX11_kindBehind_135 ?_
        refine lv_ishl hx hb dX11_kindBehind_136 ?_
        refine lv_ior hx hb dX11_kindBehind_137 ?_
        obtain ⟨x3_138, ex3_138, h⟩ := lt_el h
        refine r_nmI ex3_138 ?_
        refine lv_istore_n (lv' := [(3, .int x3_138), (0, .ref a0), (1, .int x1), (2, .int x2), (4, .int x4)]) hx hb dX11_kindBehind_138 rfl hl (by decide) rfl (fun ls hl => ?_)
        exact wX11_kindBehind_j139 B hr hlk ih57 h0 h hR (lv_sub hl [1, 2, 3, 0, 4] rfl)
def fX11_kindBehind_l57 (fu : Nat) (a0 : Nat) (x1 : Int32) (x2 : Int32) (M : Mm) (x3 : Int32) (x4 : Int32) : Option Int32 := lp (fun (rec : (Int32 × Int32) → Option Int32) (s : Int32 × Int32) => fX11_kindBehind_b57 fu  (fun x3 x4 => rec (x3, x4)) a0 x1 x2 s.1 s.2 M) fu (x3, x4)
set_option maxRecDepth 100000 in
set_option maxHeartbeats 4000000 in
theorem wX11_kindBehind_l57 {r : Int32}   {a0 : Nat} {x1 : Int32} {x2 : Int32} {x3 : Int32} {x4 : Int32} {M : Mm} (B : Bx p s m args c cX11_kindBehind 5 RX11 E L) (hr : meth.sig.returnType = (some .int)) (hlk : meth.locks = false)  (h0 : At L a0 T11) (h : fX11_kindBehind_l57 fu a0 x1 x2 M x3 x4 = some r) (hR : Rx s E L M H locs) (hl : lv_has ls 5 [(0, .ref a0), (1, .int x1), (2, .int x2), (3, .int x3), (4, .int x4)]) : W p l e (rmD (d + 2)) s m args below meth c H locs 0 0 (MQ below (QcM E L (some (.int r)) M) args s 0 0 E.2.2.2) (F0 m 57 ls []) := by
  refine lp_G (G := fun z : Int32 × Int32 => ∀ (H : Heap) (locs : List Loc) (ls : Array Slot), Rx s E L M H locs → lv_has ls 5 [(0, .ref a0), (1, .int x1), (2, .int x2), (3, .int z.1), (4, .int z.2)] → W p l e (rmD (d + 2)) s m args below meth c H locs 0 0 (MQ below (QcM E L (some (.int r)) M) args s 0 0 E.2.2.2) (F0 m 57 ls [])) (fun rec ih z h H locs ls hR hl => ?_) fu _ h H locs ls hR hl
  exact wX11_kindBehind_b57 B hr hlk  (fun x3 x4 h => ih (x3, x4) h) h0 h hR hl
def fX11_kindBehind_j51 (fu : Nat) (a0 : Nat) (x1 : Int32) (x2 : Int32) (x3 : Int32) (M : Mm) : Option Int32 :=
  lt ((M.1 a0 40)) fun x4_55 =>
  fX11_kindBehind_l57 fu a0 x1 x2 M x3 x4_55
set_option maxRecDepth 100000 in
set_option maxHeartbeats 4000000 in
theorem wX11_kindBehind_j51 {r : Int32}   {a0 : Nat} {x1 : Int32} {x2 : Int32} {x3 : Int32} {M : Mm} (B : Bx p s m args c cX11_kindBehind 5 RX11 E L) (hr : meth.sig.returnType = (some .int)) (hlk : meth.locks = false)  (h0 : At L a0 T11) (h : fX11_kindBehind_j51 fu a0 x1 x2 x3 M = some r) (hR : Rx s E L M H locs) (hl : lv_has ls 5 [(0, .ref a0), (1, .int x1), (2, .int x2), (3, .int x3)]) : W p l e (rmD (d + 2)) s m args below meth c H locs 0 0 (MQ below (QcM E L (some (.int r)) M) args s 0 0 E.2.2.2) (F0 m 51 ls []) := by
  have hx := B.1
  have hb := B.2.1
  unfold fX11_kindBehind_j51 at h
  refine lv_aload_n hx hb dX11_kindBehind_51 rfl (lv_at hl 0 rfl) ?_
  refine gf_X11_435 B hR (h0.at0 rfl) dX11_kindBehind_52 ?_
  obtain ⟨x4_55, ex4_55, h⟩ := lt_el h
  refine r_nmI ex4_55 ?_
  refine lv_istore (lv' := [(4, .int x4_55), (0, .ref a0), (1, .int x1), (2, .int x2), (3, .int x3)]) hx hb dX11_kindBehind_55 hl (by decide) rfl (fun ls hl => ?_)
  exact wX11_kindBehind_l57 B hr hlk h0 h hR (lv_sub hl [1, 2, 3, 4, 0] rfl)
def fX11_kindBehind_j45 (fu : Nat) (k5 : Int32 → Int32 → Option Int32) (a0 : Nat) (x1 : Int32) (x2 : Int32) (x3 : Int32) (x4 : Int32) (M : Mm) : Option Int32 :=
  lt (x4 + 1) fun x4_45 =>
  k5 x3 x4_45
set_option maxRecDepth 100000 in
set_option maxHeartbeats 4000000 in
theorem wX11_kindBehind_j45 {r : Int32}  {k5 : Int32 → Int32 → Option Int32} {a0 : Nat} {x1 : Int32} {x2 : Int32} {x3 : Int32} {x4 : Int32} {M : Mm} (B : Bx p s m args c cX11_kindBehind 5 RX11 E L) (hr : meth.sig.returnType = (some .int)) (hlk : meth.locks = false) (ih5 : ∀ (x3 : Int32) (x4 : Int32), k5 x3 x4 = some r → ∀ (H : Heap) (locs : List Loc) (ls : Array Slot), Rx s E L M H locs → lv_has ls 5 [(0, .ref a0), (1, .int x1), (2, .int x2), (3, .int x3), (4, .int x4)] → W p l e (rmD (d + 2)) s m args below meth c H locs 0 0 (MQ below (QcM E L (some (.int r)) M) args s 0 0 E.2.2.2) (F0 m 5 ls [])) (h0 : At L a0 T11) (h : fX11_kindBehind_j45 fu k5 a0 x1 x2 x3 x4 M = some r) (hR : Rx s E L M H locs) (hl : lv_has ls 5 [(0, .ref a0), (1, .int x1), (2, .int x2), (3, .int x3), (4, .int x4)]) : W p l e (rmD (d + 2)) s m args below meth c H locs 0 0 (MQ below (QcM E L (some (.int r)) M) args s 0 0 E.2.2.2) (F0 m 45 ls []) := by
  have hx := B.1
  have hb := B.2.1
  unfold fX11_kindBehind_j45 at h
  obtain ⟨x4_45, ex4_45, h⟩ := lt_el h
  refine lv_iinc (v := x4_45) (lv' := [(4, .int x4_45), (0, .ref a0), (1, .int x1), (2, .int x2), (3, .int x3)]) hx hb dX11_kindBehind_45 hl (k := 4) rfl (by rw [ex4_45]; rfl) (by decide) rfl (fun ls hl => ?_)
  refine lv_goto (tgt := 5) hx hb dX11_kindBehind_48 (by decide) ?_
  exact ih5 x3 x4_45 h _ _ _ hR (lv_sub hl [1, 2, 3, 4, 0] rfl)
def fX11_kindBehind_b5 (fu : Nat) (k5 : Int32 → Int32 → Option Int32) (a0 : Nat) (x1 : Int32) (x2 : Int32) (x3 : Int32) (x4 : Int32) (M : Mm) : Option Int32 :=
  bi (fX11_registersNow fu a0 M) fun r_8 =>
  if r_8 ≤ x4 then
    fX11_kindBehind_j51 fu a0 x1 x2 x3 M
  else
    bi (fX11_hasIt fu a0 x4 x1 M) fun r_18 =>
    if r_18 = 0 then
      fX11_kindBehind_j45 fu k5 a0 x1 x2 x3 x4 M
    else
      bi (fX11_isGone fu a0 x4 x2 M) fun r_28 =>
      if r_28 = 0 then
        bi (fX11_kindOf fu a0 x4 M) fun r_39 =>
        lt ((x3 ||| (1 <<< (r_39 &&& 31)))) fun x3_44 =>
        fX11_kindBehind_j45 fu k5 a0 x1 x2 x3_44 x4 M
      else
        fX11_kindBehind_j45 fu k5 a0 x1 x2 x3 x4 M
set_option maxRecDepth 100000 in
set_option maxHeartbeats 4000000 in
theorem wX11_kindBehind_b5 {r : Int32}   {k5 : Int32 → Int32 → Option Int32} {a0 : Nat} {x1 : Int32} {x2 : Int32} {x3 : Int32} {x4 : Int32} {M : Mm} (B : Bx p s m args c cX11_kindBehind 5 RX11 E L) (hr : meth.sig.returnType = (some .int)) (hlk : meth.locks = false)  (ih5 : ∀ (x3 : Int32) (x4 : Int32), k5 x3 x4 = some r → ∀ (H : Heap) (locs : List Loc) (ls : Array Slot), Rx s E L M H locs → lv_has ls 5 [(0, .ref a0), (1, .int x1), (2, .int x2), (3, .int x3), (4, .int x4)] → W p l e (rmD (d + 2)) s m args below meth c H locs 0 0 (MQ below (QcM E L (some (.int r)) M) args s 0 0 E.2.2.2) (F0 m 5 ls [])) (h0 : At L a0 T11) (h : fX11_kindBehind_b5 fu k5 a0 x1 x2 x3 x4 M = some r) (hR : Rx s E L M H locs) (hl : lv_has ls 5 [(0, .ref a0), (1, .int x1), (2, .int x2), (3, .int x3), (4, .int x4)]) : W p l e (rmD (d + 2)) s m args below meth c H locs 0 0 (MQ below (QcM E L (some (.int r)) M) args s 0 0 E.2.2.2) (F0 m 5 ls []) := by
  have hx := B.1
  have hb := B.2.1
  unfold fX11_kindBehind_b5 at h
  refine lv_iload hx hb dX11_kindBehind_5 (lv_at hl 4 rfl) ?_
  refine lv_aload_n hx hb dX11_kindBehind_7 rfl (lv_at hl 0 rfl) ?_
  obtain ⟨r_8, hc_8, h⟩ := bi_el h
  refine iv_X11_243 B hR (h0.at0 rfl) hl.1 (mX11_registersNow fu _ h0 hc_8) (Nat.le_of_ble_eq_true rfl) dX11_kindBehind_8 (fun H locs hR => ?_)
  refine lv_icmp_ge (tgt := 51) hx hb dX11_kindBehind_11 (by decide) (fun c_11 => ?_) (fun c_11 => ?_)
  · rw [if_pos c_11] at h
    exact wX11_kindBehind_j51 B hr hlk h0 h hR (lv_sub hl [0, 1, 2, 3] rfl)
  · rw [if_neg c_11] at h
    refine lv_aload_n hx hb dX11_kindBehind_14 rfl (lv_at hl 0 rfl) ?_
    refine lv_iload hx hb dX11_kindBehind_15 (lv_at hl 4 rfl) ?_
    refine lv_iload_n hx hb dX11_kindBehind_17 rfl (lv_at hl 1 rfl) ?_
    obtain ⟨r_18, hc_18, h⟩ := bi_el h
    refine iv_X11_264 B hR (h0.at0 rfl) hl.1 (mX11_hasIt fu _ h0 hc_18) (Nat.le_of_ble_eq_true rfl) dX11_kindBehind_18 (fun H locs hR => ?_)
    refine lv_if_eq (tgt := 45) hx hb dX11_kindBehind_21 (by decide) (fun c_21 => ?_) (fun c_21 => ?_)
    · rw [if_pos c_21] at h
      exact wX11_kindBehind_j45 B hr hlk ih5 h0 h hR hl
    · rw [if_neg c_21] at h
      refine lv_aload_n hx hb dX11_kindBehind_24 rfl (lv_at hl 0 rfl) ?_
      refine lv_iload hx hb dX11_kindBehind_25 (lv_at hl 4 rfl) ?_
      refine lv_iload_n hx hb dX11_kindBehind_27 rfl (lv_at hl 2 rfl) ?_
      obtain ⟨r_28, hc_28, h⟩ := bi_el h
      refine iv_X11_444 B hR (h0.at0 rfl) hl.1 (mX11_isGone fu _ h0 hc_28) (Nat.le_of_ble_eq_true rfl) dX11_kindBehind_28 (fun H locs hR => ?_)
      refine lv_if_ne (tgt := 45) hx hb dX11_kindBehind_31 (by decide) (fun c_31 => ?_) (fun c_31 => ?_)
      · rw [if_neg c_31] at h
        exact wX11_kindBehind_j45 B hr hlk ih5 h0 h hR hl
      · rw [if_pos c_31] at h
        refine lv_iload_n hx hb dX11_kindBehind_34 rfl (lv_at hl 3 rfl) ?_
        refine lv_iconst (v := 1) hx hb dX11_kindBehind_35 (by decide) ?_
        refine lv_aload_n hx hb dX11_kindBehind_36 rfl (lv_at hl 0 rfl) ?_
        refine lv_iload hx hb dX11_kindBehind_37 (lv_at hl 4 rfl) ?_
        obtain ⟨r_39, hc_39, h⟩ := bi_el h
        refine iv_X11_267 B hR (h0.at0 rfl) hl.1 (mX11_kindOf fu _ h0 hc_39) (Nat.le_of_ble_eq_true rfl) dX11_kindBehind_39 (fun H locs hR => ?_)
        refine lv_ishl hx hb dX11_kindBehind_42 ?_
        refine lv_ior hx hb dX11_kindBehind_43 ?_
        obtain ⟨x3_44, ex3_44, h⟩ := lt_el h
        refine r_nmI ex3_44 ?_
        refine lv_istore_n (lv' := [(3, .int x3_44), (0, .ref a0), (1, .int x1), (2, .int x2), (4, .int x4)]) hx hb dX11_kindBehind_44 rfl hl (by decide) rfl (fun ls hl => ?_)
        exact wX11_kindBehind_j45 B hr hlk ih5 h0 h hR (lv_sub hl [1, 2, 3, 0, 4] rfl)
def fX11_kindBehind_l5 (fu : Nat) (a0 : Nat) (x1 : Int32) (x2 : Int32) (M : Mm) (x3 : Int32) (x4 : Int32) : Option Int32 := lp (fun (rec : (Int32 × Int32) → Option Int32) (s : Int32 × Int32) => fX11_kindBehind_b5 fu  (fun x3 x4 => rec (x3, x4)) a0 x1 x2 s.1 s.2 M) fu (x3, x4)
set_option maxRecDepth 100000 in
set_option maxHeartbeats 4000000 in
theorem wX11_kindBehind_l5 {r : Int32}   {a0 : Nat} {x1 : Int32} {x2 : Int32} {x3 : Int32} {x4 : Int32} {M : Mm} (B : Bx p s m args c cX11_kindBehind 5 RX11 E L) (hr : meth.sig.returnType = (some .int)) (hlk : meth.locks = false)  (h0 : At L a0 T11) (h : fX11_kindBehind_l5 fu a0 x1 x2 M x3 x4 = some r) (hR : Rx s E L M H locs) (hl : lv_has ls 5 [(0, .ref a0), (1, .int x1), (2, .int x2), (3, .int x3), (4, .int x4)]) : W p l e (rmD (d + 2)) s m args below meth c H locs 0 0 (MQ below (QcM E L (some (.int r)) M) args s 0 0 E.2.2.2) (F0 m 5 ls []) := by
  refine lp_G (G := fun z : Int32 × Int32 => ∀ (H : Heap) (locs : List Loc) (ls : Array Slot), Rx s E L M H locs → lv_has ls 5 [(0, .ref a0), (1, .int x1), (2, .int x2), (3, .int z.1), (4, .int z.2)] → W p l e (rmD (d + 2)) s m args below meth c H locs 0 0 (MQ below (QcM E L (some (.int r)) M) args s 0 0 E.2.2.2) (F0 m 5 ls [])) (fun rec ih z h H locs ls hR hl => ?_) fu _ h H locs ls hR hl
  exact wX11_kindBehind_b5 B hr hlk  (fun x3 x4 h => ih (x3, x4) h) h0 h hR hl
def fX11_kindBehind (fu : Nat) (a0 : Nat) (x1 : Int32) (x2 : Int32) (M : Mm) : Option Int32 :=
  fX11_kindBehind_l5 fu a0 x1 x2 M 0 0
set_option maxRecDepth 100000 in
set_option maxHeartbeats 4000000 in
theorem mX11_kindBehind {l : Launch} {E : Ge} {L : Lay} (fu d : Nat) {a0 : Nat} {x1 : Int32} {x2 : Int32} {M : Mm} {r : Int32}  (h0 : At L a0 T11) (h : fX11_kindBehind fu a0 x1 x2 M = some r) : Ct l E L yX11_kindBehind cX11_kindBehind 5 (some .int) (d + 2) [.ref a0, .int x1, .int x2] M (some (.int r)) M := by
  refine Ct.of (by decide) ?_
  intro p e s m below meth c hr hlk B hR
  have B : Bx p s m _ c cX11_kindBehind 5 RX11 E L := B
  have hx := B.1
  have hb := B.2.1
  have hl := lv_entry ([.ref a0, .int x1, .int x2]) (n := 5) (Nat.le_of_ble_eq_true rfl)
  rw [lg_entry_eq]
  generalize (lg_sl ([.ref a0, .int x1, .int x2]) ++ List.replicate (5 - (lg_sl ([.ref a0, .int x1, .int x2])).length) Slot.unset).toArray = ls at hl ⊢
  have hl : lv_has ls 5 [(0, .ref a0), (1, .int x1), (2, .int x2)] := hl
  unfold fX11_kindBehind at h
  refine lv_iconst (v := 0) hx hb dX11_kindBehind_0 (by decide) ?_
  refine lv_istore_n (lv' := [(3, .int 0), (0, .ref a0), (1, .int x1), (2, .int x2)]) hx hb dX11_kindBehind_1 rfl hl (by decide) rfl (fun ls hl => ?_)
  refine lv_iconst (v := 0) hx hb dX11_kindBehind_2 (by decide) ?_
  refine lv_istore (lv' := [(4, .int 0), (3, .int 0), (0, .ref a0), (1, .int x1), (2, .int x2)]) hx hb dX11_kindBehind_3 hl (by decide) rfl (fun ls hl => ?_)
  exact wX11_kindBehind_l5 B hr hlk h0 h hR (lv_sub hl [2, 3, 4, 1, 0] rfl)
def fX11_isSafe_j93 (fu : Nat) (M : Mm) : Option Int32 :=
  some 1
set_option maxRecDepth 100000 in
set_option maxHeartbeats 4000000 in
theorem wX11_isSafe_j93 {r : Int32}    {M : Mm} (B : Bx p s m args c cX11_isSafe 5 RX11 E L) (hr : meth.sig.returnType = (some .boolean)) (hlk : meth.locks = false)   (h : fX11_isSafe_j93 fu M = some r) (hR : Rx s E L M H locs) (hl : lv_has ls 5 []) : W p l e (rmD (d + 3)) s m args below meth c H locs 0 0 (MQ below (QcM E L (some (.int r)) M) args s 0 0 E.2.2.2) (F0 m 93 ls []) := by
  have hx := B.1
  have hb := B.2.1
  unfold fX11_isSafe_j93 at h
  refine lv_iconst (v := 1) hx hb dX11_isSafe_93 (by decide) ?_
  exact r_zretP B hR hr hlk (Or.inr rfl) h dX11_isSafe_94
def fX11_isSafe_j87 (fu : Nat) (k11 : Int32 → Option Int32) (a0 : Nat) (x1 : Int32) (x2 : Int32) (x3 : Int32) (M : Mm) : Option Int32 :=
  lt (x3 + 1) fun x3_87 =>
  k11 x3_87
set_option maxRecDepth 100000 in
set_option maxHeartbeats 4000000 in
theorem wX11_isSafe_j87 {r : Int32}  {k11 : Int32 → Option Int32} {a0 : Nat} {x1 : Int32} {x2 : Int32} {x3 : Int32} {M : Mm} (B : Bx p s m args c cX11_isSafe 5 RX11 E L) (hr : meth.sig.returnType = (some .boolean)) (hlk : meth.locks = false) (ih11 : ∀ (x3 : Int32), k11 x3 = some r → ∀ (H : Heap) (locs : List Loc) (ls : Array Slot), Rx s E L M H locs → lv_has ls 5 [(0, .ref a0), (1, .int x1), (2, .int x2), (3, .int x3)] → W p l e (rmD (d + 3)) s m args below meth c H locs 0 0 (MQ below (QcM E L (some (.int r)) M) args s 0 0 E.2.2.2) (F0 m 11 ls [])) (h0 : At L a0 T11) (h : fX11_isSafe_j87 fu k11 a0 x1 x2 x3 M = some r) (hR : Rx s E L M H locs) (hl : lv_has ls 5 [(0, .ref a0), (1, .int x1), (2, .int x2), (3, .int x3)]) : W p l e (rmD (d + 3)) s m args below meth c H locs 0 0 (MQ below (QcM E L (some (.int r)) M) args s 0 0 E.2.2.2) (F0 m 87 ls []) := by
  have hx := B.1
  have hb := B.2.1
  unfold fX11_isSafe_j87 at h
  obtain ⟨x3_87, ex3_87, h⟩ := lt_el h
  refine lv_iinc (v := x3_87) (lv' := [(3, .int x3_87), (0, .ref a0), (1, .int x1), (2, .int x2)]) hx hb dX11_isSafe_87 hl (k := 3) rfl (by rw [ex3_87]; rfl) (by decide) rfl (fun ls hl => ?_)
  refine lv_goto (tgt := 11) hx hb dX11_isSafe_90 (by decide) ?_
  exact ih11 x3_87 h _ _ _ hR (lv_sub hl [1, 2, 3, 0] rfl)
def fX11_isSafe_j85 (fu : Nat) (M : Mm) : Option Int32 :=
  some 0
set_option maxRecDepth 100000 in
set_option maxHeartbeats 4000000 in
theorem wX11_isSafe_j85 {r : Int32}    {M : Mm} (B : Bx p s m args c cX11_isSafe 5 RX11 E L) (hr : meth.sig.returnType = (some .boolean)) (hlk : meth.locks = false)   (h : fX11_isSafe_j85 fu M = some r) (hR : Rx s E L M H locs) (hl : lv_has ls 5 []) : W p l e (rmD (d + 3)) s m args below meth c H locs 0 0 (MQ below (QcM E L (some (.int r)) M) args s 0 0 E.2.2.2) (F0 m 85 ls []) := by
  have hx := B.1
  have hb := B.2.1
  unfold fX11_isSafe_j85 at h
  refine lv_iconst (v := 0) hx hb dX11_isSafe_85 (by decide) ?_
  exact r_zretP B hR hr hlk (Or.inl rfl) h dX11_isSafe_86
def fX11_isSafe_b11 (fu : Nat) (k11 : Int32 → Option Int32) (a0 : Nat) (x1 : Int32) (x2 : Int32) (x3 : Int32) (M : Mm) : Option Int32 :=
  if (M.1 a0 41) ≤ x3 then
    fX11_isSafe_j93 fu M
  else
    if x3 < 0 ∨ 100 ≤ ix x3 then none else
    bi (fX11_isFixed fu a0 (M.1 (a0 + 21) (ix x3)) M) fun r_26 =>
    if r_26 = 0 then
      bi (fX11_kindBehind fu a0 (M.1 (a0 + 21) (ix x3)) x1 M) fun r_43 =>
      if r_43 = 0 then
        fX11_isSafe_j87 fu k11 a0 x1 x2 x3 M
      else
        bi (fX11_kindBehind fu a0 (M.1 (a0 + 21) (ix x3)) 0 M) fun r_63 =>
        if r_43 = r_63 then
          fX11_isSafe_j87 fu k11 a0 x1 x2 x3 M
        else
          bi (fX11_kindBehind fu a0 (M.1 (a0 + 21) (ix x3)) x2 M) fun r_79 =>
          if r_43 = r_79 then
            fX11_isSafe_j87 fu k11 a0 x1 x2 x3 M
          else
            fX11_isSafe_j85 fu M
    else
      fX11_isSafe_j87 fu k11 a0 x1 x2 x3 M
set_option maxRecDepth 100000 in
set_option maxHeartbeats 4000000 in
theorem wX11_isSafe_b11 {r : Int32}   {k11 : Int32 → Option Int32} {a0 : Nat} {x1 : Int32} {x2 : Int32} {x3 : Int32} {M : Mm} (B : Bx p s m args c cX11_isSafe 5 RX11 E L) (hr : meth.sig.returnType = (some .boolean)) (hlk : meth.locks = false)  (ih11 : ∀ (x3 : Int32), k11 x3 = some r → ∀ (H : Heap) (locs : List Loc) (ls : Array Slot), Rx s E L M H locs → lv_has ls 5 [(0, .ref a0), (1, .int x1), (2, .int x2), (3, .int x3)] → W p l e (rmD (d + 3)) s m args below meth c H locs 0 0 (MQ below (QcM E L (some (.int r)) M) args s 0 0 E.2.2.2) (F0 m 11 ls [])) (h0 : At L a0 T11) (h : fX11_isSafe_b11 fu k11 a0 x1 x2 x3 M = some r) (hR : Rx s E L M H locs) (hl : lv_has ls 5 [(0, .ref a0), (1, .int x1), (2, .int x2), (3, .int x3)]) : W p l e (rmD (d + 3)) s m args below meth c H locs 0 0 (MQ below (QcM E L (some (.int r)) M) args s 0 0 E.2.2.2) (F0 m 11 ls []) := by
  have hx := B.1
  have hb := B.2.1
  unfold fX11_isSafe_b11 at h
  refine lv_iload_n hx hb dX11_isSafe_11 rfl (lv_at hl 3 rfl) ?_
  refine lv_aload_n hx hb dX11_isSafe_12 rfl (lv_at hl 0 rfl) ?_
  refine gf_X11_426 B hR (h0.at0 rfl) dX11_isSafe_13 ?_
  refine lv_icmp_ge (tgt := 93) hx hb dX11_isSafe_16 (by decide) (fun c_16 => ?_) (fun c_16 => ?_)
  · rw [if_pos c_16] at h
    exact wX11_isSafe_j93 B hr hlk  h hR (lv_sub hl [] rfl)
  · rw [if_neg c_16] at h
    refine lv_aload_n hx hb dX11_isSafe_19 rfl (lv_at hl 0 rfl) ?_
    refine lv_aload_n hx hb dX11_isSafe_20 rfl (lv_at hl 0 rfl) ?_
    refine gf_X11_76 B hR (h0.at0 rfl) dX11_isSafe_21 ?_
    refine lv_iload_n hx hb dX11_isSafe_24 rfl (lv_at hl 3 rfl) ?_
    obtain ⟨hi_25, h⟩ := ifn_el h
    refine r_iald B hR (h0.at 21 rfl) hi_25 dX11_isSafe_25 ?_
    obtain ⟨r_26, hc_26, h⟩ := bi_el h
    refine iv_X11_255 B hR (h0.at0 rfl) hl.1 (mX11_isFixed fu _ h0 hc_26) (Nat.le_of_ble_eq_true rfl) dX11_isSafe_26 (fun H locs hR => ?_)
    refine lv_if_eq (tgt := 35) hx hb dX11_isSafe_29 (by decide) (fun c_29 => ?_) (fun c_29 => ?_)
    · rw [if_pos c_29] at h
      refine lv_aload_n hx hb dX11_isSafe_35 rfl (lv_at hl 0 rfl) ?_
      refine lv_aload_n hx hb dX11_isSafe_36 rfl (lv_at hl 0 rfl) ?_
      refine gf_X11_76 B hR (h0.at0 rfl) dX11_isSafe_37 ?_
      refine lv_iload_n hx hb dX11_isSafe_40 rfl (lv_at hl 3 rfl) ?_
      refine r_iald B hR (h0.at 21 rfl) hi_25 dX11_isSafe_41 ?_
      refine lv_iload_n hx hb dX11_isSafe_42 rfl (lv_at hl 1 rfl) ?_
      obtain ⟨r_43, hc_43, h⟩ := bi_el h
      refine iv_X11_447 B hR (h0.at0 rfl) hl.1 (mX11_kindBehind fu _ h0 hc_43) (Nat.le_of_ble_eq_true rfl) dX11_isSafe_43 (fun H locs hR => ?_)
      refine lv_istore (lv' := [(4, .int r_43), (0, .ref a0), (1, .int x1), (2, .int x2), (3, .int x3)]) hx hb dX11_isSafe_46 hl (by decide) rfl (fun ls hl => ?_)
      refine lv_iload hx hb dX11_isSafe_48 (lv_at hl 0 rfl) ?_
      refine lv_if_eq (tgt := 87) hx hb dX11_isSafe_50 (by decide) (fun c_50 => ?_) (fun c_50 => ?_)
      · rw [if_pos c_50] at h
        exact wX11_isSafe_j87 B hr hlk ih11 h0 h hR (lv_sub hl [1, 2, 3, 4] rfl)
      · rw [if_neg c_50] at h
        refine lv_iload hx hb dX11_isSafe_53 (lv_at hl 0 rfl) ?_
        refine lv_aload_n hx hb dX11_isSafe_55 rfl (lv_at hl 1 rfl) ?_
        refine lv_aload_n hx hb dX11_isSafe_56 rfl (lv_at hl 1 rfl) ?_
        refine gf_X11_76 B hR (h0.at0 rfl) dX11_isSafe_57 ?_
        refine lv_iload_n hx hb dX11_isSafe_60 rfl (lv_at hl 4 rfl) ?_
        refine r_iald B hR (h0.at 21 rfl) hi_25 dX11_isSafe_61 ?_
        refine lv_iconst (v := 0) hx hb dX11_isSafe_62 (by decide) ?_
        obtain ⟨r_63, hc_63, h⟩ := bi_el h
        refine iv_X11_447 B hR (h0.at0 rfl) hl.1 (mX11_kindBehind fu _ h0 hc_63) (Nat.le_of_ble_eq_true rfl) dX11_isSafe_63 (fun H locs hR => ?_)
        refine lv_icmp_eq (tgt := 87) hx hb dX11_isSafe_66 (by decide) (fun c_66 => ?_) (fun c_66 => ?_)
        · rw [if_pos c_66] at h
          exact wX11_isSafe_j87 B hr hlk ih11 h0 h hR (lv_sub hl [1, 2, 3, 4] rfl)
        · rw [if_neg c_66] at h
          refine lv_iload hx hb dX11_isSafe_69 (lv_at hl 0 rfl) ?_
          refine lv_aload_n hx hb dX11_isSafe_71 rfl (lv_at hl 1 rfl) ?_
          refine lv_aload_n hx hb dX11_isSafe_72 rfl (lv_at hl 1 rfl) ?_
          refine gf_X11_76 B hR (h0.at0 rfl) dX11_isSafe_73 ?_
          refine lv_iload_n hx hb dX11_isSafe_76 rfl (lv_at hl 4 rfl) ?_
          refine r_iald B hR (h0.at 21 rfl) hi_25 dX11_isSafe_77 ?_
          refine lv_iload_n hx hb dX11_isSafe_78 rfl (lv_at hl 3 rfl) ?_
          obtain ⟨r_79, hc_79, h⟩ := bi_el h
          refine iv_X11_447 B hR (h0.at0 rfl) hl.1 (mX11_kindBehind fu _ h0 hc_79) (Nat.le_of_ble_eq_true rfl) dX11_isSafe_79 (fun H locs hR => ?_)
          refine lv_icmp_eq (tgt := 87) hx hb dX11_isSafe_82 (by decide) (fun c_82 => ?_) (fun c_82 => ?_)
          · rw [if_pos c_82] at h
            exact wX11_isSafe_j87 B hr hlk ih11 h0 h hR (lv_sub hl [1, 2, 3, 4] rfl)
          · rw [if_neg c_82] at h
            exact wX11_isSafe_j85 B hr hlk  h hR (lv_sub hl [] rfl)
    · rw [if_neg c_29] at h
      refine lv_goto (tgt := 87) hx hb dX11_isSafe_32 (by decide) ?_
      exact wX11_isSafe_j87 B hr hlk ih11 h0 h hR hl
def fX11_isSafe_l11 (fu : Nat) (a0 : Nat) (x1 : Int32) (x2 : Int32) (M : Mm) (x3 : Int32) : Option Int32 := lp (fun (rec : Int32 → Option Int32) (s : Int32) => fX11_isSafe_b11 fu  (fun x3 => rec (x3)) a0 x1 x2 s M) fu (x3)
set_option maxRecDepth 100000 in
set_option maxHeartbeats 4000000 in
theorem wX11_isSafe_l11 {r : Int32}   {a0 : Nat} {x1 : Int32} {x2 : Int32} {x3 : Int32} {M : Mm} (B : Bx p s m args c cX11_isSafe 5 RX11 E L) (hr : meth.sig.returnType = (some .boolean)) (hlk : meth.locks = false)  (h0 : At L a0 T11) (h : fX11_isSafe_l11 fu a0 x1 x2 M x3 = some r) (hR : Rx s E L M H locs) (hl : lv_has ls 5 [(0, .ref a0), (1, .int x1), (2, .int x2), (3, .int x3)]) : W p l e (rmD (d + 3)) s m args below meth c H locs 0 0 (MQ below (QcM E L (some (.int r)) M) args s 0 0 E.2.2.2) (F0 m 11 ls []) := by
  refine lp_G (G := fun z : Int32 => ∀ (H : Heap) (locs : List Loc) (ls : Array Slot), Rx s E L M H locs → lv_has ls 5 [(0, .ref a0), (1, .int x1), (2, .int x2), (3, .int z)] → W p l e (rmD (d + 3)) s m args below meth c H locs 0 0 (MQ below (QcM E L (some (.int r)) M) args s 0 0 E.2.2.2) (F0 m 11 ls [])) (fun rec ih z h H locs ls hR hl => ?_) fu _ h H locs ls hR hl
  exact wX11_isSafe_b11 B hr hlk  (fun x3 h => ih (x3) h) h0 h hR hl
def fX11_isSafe (fu : Nat) (a0 : Nat) (x1 : Int32) (M : Mm) : Option Int32 :=
  lt (((1 <<< ((M.1 a0 39) &&& 31)) - 1)) fun x2_8 =>
  fX11_isSafe_l11 fu a0 x1 x2_8 M 0
set_option maxRecDepth 100000 in
set_option maxHeartbeats 4000000 in
theorem mX11_isSafe {l : Launch} {E : Ge} {L : Lay} (fu d : Nat) {a0 : Nat} {x1 : Int32} {M : Mm} {r : Int32}  (h0 : At L a0 T11) (h : fX11_isSafe fu a0 x1 M = some r) : Ct l E L yX11_isSafe cX11_isSafe 5 (some .boolean) (d + 3) [.ref a0, .int x1] M (some (.int r)) M := by
  refine Ct.of (by decide) ?_
  intro p e s m below meth c hr hlk B hR
  have B : Bx p s m _ c cX11_isSafe 5 RX11 E L := B
  have hx := B.1
  have hb := B.2.1
  have hl := lv_entry ([.ref a0, .int x1]) (n := 5) (Nat.le_of_ble_eq_true rfl)
  rw [lg_entry_eq]
  generalize (lg_sl ([.ref a0, .int x1]) ++ List.replicate (5 - (lg_sl ([.ref a0, .int x1])).length) Slot.unset).toArray = ls at hl ⊢
  have hl : lv_has ls 5 [(0, .ref a0), (1, .int x1)] := hl
  unfold fX11_isSafe at h
  refine lv_iconst (v := 1) hx hb dX11_isSafe_0 (by decide) ?_
  refine lv_aload_n hx hb dX11_isSafe_1 rfl (lv_at hl 0 rfl) ?_
  refine gf_X11_429 B hR (h0.at0 rfl) dX11_isSafe_2 ?_
  refine lv_ishl hx hb dX11_isSafe_5 ?_
  refine lv_iconst (v := 1) hx hb dX11_isSafe_6 (by decide) ?_
  refine lv_isub hx hb dX11_isSafe_7 ?_
  obtain ⟨x2_8, ex2_8, h⟩ := lt_el h
  refine r_nmI ex2_8 ?_
  refine lv_istore_n (lv' := [(2, .int x2_8), (0, .ref a0), (1, .int x1)]) hx hb dX11_isSafe_8 rfl hl (by decide) rfl (fun ls hl => ?_)
  refine lv_iconst (v := 0) hx hb dX11_isSafe_9 (by decide) ?_
  refine lv_istore_n (lv' := [(3, .int 0), (2, .int x2_8), (0, .ref a0), (1, .int x1)]) hx hb dX11_isSafe_10 rfl hl (by decide) rfl (fun ls hl => ?_)
  exact wX11_isSafe_l11 B hr hlk h0 h hR (lv_sub hl [2, 3, 1, 0] rfl)
def fX11_emptyBehind_j75 (fu : Nat) (x2 : Int32) (M : Mm) : Option Int32 :=
  some x2
set_option maxRecDepth 100000 in
set_option maxHeartbeats 4000000 in
theorem wX11_emptyBehind_j75 {r : Int32}   {x2 : Int32} {M : Mm} (B : Bx p s m args c cX11_emptyBehind 4 RX11 E L) (hr : meth.sig.returnType = (some .int)) (hlk : meth.locks = false)   (h : fX11_emptyBehind_j75 fu x2 M = some r) (hR : Rx s E L M H locs) (hl : lv_has ls 4 [(2, .int x2)]) : W p l e (rmD (d + 1)) s m args below meth c H locs 0 0 (MQ below (QcM E L (some (.int r)) M) args s 0 0 E.2.2.2) (F0 m 75 ls []) := by
  have hx := B.1
  have hb := B.2.1
  unfold fX11_emptyBehind_j75 at h
  refine lv_iload_n hx hb dX11_emptyBehind_75 rfl (lv_at hl 0 rfl) ?_
  exact r_iretP B hR hr hlk h dX11_emptyBehind_76
def fX11_emptyBehind_j69 (fu : Nat) (k36 : Int32 → Int32 → Option Int32) (a0 : Nat) (x1 : Int32) (x2 : Int32) (x3 : Int32) (M : Mm) : Option Int32 :=
  lt (x3 + 1) fun x3_69 =>
  k36 x2 x3_69
set_option maxRecDepth 100000 in
set_option maxHeartbeats 4000000 in
theorem wX11_emptyBehind_j69 {r : Int32}  {k36 : Int32 → Int32 → Option Int32} {a0 : Nat} {x1 : Int32} {x2 : Int32} {x3 : Int32} {M : Mm} (B : Bx p s m args c cX11_emptyBehind 4 RX11 E L) (hr : meth.sig.returnType = (some .int)) (hlk : meth.locks = false) (ih36 : ∀ (x2 : Int32) (x3 : Int32), k36 x2 x3 = some r → ∀ (H : Heap) (locs : List Loc) (ls : Array Slot), Rx s E L M H locs → lv_has ls 4 [(0, .ref a0), (1, .int x1), (2, .int x2), (3, .int x3)] → W p l e (rmD (d + 1)) s m args below meth c H locs 0 0 (MQ below (QcM E L (some (.int r)) M) args s 0 0 E.2.2.2) (F0 m 36 ls [])) (h0 : At L a0 T11) (h : fX11_emptyBehind_j69 fu k36 a0 x1 x2 x3 M = some r) (hR : Rx s E L M H locs) (hl : lv_has ls 4 [(0, .ref a0), (1, .int x1), (2, .int x2), (3, .int x3)]) : W p l e (rmD (d + 1)) s m args below meth c H locs 0 0 (MQ below (QcM E L (some (.int r)) M) args s 0 0 E.2.2.2) (F0 m 69 ls []) := by
  have hx := B.1
  have hb := B.2.1
  unfold fX11_emptyBehind_j69 at h
  obtain ⟨x3_69, ex3_69, h⟩ := lt_el h
  refine lv_iinc (v := x3_69) (lv' := [(3, .int x3_69), (0, .ref a0), (1, .int x1), (2, .int x2)]) hx hb dX11_emptyBehind_69 hl (k := 3) rfl (by rw [ex3_69]; rfl) (by decide) rfl (fun ls hl => ?_)
  refine lv_goto (tgt := 36) hx hb dX11_emptyBehind_72 (by decide) ?_
  exact ih36 x2 x3_69 h _ _ _ hR (lv_sub hl [1, 2, 3, 0] rfl)
def fX11_emptyBehind_j67 (fu : Nat) (k36 : Int32 → Int32 → Option Int32) (a0 : Nat) (x1 : Int32) (x3 : Int32) (t0 : Int32) (t1 : Int32) (M : Mm) : Option Int32 :=
  lt ((t0 + t1)) fun x2_68 =>
  fX11_emptyBehind_j69 fu k36 a0 x1 x2_68 x3 M
set_option maxRecDepth 100000 in
set_option maxHeartbeats 4000000 in
theorem wX11_emptyBehind_j67 {r : Int32}  {k36 : Int32 → Int32 → Option Int32} {a0 : Nat} {x1 : Int32} {x3 : Int32} {t0 : Int32} {t1 : Int32} {M : Mm} (B : Bx p s m args c cX11_emptyBehind 4 RX11 E L) (hr : meth.sig.returnType = (some .int)) (hlk : meth.locks = false) (ih36 : ∀ (x2 : Int32) (x3 : Int32), k36 x2 x3 = some r → ∀ (H : Heap) (locs : List Loc) (ls : Array Slot), Rx s E L M H locs → lv_has ls 4 [(0, .ref a0), (1, .int x1), (2, .int x2), (3, .int x3)] → W p l e (rmD (d + 1)) s m args below meth c H locs 0 0 (MQ below (QcM E L (some (.int r)) M) args s 0 0 E.2.2.2) (F0 m 36 ls [])) (h0 : At L a0 T11) (h : fX11_emptyBehind_j67 fu k36 a0 x1 x3 t0 t1 M = some r) (hR : Rx s E L M H locs) (hl : lv_has ls 4 [(0, .ref a0), (1, .int x1), (3, .int x3)]) : W p l e (rmD (d + 1)) s m args below meth c H locs 0 0 (MQ below (QcM E L (some (.int r)) M) args s 0 0 E.2.2.2) (F0 m 67 ls [.int t1, .int t0]) := by
  have hx := B.1
  have hb := B.2.1
  unfold fX11_emptyBehind_j67 at h
  refine lv_iadd hx hb dX11_emptyBehind_67 ?_
  obtain ⟨x2_68, ex2_68, h⟩ := lt_el h
  refine r_nmI ex2_68 ?_
  refine lv_istore_n (lv' := [(2, .int x2_68), (0, .ref a0), (1, .int x1), (3, .int x3)]) hx hb dX11_emptyBehind_68 rfl hl (by decide) rfl (fun ls hl => ?_)
  exact wX11_emptyBehind_j69 B hr hlk ih36 h0 h hR (lv_sub hl [1, 2, 0, 3] rfl)
def fX11_emptyBehind_b36 (fu : Nat) (k36 : Int32 → Int32 → Option Int32) (a0 : Nat) (x1 : Int32) (x2 : Int32) (x3 : Int32) (M : Mm) : Option Int32 :=
  if (M.1 a0 39) ≤ x3 then
    fX11_emptyBehind_j75 fu x2 M
  else
    if ((x1 >>> (x3 &&& 31)) &&& 1) = 1 then
      if (M.1 a0 40) ≤ x3 then
        fX11_emptyBehind_j67 fu k36 a0 x1 x3 x2 (-1) M
      else
        fX11_emptyBehind_j67 fu k36 a0 x1 x3 x2 1 M
    else
      fX11_emptyBehind_j69 fu k36 a0 x1 x2 x3 M
set_option maxRecDepth 100000 in
set_option maxHeartbeats 4000000 in
theorem wX11_emptyBehind_b36 {r : Int32}   {k36 : Int32 → Int32 → Option Int32} {a0 : Nat} {x1 : Int32} {x2 : Int32} {x3 : Int32} {M : Mm} (B : Bx p s m args c cX11_emptyBehind 4 RX11 E L) (hr : meth.sig.returnType = (some .int)) (hlk : meth.locks = false)  (ih36 : ∀ (x2 : Int32) (x3 : Int32), k36 x2 x3 = some r → ∀ (H : Heap) (locs : List Loc) (ls : Array Slot), Rx s E L M H locs → lv_has ls 4 [(0, .ref a0), (1, .int x1), (2, .int x2), (3, .int x3)] → W p l e (rmD (d + 1)) s m args below meth c H locs 0 0 (MQ below (QcM E L (some (.int r)) M) args s 0 0 E.2.2.2) (F0 m 36 ls [])) (h0 : At L a0 T11) (h : fX11_emptyBehind_b36 fu k36 a0 x1 x2 x3 M = some r) (hR : Rx s E L M H locs) (hl : lv_has ls 4 [(0, .ref a0), (1, .int x1), (2, .int x2), (3, .int x3)]) : W p l e (rmD (d + 1)) s m args below meth c H locs 0 0 (MQ below (QcM E L (some (.int r)) M) args s 0 0 E.2.2.2) (F0 m 36 ls []) := by
  have hx := B.1
  have hb := B.2.1
  unfold fX11_emptyBehind_b36 at h
  refine lv_iload_n hx hb dX11_emptyBehind_36 rfl (lv_at hl 3 rfl) ?_
  refine lv_aload_n hx hb dX11_emptyBehind_37 rfl (lv_at hl 0 rfl) ?_
  refine gf_X11_429 B hR (h0.at0 rfl) dX11_emptyBehind_38 ?_
  refine lv_icmp_ge (tgt := 75) hx hb dX11_emptyBehind_41 (by decide) (fun c_41 => ?_) (fun c_41 => ?_)
  · rw [if_pos c_41] at h
    exact wX11_emptyBehind_j75 B hr hlk  h hR (lv_sub hl [2] rfl)
  · rw [if_neg c_41] at h
    refine lv_iload_n hx hb dX11_emptyBehind_44 rfl (lv_at hl 1 rfl) ?_
    refine lv_iload_n hx hb dX11_emptyBehind_45 rfl (lv_at hl 3 rfl) ?_
    refine lv_ishr hx hb dX11_emptyBehind_46 ?_
    refine lv_iconst (v := 1) hx hb dX11_emptyBehind_47 (by decide) ?_
    refine lv_iand hx hb dX11_emptyBehind_48 ?_
    refine lv_iconst (v := 1) hx hb dX11_emptyBehind_49 (by decide) ?_
    refine lv_icmp_ne (tgt := 69) hx hb dX11_emptyBehind_50 (by decide) (fun c_50 => ?_) (fun c_50 => ?_)
    · rw [if_neg c_50] at h
      exact wX11_emptyBehind_j69 B hr hlk ih36 h0 h hR hl
    · rw [if_pos c_50] at h
      refine lv_iload_n hx hb dX11_emptyBehind_53 rfl (lv_at hl 2 rfl) ?_
      refine lv_iload_n hx hb dX11_emptyBehind_54 rfl (lv_at hl 3 rfl) ?_
      refine lv_aload_n hx hb dX11_emptyBehind_55 rfl (lv_at hl 0 rfl) ?_
      refine gf_X11_435 B hR (h0.at0 rfl) dX11_emptyBehind_56 ?_
      refine lv_icmp_ge (tgt := 66) hx hb dX11_emptyBehind_59 (by decide) (fun c_59 => ?_) (fun c_59 => ?_)
      · rw [if_pos c_59] at h
        refine lv_iconst (v := (-1)) hx hb dX11_emptyBehind_66 (by decide) ?_
        exact wX11_emptyBehind_j67 B hr hlk ih36 h0 h hR (lv_sub hl [0, 1, 3] rfl)
      · rw [if_neg c_59] at h
        refine lv_iconst (v := 1) hx hb dX11_emptyBehind_62 (by decide) ?_
        refine lv_goto (tgt := 67) hx hb dX11_emptyBehind_63 (by decide) ?_
        exact wX11_emptyBehind_j67 B hr hlk ih36 h0 h hR (lv_sub hl [0, 1, 3] rfl)
def fX11_emptyBehind_l36 (fu : Nat) (a0 : Nat) (x1 : Int32) (M : Mm) (x2 : Int32) (x3 : Int32) : Option Int32 := lp (fun (rec : (Int32 × Int32) → Option Int32) (s : Int32 × Int32) => fX11_emptyBehind_b36 fu  (fun x2 x3 => rec (x2, x3)) a0 x1 s.1 s.2 M) fu (x2, x3)
set_option maxRecDepth 100000 in
set_option maxHeartbeats 4000000 in
theorem wX11_emptyBehind_l36 {r : Int32}   {a0 : Nat} {x1 : Int32} {x2 : Int32} {x3 : Int32} {M : Mm} (B : Bx p s m args c cX11_emptyBehind 4 RX11 E L) (hr : meth.sig.returnType = (some .int)) (hlk : meth.locks = false)  (h0 : At L a0 T11) (h : fX11_emptyBehind_l36 fu a0 x1 M x2 x3 = some r) (hR : Rx s E L M H locs) (hl : lv_has ls 4 [(0, .ref a0), (1, .int x1), (2, .int x2), (3, .int x3)]) : W p l e (rmD (d + 1)) s m args below meth c H locs 0 0 (MQ below (QcM E L (some (.int r)) M) args s 0 0 E.2.2.2) (F0 m 36 ls []) := by
  refine lp_G (G := fun z : Int32 × Int32 => ∀ (H : Heap) (locs : List Loc) (ls : Array Slot), Rx s E L M H locs → lv_has ls 4 [(0, .ref a0), (1, .int x1), (2, .int z.1), (3, .int z.2)] → W p l e (rmD (d + 1)) s m args below meth c H locs 0 0 (MQ below (QcM E L (some (.int r)) M) args s 0 0 E.2.2.2) (F0 m 36 ls [])) (fun rec ih z h H locs ls hR hl => ?_) fu _ h H locs ls hR hl
  exact wX11_emptyBehind_b36 B hr hlk  (fun x2 x3 h => ih (x2, x3) h) h0 h hR hl
def fX11_emptyBehind_j34 (fu : Nat) (a0 : Nat) (x1 : Int32) (x2 : Int32) (M : Mm) : Option Int32 :=
  fX11_emptyBehind_l36 fu a0 x1 M x2 0
set_option maxRecDepth 100000 in
set_option maxHeartbeats 4000000 in
theorem wX11_emptyBehind_j34 {r : Int32}   {a0 : Nat} {x1 : Int32} {x2 : Int32} {M : Mm} (B : Bx p s m args c cX11_emptyBehind 4 RX11 E L) (hr : meth.sig.returnType = (some .int)) (hlk : meth.locks = false)  (h0 : At L a0 T11) (h : fX11_emptyBehind_j34 fu a0 x1 x2 M = some r) (hR : Rx s E L M H locs) (hl : lv_has ls 4 [(0, .ref a0), (1, .int x1), (2, .int x2)]) : W p l e (rmD (d + 1)) s m args below meth c H locs 0 0 (MQ below (QcM E L (some (.int r)) M) args s 0 0 E.2.2.2) (F0 m 34 ls []) := by
  have hx := B.1
  have hb := B.2.1
  unfold fX11_emptyBehind_j34 at h
  refine lv_iconst (v := 0) hx hb dX11_emptyBehind_34 (by decide) ?_
  refine lv_istore_n (lv' := [(3, .int 0), (0, .ref a0), (1, .int x1), (2, .int x2)]) hx hb dX11_emptyBehind_35 rfl hl (by decide) rfl (fun ls hl => ?_)
  exact wX11_emptyBehind_l36 B hr hlk h0 h hR (lv_sub hl [1, 2, 3, 0] rfl)
def fX11_emptyBehind_j26 (fu : Nat) (k4 : Int32 → Int32 → Option Int32) (a0 : Nat) (x1 : Int32) (x3 : Int32) (t0 : Int32) (t1 : Int32) (M : Mm) : Option Int32 :=
  lt ((t0 + t1)) fun x2_27 =>
  lt (x3 + 1) fun x3_28 =>
  k4 x2_27 x3_28
set_option maxRecDepth 100000 in
set_option maxHeartbeats 4000000 in
theorem wX11_emptyBehind_j26 {r : Int32}  {k4 : Int32 → Int32 → Option Int32} {a0 : Nat} {x1 : Int32} {x3 : Int32} {t0 : Int32} {t1 : Int32} {M : Mm} (B : Bx p s m args c cX11_emptyBehind 4 RX11 E L) (hr : meth.sig.returnType = (some .int)) (hlk : meth.locks = false) (ih4 : ∀ (x2 : Int32) (x3 : Int32), k4 x2 x3 = some r → ∀ (H : Heap) (locs : List Loc) (ls : Array Slot), Rx s E L M H locs → lv_has ls 4 [(0, .ref a0), (1, .int x1), (2, .int x2), (3, .int x3)] → W p l e (rmD (d + 1)) s m args below meth c H locs 0 0 (MQ below (QcM E L (some (.int r)) M) args s 0 0 E.2.2.2) (F0 m 4 ls [])) (h0 : At L a0 T11) (h : fX11_emptyBehind_j26 fu k4 a0 x1 x3 t0 t1 M = some r) (hR : Rx s E L M H locs) (hl : lv_has ls 4 [(0, .ref a0), (1, .int x1), (3, .int x3)]) : W p l e (rmD (d + 1)) s m args below meth c H locs 0 0 (MQ below (QcM E L (some (.int r)) M) args s 0 0 E.2.2.2) (F0 m 26 ls [.int t1, .int t0]) := by
  have hx := B.1
  have hb := B.2.1
  unfold fX11_emptyBehind_j26 at h
  refine lv_iadd hx hb dX11_emptyBehind_26 ?_
  obtain ⟨x2_27, ex2_27, h⟩ := lt_el h
  refine r_nmI ex2_27 ?_
  refine lv_istore_n (lv' := [(2, .int x2_27), (0, .ref a0), (1, .int x1), (3, .int x3)]) hx hb dX11_emptyBehind_27 rfl hl (by decide) rfl (fun ls hl => ?_)
  obtain ⟨x3_28, ex3_28, h⟩ := lt_el h
  refine lv_iinc (v := x3_28) (lv' := [(3, .int x3_28), (2, .int x2_27), (0, .ref a0), (1, .int x1)]) hx hb dX11_emptyBehind_28 hl (k := 3) rfl (by rw [ex3_28]; rfl) (by decide) rfl (fun ls hl => ?_)
  refine lv_goto (tgt := 4) hx hb dX11_emptyBehind_31 (by decide) ?_
  exact ih4 x2_27 x3_28 h _ _ _ hR (lv_sub hl [2, 3, 1, 0] rfl)
def fX11_emptyBehind_b4 (fu : Nat) (k4 : Int32 → Int32 → Option Int32) (a0 : Nat) (x1 : Int32) (x2 : Int32) (x3 : Int32) (M : Mm) : Option Int32 :=
  bi (fX11_registersNow fu a0 M) fun r_6 =>
  if r_6 ≤ x3 then
    fX11_emptyBehind_j34 fu a0 x1 x2 M
  else
    bi (fX11_sizeOf fu a0 x3 M) fun r_15 =>
    if r_15 = 0 then
      fX11_emptyBehind_j26 fu k4 a0 x1 x3 x2 1 M
    else
      fX11_emptyBehind_j26 fu k4 a0 x1 x3 x2 0 M
set_option maxRecDepth 100000 in
set_option maxHeartbeats 4000000 in
theorem wX11_emptyBehind_b4 {r : Int32}   {k4 : Int32 → Int32 → Option Int32} {a0 : Nat} {x1 : Int32} {x2 : Int32} {x3 : Int32} {M : Mm} (B : Bx p s m args c cX11_emptyBehind 4 RX11 E L) (hr : meth.sig.returnType = (some .int)) (hlk : meth.locks = false)  (ih4 : ∀ (x2 : Int32) (x3 : Int32), k4 x2 x3 = some r → ∀ (H : Heap) (locs : List Loc) (ls : Array Slot), Rx s E L M H locs → lv_has ls 4 [(0, .ref a0), (1, .int x1), (2, .int x2), (3, .int x3)] → W p l e (rmD (d + 1)) s m args below meth c H locs 0 0 (MQ below (QcM E L (some (.int r)) M) args s 0 0 E.2.2.2) (F0 m 4 ls [])) (h0 : At L a0 T11) (h : fX11_emptyBehind_b4 fu k4 a0 x1 x2 x3 M = some r) (hR : Rx s E L M H locs) (hl : lv_has ls 4 [(0, .ref a0), (1, .int x1), (2, .int x2), (3, .int x3)]) : W p l e (rmD (d + 1)) s m args below meth c H locs 0 0 (MQ below (QcM E L (some (.int r)) M) args s 0 0 E.2.2.2) (F0 m 4 ls []) := by
  have hx := B.1
  have hb := B.2.1
  unfold fX11_emptyBehind_b4 at h
  refine lv_iload_n hx hb dX11_emptyBehind_4 rfl (lv_at hl 3 rfl) ?_
  refine lv_aload_n hx hb dX11_emptyBehind_5 rfl (lv_at hl 0 rfl) ?_
  obtain ⟨r_6, hc_6, h⟩ := bi_el h
  refine iv_X11_243 B hR (h0.at0 rfl) hl.1 (mX11_registersNow fu _ h0 hc_6) (Nat.le_of_ble_eq_true rfl) dX11_emptyBehind_6 (fun H locs hR => ?_)
  refine lv_icmp_ge (tgt := 34) hx hb dX11_emptyBehind_9 (by decide) (fun c_9 => ?_) (fun c_9 => ?_)
  · rw [if_pos c_9] at h
    exact wX11_emptyBehind_j34 B hr hlk h0 h hR (lv_sub hl [0, 1, 2] rfl)
  · rw [if_neg c_9] at h
    refine lv_iload_n hx hb dX11_emptyBehind_12 rfl (lv_at hl 2 rfl) ?_
    refine lv_aload_n hx hb dX11_emptyBehind_13 rfl (lv_at hl 0 rfl) ?_
    refine lv_iload_n hx hb dX11_emptyBehind_14 rfl (lv_at hl 3 rfl) ?_
    obtain ⟨r_15, hc_15, h⟩ := bi_el h
    refine iv_X11_249 B hR (h0.at0 rfl) hl.1 (mX11_sizeOf fu _ h0 hc_15) (Nat.le_of_ble_eq_true rfl) dX11_emptyBehind_15 (fun H locs hR => ?_)
    refine lv_if_ne (tgt := 25) hx hb dX11_emptyBehind_18 (by decide) (fun c_18 => ?_) (fun c_18 => ?_)
    · rw [if_neg c_18] at h
      refine lv_iconst (v := 0) hx hb dX11_emptyBehind_25 (by decide) ?_
      exact wX11_emptyBehind_j26 B hr hlk ih4 h0 h hR (lv_sub hl [0, 1, 3] rfl)
    · rw [if_pos c_18] at h
      refine lv_iconst (v := 1) hx hb dX11_emptyBehind_21 (by decide) ?_
      refine lv_goto (tgt := 26) hx hb dX11_emptyBehind_22 (by decide) ?_
      exact wX11_emptyBehind_j26 B hr hlk ih4 h0 h hR (lv_sub hl [0, 1, 3] rfl)
def fX11_emptyBehind_l4 (fu : Nat) (a0 : Nat) (x1 : Int32) (M : Mm) (x2 : Int32) (x3 : Int32) : Option Int32 := lp (fun (rec : (Int32 × Int32) → Option Int32) (s : Int32 × Int32) => fX11_emptyBehind_b4 fu  (fun x2 x3 => rec (x2, x3)) a0 x1 s.1 s.2 M) fu (x2, x3)
set_option maxRecDepth 100000 in
set_option maxHeartbeats 4000000 in
theorem wX11_emptyBehind_l4 {r : Int32}   {a0 : Nat} {x1 : Int32} {x2 : Int32} {x3 : Int32} {M : Mm} (B : Bx p s m args c cX11_emptyBehind 4 RX11 E L) (hr : meth.sig.returnType = (some .int)) (hlk : meth.locks = false)  (h0 : At L a0 T11) (h : fX11_emptyBehind_l4 fu a0 x1 M x2 x3 = some r) (hR : Rx s E L M H locs) (hl : lv_has ls 4 [(0, .ref a0), (1, .int x1), (2, .int x2), (3, .int x3)]) : W p l e (rmD (d + 1)) s m args below meth c H locs 0 0 (MQ below (QcM E L (some (.int r)) M) args s 0 0 E.2.2.2) (F0 m 4 ls []) := by
  refine lp_G (G := fun z : Int32 × Int32 => ∀ (H : Heap) (locs : List Loc) (ls : Array Slot), Rx s E L M H locs → lv_has ls 4 [(0, .ref a0), (1, .int x1), (2, .int z.1), (3, .int z.2)] → W p l e (rmD (d + 1)) s m args below meth c H locs 0 0 (MQ below (QcM E L (some (.int r)) M) args s 0 0 E.2.2.2) (F0 m 4 ls [])) (fun rec ih z h H locs ls hR hl => ?_) fu _ h H locs ls hR hl
  exact wX11_emptyBehind_b4 B hr hlk  (fun x2 x3 h => ih (x2, x3) h) h0 h hR hl
def fX11_emptyBehind (fu : Nat) (a0 : Nat) (x1 : Int32) (M : Mm) : Option Int32 :=
  fX11_emptyBehind_l4 fu a0 x1 M 0 0
set_option maxRecDepth 100000 in
set_option maxHeartbeats 4000000 in
theorem mX11_emptyBehind {l : Launch} {E : Ge} {L : Lay} (fu d : Nat) {a0 : Nat} {x1 : Int32} {M : Mm} {r : Int32}  (h0 : At L a0 T11) (h : fX11_emptyBehind fu a0 x1 M = some r) : Ct l E L yX11_emptyBehind cX11_emptyBehind 4 (some .int) (d + 1) [.ref a0, .int x1] M (some (.int r)) M := by
  refine Ct.of (by decide) ?_
  intro p e s m below meth c hr hlk B hR
  have B : Bx p s m _ c cX11_emptyBehind 4 RX11 E L := B
  have hx := B.1
  have hb := B.2.1
  have hl := lv_entry ([.ref a0, .int x1]) (n := 4) (Nat.le_of_ble_eq_true rfl)
  rw [lg_entry_eq]
  generalize (lg_sl ([.ref a0, .int x1]) ++ List.replicate (4 - (lg_sl ([.ref a0, .int x1])).length) Slot.unset).toArray = ls at hl ⊢
  have hl : lv_has ls 4 [(0, .ref a0), (1, .int x1)] := hl
  unfold fX11_emptyBehind at h
  refine lv_iconst (v := 0) hx hb dX11_emptyBehind_0 (by decide) ?_
  refine lv_istore_n (lv' := [(2, .int 0), (0, .ref a0), (1, .int x1)]) hx hb dX11_emptyBehind_1 rfl hl (by decide) rfl (fun ls hl => ?_)
  refine lv_iconst (v := 0) hx hb dX11_emptyBehind_2 (by decide) ?_
  refine lv_istore_n (lv' := [(3, .int 0), (2, .int 0), (0, .ref a0), (1, .int x1)]) hx hb dX11_emptyBehind_3 rfl hl (by decide) rfl (fun ls hl => ?_)
  exact wX11_emptyBehind_l4 B hr hlk h0 h hR (lv_sub hl [2, 3, 1, 0] rfl)
def fX11_canStep_j42 (fu : Nat) (t0 : Int32) (M : Mm) : Option Int32 :=
  gd (t0 = 0 ∨ t0 = 1) <|
  some t0
set_option maxRecDepth 100000 in
set_option maxHeartbeats 4000000 in
theorem wX11_canStep_j42 {r : Int32}   {t0 : Int32} {M : Mm} (B : Bx p s m args c cX11_canStep 3 RX11 E L) (hr : meth.sig.returnType = (some .boolean)) (hlk : meth.locks = false)   (h : fX11_canStep_j42 fu t0 M = some r) (hR : Rx s E L M H locs) (hl : lv_has ls 3 []) : W p l e (rmD (d + 2)) s m args below meth c H locs 0 0 (MQ below (QcM E L (some (.int r)) M) args s 0 0 E.2.2.2) (F0 m 42 ls [.int t0]) := by
  have hx := B.1
  have hb := B.2.1
  unfold fX11_canStep_j42 at h
  obtain ⟨hz_42, h⟩ := gd_el h
  exact r_zretP B hR hr hlk hz_42 h dX11_canStep_42
def fX11_canStep_j41 (fu : Nat) (M : Mm) : Option Int32 :=
  fX11_canStep_j42 fu 0 M
set_option maxRecDepth 100000 in
set_option maxHeartbeats 4000000 in
theorem wX11_canStep_j41 {r : Int32}    {M : Mm} (B : Bx p s m args c cX11_canStep 3 RX11 E L) (hr : meth.sig.returnType = (some .boolean)) (hlk : meth.locks = false)   (h : fX11_canStep_j41 fu M = some r) (hR : Rx s E L M H locs) (hl : lv_has ls 3 []) : W p l e (rmD (d + 2)) s m args below meth c H locs 0 0 (MQ below (QcM E L (some (.int r)) M) args s 0 0 E.2.2.2) (F0 m 41 ls []) := by
  have hx := B.1
  have hb := B.2.1
  unfold fX11_canStep_j41 at h
  refine lv_iconst (v := 0) hx hb dX11_canStep_41 (by decide) ?_
  exact wX11_canStep_j42 B hr hlk  h hR hl
def fX11_canStep_j24 (fu : Nat) (a0 : Nat) (x1 : Int32) (x2 : Int32) (M : Mm) : Option Int32 :=
  if (x1 ||| (1 <<< (x2 &&& 31))) < 0 ∨ 4096 ≤ ix (x1 ||| (1 <<< (x2 &&& 31))) then none else
  if (M.1 (a0 + 22) (ix (x1 ||| (1 <<< (x2 &&& 31))))) = 0 then
    fX11_canStep_j41 fu M
  else
    fX11_canStep_j42 fu 1 M
set_option maxRecDepth 100000 in
set_option maxHeartbeats 4000000 in
theorem wX11_canStep_j24 {r : Int32}   {a0 : Nat} {x1 : Int32} {x2 : Int32} {M : Mm} (B : Bx p s m args c cX11_canStep 3 RX11 E L) (hr : meth.sig.returnType = (some .boolean)) (hlk : meth.locks = false)  (h0 : At L a0 T11) (h : fX11_canStep_j24 fu a0 x1 x2 M = some r) (hR : Rx s E L M H locs) (hl : lv_has ls 3 [(0, .ref a0), (1, .int x1), (2, .int x2)]) : W p l e (rmD (d + 2)) s m args below meth c H locs 0 0 (MQ below (QcM E L (some (.int r)) M) args s 0 0 E.2.2.2) (F0 m 24 ls []) := by
  have hx := B.1
  have hb := B.2.1
  unfold fX11_canStep_j24 at h
  refine lv_aload_n hx hb dX11_canStep_24 rfl (lv_at hl 0 rfl) ?_
  refine gf_X11_79 B hR (h0.at0 rfl) dX11_canStep_25 ?_
  refine lv_iload_n hx hb dX11_canStep_28 rfl (lv_at hl 1 rfl) ?_
  refine lv_iconst (v := 1) hx hb dX11_canStep_29 (by decide) ?_
  refine lv_iload_n hx hb dX11_canStep_30 rfl (lv_at hl 2 rfl) ?_
  refine lv_ishl hx hb dX11_canStep_31 ?_
  refine lv_ior hx hb dX11_canStep_32 ?_
  obtain ⟨hi_33, h⟩ := ifn_el h
  refine r_zald B hR (h0.at 22 rfl) hi_33 dX11_canStep_33 ?_
  refine lv_if_eq (tgt := 41) hx hb dX11_canStep_34 (by decide) (fun c_34 => ?_) (fun c_34 => ?_)
  · rw [if_pos c_34] at h
    exact wX11_canStep_j41 B hr hlk  h hR (lv_sub hl [] rfl)
  · rw [if_neg c_34] at h
    refine lv_iconst (v := 1) hx hb dX11_canStep_37 (by decide) ?_
    refine lv_goto (tgt := 42) hx hb dX11_canStep_38 (by decide) ?_
    exact wX11_canStep_j42 B hr hlk  h hR (lv_sub hl [] rfl)
def fX11_canStep (fu : Nat) (a0 : Nat) (x1 : Int32) (x2 : Int32) (M : Mm) : Option Int32 :=
  if ((x1 >>> (x2 &&& 31)) &&& 1) = 0 then
    if x2 < (M.1 a0 40) then
      fX11_canStep_j24 fu a0 x1 x2 M
    else
      bi (fX11_emptyBehind fu a0 x1 M) fun r_18 =>
      if r_18 ≤ 0 then
        fX11_canStep_j41 fu M
      else
        fX11_canStep_j24 fu a0 x1 x2 M
  else
    fX11_canStep_j41 fu M
set_option maxRecDepth 100000 in
set_option maxHeartbeats 4000000 in
theorem mX11_canStep {l : Launch} {E : Ge} {L : Lay} (fu d : Nat) {a0 : Nat} {x1 : Int32} {x2 : Int32} {M : Mm} {r : Int32}  (h0 : At L a0 T11) (h : fX11_canStep fu a0 x1 x2 M = some r) : Ct l E L yX11_canStep cX11_canStep 3 (some .boolean) (d + 2) [.ref a0, .int x1, .int x2] M (some (.int r)) M := by
  refine Ct.of (by decide) ?_
  intro p e s m below meth c hr hlk B hR
  have B : Bx p s m _ c cX11_canStep 3 RX11 E L := B
  have hx := B.1
  have hb := B.2.1
  have hl := lv_entry ([.ref a0, .int x1, .int x2]) (n := 3) (Nat.le_of_ble_eq_true rfl)
  rw [lg_entry_eq]
  generalize (lg_sl ([.ref a0, .int x1, .int x2]) ++ List.replicate (3 - (lg_sl ([.ref a0, .int x1, .int x2])).length) Slot.unset).toArray = ls at hl ⊢
  have hl : lv_has ls 3 [(0, .ref a0), (1, .int x1), (2, .int x2)] := hl
  unfold fX11_canStep at h
  refine lv_iload_n hx hb dX11_canStep_0 rfl (lv_at hl 1 rfl) ?_
  refine lv_iload_n hx hb dX11_canStep_1 rfl (lv_at hl 2 rfl) ?_
  refine lv_ishr hx hb dX11_canStep_2 ?_
  refine lv_iconst (v := 1) hx hb dX11_canStep_3 (by decide) ?_
  refine lv_iand hx hb dX11_canStep_4 ?_
  refine lv_if_ne (tgt := 41) hx hb dX11_canStep_5 (by decide) (fun c_5 => ?_) (fun c_5 => ?_)
  · rw [if_neg c_5] at h
    exact wX11_canStep_j41 B hr hlk  h hR (lv_sub hl [] rfl)
  · rw [if_pos c_5] at h
    refine lv_iload_n hx hb dX11_canStep_8 rfl (lv_at hl 2 rfl) ?_
    refine lv_aload_n hx hb dX11_canStep_9 rfl (lv_at hl 0 rfl) ?_
    refine gf_X11_435 B hR (h0.at0 rfl) dX11_canStep_10 ?_
    refine lv_icmp_lt (tgt := 24) hx hb dX11_canStep_13 (by decide) (fun c_13 => ?_) (fun c_13 => ?_)
    · rw [if_pos c_13] at h
      exact wX11_canStep_j24 B hr hlk h0 h hR hl
    · rw [if_neg c_13] at h
      refine lv_aload_n hx hb dX11_canStep_16 rfl (lv_at hl 0 rfl) ?_
      refine lv_iload_n hx hb dX11_canStep_17 rfl (lv_at hl 1 rfl) ?_
      obtain ⟨r_18, hc_18, h⟩ := bi_el h
      refine iv_X11_450 B hR (h0.at0 rfl) hl.1 (mX11_emptyBehind fu _ h0 hc_18) (Nat.le_of_ble_eq_true rfl) dX11_canStep_18 (fun H locs hR => ?_)
      refine lv_if_le (tgt := 41) hx hb dX11_canStep_21 (by decide) (fun c_21 => ?_) (fun c_21 => ?_)
      · rw [if_pos c_21] at h
        exact wX11_canStep_j41 B hr hlk  h hR (lv_sub hl [] rfl)
      · rw [if_neg c_21] at h
        exact wX11_canStep_j24 B hr hlk h0 h hR hl
def fX11_layChange_j24 (fu : Nat) (M : Mm) : Option (Int32 × Mm) :=
  some (0, M)
set_option maxRecDepth 100000 in
set_option maxHeartbeats 4000000 in
theorem wX11_layChange_j24 {r : Int32} {M' : Mm}    {M : Mm} (B : Bx p s m args c cX11_layChange 5 RX11 E L) (hr : meth.sig.returnType = (some .boolean)) (hlk : meth.locks = false)   (h : fX11_layChange_j24 fu M = some (r, M')) (hR : Rx s E L M H locs) (hl : lv_has ls 5 []) : W p l e (rmD (d + 8)) s m args below meth c H locs 0 0 (MQ below (QcM E L (some (.int r)) M') args s 0 0 E.2.2.2) (F0 m 24 ls []) := by
  have hx := B.1
  have hb := B.2.1
  unfold fX11_layChange_j24 at h
  refine lv_iconst (v := 0) hx hb dX11_layChange_24 (by decide) ?_
  exact r_zretW B hR hr hlk (Or.inl rfl) h dX11_layChange_25
def fX11_layChange_j119 (fu : Nat) (M : Mm) : Option (Int32 × Mm) :=
  some (1, M)
set_option maxRecDepth 100000 in
set_option maxHeartbeats 4000000 in
theorem wX11_layChange_j119 {r : Int32} {M' : Mm}    {M : Mm} (B : Bx p s m args c cX11_layChange 5 RX11 E L) (hr : meth.sig.returnType = (some .boolean)) (hlk : meth.locks = false)   (h : fX11_layChange_j119 fu M = some (r, M')) (hR : Rx s E L M H locs) (hl : lv_has ls 5 []) : W p l e (rmD (d + 8)) s m args below meth c H locs 0 0 (MQ below (QcM E L (some (.int r)) M') args s 0 0 E.2.2.2) (F0 m 119 ls []) := by
  have hx := B.1
  have hb := B.2.1
  unfold fX11_layChange_j119 at h
  refine lv_iconst (v := 1) hx hb dX11_layChange_119 (by decide) ?_
  exact r_zretW B hR hr hlk (Or.inr rfl) h dX11_layChange_120
def fX11_layChange_j112 (fu : Nat) (k41 : Int32 → Mm → Option (Int32 × Mm)) (a0 : Nat) (x1 : Int32) (x2 : Int32) (b0 : Nat) (t1 : Int32) (t2 : Int32) (M : Mm) : Option (Int32 × Mm) :=
  if t1 < 0 ∨ 4096 ≤ ix t1 then none else
  lt (wI M b0 (ix t1) (vp_nar .boolean t2)) fun M_112 =>
  lt (x2 + (-1)) fun x2_113 =>
  k41 x2_113 M_112
set_option maxRecDepth 100000 in
set_option maxHeartbeats 4000000 in
theorem wX11_layChange_j112 {r : Int32} {M' : Mm}  {k41 : Int32 → Mm → Option (Int32 × Mm)} {a0 : Nat} {x1 : Int32} {x2 : Int32} {b0 : Nat} {t1 : Int32} {t2 : Int32} {M : Mm} (B : Bx p s m args c cX11_layChange 5 RX11 E L) (hr : meth.sig.returnType = (some .boolean)) (hlk : meth.locks = false) (ih41 : ∀ (x2 : Int32) (M : Mm), k41 x2 M = some (r, M') → ∀ (H : Heap) (locs : List Loc) (ls : Array Slot), Rx s E L M H locs → lv_has ls 5 [(0, .ref a0), (1, .int x1), (2, .int x2)] → W p l e (rmD (d + 8)) s m args below meth c H locs 0 0 (MQ below (QcM E L (some (.int r)) M') args s 0 0 E.2.2.2) (F0 m 41 ls [])) (h0 : At L a0 T11) (g0 : (b0, (1, 4096)) ∈ L) (h : fX11_layChange_j112 fu k41 a0 x1 x2 b0 t1 t2 M = some (r, M')) (hR : Rx s E L M H locs) (hl : lv_has ls 5 [(0, .ref a0), (1, .int x1), (2, .int x2)]) : W p l e (rmD (d + 8)) s m args below meth c H locs 0 0 (MQ below (QcM E L (some (.int r)) M') args s 0 0 E.2.2.2) (F0 m 112 ls [.int t2, .int t1, .ref b0]) := by
  have hx := B.1
  have hb := B.2.1
  unfold fX11_layChange_j112 at h
  obtain ⟨hi_112, h⟩ := ifn_el h
  obtain ⟨M_112, eM_112, h⟩ := lt_el h
  refine r_zast B hR g0 hi_112 dX11_layChange_112 (fun H locs hR => ?_)
  rw [← eM_112] at hR
  obtain ⟨x2_113, ex2_113, h⟩ := lt_el h
  refine lv_iinc (v := x2_113) (lv' := [(2, .int x2_113), (0, .ref a0), (1, .int x1)]) hx hb dX11_layChange_113 hl (k := 2) rfl (by rw [ex2_113]; rfl) (by decide) rfl (fun ls hl => ?_)
  refine lv_goto (tgt := 41) hx hb dX11_layChange_116 (by decide) ?_
  exact ih41 x2_113 M_112 h _ _ _ hR (lv_sub hl [1, 2, 0] rfl)
def fX11_layChange_j111 (fu : Nat) (k41 : Int32 → Mm → Option (Int32 × Mm)) (a0 : Nat) (x1 : Int32) (x2 : Int32) (b0 : Nat) (t1 : Int32) (M : Mm) : Option (Int32 × Mm) :=
  fX11_layChange_j112 fu k41 a0 x1 x2 b0 t1 0 M
set_option maxRecDepth 100000 in
set_option maxHeartbeats 4000000 in
theorem wX11_layChange_j111 {r : Int32} {M' : Mm}  {k41 : Int32 → Mm → Option (Int32 × Mm)} {a0 : Nat} {x1 : Int32} {x2 : Int32} {b0 : Nat} {t1 : Int32} {M : Mm} (B : Bx p s m args c cX11_layChange 5 RX11 E L) (hr : meth.sig.returnType = (some .boolean)) (hlk : meth.locks = false) (ih41 : ∀ (x2 : Int32) (M : Mm), k41 x2 M = some (r, M') → ∀ (H : Heap) (locs : List Loc) (ls : Array Slot), Rx s E L M H locs → lv_has ls 5 [(0, .ref a0), (1, .int x1), (2, .int x2)] → W p l e (rmD (d + 8)) s m args below meth c H locs 0 0 (MQ below (QcM E L (some (.int r)) M') args s 0 0 E.2.2.2) (F0 m 41 ls [])) (h0 : At L a0 T11) (g0 : (b0, (1, 4096)) ∈ L) (h : fX11_layChange_j111 fu k41 a0 x1 x2 b0 t1 M = some (r, M')) (hR : Rx s E L M H locs) (hl : lv_has ls 5 [(0, .ref a0), (1, .int x1), (2, .int x2)]) : W p l e (rmD (d + 8)) s m args below meth c H locs 0 0 (MQ below (QcM E L (some (.int r)) M') args s 0 0 E.2.2.2) (F0 m 111 ls [.int t1, .ref b0]) := by
  have hx := B.1
  have hb := B.2.1
  unfold fX11_layChange_j111 at h
  refine lv_iconst (v := 0) hx hb dX11_layChange_111 (by decide) ?_
  exact wX11_layChange_j112 B hr hlk ih41 h0 g0 h hR hl
def fX11_layChange_j107 (fu : Nat) (k41 : Int32 → Mm → Option (Int32 × Mm)) (a0 : Nat) (x1 : Int32) (x2 : Int32) (b0 : Nat) (t1 : Int32) (M : Mm) : Option (Int32 × Mm) :=
  fX11_layChange_j112 fu k41 a0 x1 x2 b0 t1 1 M
set_option maxRecDepth 100000 in
set_option maxHeartbeats 4000000 in
theorem wX11_layChange_j107 {r : Int32} {M' : Mm}  {k41 : Int32 → Mm → Option (Int32 × Mm)} {a0 : Nat} {x1 : Int32} {x2 : Int32} {b0 : Nat} {t1 : Int32} {M : Mm} (B : Bx p s m args c cX11_layChange 5 RX11 E L) (hr : meth.sig.returnType = (some .boolean)) (hlk : meth.locks = false) (ih41 : ∀ (x2 : Int32) (M : Mm), k41 x2 M = some (r, M') → ∀ (H : Heap) (locs : List Loc) (ls : Array Slot), Rx s E L M H locs → lv_has ls 5 [(0, .ref a0), (1, .int x1), (2, .int x2)] → W p l e (rmD (d + 8)) s m args below meth c H locs 0 0 (MQ below (QcM E L (some (.int r)) M') args s 0 0 E.2.2.2) (F0 m 41 ls [])) (h0 : At L a0 T11) (g0 : (b0, (1, 4096)) ∈ L) (h : fX11_layChange_j107 fu k41 a0 x1 x2 b0 t1 M = some (r, M')) (hR : Rx s E L M H locs) (hl : lv_has ls 5 [(0, .ref a0), (1, .int x1), (2, .int x2)]) : W p l e (rmD (d + 8)) s m args below meth c H locs 0 0 (MQ below (QcM E L (some (.int r)) M') args s 0 0 E.2.2.2) (F0 m 107 ls [.int t1, .ref b0]) := by
  have hx := B.1
  have hb := B.2.1
  unfold fX11_layChange_j107 at h
  refine lv_iconst (v := 1) hx hb dX11_layChange_107 (by decide) ?_
  refine lv_goto (tgt := 112) hx hb dX11_layChange_108 (by decide) ?_
  exact wX11_layChange_j112 B hr hlk ih41 h0 g0 h hR hl
def fX11_layChange_j86 (fu : Nat) (k41 : Int32 → Mm → Option (Int32 × Mm)) (a0 : Nat) (x1 : Int32) (x2 : Int32) (x3 : Int32) (M : Mm) : Option (Int32 × Mm) :=
  if x3 = 0 then
    fX11_layChange_j111 fu k41 a0 x1 x2 (a0 + 22) x2 M
  else
    if x2 = 0 then
      fX11_layChange_j107 fu k41 a0 x1 x2 (a0 + 22) x2 M
    else
      bi (fX11_isSafe fu a0 x2 M) fun r_101 =>
      if r_101 = 0 then
        fX11_layChange_j111 fu k41 a0 x1 x2 (a0 + 22) x2 M
      else
        fX11_layChange_j107 fu k41 a0 x1 x2 (a0 + 22) x2 M
set_option maxRecDepth 100000 in
set_option maxHeartbeats 4000000 in
theorem wX11_layChange_j86 {r : Int32} {M' : Mm}  {k41 : Int32 → Mm → Option (Int32 × Mm)} {a0 : Nat} {x1 : Int32} {x2 : Int32} {x3 : Int32} {M : Mm} (B : Bx p s m args c cX11_layChange 5 RX11 E L) (hr : meth.sig.returnType = (some .boolean)) (hlk : meth.locks = false) (ih41 : ∀ (x2 : Int32) (M : Mm), k41 x2 M = some (r, M') → ∀ (H : Heap) (locs : List Loc) (ls : Array Slot), Rx s E L M H locs → lv_has ls 5 [(0, .ref a0), (1, .int x1), (2, .int x2)] → W p l e (rmD (d + 8)) s m args below meth c H locs 0 0 (MQ below (QcM E L (some (.int r)) M') args s 0 0 E.2.2.2) (F0 m 41 ls [])) (h0 : At L a0 T11) (h : fX11_layChange_j86 fu k41 a0 x1 x2 x3 M = some (r, M')) (hR : Rx s E L M H locs) (hl : lv_has ls 5 [(0, .ref a0), (1, .int x1), (2, .int x2), (3, .int x3)]) : W p l e (rmD (d + 8)) s m args below meth c H locs 0 0 (MQ below (QcM E L (some (.int r)) M') args s 0 0 E.2.2.2) (F0 m 86 ls []) := by
  have hx := B.1
  have hb := B.2.1
  unfold fX11_layChange_j86 at h
  refine lv_aload_n hx hb dX11_layChange_86 rfl (lv_at hl 0 rfl) ?_
  refine gf_X11_79 B hR (h0.at0 rfl) dX11_layChange_87 ?_
  refine lv_iload_n hx hb dX11_layChange_90 rfl (lv_at hl 2 rfl) ?_
  refine lv_iload_n hx hb dX11_layChange_91 rfl (lv_at hl 3 rfl) ?_
  refine lv_if_eq (tgt := 111) hx hb dX11_layChange_92 (by decide) (fun c_92 => ?_) (fun c_92 => ?_)
  · rw [if_pos c_92] at h
    exact wX11_layChange_j111 B hr hlk ih41 h0 (h0.at 22 rfl) h hR (lv_sub hl [0, 1, 2] rfl)
  · rw [if_neg c_92] at h
    refine lv_iload_n hx hb dX11_layChange_95 rfl (lv_at hl 2 rfl) ?_
    refine lv_if_eq (tgt := 107) hx hb dX11_layChange_96 (by decide) (fun c_96 => ?_) (fun c_96 => ?_)
    · rw [if_pos c_96] at h
      exact wX11_layChange_j107 B hr hlk ih41 h0 (h0.at 22 rfl) h hR (lv_sub hl [0, 1, 2] rfl)
    · rw [if_neg c_96] at h
      refine lv_aload_n hx hb dX11_layChange_99 rfl (lv_at hl 0 rfl) ?_
      refine lv_iload_n hx hb dX11_layChange_100 rfl (lv_at hl 2 rfl) ?_
      obtain ⟨r_101, hc_101, h⟩ := bi_el h
      refine iv_X11_462 B hR (h0.at0 rfl) hl.1 (mX11_isSafe fu _ h0 hc_101) (Nat.le_of_ble_eq_true rfl) dX11_layChange_101 (fun H locs hR => ?_)
      refine lv_if_eq (tgt := 111) hx hb dX11_layChange_104 (by decide) (fun c_104 => ?_) (fun c_104 => ?_)
      · rw [if_pos c_104] at h
        exact wX11_layChange_j111 B hr hlk ih41 h0 (h0.at 22 rfl) h hR (lv_sub hl [0, 1, 2] rfl)
      · rw [if_neg c_104] at h
        exact wX11_layChange_j107 B hr hlk ih41 h0 (h0.at 22 rfl) h hR (lv_sub hl [0, 1, 2] rfl)
def fX11_layChange_b59 (fu : Nat) (k41 : Int32 → Mm → Option (Int32 × Mm)) (k59 : Int32 → Int32 → Option (Int32 × Mm)) (a0 : Nat) (x1 : Int32) (x2 : Int32) (x3 : Int32) (x4 : Int32) (M : Mm) : Option (Int32 × Mm) :=
  if (M.1 a0 39) ≤ x4 then
    fX11_layChange_j86 fu k41 a0 x1 x2 x3 M
  else
    if x3 = 0 then
      bi (fX11_canStep fu a0 x2 x4 M) fun r_76 =>
      lt (x4 + 1) fun x4_80 =>
      k59 r_76 x4_80
    else
      fX11_layChange_j86 fu k41 a0 x1 x2 x3 M
set_option maxRecDepth 100000 in
set_option maxHeartbeats 4000000 in
theorem wX11_layChange_b59 {r : Int32} {M' : Mm}  {k41 : Int32 → Mm → Option (Int32 × Mm)} {k59 : Int32 → Int32 → Option (Int32 × Mm)} {a0 : Nat} {x1 : Int32} {x2 : Int32} {x3 : Int32} {x4 : Int32} {M : Mm} (B : Bx p s m args c cX11_layChange 5 RX11 E L) (hr : meth.sig.returnType = (some .boolean)) (hlk : meth.locks = false) (ih41 : ∀ (x2 : Int32) (M : Mm), k41 x2 M = some (r, M') → ∀ (H : Heap) (locs : List Loc) (ls : Array Slot), Rx s E L M H locs → lv_has ls 5 [(0, .ref a0), (1, .int x1), (2, .int x2)] → W p l e (rmD (d + 8)) s m args below meth c H locs 0 0 (MQ below (QcM E L (some (.int r)) M') args s 0 0 E.2.2.2) (F0 m 41 ls [])) (ih59 : ∀ (x3 : Int32) (x4 : Int32), k59 x3 x4 = some (r, M') → ∀ (H : Heap) (locs : List Loc) (ls : Array Slot), Rx s E L M H locs → lv_has ls 5 [(0, .ref a0), (1, .int x1), (2, .int x2), (3, .int x3), (4, .int x4)] → W p l e (rmD (d + 8)) s m args below meth c H locs 0 0 (MQ below (QcM E L (some (.int r)) M') args s 0 0 E.2.2.2) (F0 m 59 ls [])) (h0 : At L a0 T11) (h : fX11_layChange_b59 fu k41 k59 a0 x1 x2 x3 x4 M = some (r, M')) (hR : Rx s E L M H locs) (hl : lv_has ls 5 [(0, .ref a0), (1, .int x1), (2, .int x2), (3, .int x3), (4, .int x4)]) : W p l e (rmD (d + 8)) s m args below meth c H locs 0 0 (MQ below (QcM E L (some (.int r)) M') args s 0 0 E.2.2.2) (F0 m 59 ls []) := by
  have hx := B.1
  have hb := B.2.1
  unfold fX11_layChange_b59 at h
  refine lv_iload hx hb dX11_layChange_59 (lv_at hl 4 rfl) ?_
  refine lv_aload_n hx hb dX11_layChange_61 rfl (lv_at hl 0 rfl) ?_
  refine gf_X11_429 B hR (h0.at0 rfl) dX11_layChange_62 ?_
  refine lv_icmp_ge (tgt := 86) hx hb dX11_layChange_65 (by decide) (fun c_65 => ?_) (fun c_65 => ?_)
  · rw [if_pos c_65] at h
    exact wX11_layChange_j86 B hr hlk ih41 h0 h hR (lv_sub hl [0, 1, 2, 3] rfl)
  · rw [if_neg c_65] at h
    refine lv_iload_n hx hb dX11_layChange_68 rfl (lv_at hl 3 rfl) ?_
    refine lv_if_ne (tgt := 86) hx hb dX11_layChange_69 (by decide) (fun c_69 => ?_) (fun c_69 => ?_)
    · rw [if_neg c_69] at h
      exact wX11_layChange_j86 B hr hlk ih41 h0 h hR (lv_sub hl [0, 1, 2, 3] rfl)
    · rw [if_pos c_69] at h
      refine lv_aload_n hx hb dX11_layChange_72 rfl (lv_at hl 0 rfl) ?_
      refine lv_iload_n hx hb dX11_layChange_73 rfl (lv_at hl 2 rfl) ?_
      refine lv_iload hx hb dX11_layChange_74 (lv_at hl 4 rfl) ?_
      obtain ⟨r_76, hc_76, h⟩ := bi_el h
      refine iv_X11_459 B hR (h0.at0 rfl) hl.1 (mX11_canStep fu _ h0 hc_76) (Nat.le_of_ble_eq_true rfl) dX11_layChange_76 (fun H locs hR => ?_)
      refine lv_istore_n (lv' := [(3, .int r_76), (0, .ref a0), (1, .int x1), (2, .int x2), (4, .int x4)]) hx hb dX11_layChange_79 rfl hl (by decide) rfl (fun ls hl => ?_)
      obtain ⟨x4_80, ex4_80, h⟩ := lt_el h
      refine lv_iinc (v := x4_80) (lv' := [(4, .int x4_80), (3, .int r_76), (0, .ref a0), (1, .int x1), (2, .int x2)]) hx hb dX11_layChange_80 hl (k := 4) rfl (by rw [ex4_80]; rfl) (by decide) rfl (fun ls hl => ?_)
      refine lv_goto (tgt := 59) hx hb dX11_layChange_83 (by decide) ?_
      exact ih59 r_76 x4_80 h _ _ _ hR (lv_sub hl [2, 3, 4, 1, 0] rfl)
def fX11_layChange_l59 (fu : Nat) (k41 : Int32 → Mm → Option (Int32 × Mm)) (a0 : Nat) (x1 : Int32) (x2 : Int32) (M : Mm) (x3 : Int32) (x4 : Int32) : Option (Int32 × Mm) := lp (fun (rec : (Int32 × Int32) → Option (Int32 × Mm)) (s : Int32 × Int32) => fX11_layChange_b59 fu k41 (fun x3 x4 => rec (x3, x4)) a0 x1 x2 s.1 s.2 M) fu (x3, x4)
set_option maxRecDepth 100000 in
set_option maxHeartbeats 4000000 in
theorem wX11_layChange_l59 {r : Int32} {M' : Mm}  {k41 : Int32 → Mm → Option (Int32 × Mm)} {a0 : Nat} {x1 : Int32} {x2 : Int32} {x3 : Int32} {x4 : Int32} {M : Mm} (B : Bx p s m args c cX11_layChange 5 RX11 E L) (hr : meth.sig.returnType = (some .boolean)) (hlk : meth.locks = false) (ih41 : ∀ (x2 : Int32) (M : Mm), k41 x2 M = some (r, M') → ∀ (H : Heap) (locs : List Loc) (ls : Array Slot), Rx s E L M H locs → lv_has ls 5 [(0, .ref a0), (1, .int x1), (2, .int x2)] → W p l e (rmD (d + 8)) s m args below meth c H locs 0 0 (MQ below (QcM E L (some (.int r)) M') args s 0 0 E.2.2.2) (F0 m 41 ls [])) (h0 : At L a0 T11) (h : fX11_layChange_l59 fu k41 a0 x1 x2 M x3 x4 = some (r, M')) (hR : Rx s E L M H locs) (hl : lv_has ls 5 [(0, .ref a0), (1, .int x1), (2, .int x2), (3, .int x3), (4, .int x4)]) : W p l e (rmD (d + 8)) s m args below meth c H locs 0 0 (MQ below (QcM E L (some (.int r)) M') args s 0 0 E.2.2.2) (F0 m 59 ls []) := by
  refine lp_G (G := fun z : Int32 × Int32 => ∀ (H : Heap) (locs : List Loc) (ls : Array Slot), Rx s E L M H locs → lv_has ls 5 [(0, .ref a0), (1, .int x1), (2, .int x2), (3, .int z.1), (4, .int z.2)] → W p l e (rmD (d + 8)) s m args below meth c H locs 0 0 (MQ below (QcM E L (some (.int r)) M') args s 0 0 E.2.2.2) (F0 m 59 ls [])) (fun rec ih z h H locs ls hR hl => ?_) fu _ h H locs ls hR hl
  exact wX11_layChange_b59 B hr hlk ih41 (fun x3 x4 h => ih (x3, x4) h) h0 h hR hl
def fX11_layChange_j55 (fu : Nat) (k41 : Int32 → Mm → Option (Int32 × Mm)) (a0 : Nat) (x1 : Int32) (x2 : Int32) (t0 : Int32) (M : Mm) : Option (Int32 × Mm) :=
  fX11_layChange_l59 fu k41 a0 x1 x2 M t0 0
set_option maxRecDepth 100000 in
set_option maxHeartbeats 4000000 in
theorem wX11_layChange_j55 {r : Int32} {M' : Mm}  {k41 : Int32 → Mm → Option (Int32 × Mm)} {a0 : Nat} {x1 : Int32} {x2 : Int32} {t0 : Int32} {M : Mm} (B : Bx p s m args c cX11_layChange 5 RX11 E L) (hr : meth.sig.returnType = (some .boolean)) (hlk : meth.locks = false) (ih41 : ∀ (x2 : Int32) (M : Mm), k41 x2 M = some (r, M') → ∀ (H : Heap) (locs : List Loc) (ls : Array Slot), Rx s E L M H locs → lv_has ls 5 [(0, .ref a0), (1, .int x1), (2, .int x2)] → W p l e (rmD (d + 8)) s m args below meth c H locs 0 0 (MQ below (QcM E L (some (.int r)) M') args s 0 0 E.2.2.2) (F0 m 41 ls [])) (h0 : At L a0 T11) (h : fX11_layChange_j55 fu k41 a0 x1 x2 t0 M = some (r, M')) (hR : Rx s E L M H locs) (hl : lv_has ls 5 [(0, .ref a0), (1, .int x1), (2, .int x2)]) : W p l e (rmD (d + 8)) s m args below meth c H locs 0 0 (MQ below (QcM E L (some (.int r)) M') args s 0 0 E.2.2.2) (F0 m 55 ls [.int t0]) := by
  have hx := B.1
  have hb := B.2.1
  unfold fX11_layChange_j55 at h
  refine lv_istore_n (lv' := [(3, .int t0), (0, .ref a0), (1, .int x1), (2, .int x2)]) hx hb dX11_layChange_55 rfl hl (by decide) rfl (fun ls hl => ?_)
  refine lv_iconst (v := 0) hx hb dX11_layChange_56 (by decide) ?_
  refine lv_istore (lv' := [(4, .int 0), (3, .int t0), (0, .ref a0), (1, .int x1), (2, .int x2)]) hx hb dX11_layChange_57 hl (by decide) rfl (fun ls hl => ?_)
  exact wX11_layChange_l59 B hr hlk ih41 h0 h hR (lv_sub hl [2, 3, 4, 1, 0] rfl)
def fX11_layChange_b41 (fu : Nat) (k41 : Int32 → Mm → Option (Int32 × Mm)) (a0 : Nat) (x1 : Int32) (x2 : Int32) (M : Mm) : Option (Int32 × Mm) :=
  if x2 < 0 then
    fX11_layChange_j119 fu M
  else
    if x2 = x1 then
      fX11_layChange_j55 fu k41 a0 x1 x2 1 M
    else
      fX11_layChange_j55 fu k41 a0 x1 x2 0 M
set_option maxRecDepth 100000 in
set_option maxHeartbeats 4000000 in
theorem wX11_layChange_b41 {r : Int32} {M' : Mm}   {k41 : Int32 → Mm → Option (Int32 × Mm)} {a0 : Nat} {x1 : Int32} {x2 : Int32} {M : Mm} (B : Bx p s m args c cX11_layChange 5 RX11 E L) (hr : meth.sig.returnType = (some .boolean)) (hlk : meth.locks = false)  (ih41 : ∀ (x2 : Int32) (M : Mm), k41 x2 M = some (r, M') → ∀ (H : Heap) (locs : List Loc) (ls : Array Slot), Rx s E L M H locs → lv_has ls 5 [(0, .ref a0), (1, .int x1), (2, .int x2)] → W p l e (rmD (d + 8)) s m args below meth c H locs 0 0 (MQ below (QcM E L (some (.int r)) M') args s 0 0 E.2.2.2) (F0 m 41 ls [])) (h0 : At L a0 T11) (h : fX11_layChange_b41 fu k41 a0 x1 x2 M = some (r, M')) (hR : Rx s E L M H locs) (hl : lv_has ls 5 [(0, .ref a0), (1, .int x1), (2, .int x2)]) : W p l e (rmD (d + 8)) s m args below meth c H locs 0 0 (MQ below (QcM E L (some (.int r)) M') args s 0 0 E.2.2.2) (F0 m 41 ls []) := by
  have hx := B.1
  have hb := B.2.1
  unfold fX11_layChange_b41 at h
  refine lv_iload_n hx hb dX11_layChange_41 rfl (lv_at hl 2 rfl) ?_
  refine lv_if_lt (tgt := 119) hx hb dX11_layChange_42 (by decide) (fun c_42 => ?_) (fun c_42 => ?_)
  · rw [if_pos c_42] at h
    exact wX11_layChange_j119 B hr hlk  h hR (lv_sub hl [] rfl)
  · rw [if_neg c_42] at h
    refine lv_iload_n hx hb dX11_layChange_45 rfl (lv_at hl 2 rfl) ?_
    refine lv_iload_n hx hb dX11_layChange_46 rfl (lv_at hl 1 rfl) ?_
    refine lv_icmp_ne (tgt := 54) hx hb dX11_layChange_47 (by decide) (fun c_47 => ?_) (fun c_47 => ?_)
    · rw [if_neg c_47] at h
      refine lv_iconst (v := 0) hx hb dX11_layChange_54 (by decide) ?_
      exact wX11_layChange_j55 B hr hlk ih41 h0 h hR hl
    · rw [if_pos c_47] at h
      refine lv_iconst (v := 1) hx hb dX11_layChange_50 (by decide) ?_
      refine lv_goto (tgt := 55) hx hb dX11_layChange_51 (by decide) ?_
      exact wX11_layChange_j55 B hr hlk ih41 h0 h hR hl
def fX11_layChange_l41 (fu : Nat) (a0 : Nat) (x1 : Int32) (x2 : Int32) (M : Mm) : Option (Int32 × Mm) := lp (fun (rec : (Int32 × Mm) → Option (Int32 × Mm)) (s : Int32 × Mm) => fX11_layChange_b41 fu  (fun x2 M => rec (x2, M)) a0 x1 s.1 s.2) fu (x2, M)
set_option maxRecDepth 100000 in
set_option maxHeartbeats 4000000 in
theorem wX11_layChange_l41 {r : Int32} {M' : Mm}   {a0 : Nat} {x1 : Int32} {x2 : Int32} {M : Mm} (B : Bx p s m args c cX11_layChange 5 RX11 E L) (hr : meth.sig.returnType = (some .boolean)) (hlk : meth.locks = false)  (h0 : At L a0 T11) (h : fX11_layChange_l41 fu a0 x1 x2 M = some (r, M')) (hR : Rx s E L M H locs) (hl : lv_has ls 5 [(0, .ref a0), (1, .int x1), (2, .int x2)]) : W p l e (rmD (d + 8)) s m args below meth c H locs 0 0 (MQ below (QcM E L (some (.int r)) M') args s 0 0 E.2.2.2) (F0 m 41 ls []) := by
  refine lp_G (G := fun z : Int32 × Mm => ∀ (H : Heap) (locs : List Loc) (ls : Array Slot), Rx s E L z.2 H locs → lv_has ls 5 [(0, .ref a0), (1, .int x1), (2, .int z.1)] → W p l e (rmD (d + 8)) s m args below meth c H locs 0 0 (MQ below (QcM E L (some (.int r)) M') args s 0 0 E.2.2.2) (F0 m 41 ls [])) (fun rec ih z h H locs ls hR hl => ?_) fu _ h H locs ls hR hl
  exact wX11_layChange_b41 B hr hlk  (fun x2 M h => ih (x2, M) h) h0 h hR hl
def fX11_layChange (fu : Nat) (a0 : Nat) (M : Mm) : Option (Int32 × Mm) :=
  bm (fX11_laySteps fu a0 M) fun M_1 =>
  bi (fX11_registersNow fu a0 M_1) fun r_9 =>
  if r_9 < (M_1.1 a0 33) then
    fX11_layChange_j24 fu M_1
  else
    if (M_1.1 a0 39) ≤ 12 then
      bm (fX11_layEdges fu a0 M_1) fun M_27 =>
      lt (((1 <<< ((M_27.1 a0 39) &&& 31)) - 1)) fun x1_38 =>
      fX11_layChange_l41 fu a0 x1_38 x1_38 M_27
    else
      fX11_layChange_j24 fu M_1
set_option maxRecDepth 100000 in
set_option maxHeartbeats 4000000 in
theorem mX11_layChange {l : Launch} {E : Ge} {L : Lay} (fu d : Nat) {a0 : Nat} {M : Mm} {r : Int32} {M' : Mm}  (h0 : At L a0 T11) (h : fX11_layChange fu a0 M = some (r, M')) : Ct l E L yX11_layChange cX11_layChange 5 (some .boolean) (d + 8) [.ref a0] M (some (.int r)) M' := by
  refine Ct.of (by decide) ?_
  intro p e s m below meth c hr hlk B hR
  have B : Bx p s m _ c cX11_layChange 5 RX11 E L := B
  have hx := B.1
  have hb := B.2.1
  have hl := lv_entry ([.ref a0]) (n := 5) (Nat.le_of_ble_eq_true rfl)
  rw [lg_entry_eq]
  generalize (lg_sl ([.ref a0]) ++ List.replicate (5 - (lg_sl ([.ref a0])).length) Slot.unset).toArray = ls at hl ⊢
  have hl : lv_has ls 5 [(0, .ref a0)] := hl
  unfold fX11_layChange at h
  refine lv_aload_n hx hb dX11_layChange_0 rfl (lv_at hl 0 rfl) ?_
  obtain ⟨M_1, hc_1, h⟩ := bm_el h
  refine iv_X11_453 B hR (h0.at0 rfl) hl.1 (mX11_laySteps fu _ h0 hc_1) (Nat.le_of_ble_eq_true rfl) dX11_layChange_1 (fun H locs hR => ?_)
  refine lv_aload_n hx hb dX11_layChange_4 rfl (lv_at hl 0 rfl) ?_
  refine gf_X11_350 B hR (h0.at0 rfl) dX11_layChange_5 ?_
  refine lv_aload_n hx hb dX11_layChange_8 rfl (lv_at hl 0 rfl) ?_
  obtain ⟨r_9, hc_9, h⟩ := bi_el h
  refine iv_X11_243 B hR (h0.at0 rfl) hl.1 (mX11_registersNow fu _ h0 hc_9) (Nat.le_of_ble_eq_true rfl) dX11_layChange_9 (fun H locs hR => ?_)
  refine lv_icmp_gt (tgt := 24) hx hb dX11_layChange_12 (by decide) (fun c_12 => ?_) (fun c_12 => ?_)
  · rw [if_pos c_12] at h
    exact wX11_layChange_j24 B hr hlk  h hR (lv_sub hl [] rfl)
  · rw [if_neg c_12] at h
    refine lv_aload_n hx hb dX11_layChange_15 rfl (lv_at hl 0 rfl) ?_
    refine gf_X11_429 B hR (h0.at0 rfl) dX11_layChange_16 ?_
    refine lv_bipush (v := 12) hx hb dX11_layChange_19 (by decide) ?_
    refine lv_icmp_le (tgt := 26) hx hb dX11_layChange_21 (by decide) (fun c_21 => ?_) (fun c_21 => ?_)
    · rw [if_pos c_21] at h
      refine lv_aload_n hx hb dX11_layChange_26 rfl (lv_at hl 0 rfl) ?_
      obtain ⟨M_27, hc_27, h⟩ := bm_el h
      refine iv_X11_456 B hR (h0.at0 rfl) hl.1 (mX11_layEdges fu _ h0 hc_27) (Nat.le_of_ble_eq_true rfl) dX11_layChange_27 (fun H locs hR => ?_)
      refine lv_iconst (v := 1) hx hb dX11_layChange_30 (by decide) ?_
      refine lv_aload_n hx hb dX11_layChange_31 rfl (lv_at hl 0 rfl) ?_
      refine gf_X11_429 B hR (h0.at0 rfl) dX11_layChange_32 ?_
      refine lv_ishl hx hb dX11_layChange_35 ?_
      refine lv_iconst (v := 1) hx hb dX11_layChange_36 (by decide) ?_
      refine lv_isub hx hb dX11_layChange_37 ?_
      obtain ⟨x1_38, ex1_38, h⟩ := lt_el h
      refine r_nmI ex1_38 ?_
      refine lv_istore_n (lv' := [(1, .int x1_38), (0, .ref a0)]) hx hb dX11_layChange_38 rfl hl (by decide) rfl (fun ls hl => ?_)
      refine lv_iload_n hx hb dX11_layChange_39 rfl (lv_at hl 0 rfl) ?_
      refine lv_istore_n (lv' := [(2, .int x1_38), (1, .int x1_38), (0, .ref a0)]) hx hb dX11_layChange_40 rfl hl (by decide) rfl (fun ls hl => ?_)
      exact wX11_layChange_l41 B hr hlk h0 h hR (lv_sub hl [2, 1, 0] rfl)
    · rw [if_neg c_21] at h
      exact wX11_layChange_j24 B hr hlk  h hR (lv_sub hl [] rfl)
def fX11_change_j61 (fu : Nat) (t0 : Int32) (M : Mm) : Option (Int32 × Mm) :=
  some (t0, M)
set_option maxRecDepth 100000 in
set_option maxHeartbeats 4000000 in
theorem wX11_change_j61 {r : Int32} {M' : Mm}   {t0 : Int32} {M : Mm} (B : Bx p s m args c cX11_change 3 RX11 E L) (hr : meth.sig.returnType = (some .int)) (hlk : meth.locks = false)   (h : fX11_change_j61 fu t0 M = some (r, M')) (hR : Rx s E L M H locs) (hl : lv_has ls 3 []) : W p l e (rmD (d + 9)) s m args below meth c H locs 0 0 (MQ below (QcM E L (some (.int r)) M') args s 0 0 E.2.2.2) (F0 m 61 ls [.int t0]) := by
  have hx := B.1
  have hb := B.2.1
  unfold fX11_change_j61 at h
  exact r_iretW B hR hr hlk h dX11_change_61
def fX11_change (fu : Nat) (a0 : Nat) (x1 : Int32) (M : Mm) : Option (Int32 × Mm) :=
  bi (fX11_isIn fu x1 0 2) fun r_3 =>
  if r_3 = 0 then
    some ((-1), M)
  else
    bw (fX11_layChange fu a0 M) fun r_12 M_12 =>
    if x1 = 0 then
      fX11_change_j61 fu (M_12.1 a0 39) M_12
    else
      if x1 = 1 then
        fX11_change_j61 fu (M_12.1 a0 40) M_12
      else
        if r_12 = 0 then
          fX11_change_j61 fu (-1) M_12
        else
          if (M_12.1 (a0 + 22) (ix 0)) = 0 then
            fX11_change_j61 fu 0 M_12
          else
            fX11_change_j61 fu 1 M_12
set_option maxRecDepth 100000 in
set_option maxHeartbeats 4000000 in
theorem mX11_change {l : Launch} {E : Ge} {L : Lay} (fu d : Nat) {a0 : Nat} {x1 : Int32} {M : Mm} {r : Int32} {M' : Mm}  (h0 : At L a0 T11) (h : fX11_change fu a0 x1 M = some (r, M')) : Ct l E L yX11_change cX11_change 3 (some .int) (d + 9) [.ref a0, .int x1] M (some (.int r)) M' := by
  refine Ct.of (by decide) ?_
  intro p e s m below meth c hr hlk B hR
  have B : Bx p s m _ c cX11_change 3 RX11 E L := B
  have hx := B.1
  have hb := B.2.1
  have hl := lv_entry ([.ref a0, .int x1]) (n := 3) (Nat.le_of_ble_eq_true rfl)
  rw [lg_entry_eq]
  generalize (lg_sl ([.ref a0, .int x1]) ++ List.replicate (3 - (lg_sl ([.ref a0, .int x1])).length) Slot.unset).toArray = ls at hl ⊢
  have hl : lv_has ls 3 [(0, .ref a0), (1, .int x1)] := hl
  unfold fX11_change at h
  refine lv_iload_n hx hb dX11_change_0 rfl (lv_at hl 1 rfl) ?_
  refine lv_iconst (v := 0) hx hb dX11_change_1 (by decide) ?_
  refine lv_iconst (v := 2) hx hb dX11_change_2 (by decide) ?_
  obtain ⟨r_3, hc_3, h⟩ := bi_el h
  refine is_X11_163 B hR hl.1 (mX11_isIn fu _  hc_3) (Nat.le_of_ble_eq_true rfl) dX11_change_3 (fun H locs hR => ?_)
  refine lv_if_ne (tgt := 11) hx hb dX11_change_6 (by decide) (fun c_6 => ?_) (fun c_6 => ?_)
  · rw [if_neg c_6] at h
    refine lv_aload_n hx hb dX11_change_11 rfl (lv_at hl 0 rfl) ?_
    obtain ⟨r_12, M_12, hc_12, h⟩ := bw_el h
    refine iv_X11_465 B hR (h0.at0 rfl) hl.1 (mX11_layChange fu _ h0 hc_12) (Nat.le_of_ble_eq_true rfl) dX11_change_12 (fun H locs hR => ?_)
    refine lv_istore_n (lv' := [(2, .int r_12), (0, .ref a0), (1, .int x1)]) hx hb dX11_change_15 rfl hl (by decide) rfl (fun ls hl => ?_)
    refine lv_iload_n hx hb dX11_change_16 rfl (lv_at hl 2 rfl) ?_
    refine lv_if_ne (tgt := 27) hx hb dX11_change_17 (by decide) (fun c_17 => ?_) (fun c_17 => ?_)
    · rw [if_neg c_17] at h
      refine lv_iload_n hx hb dX11_change_27 rfl (lv_at hl 2 rfl) ?_
      refine lv_iconst (v := 1) hx hb dX11_change_28 (by decide) ?_
      refine lv_icmp_ne (tgt := 39) hx hb dX11_change_29 (by decide) (fun c_29 => ?_) (fun c_29 => ?_)
      · rw [if_neg c_29] at h
        refine lv_iload_n hx hb dX11_change_39 rfl (lv_at hl 0 rfl) ?_
        refine lv_if_ne (tgt := 47) hx hb dX11_change_40 (by decide) (fun c_40 => ?_) (fun c_40 => ?_)
        · rw [if_neg c_40] at h
          refine lv_aload_n hx hb dX11_change_47 rfl (lv_at hl 1 rfl) ?_
          refine gf_X11_79 B hR (h0.at0 rfl) dX11_change_48 ?_
          refine lv_iconst (v := 0) hx hb dX11_change_51 (by decide) ?_
          refine r_zald B hR (h0.at 22 rfl) (by decide +kernel) dX11_change_52 ?_
          refine lv_if_eq (tgt := 60) hx hb dX11_change_53 (by decide) (fun c_53 => ?_) (fun c_53 => ?_)
          · rw [if_pos c_53] at h
            refine lv_iconst (v := 0) hx hb dX11_change_60 (by decide) ?_
            exact wX11_change_j61 B hr hlk  h hR (lv_sub hl [] rfl)
          · rw [if_neg c_53] at h
            refine lv_iconst (v := 1) hx hb dX11_change_56 (by decide) ?_
            refine lv_goto (tgt := 61) hx hb dX11_change_57 (by decide) ?_
            exact wX11_change_j61 B hr hlk  h hR (lv_sub hl [] rfl)
        · rw [if_pos c_40] at h
          refine lv_iconst (v := (-1)) hx hb dX11_change_43 (by decide) ?_
          refine lv_goto (tgt := 61) hx hb dX11_change_44 (by decide) ?_
          exact wX11_change_j61 B hr hlk  h hR (lv_sub hl [] rfl)
      · rw [if_pos c_29] at h
        refine lv_aload_n hx hb dX11_change_32 rfl (lv_at hl 1 rfl) ?_
        refine gf_X11_435 B hR (h0.at0 rfl) dX11_change_33 ?_
        refine lv_goto (tgt := 61) hx hb dX11_change_36 (by decide) ?_
        exact wX11_change_j61 B hr hlk  h hR (lv_sub hl [] rfl)
    · rw [if_pos c_17] at h
      refine lv_aload_n hx hb dX11_change_20 rfl (lv_at hl 1 rfl) ?_
      refine gf_X11_429 B hR (h0.at0 rfl) dX11_change_21 ?_
      refine lv_goto (tgt := 61) hx hb dX11_change_24 (by decide) ?_
      exact wX11_change_j61 B hr hlk  h hR (lv_sub hl [] rfl)
  · rw [if_pos c_6] at h
    refine lv_iconst (v := (-1)) hx hb dX11_change_9 (by decide) ?_
    exact r_iretW B hR hr hlk h dX11_change_10
def fX11_orderAt_j30 (fu : Nat) (M : Mm) : Option (Int32 × Mm) :=
  some ((-1), M)
set_option maxRecDepth 100000 in
set_option maxHeartbeats 4000000 in
theorem wX11_orderAt_j30 {r : Int32} {M' : Mm}    {M : Mm} (B : Bx p s m args c cX11_orderAt 5 RX11 E L) (hr : meth.sig.returnType = (some .int)) (hlk : meth.locks = false)   (h : fX11_orderAt_j30 fu M = some (r, M')) (hR : Rx s E L M H locs) (hl : lv_has ls 5 []) : W p l e (rmD (d + 9)) s m args below meth c H locs 0 0 (MQ below (QcM E L (some (.int r)) M') args s 0 0 E.2.2.2) (F0 m 30 ls []) := by
  have hx := B.1
  have hb := B.2.1
  unfold fX11_orderAt_j30 at h
  refine lv_iconst (v := (-1)) hx hb dX11_orderAt_30 (by decide) ?_
  exact r_iretW B hR hr hlk h dX11_orderAt_31
def fX11_orderAt_j79 (fu : Nat) (x3 : Int32) (M : Mm) : Option (Int32 × Mm) :=
  some (x3, M)
set_option maxRecDepth 100000 in
set_option maxHeartbeats 4000000 in
theorem wX11_orderAt_j79 {r : Int32} {M' : Mm}   {x3 : Int32} {M : Mm} (B : Bx p s m args c cX11_orderAt 5 RX11 E L) (hr : meth.sig.returnType = (some .int)) (hlk : meth.locks = false)   (h : fX11_orderAt_j79 fu x3 M = some (r, M')) (hR : Rx s E L M H locs) (hl : lv_has ls 5 [(3, .int x3)]) : W p l e (rmD (d + 9)) s m args below meth c H locs 0 0 (MQ below (QcM E L (some (.int r)) M') args s 0 0 E.2.2.2) (F0 m 79 ls []) := by
  have hx := B.1
  have hb := B.2.1
  unfold fX11_orderAt_j79 at h
  refine lv_iload_n hx hb dX11_orderAt_79 rfl (lv_at hl 0 rfl) ?_
  exact r_iretW B hR hr hlk h dX11_orderAt_80
def fX11_orderAt_j62 (fu : Nat) (k39 : Int32 → Int32 → Int32 → Mm → Option (Int32 × Mm)) (a0 : Nat) (x1 : Int32) (x2 : Int32) (x3 : Int32) (x4 : Int32) (M : Mm) : Option (Int32 × Mm) :=
  lt (wI M a0 42 x2) fun M_64 =>
  lt ((x2 ||| (1 <<< (x3 &&& 31)))) fun x2_72 =>
  lt (x4 + 1) fun x4_73 =>
  k39 x2_72 x3 x4_73 M_64
set_option maxRecDepth 100000 in
set_option maxHeartbeats 4000000 in
theorem wX11_orderAt_j62 {r : Int32} {M' : Mm}  {k39 : Int32 → Int32 → Int32 → Mm → Option (Int32 × Mm)} {a0 : Nat} {x1 : Int32} {x2 : Int32} {x3 : Int32} {x4 : Int32} {M : Mm} (B : Bx p s m args c cX11_orderAt 5 RX11 E L) (hr : meth.sig.returnType = (some .int)) (hlk : meth.locks = false) (ih39 : ∀ (x2 : Int32) (x3 : Int32) (x4 : Int32) (M : Mm), k39 x2 x3 x4 M = some (r, M') → ∀ (H : Heap) (locs : List Loc) (ls : Array Slot), Rx s E L M H locs → lv_has ls 5 [(0, .ref a0), (1, .int x1), (2, .int x2), (3, .int x3), (4, .int x4)] → W p l e (rmD (d + 9)) s m args below meth c H locs 0 0 (MQ below (QcM E L (some (.int r)) M') args s 0 0 E.2.2.2) (F0 m 39 ls [])) (h0 : At L a0 T11) (h : fX11_orderAt_j62 fu k39 a0 x1 x2 x3 x4 M = some (r, M')) (hR : Rx s E L M H locs) (hl : lv_has ls 5 [(0, .ref a0), (1, .int x1), (2, .int x2), (3, .int x3), (4, .int x4)]) : W p l e (rmD (d + 9)) s m args below meth c H locs 0 0 (MQ below (QcM E L (some (.int r)) M') args s 0 0 E.2.2.2) (F0 m 62 ls []) := by
  have hx := B.1
  have hb := B.2.1
  unfold fX11_orderAt_j62 at h
  refine lv_aload_n hx hb dX11_orderAt_62 rfl (lv_at hl 0 rfl) ?_
  refine lv_iload_n hx hb dX11_orderAt_63 rfl (lv_at hl 2 rfl) ?_
  obtain ⟨M_64, eM_64, h⟩ := lt_el h
  refine pf_X11_468 B hR (h0.at0 rfl) dX11_orderAt_64 (fun H locs hR => ?_)
  rw [← eM_64] at hR
  refine lv_iload_n hx hb dX11_orderAt_67 rfl (lv_at hl 2 rfl) ?_
  refine lv_iconst (v := 1) hx hb dX11_orderAt_68 (by decide) ?_
  refine lv_iload_n hx hb dX11_orderAt_69 rfl (lv_at hl 3 rfl) ?_
  refine lv_ishl hx hb dX11_orderAt_70 ?_
  refine lv_ior hx hb dX11_orderAt_71 ?_
  obtain ⟨x2_72, ex2_72, h⟩ := lt_el h
  refine r_nmI ex2_72 ?_
  refine lv_istore_n (lv' := [(2, .int x2_72), (0, .ref a0), (1, .int x1), (3, .int x3), (4, .int x4)]) hx hb dX11_orderAt_72 rfl hl (by decide) rfl (fun ls hl => ?_)
  obtain ⟨x4_73, ex4_73, h⟩ := lt_el h
  refine lv_iinc (v := x4_73) (lv' := [(4, .int x4_73), (2, .int x2_72), (0, .ref a0), (1, .int x1), (3, .int x3)]) hx hb dX11_orderAt_73 hl (k := 4) rfl (by rw [ex4_73]; rfl) (by decide) rfl (fun ls hl => ?_)
  refine lv_goto (tgt := 39) hx hb dX11_orderAt_76 (by decide) ?_
  exact ih39 x2_72 x3 x4_73 M_64 h _ _ _ hR (lv_sub hl [2, 3, 1, 4, 0] rfl)
def fX11_orderAt_b47 (fu : Nat) (k39 : Int32 → Int32 → Int32 → Mm → Option (Int32 × Mm)) (k47 : Int32 → Option (Int32 × Mm)) (a0 : Nat) (x1 : Int32) (x2 : Int32) (x3 : Int32) (x4 : Int32) (M : Mm) : Option (Int32 × Mm) :=
  bi (fX11_canStep fu a0 x2 x3 M) fun r_50 =>
  if r_50 = 0 then
    lt (x3 + 1) fun x3_56 =>
    k47 x3_56
  else
    fX11_orderAt_j62 fu k39 a0 x1 x2 x3 x4 M
set_option maxRecDepth 100000 in
set_option maxHeartbeats 4000000 in
theorem wX11_orderAt_b47 {r : Int32} {M' : Mm}  {k39 : Int32 → Int32 → Int32 → Mm → Option (Int32 × Mm)} {k47 : Int32 → Option (Int32 × Mm)} {a0 : Nat} {x1 : Int32} {x2 : Int32} {x3 : Int32} {x4 : Int32} {M : Mm} (B : Bx p s m args c cX11_orderAt 5 RX11 E L) (hr : meth.sig.returnType = (some .int)) (hlk : meth.locks = false) (ih39 : ∀ (x2 : Int32) (x3 : Int32) (x4 : Int32) (M : Mm), k39 x2 x3 x4 M = some (r, M') → ∀ (H : Heap) (locs : List Loc) (ls : Array Slot), Rx s E L M H locs → lv_has ls 5 [(0, .ref a0), (1, .int x1), (2, .int x2), (3, .int x3), (4, .int x4)] → W p l e (rmD (d + 9)) s m args below meth c H locs 0 0 (MQ below (QcM E L (some (.int r)) M') args s 0 0 E.2.2.2) (F0 m 39 ls [])) (ih47 : ∀ (x3 : Int32), k47 x3 = some (r, M') → ∀ (H : Heap) (locs : List Loc) (ls : Array Slot), Rx s E L M H locs → lv_has ls 5 [(0, .ref a0), (1, .int x1), (2, .int x2), (3, .int x3), (4, .int x4)] → W p l e (rmD (d + 9)) s m args below meth c H locs 0 0 (MQ below (QcM E L (some (.int r)) M') args s 0 0 E.2.2.2) (F0 m 47 ls [])) (h0 : At L a0 T11) (h : fX11_orderAt_b47 fu k39 k47 a0 x1 x2 x3 x4 M = some (r, M')) (hR : Rx s E L M H locs) (hl : lv_has ls 5 [(0, .ref a0), (1, .int x1), (2, .int x2), (3, .int x3), (4, .int x4)]) : W p l e (rmD (d + 9)) s m args below meth c H locs 0 0 (MQ below (QcM E L (some (.int r)) M') args s 0 0 E.2.2.2) (F0 m 47 ls []) := by
  have hx := B.1
  have hb := B.2.1
  unfold fX11_orderAt_b47 at h
  refine lv_aload_n hx hb dX11_orderAt_47 rfl (lv_at hl 0 rfl) ?_
  refine lv_iload_n hx hb dX11_orderAt_48 rfl (lv_at hl 2 rfl) ?_
  refine lv_iload_n hx hb dX11_orderAt_49 rfl (lv_at hl 3 rfl) ?_
  obtain ⟨r_50, hc_50, h⟩ := bi_el h
  refine iv_X11_459 B hR (h0.at0 rfl) hl.1 (mX11_canStep fu _ h0 hc_50) (Nat.le_of_ble_eq_true rfl) dX11_orderAt_50 (fun H locs hR => ?_)
  refine lv_if_ne (tgt := 62) hx hb dX11_orderAt_53 (by decide) (fun c_53 => ?_) (fun c_53 => ?_)
  · rw [if_neg c_53] at h
    exact wX11_orderAt_j62 B hr hlk ih39 h0 h hR hl
  · rw [if_pos c_53] at h
    obtain ⟨x3_56, ex3_56, h⟩ := lt_el h
    refine lv_iinc (v := x3_56) (lv' := [(3, .int x3_56), (0, .ref a0), (1, .int x1), (2, .int x2), (4, .int x4)]) hx hb dX11_orderAt_56 hl (k := 3) rfl (by rw [ex3_56]; rfl) (by decide) rfl (fun ls hl => ?_)
    refine lv_goto (tgt := 47) hx hb dX11_orderAt_59 (by decide) ?_
    exact ih47 x3_56 h _ _ _ hR (lv_sub hl [1, 2, 3, 0, 4] rfl)
def fX11_orderAt_l47 (fu : Nat) (k39 : Int32 → Int32 → Int32 → Mm → Option (Int32 × Mm)) (a0 : Nat) (x1 : Int32) (x2 : Int32) (x4 : Int32) (M : Mm) (x3 : Int32) : Option (Int32 × Mm) := lp (fun (rec : Int32 → Option (Int32 × Mm)) (s : Int32) => fX11_orderAt_b47 fu k39 (fun x3 => rec (x3)) a0 x1 x2 s x4 M) fu (x3)
set_option maxRecDepth 100000 in
set_option maxHeartbeats 4000000 in
theorem wX11_orderAt_l47 {r : Int32} {M' : Mm}  {k39 : Int32 → Int32 → Int32 → Mm → Option (Int32 × Mm)} {a0 : Nat} {x1 : Int32} {x2 : Int32} {x3 : Int32} {x4 : Int32} {M : Mm} (B : Bx p s m args c cX11_orderAt 5 RX11 E L) (hr : meth.sig.returnType = (some .int)) (hlk : meth.locks = false) (ih39 : ∀ (x2 : Int32) (x3 : Int32) (x4 : Int32) (M : Mm), k39 x2 x3 x4 M = some (r, M') → ∀ (H : Heap) (locs : List Loc) (ls : Array Slot), Rx s E L M H locs → lv_has ls 5 [(0, .ref a0), (1, .int x1), (2, .int x2), (3, .int x3), (4, .int x4)] → W p l e (rmD (d + 9)) s m args below meth c H locs 0 0 (MQ below (QcM E L (some (.int r)) M') args s 0 0 E.2.2.2) (F0 m 39 ls [])) (h0 : At L a0 T11) (h : fX11_orderAt_l47 fu k39 a0 x1 x2 x4 M x3 = some (r, M')) (hR : Rx s E L M H locs) (hl : lv_has ls 5 [(0, .ref a0), (1, .int x1), (2, .int x2), (3, .int x3), (4, .int x4)]) : W p l e (rmD (d + 9)) s m args below meth c H locs 0 0 (MQ below (QcM E L (some (.int r)) M') args s 0 0 E.2.2.2) (F0 m 47 ls []) := by
  refine lp_G (G := fun z : Int32 => ∀ (H : Heap) (locs : List Loc) (ls : Array Slot), Rx s E L M H locs → lv_has ls 5 [(0, .ref a0), (1, .int x1), (2, .int x2), (3, .int z), (4, .int x4)] → W p l e (rmD (d + 9)) s m args below meth c H locs 0 0 (MQ below (QcM E L (some (.int r)) M') args s 0 0 E.2.2.2) (F0 m 47 ls [])) (fun rec ih z h H locs ls hR hl => ?_) fu _ h H locs ls hR hl
  exact wX11_orderAt_b47 B hr hlk ih39 (fun x3 h => ih (x3) h) h0 h hR hl
def fX11_orderAt_b39 (fu : Nat) (k39 : Int32 → Int32 → Int32 → Mm → Option (Int32 × Mm)) (a0 : Nat) (x1 : Int32) (x2 : Int32) (x3 : Int32) (x4 : Int32) (M : Mm) : Option (Int32 × Mm) :=
  if x1 < x4 then
    fX11_orderAt_j79 fu x3 M
  else
    fX11_orderAt_l47 fu k39 a0 x1 x2 x4 M 0
set_option maxRecDepth 100000 in
set_option maxHeartbeats 4000000 in
theorem wX11_orderAt_b39 {r : Int32} {M' : Mm}   {k39 : Int32 → Int32 → Int32 → Mm → Option (Int32 × Mm)} {a0 : Nat} {x1 : Int32} {x2 : Int32} {x3 : Int32} {x4 : Int32} {M : Mm} (B : Bx p s m args c cX11_orderAt 5 RX11 E L) (hr : meth.sig.returnType = (some .int)) (hlk : meth.locks = false)  (ih39 : ∀ (x2 : Int32) (x3 : Int32) (x4 : Int32) (M : Mm), k39 x2 x3 x4 M = some (r, M') → ∀ (H : Heap) (locs : List Loc) (ls : Array Slot), Rx s E L M H locs → lv_has ls 5 [(0, .ref a0), (1, .int x1), (2, .int x2), (3, .int x3), (4, .int x4)] → W p l e (rmD (d + 9)) s m args below meth c H locs 0 0 (MQ below (QcM E L (some (.int r)) M') args s 0 0 E.2.2.2) (F0 m 39 ls [])) (h0 : At L a0 T11) (h : fX11_orderAt_b39 fu k39 a0 x1 x2 x3 x4 M = some (r, M')) (hR : Rx s E L M H locs) (hl : lv_has ls 5 [(0, .ref a0), (1, .int x1), (2, .int x2), (3, .int x3), (4, .int x4)]) : W p l e (rmD (d + 9)) s m args below meth c H locs 0 0 (MQ below (QcM E L (some (.int r)) M') args s 0 0 E.2.2.2) (F0 m 39 ls []) := by
  have hx := B.1
  have hb := B.2.1
  unfold fX11_orderAt_b39 at h
  refine lv_iload hx hb dX11_orderAt_39 (lv_at hl 4 rfl) ?_
  refine lv_iload_n hx hb dX11_orderAt_41 rfl (lv_at hl 1 rfl) ?_
  refine lv_icmp_gt (tgt := 79) hx hb dX11_orderAt_42 (by decide) (fun c_42 => ?_) (fun c_42 => ?_)
  · rw [if_pos c_42] at h
    exact wX11_orderAt_j79 B hr hlk  h hR (lv_sub hl [3] rfl)
  · rw [if_neg c_42] at h
    refine lv_iconst (v := 0) hx hb dX11_orderAt_45 (by decide) ?_
    refine lv_istore_n (lv' := [(3, .int 0), (0, .ref a0), (1, .int x1), (2, .int x2), (4, .int x4)]) hx hb dX11_orderAt_46 rfl hl (by decide) rfl (fun ls hl => ?_)
    exact wX11_orderAt_l47 B hr hlk ih39 h0 h hR (lv_sub hl [1, 2, 3, 0, 4] rfl)
def fX11_orderAt_l39 (fu : Nat) (a0 : Nat) (x1 : Int32) (x2 : Int32) (x3 : Int32) (x4 : Int32) (M : Mm) : Option (Int32 × Mm) := lp (fun (rec : (Int32 × Int32 × Int32 × Mm) → Option (Int32 × Mm)) (s : Int32 × Int32 × Int32 × Mm) => fX11_orderAt_b39 fu  (fun x2 x3 x4 M => rec (x2, x3, x4, M)) a0 x1 s.1 s.2.1 s.2.2.1 s.2.2.2) fu (x2, x3, x4, M)
set_option maxRecDepth 100000 in
set_option maxHeartbeats 4000000 in
theorem wX11_orderAt_l39 {r : Int32} {M' : Mm}   {a0 : Nat} {x1 : Int32} {x2 : Int32} {x3 : Int32} {x4 : Int32} {M : Mm} (B : Bx p s m args c cX11_orderAt 5 RX11 E L) (hr : meth.sig.returnType = (some .int)) (hlk : meth.locks = false)  (h0 : At L a0 T11) (h : fX11_orderAt_l39 fu a0 x1 x2 x3 x4 M = some (r, M')) (hR : Rx s E L M H locs) (hl : lv_has ls 5 [(0, .ref a0), (1, .int x1), (2, .int x2), (3, .int x3), (4, .int x4)]) : W p l e (rmD (d + 9)) s m args below meth c H locs 0 0 (MQ below (QcM E L (some (.int r)) M') args s 0 0 E.2.2.2) (F0 m 39 ls []) := by
  refine lp_G (G := fun z : Int32 × Int32 × Int32 × Mm => ∀ (H : Heap) (locs : List Loc) (ls : Array Slot), Rx s E L z.2.2.2 H locs → lv_has ls 5 [(0, .ref a0), (1, .int x1), (2, .int z.1), (3, .int z.2.1), (4, .int z.2.2.1)] → W p l e (rmD (d + 9)) s m args below meth c H locs 0 0 (MQ below (QcM E L (some (.int r)) M') args s 0 0 E.2.2.2) (F0 m 39 ls [])) (fun rec ih z h H locs ls hR hl => ?_) fu _ h H locs ls hR hl
  exact wX11_orderAt_b39 B hr hlk  (fun x2 x3 x4 M h => ih (x2, x3, x4, M) h) h0 h hR hl
def fX11_orderAt (fu : Nat) (a0 : Nat) (x1 : Int32) (M : Mm) : Option (Int32 × Mm) :=
  bw (fX11_layChange fu a0 M) fun r_1 M_1 =>
  if r_1 = 0 then
    fX11_orderAt_j30 fu M_1
  else
    if (M_1.1 (a0 + 22) (ix 0)) = 0 then
      fX11_orderAt_j30 fu M_1
    else
      bi (fX11_isIn fu x1 0 ((M_1.1 a0 39) - 1)) fun r_24 =>
      if r_24 = 0 then
        fX11_orderAt_j30 fu M_1
      else
        fX11_orderAt_l39 fu a0 x1 0 0 0 M_1
set_option maxRecDepth 100000 in
set_option maxHeartbeats 4000000 in
theorem mX11_orderAt {l : Launch} {E : Ge} {L : Lay} (fu d : Nat) {a0 : Nat} {x1 : Int32} {M : Mm} {r : Int32} {M' : Mm}  (h0 : At L a0 T11) (h : fX11_orderAt fu a0 x1 M = some (r, M')) : Ct l E L yX11_orderAt cX11_orderAt 5 (some .int) (d + 9) [.ref a0, .int x1] M (some (.int r)) M' := by
  refine Ct.of (by decide) ?_
  intro p e s m below meth c hr hlk B hR
  have B : Bx p s m _ c cX11_orderAt 5 RX11 E L := B
  have hx := B.1
  have hb := B.2.1
  have hl := lv_entry ([.ref a0, .int x1]) (n := 5) (Nat.le_of_ble_eq_true rfl)
  rw [lg_entry_eq]
  generalize (lg_sl ([.ref a0, .int x1]) ++ List.replicate (5 - (lg_sl ([.ref a0, .int x1])).length) Slot.unset).toArray = ls at hl ⊢
  have hl : lv_has ls 5 [(0, .ref a0), (1, .int x1)] := hl
  unfold fX11_orderAt at h
  refine lv_aload_n hx hb dX11_orderAt_0 rfl (lv_at hl 0 rfl) ?_
  obtain ⟨r_1, M_1, hc_1, h⟩ := bw_el h
  refine iv_X11_465 B hR (h0.at0 rfl) hl.1 (mX11_layChange fu _ h0 hc_1) (Nat.le_of_ble_eq_true rfl) dX11_orderAt_1 (fun H locs hR => ?_)
  refine lv_if_eq (tgt := 30) hx hb dX11_orderAt_4 (by decide) (fun c_4 => ?_) (fun c_4 => ?_)
  · rw [if_pos c_4] at h
    exact wX11_orderAt_j30 B hr hlk  h hR (lv_sub hl [] rfl)
  · rw [if_neg c_4] at h
    refine lv_aload_n hx hb dX11_orderAt_7 rfl (lv_at hl 0 rfl) ?_
    refine gf_X11_79 B hR (h0.at0 rfl) dX11_orderAt_8 ?_
    refine lv_iconst (v := 0) hx hb dX11_orderAt_11 (by decide) ?_
    refine r_zald B hR (h0.at 22 rfl) (by decide +kernel) dX11_orderAt_12 ?_
    refine lv_if_eq (tgt := 30) hx hb dX11_orderAt_13 (by decide) (fun c_13 => ?_) (fun c_13 => ?_)
    · rw [if_pos c_13] at h
      exact wX11_orderAt_j30 B hr hlk  h hR (lv_sub hl [] rfl)
    · rw [if_neg c_13] at h
      refine lv_iload_n hx hb dX11_orderAt_16 rfl (lv_at hl 1 rfl) ?_
      refine lv_iconst (v := 0) hx hb dX11_orderAt_17 (by decide) ?_
      refine lv_aload_n hx hb dX11_orderAt_18 rfl (lv_at hl 0 rfl) ?_
      refine gf_X11_429 B hR (h0.at0 rfl) dX11_orderAt_19 ?_
      refine lv_iconst (v := 1) hx hb dX11_orderAt_22 (by decide) ?_
      refine lv_isub hx hb dX11_orderAt_23 ?_
      obtain ⟨r_24, hc_24, h⟩ := bi_el h
      refine is_X11_163 B hR hl.1 (mX11_isIn fu _  hc_24) (Nat.le_of_ble_eq_true rfl) dX11_orderAt_24 (fun H locs hR => ?_)
      refine lv_if_ne (tgt := 32) hx hb dX11_orderAt_27 (by decide) (fun c_27 => ?_) (fun c_27 => ?_)
      · rw [if_neg c_27] at h
        refine lv_iconst (v := 0) hx hb dX11_orderAt_32 (by decide) ?_
        refine lv_istore_n (lv' := [(2, .int 0), (0, .ref a0), (1, .int x1)]) hx hb dX11_orderAt_33 rfl hl (by decide) rfl (fun ls hl => ?_)
        refine lv_iconst (v := 0) hx hb dX11_orderAt_34 (by decide) ?_
        refine lv_istore_n (lv' := [(3, .int 0), (2, .int 0), (0, .ref a0), (1, .int x1)]) hx hb dX11_orderAt_35 rfl hl (by decide) rfl (fun ls hl => ?_)
        refine lv_iconst (v := 0) hx hb dX11_orderAt_36 (by decide) ?_
        refine lv_istore (lv' := [(4, .int 0), (3, .int 0), (2, .int 0), (0, .ref a0), (1, .int x1)]) hx hb dX11_orderAt_37 hl (by decide) rfl (fun ls hl => ?_)
        exact wX11_orderAt_l39 B hr hlk h0 h hR (lv_sub hl [3, 4, 2, 1, 0] rfl)
      · rw [if_pos c_27] at h
        exact wX11_orderAt_j30 B hr hlk  h hR (lv_sub hl [] rfl)
def fX11_order (fu : Nat) (a0 : Nat) (x1 : Int32) (M : Mm) : Option (Int32 × Mm) :=
  bw (fX11_orderAt fu a0 x1 M) fun r_2 M_2 =>
  some (r_2, M_2)
set_option maxRecDepth 100000 in
set_option maxHeartbeats 4000000 in
theorem mX11_order {l : Launch} {E : Ge} {L : Lay} (fu d : Nat) {a0 : Nat} {x1 : Int32} {M : Mm} {r : Int32} {M' : Mm}  (h0 : At L a0 T11) (h : fX11_order fu a0 x1 M = some (r, M')) : Ct l E L yX11_order cX11_order 2 (some .int) (d + 10) [.ref a0, .int x1] M (some (.int r)) M' := by
  refine Ct.of (by decide) ?_
  intro p e s m below meth c hr hlk B hR
  have B : Bx p s m _ c cX11_order 2 RX11 E L := B
  have hx := B.1
  have hb := B.2.1
  have hl := lv_entry ([.ref a0, .int x1]) (n := 2) (Nat.le_of_ble_eq_true rfl)
  rw [lg_entry_eq]
  generalize (lg_sl ([.ref a0, .int x1]) ++ List.replicate (2 - (lg_sl ([.ref a0, .int x1])).length) Slot.unset).toArray = ls at hl ⊢
  have hl : lv_has ls 2 [(0, .ref a0), (1, .int x1)] := hl
  unfold fX11_order at h
  refine lv_aload_n hx hb dX11_order_0 rfl (lv_at hl 0 rfl) ?_
  refine lv_iload_n hx hb dX11_order_1 rfl (lv_at hl 1 rfl) ?_
  obtain ⟨r_2, M_2, hc_2, h⟩ := bw_el h
  refine iv_X11_471 B hR (h0.at0 rfl) hl.1 (mX11_orderAt fu _ h0 hc_2) (Nat.le_of_ble_eq_true rfl) dX11_order_2 (fun H locs hR => ?_)
  exact r_iretW B hR hr hlk h dX11_order_5
def fX11_stir_j76 (fu : Nat) (x3 : Int32) (M : Mm) : Option (Int32 × Mm) :=
  some (x3, M)
set_option maxRecDepth 100000 in
set_option maxHeartbeats 4000000 in
theorem wX11_stir_j76 {r : Int32} {M' : Mm}   {x3 : Int32} {M : Mm} (B : Bx p s m args c cX11_stir 5 RX11 E L) (hr : meth.sig.returnType = (some .int)) (hlk : meth.locks = false)   (h : fX11_stir_j76 fu x3 M = some (r, M')) (hR : Rx s E L M H locs) (hl : lv_has ls 5 [(3, .int x3)]) : W p l e (rmD (d + 10)) s m args below meth c H locs 0 0 (MQ below (QcM E L (some (.int r)) M') args s 0 0 E.2.2.2) (F0 m 76 ls []) := by
  have hx := B.1
  have hb := B.2.1
  unfold fX11_stir_j76 at h
  refine lv_iload_n hx hb dX11_stir_76 rfl (lv_at hl 0 rfl) ?_
  exact r_iretW B hR hr hlk h dX11_stir_77
def fX11_stir_j68 (fu : Nat) (k17 : Int32 → Int32 → Option (Int32 × Mm)) (a0 : Nat) (x2 : Int32) (x4 : Int32) (t0 : Int32) (t1 : Int32) (M : Mm) : Option (Int32 × Mm) :=
  lt ((t0 + t1)) fun x3_69 =>
  lt (x4 + 1) fun x4_70 =>
  k17 x3_69 x4_70
set_option maxRecDepth 100000 in
set_option maxHeartbeats 4000000 in
theorem wX11_stir_j68 {r : Int32} {M' : Mm}  {k17 : Int32 → Int32 → Option (Int32 × Mm)} {a0 : Nat} {x2 : Int32} {x4 : Int32} {t0 : Int32} {t1 : Int32} {M : Mm} (B : Bx p s m args c cX11_stir 5 RX11 E L) (hr : meth.sig.returnType = (some .int)) (hlk : meth.locks = false) (ih17 : ∀ (x3 : Int32) (x4 : Int32), k17 x3 x4 = some (r, M') → ∀ (H : Heap) (locs : List Loc) (ls : Array Slot), Rx s E L M H locs → lv_has ls 5 [(0, .ref a0), (2, .int x2), (3, .int x3), (4, .int x4)] → W p l e (rmD (d + 10)) s m args below meth c H locs 0 0 (MQ below (QcM E L (some (.int r)) M') args s 0 0 E.2.2.2) (F0 m 17 ls [])) (h0 : At L a0 T11) (h : fX11_stir_j68 fu k17 a0 x2 x4 t0 t1 M = some (r, M')) (hR : Rx s E L M H locs) (hl : lv_has ls 5 [(0, .ref a0), (2, .int x2), (4, .int x4)]) : W p l e (rmD (d + 10)) s m args below meth c H locs 0 0 (MQ below (QcM E L (some (.int r)) M') args s 0 0 E.2.2.2) (F0 m 68 ls [.int t1, .int t0]) := by
  have hx := B.1
  have hb := B.2.1
  unfold fX11_stir_j68 at h
  refine lv_iadd hx hb dX11_stir_68 ?_
  obtain ⟨x3_69, ex3_69, h⟩ := lt_el h
  refine r_nmI ex3_69 ?_
  refine lv_istore_n (lv' := [(3, .int x3_69), (0, .ref a0), (2, .int x2), (4, .int x4)]) hx hb dX11_stir_69 rfl hl (by decide) rfl (fun ls hl => ?_)
  obtain ⟨x4_70, ex4_70, h⟩ := lt_el h
  refine lv_iinc (v := x4_70) (lv' := [(4, .int x4_70), (3, .int x3_69), (0, .ref a0), (2, .int x2)]) hx hb dX11_stir_70 hl (k := 3) rfl (by rw [ex4_70]; rfl) (by decide) rfl (fun ls hl => ?_)
  refine lv_goto (tgt := 17) hx hb dX11_stir_73 (by decide) ?_
  exact ih17 x3_69 x4_70 h _ _ _ hR (lv_sub hl [2, 3, 1, 0] rfl)
def fX11_stir_j67 (fu : Nat) (k17 : Int32 → Int32 → Option (Int32 × Mm)) (a0 : Nat) (x2 : Int32) (x4 : Int32) (t0 : Int32) (M : Mm) : Option (Int32 × Mm) :=
  fX11_stir_j68 fu k17 a0 x2 x4 t0 0 M
set_option maxRecDepth 100000 in
set_option maxHeartbeats 4000000 in
theorem wX11_stir_j67 {r : Int32} {M' : Mm}  {k17 : Int32 → Int32 → Option (Int32 × Mm)} {a0 : Nat} {x2 : Int32} {x4 : Int32} {t0 : Int32} {M : Mm} (B : Bx p s m args c cX11_stir 5 RX11 E L) (hr : meth.sig.returnType = (some .int)) (hlk : meth.locks = false) (ih17 : ∀ (x3 : Int32) (x4 : Int32), k17 x3 x4 = some (r, M') → ∀ (H : Heap) (locs : List Loc) (ls : Array Slot), Rx s E L M H locs → lv_has ls 5 [(0, .ref a0), (2, .int x2), (3, .int x3), (4, .int x4)] → W p l e (rmD (d + 10)) s m args below meth c H locs 0 0 (MQ below (QcM E L (some (.int r)) M') args s 0 0 E.2.2.2) (F0 m 17 ls [])) (h0 : At L a0 T11) (h : fX11_stir_j67 fu k17 a0 x2 x4 t0 M = some (r, M')) (hR : Rx s E L M H locs) (hl : lv_has ls 5 [(0, .ref a0), (2, .int x2), (4, .int x4)]) : W p l e (rmD (d + 10)) s m args below meth c H locs 0 0 (MQ below (QcM E L (some (.int r)) M') args s 0 0 E.2.2.2) (F0 m 67 ls [.int t0]) := by
  have hx := B.1
  have hb := B.2.1
  unfold fX11_stir_j67 at h
  refine lv_iconst (v := 0) hx hb dX11_stir_67 (by decide) ?_
  exact wX11_stir_j68 B hr hlk ih17 h0 h hR hl
def fX11_stir_b17 (fu : Nat) (k17 : Int32 → Int32 → Option (Int32 × Mm)) (a0 : Nat) (x2 : Int32) (x3 : Int32) (x4 : Int32) (M : Mm) : Option (Int32 × Mm) :=
  bi (fX11_addresses fu a0 M) fun r_20 =>
  if r_20 ≤ x4 then
    fX11_stir_j76 fu x3 M
  else
    bi (fX11_isFixed fu a0 x4 M) fun r_30 =>
    if r_30 = 0 then
      bi (fX11_kindBehind fu a0 x4 (M.1 a0 42) M) fun r_43 =>
      bi (fX11_kindBehind fu a0 x4 ((M.1 a0 42) ||| (1 <<< (x2 &&& 31))) M) fun r_57 =>
      if r_43 = r_57 then
        fX11_stir_j67 fu k17 a0 x2 x4 x3 M
      else
        fX11_stir_j68 fu k17 a0 x2 x4 x3 1 M
    else
      fX11_stir_j67 fu k17 a0 x2 x4 x3 M
set_option maxRecDepth 100000 in
set_option maxHeartbeats 4000000 in
theorem wX11_stir_b17 {r : Int32} {M' : Mm}   {k17 : Int32 → Int32 → Option (Int32 × Mm)} {a0 : Nat} {x2 : Int32} {x3 : Int32} {x4 : Int32} {M : Mm} (B : Bx p s m args c cX11_stir 5 RX11 E L) (hr : meth.sig.returnType = (some .int)) (hlk : meth.locks = false)  (ih17 : ∀ (x3 : Int32) (x4 : Int32), k17 x3 x4 = some (r, M') → ∀ (H : Heap) (locs : List Loc) (ls : Array Slot), Rx s E L M H locs → lv_has ls 5 [(0, .ref a0), (2, .int x2), (3, .int x3), (4, .int x4)] → W p l e (rmD (d + 10)) s m args below meth c H locs 0 0 (MQ below (QcM E L (some (.int r)) M') args s 0 0 E.2.2.2) (F0 m 17 ls [])) (h0 : At L a0 T11) (h : fX11_stir_b17 fu k17 a0 x2 x3 x4 M = some (r, M')) (hR : Rx s E L M H locs) (hl : lv_has ls 5 [(0, .ref a0), (2, .int x2), (3, .int x3), (4, .int x4)]) : W p l e (rmD (d + 10)) s m args below meth c H locs 0 0 (MQ below (QcM E L (some (.int r)) M') args s 0 0 E.2.2.2) (F0 m 17 ls []) := by
  have hx := B.1
  have hb := B.2.1
  unfold fX11_stir_b17 at h
  refine lv_iload hx hb dX11_stir_17 (lv_at hl 3 rfl) ?_
  refine lv_aload_n hx hb dX11_stir_19 rfl (lv_at hl 0 rfl) ?_
  obtain ⟨r_20, hc_20, h⟩ := bi_el h
  refine iv_X11_240 B hR (h0.at0 rfl) hl.1 (mX11_addresses fu _ h0 hc_20) (Nat.le_of_ble_eq_true rfl) dX11_stir_20 (fun H locs hR => ?_)
  refine lv_icmp_ge (tgt := 76) hx hb dX11_stir_23 (by decide) (fun c_23 => ?_) (fun c_23 => ?_)
  · rw [if_pos c_23] at h
    exact wX11_stir_j76 B hr hlk  h hR (lv_sub hl [2] rfl)
  · rw [if_neg c_23] at h
    refine lv_iload_n hx hb dX11_stir_26 rfl (lv_at hl 2 rfl) ?_
    refine lv_aload_n hx hb dX11_stir_27 rfl (lv_at hl 0 rfl) ?_
    refine lv_iload hx hb dX11_stir_28 (lv_at hl 3 rfl) ?_
    obtain ⟨r_30, hc_30, h⟩ := bi_el h
    refine iv_X11_255 B hR (h0.at0 rfl) hl.1 (mX11_isFixed fu _ h0 hc_30) (Nat.le_of_ble_eq_true rfl) dX11_stir_30 (fun H locs hR => ?_)
    refine lv_if_ne (tgt := 67) hx hb dX11_stir_33 (by decide) (fun c_33 => ?_) (fun c_33 => ?_)
    · rw [if_neg c_33] at h
      exact wX11_stir_j67 B hr hlk ih17 h0 h hR (lv_sub hl [0, 1, 3] rfl)
    · rw [if_pos c_33] at h
      refine lv_aload_n hx hb dX11_stir_36 rfl (lv_at hl 0 rfl) ?_
      refine lv_iload hx hb dX11_stir_37 (lv_at hl 3 rfl) ?_
      refine lv_aload_n hx hb dX11_stir_39 rfl (lv_at hl 0 rfl) ?_
      refine gf_X11_468 B hR (h0.at0 rfl) dX11_stir_40 ?_
      obtain ⟨r_43, hc_43, h⟩ := bi_el h
      refine iv_X11_447 B hR (h0.at0 rfl) hl.1 (mX11_kindBehind fu _ h0 hc_43) (Nat.le_of_ble_eq_true rfl) dX11_stir_43 (fun H locs hR => ?_)
      refine lv_aload_n hx hb dX11_stir_46 rfl (lv_at hl 0 rfl) ?_
      refine lv_iload hx hb dX11_stir_47 (lv_at hl 3 rfl) ?_
      refine lv_aload_n hx hb dX11_stir_49 rfl (lv_at hl 0 rfl) ?_
      refine gf_X11_468 B hR (h0.at0 rfl) dX11_stir_50 ?_
      refine lv_iconst (v := 1) hx hb dX11_stir_53 (by decide) ?_
      refine lv_iload_n hx hb dX11_stir_54 rfl (lv_at hl 1 rfl) ?_
      refine lv_ishl hx hb dX11_stir_55 ?_
      refine lv_ior hx hb dX11_stir_56 ?_
      obtain ⟨r_57, hc_57, h⟩ := bi_el h
      refine iv_X11_447 B hR (h0.at0 rfl) hl.1 (mX11_kindBehind fu _ h0 hc_57) (Nat.le_of_ble_eq_true rfl) dX11_stir_57 (fun H locs hR => ?_)
      refine lv_icmp_eq (tgt := 67) hx hb dX11_stir_60 (by decide) (fun c_60 => ?_) (fun c_60 => ?_)
      · rw [if_pos c_60] at h
        exact wX11_stir_j67 B hr hlk ih17 h0 h hR (lv_sub hl [0, 1, 3] rfl)
      · rw [if_neg c_60] at h
        refine lv_iconst (v := 1) hx hb dX11_stir_63 (by decide) ?_
        refine lv_goto (tgt := 68) hx hb dX11_stir_64 (by decide) ?_
        exact wX11_stir_j68 B hr hlk ih17 h0 h hR (lv_sub hl [0, 1, 3] rfl)
def fX11_stir_l17 (fu : Nat) (a0 : Nat) (x2 : Int32) (M : Mm) (x3 : Int32) (x4 : Int32) : Option (Int32 × Mm) := lp (fun (rec : (Int32 × Int32) → Option (Int32 × Mm)) (s : Int32 × Int32) => fX11_stir_b17 fu  (fun x3 x4 => rec (x3, x4)) a0 x2 s.1 s.2 M) fu (x3, x4)
set_option maxRecDepth 100000 in
set_option maxHeartbeats 4000000 in
theorem wX11_stir_l17 {r : Int32} {M' : Mm}   {a0 : Nat} {x2 : Int32} {x3 : Int32} {x4 : Int32} {M : Mm} (B : Bx p s m args c cX11_stir 5 RX11 E L) (hr : meth.sig.returnType = (some .int)) (hlk : meth.locks = false)  (h0 : At L a0 T11) (h : fX11_stir_l17 fu a0 x2 M x3 x4 = some (r, M')) (hR : Rx s E L M H locs) (hl : lv_has ls 5 [(0, .ref a0), (2, .int x2), (3, .int x3), (4, .int x4)]) : W p l e (rmD (d + 10)) s m args below meth c H locs 0 0 (MQ below (QcM E L (some (.int r)) M') args s 0 0 E.2.2.2) (F0 m 17 ls []) := by
  refine lp_G (G := fun z : Int32 × Int32 => ∀ (H : Heap) (locs : List Loc) (ls : Array Slot), Rx s E L M H locs → lv_has ls 5 [(0, .ref a0), (2, .int x2), (3, .int z.1), (4, .int z.2)] → W p l e (rmD (d + 10)) s m args below meth c H locs 0 0 (MQ below (QcM E L (some (.int r)) M') args s 0 0 E.2.2.2) (F0 m 17 ls [])) (fun rec ih z h H locs ls hR hl => ?_) fu _ h H locs ls hR hl
  exact wX11_stir_b17 B hr hlk  (fun x3 x4 h => ih (x3, x4) h) h0 h hR hl
def fX11_stir (fu : Nat) (a0 : Nat) (x1 : Int32) (M : Mm) : Option (Int32 × Mm) :=
  bw (fX11_orderAt fu a0 x1 M) fun r_2 M_2 =>
  if 0 ≤ r_2 then
    fX11_stir_l17 fu a0 r_2 M_2 0 0
  else
    some ((-1), M_2)
set_option maxRecDepth 100000 in
set_option maxHeartbeats 4000000 in
theorem mX11_stir {l : Launch} {E : Ge} {L : Lay} (fu d : Nat) {a0 : Nat} {x1 : Int32} {M : Mm} {r : Int32} {M' : Mm}  (h0 : At L a0 T11) (h : fX11_stir fu a0 x1 M = some (r, M')) : Ct l E L yX11_stir cX11_stir 5 (some .int) (d + 10) [.ref a0, .int x1] M (some (.int r)) M' := by
  refine Ct.of (by decide) ?_
  intro p e s m below meth c hr hlk B hR
  have B : Bx p s m _ c cX11_stir 5 RX11 E L := B
  have hx := B.1
  have hb := B.2.1
  have hl := lv_entry ([.ref a0, .int x1]) (n := 5) (Nat.le_of_ble_eq_true rfl)
  rw [lg_entry_eq]
  generalize (lg_sl ([.ref a0, .int x1]) ++ List.replicate (5 - (lg_sl ([.ref a0, .int x1])).length) Slot.unset).toArray = ls at hl ⊢
  have hl : lv_has ls 5 [(0, .ref a0), (1, .int x1)] := hl
  unfold fX11_stir at h
  refine lv_aload_n hx hb dX11_stir_0 rfl (lv_at hl 0 rfl) ?_
  refine lv_iload_n hx hb dX11_stir_1 rfl (lv_at hl 1 rfl) ?_
  obtain ⟨r_2, M_2, hc_2, h⟩ := bw_el h
  refine iv_X11_471 B hR (h0.at0 rfl) hl.1 (mX11_orderAt fu _ h0 hc_2) (Nat.le_of_ble_eq_true rfl) dX11_stir_2 (fun H locs hR => ?_)
  refine lv_istore_n (lv' := [(2, .int r_2), (0, .ref a0), (1, .int x1)]) hx hb dX11_stir_5 rfl hl (by decide) rfl (fun ls hl => ?_)
  refine lv_iload_n hx hb dX11_stir_6 rfl (lv_at hl 0 rfl) ?_
  refine lv_if_ge (tgt := 12) hx hb dX11_stir_7 (by decide) (fun c_7 => ?_) (fun c_7 => ?_)
  · rw [if_pos c_7] at h
    refine lv_iconst (v := 0) hx hb dX11_stir_12 (by decide) ?_
    refine lv_istore_n (lv' := [(3, .int 0), (2, .int r_2), (0, .ref a0), (1, .int x1)]) hx hb dX11_stir_13 rfl hl (by decide) rfl (fun ls hl => ?_)
    refine lv_iconst (v := 0) hx hb dX11_stir_14 (by decide) ?_
    refine lv_istore (lv' := [(4, .int 0), (3, .int 0), (2, .int r_2), (0, .ref a0), (1, .int x1)]) hx hb dX11_stir_15 hl (by decide) rfl (fun ls hl => ?_)
    exact wX11_stir_l17 B hr hlk h0 h hR (lv_sub hl [3, 2, 1, 0] rfl)
  · rw [if_neg c_7] at h
    refine lv_iconst (v := (-1)) hx hb dX11_stir_10 (by decide) ?_
    exact r_iretW B hR hr hlk h dX11_stir_11
def fX11_keepAct_j86 (fu : Nat) (a0 : Nat) (M : Mm) : Option Mm :=
  lt (wI M a0 50 ((M.1 a0 50) + 1)) fun M_93 =>
  lt (wI M_93 a0 51 0) fun M_98 =>
  some M_98
set_option maxRecDepth 100000 in
set_option maxHeartbeats 4000000 in
theorem wX11_keepAct_j86 {M' : Mm}   {a0 : Nat} {M : Mm} (B : Bx p s m args c cX11_keepAct 2 RX11 E L) (hr : meth.sig.returnType = none) (hlk : meth.locks = false)  (h0 : At L a0 T11) (h : fX11_keepAct_j86 fu a0 M = some M') (hR : Rx s E L M H locs) (hl : lv_has ls 2 [(0, .ref a0)]) : W p l e (rmD (d + 0)) s m args below meth c H locs 0 0 (MQ below (QcM E L none M') args s 0 0 E.2.2.2) (F0 m 86 ls []) := by
  have hx := B.1
  have hb := B.2.1
  unfold fX11_keepAct_j86 at h
  refine lv_aload_n hx hb dX11_keepAct_86 rfl (lv_at hl 0 rfl) ?_
  refine lv_dup hx hb dX11_keepAct_87 rfl ?_
  refine gf_X11_234 B hR (h0.at0 rfl) dX11_keepAct_88 ?_
  refine lv_iconst (v := 1) hx hb dX11_keepAct_91 (by decide) ?_
  refine lv_iadd hx hb dX11_keepAct_92 ?_
  obtain ⟨M_93, eM_93, h⟩ := lt_el h
  refine pf_X11_234 B hR (h0.at0 rfl) dX11_keepAct_93 (fun H locs hR => ?_)
  rw [← eM_93] at hR
  refine lv_aload_n hx hb dX11_keepAct_96 rfl (lv_at hl 0 rfl) ?_
  refine lv_iconst (v := 0) hx hb dX11_keepAct_97 (by decide) ?_
  obtain ⟨M_98, eM_98, h⟩ := lt_el h
  refine pf_X11_237 B hR (h0.at0 rfl) dX11_keepAct_98 (fun H locs hR => ?_)
  rw [← eM_98] at hR
  exact r_vretW B hR hr hlk h dX11_keepAct_101
def fX11_keepAct_b52 (fu : Nat) (k52 : Int32 → Mm → Option Mm) (a0 : Nat) (x1 : Int32) (M : Mm) : Option Mm :=
  if 140 ≤ x1 then
    fX11_keepAct_j86 fu a0 M
  else
    if x1 < 0 ∨ 140 ≤ ix x1 then none else
    if ((140 * (M.1 a0 50)) + x1) < 0 ∨ 2380 ≤ ix ((140 * (M.1 a0 50)) + x1) then none else
    lt (wI M (a0 + 27) (ix ((140 * (M.1 a0 50)) + x1)) (M.1 (a0 + 1) (ix x1))) fun M_79 =>
    lt (x1 + 1) fun x1_80 =>
    k52 x1_80 M_79
set_option maxRecDepth 100000 in
set_option maxHeartbeats 4000000 in
theorem wX11_keepAct_b52 {M' : Mm}   {k52 : Int32 → Mm → Option Mm} {a0 : Nat} {x1 : Int32} {M : Mm} (B : Bx p s m args c cX11_keepAct 2 RX11 E L) (hr : meth.sig.returnType = none) (hlk : meth.locks = false)  (ih52 : ∀ (x1 : Int32) (M : Mm), k52 x1 M = some M' → ∀ (H : Heap) (locs : List Loc) (ls : Array Slot), Rx s E L M H locs → lv_has ls 2 [(0, .ref a0), (1, .int x1)] → W p l e (rmD (d + 0)) s m args below meth c H locs 0 0 (MQ below (QcM E L none M') args s 0 0 E.2.2.2) (F0 m 52 ls [])) (h0 : At L a0 T11) (h : fX11_keepAct_b52 fu k52 a0 x1 M = some M') (hR : Rx s E L M H locs) (hl : lv_has ls 2 [(0, .ref a0), (1, .int x1)]) : W p l e (rmD (d + 0)) s m args below meth c H locs 0 0 (MQ below (QcM E L none M') args s 0 0 E.2.2.2) (F0 m 52 ls []) := by
  have hx := B.1
  have hb := B.2.1
  unfold fX11_keepAct_b52 at h
  refine lv_iload_n hx hb dX11_keepAct_52 rfl (lv_at hl 1 rfl) ?_
  refine lv_sipush (v := 140) hx hb dX11_keepAct_53 (by decide) ?_
  refine lv_icmp_ge (tgt := 86) hx hb dX11_keepAct_56 (by decide) (fun c_56 => ?_) (fun c_56 => ?_)
  · rw [if_pos c_56] at h
    exact wX11_keepAct_j86 B hr hlk h0 h hR (lv_sub hl [0] rfl)
  · rw [if_neg c_56] at h
    refine lv_aload_n hx hb dX11_keepAct_59 rfl (lv_at hl 0 rfl) ?_
    refine gf_X11_95 B hR (h0.at0 rfl) dX11_keepAct_60 ?_
    refine lv_sipush (v := 140) hx hb dX11_keepAct_63 (by decide) ?_
    refine lv_aload_n hx hb dX11_keepAct_66 rfl (lv_at hl 0 rfl) ?_
    refine gf_X11_234 B hR (h0.at0 rfl) dX11_keepAct_67 ?_
    refine lv_imul hx hb dX11_keepAct_70 ?_
    refine lv_iload_n hx hb dX11_keepAct_71 rfl (lv_at hl 1 rfl) ?_
    refine lv_iadd hx hb dX11_keepAct_72 ?_
    refine lv_aload_n hx hb dX11_keepAct_73 rfl (lv_at hl 0 rfl) ?_
    refine gf_X11_7 B hR (h0.at0 rfl) dX11_keepAct_74 ?_
    refine lv_iload_n hx hb dX11_keepAct_77 rfl (lv_at hl 1 rfl) ?_
    obtain ⟨hi_78, h⟩ := ifn_el h
    refine r_iald B hR (h0.at 1 rfl) hi_78 dX11_keepAct_78 ?_
    obtain ⟨hi_79, h⟩ := ifn_el h
    obtain ⟨M_79, eM_79, h⟩ := lt_el h
    refine r_iast B hR (h0.at 27 rfl) hi_79 dX11_keepAct_79 (fun H locs hR => ?_)
    rw [← eM_79] at hR
    obtain ⟨x1_80, ex1_80, h⟩ := lt_el h
    refine lv_iinc (v := x1_80) (lv' := [(1, .int x1_80), (0, .ref a0)]) hx hb dX11_keepAct_80 hl (k := 1) rfl (by rw [ex1_80]; rfl) (by decide) rfl (fun ls hl => ?_)
    refine lv_goto (tgt := 52) hx hb dX11_keepAct_83 (by decide) ?_
    exact ih52 x1_80 M_79 h _ _ _ hR (lv_sub hl [1, 0] rfl)
def fX11_keepAct_l52 (fu : Nat) (a0 : Nat) (x1 : Int32) (M : Mm) : Option Mm := lp (fun (rec : (Int32 × Mm) → Option Mm) (s : Int32 × Mm) => fX11_keepAct_b52 fu  (fun x1 M => rec (x1, M)) a0 s.1 s.2) fu (x1, M)
set_option maxRecDepth 100000 in
set_option maxHeartbeats 4000000 in
theorem wX11_keepAct_l52 {M' : Mm}   {a0 : Nat} {x1 : Int32} {M : Mm} (B : Bx p s m args c cX11_keepAct 2 RX11 E L) (hr : meth.sig.returnType = none) (hlk : meth.locks = false)  (h0 : At L a0 T11) (h : fX11_keepAct_l52 fu a0 x1 M = some M') (hR : Rx s E L M H locs) (hl : lv_has ls 2 [(0, .ref a0), (1, .int x1)]) : W p l e (rmD (d + 0)) s m args below meth c H locs 0 0 (MQ below (QcM E L none M') args s 0 0 E.2.2.2) (F0 m 52 ls []) := by
  refine lp_G (G := fun z : Int32 × Mm => ∀ (H : Heap) (locs : List Loc) (ls : Array Slot), Rx s E L z.2 H locs → lv_has ls 2 [(0, .ref a0), (1, .int z.1)] → W p l e (rmD (d + 0)) s m args below meth c H locs 0 0 (MQ below (QcM E L none M') args s 0 0 E.2.2.2) (F0 m 52 ls [])) (fun rec ih z h H locs ls hR hl => ?_) fu _ h H locs ls hR hl
  exact wX11_keepAct_b52 B hr hlk  (fun x1 M h => ih (x1, M) h) h0 h hR hl
def fX11_keepAct_j50 (fu : Nat) (a0 : Nat) (M : Mm) : Option Mm :=
  fX11_keepAct_l52 fu a0 0 M
set_option maxRecDepth 100000 in
set_option maxHeartbeats 4000000 in
theorem wX11_keepAct_j50 {M' : Mm}   {a0 : Nat} {M : Mm} (B : Bx p s m args c cX11_keepAct 2 RX11 E L) (hr : meth.sig.returnType = none) (hlk : meth.locks = false)  (h0 : At L a0 T11) (h : fX11_keepAct_j50 fu a0 M = some M') (hR : Rx s E L M H locs) (hl : lv_has ls 2 [(0, .ref a0)]) : W p l e (rmD (d + 0)) s m args below meth c H locs 0 0 (MQ below (QcM E L none M') args s 0 0 E.2.2.2) (F0 m 50 ls []) := by
  have hx := B.1
  have hb := B.2.1
  unfold fX11_keepAct_j50 at h
  refine lv_iconst (v := 0) hx hb dX11_keepAct_50 (by decide) ?_
  refine lv_istore_n (lv' := [(1, .int 0), (0, .ref a0)]) hx hb dX11_keepAct_51 rfl hl (by decide) rfl (fun ls hl => ?_)
  exact wX11_keepAct_l52 B hr hlk h0 h hR (lv_sub hl [1, 0] rfl)
def fX11_keepAct_j40 (fu : Nat) (a0 : Nat) (M : Mm) : Option Mm :=
  lt (wI M a0 50 ((M.1 a0 50) - 1)) fun M_47 =>
  fX11_keepAct_j50 fu a0 M_47
set_option maxRecDepth 100000 in
set_option maxHeartbeats 4000000 in
theorem wX11_keepAct_j40 {M' : Mm}   {a0 : Nat} {M : Mm} (B : Bx p s m args c cX11_keepAct 2 RX11 E L) (hr : meth.sig.returnType = none) (hlk : meth.locks = false)  (h0 : At L a0 T11) (h : fX11_keepAct_j40 fu a0 M = some M') (hR : Rx s E L M H locs) (hl : lv_has ls 2 [(0, .ref a0)]) : W p l e (rmD (d + 0)) s m args below meth c H locs 0 0 (MQ below (QcM E L none M') args s 0 0 E.2.2.2) (F0 m 40 ls []) := by
  have hx := B.1
  have hb := B.2.1
  unfold fX11_keepAct_j40 at h
  refine lv_aload_n hx hb dX11_keepAct_40 rfl (lv_at hl 0 rfl) ?_
  refine lv_dup hx hb dX11_keepAct_41 rfl ?_
  refine gf_X11_234 B hR (h0.at0 rfl) dX11_keepAct_42 ?_
  refine lv_iconst (v := 1) hx hb dX11_keepAct_45 (by decide) ?_
  refine lv_isub hx hb dX11_keepAct_46 ?_
  obtain ⟨M_47, eM_47, h⟩ := lt_el h
  refine pf_X11_234 B hR (h0.at0 rfl) dX11_keepAct_47 (fun H locs hR => ?_)
  rw [← eM_47] at hR
  exact wX11_keepAct_j50 B hr hlk h0 h hR hl
def fX11_keepAct_b11 (fu : Nat) (k11 : Int32 → Mm → Option Mm) (a0 : Nat) (x1 : Int32) (M : Mm) : Option Mm :=
  if 2240 ≤ x1 then
    fX11_keepAct_j40 fu a0 M
  else
    if (x1 + 140) < 0 ∨ 2380 ≤ ix (x1 + 140) then none else
    if x1 < 0 ∨ 2380 ≤ ix x1 then none else
    lt (wI M (a0 + 27) (ix x1) (M.1 (a0 + 27) (ix (x1 + 140)))) fun M_33 =>
    lt (x1 + 1) fun x1_34 =>
    k11 x1_34 M_33
set_option maxRecDepth 100000 in
set_option maxHeartbeats 4000000 in
theorem wX11_keepAct_b11 {M' : Mm}   {k11 : Int32 → Mm → Option Mm} {a0 : Nat} {x1 : Int32} {M : Mm} (B : Bx p s m args c cX11_keepAct 2 RX11 E L) (hr : meth.sig.returnType = none) (hlk : meth.locks = false)  (ih11 : ∀ (x1 : Int32) (M : Mm), k11 x1 M = some M' → ∀ (H : Heap) (locs : List Loc) (ls : Array Slot), Rx s E L M H locs → lv_has ls 2 [(0, .ref a0), (1, .int x1)] → W p l e (rmD (d + 0)) s m args below meth c H locs 0 0 (MQ below (QcM E L none M') args s 0 0 E.2.2.2) (F0 m 11 ls [])) (h0 : At L a0 T11) (h : fX11_keepAct_b11 fu k11 a0 x1 M = some M') (hR : Rx s E L M H locs) (hl : lv_has ls 2 [(0, .ref a0), (1, .int x1)]) : W p l e (rmD (d + 0)) s m args below meth c H locs 0 0 (MQ below (QcM E L none M') args s 0 0 E.2.2.2) (F0 m 11 ls []) := by
  have hx := B.1
  have hb := B.2.1
  unfold fX11_keepAct_b11 at h
  refine lv_iload_n hx hb dX11_keepAct_11 rfl (lv_at hl 1 rfl) ?_
  refine lv_sipush (v := 2240) hx hb dX11_keepAct_12 (by decide) ?_
  refine lv_icmp_ge (tgt := 40) hx hb dX11_keepAct_15 (by decide) (fun c_15 => ?_) (fun c_15 => ?_)
  · rw [if_pos c_15] at h
    exact wX11_keepAct_j40 B hr hlk h0 h hR (lv_sub hl [0] rfl)
  · rw [if_neg c_15] at h
    refine lv_aload_n hx hb dX11_keepAct_18 rfl (lv_at hl 0 rfl) ?_
    refine gf_X11_95 B hR (h0.at0 rfl) dX11_keepAct_19 ?_
    refine lv_iload_n hx hb dX11_keepAct_22 rfl (lv_at hl 1 rfl) ?_
    refine lv_aload_n hx hb dX11_keepAct_23 rfl (lv_at hl 0 rfl) ?_
    refine gf_X11_95 B hR (h0.at0 rfl) dX11_keepAct_24 ?_
    refine lv_iload_n hx hb dX11_keepAct_27 rfl (lv_at hl 1 rfl) ?_
    refine lv_sipush (v := 140) hx hb dX11_keepAct_28 (by decide) ?_
    refine lv_iadd hx hb dX11_keepAct_31 ?_
    obtain ⟨hi_32, h⟩ := ifn_el h
    refine r_iald B hR (h0.at 27 rfl) hi_32 dX11_keepAct_32 ?_
    obtain ⟨hi_33, h⟩ := ifn_el h
    obtain ⟨M_33, eM_33, h⟩ := lt_el h
    refine r_iast B hR (h0.at 27 rfl) hi_33 dX11_keepAct_33 (fun H locs hR => ?_)
    rw [← eM_33] at hR
    obtain ⟨x1_34, ex1_34, h⟩ := lt_el h
    refine lv_iinc (v := x1_34) (lv' := [(1, .int x1_34), (0, .ref a0)]) hx hb dX11_keepAct_34 hl (k := 1) rfl (by rw [ex1_34]; rfl) (by decide) rfl (fun ls hl => ?_)
    refine lv_goto (tgt := 11) hx hb dX11_keepAct_37 (by decide) ?_
    exact ih11 x1_34 M_33 h _ _ _ hR (lv_sub hl [1, 0] rfl)
def fX11_keepAct_l11 (fu : Nat) (a0 : Nat) (x1 : Int32) (M : Mm) : Option Mm := lp (fun (rec : (Int32 × Mm) → Option Mm) (s : Int32 × Mm) => fX11_keepAct_b11 fu  (fun x1 M => rec (x1, M)) a0 s.1 s.2) fu (x1, M)
set_option maxRecDepth 100000 in
set_option maxHeartbeats 4000000 in
theorem wX11_keepAct_l11 {M' : Mm}   {a0 : Nat} {x1 : Int32} {M : Mm} (B : Bx p s m args c cX11_keepAct 2 RX11 E L) (hr : meth.sig.returnType = none) (hlk : meth.locks = false)  (h0 : At L a0 T11) (h : fX11_keepAct_l11 fu a0 x1 M = some M') (hR : Rx s E L M H locs) (hl : lv_has ls 2 [(0, .ref a0), (1, .int x1)]) : W p l e (rmD (d + 0)) s m args below meth c H locs 0 0 (MQ below (QcM E L none M') args s 0 0 E.2.2.2) (F0 m 11 ls []) := by
  refine lp_G (G := fun z : Int32 × Mm => ∀ (H : Heap) (locs : List Loc) (ls : Array Slot), Rx s E L z.2 H locs → lv_has ls 2 [(0, .ref a0), (1, .int z.1)] → W p l e (rmD (d + 0)) s m args below meth c H locs 0 0 (MQ below (QcM E L none M') args s 0 0 E.2.2.2) (F0 m 11 ls [])) (fun rec ih z h H locs ls hR hl => ?_) fu _ h H locs ls hR hl
  exact wX11_keepAct_b11 B hr hlk  (fun x1 M h => ih (x1, M) h) h0 h hR hl
def fX11_keepAct (fu : Nat) (a0 : Nat) (M : Mm) : Option Mm :=
  if (M.1 a0 50) = 16 then
    fX11_keepAct_l11 fu a0 0 M
  else
    fX11_keepAct_j50 fu a0 M
set_option maxRecDepth 100000 in
set_option maxHeartbeats 4000000 in
theorem mX11_keepAct {l : Launch} {E : Ge} {L : Lay} (fu d : Nat) {a0 : Nat} {M : Mm} {M' : Mm}  (h0 : At L a0 T11) (h : fX11_keepAct fu a0 M = some M') : Ct l E L yX11_keepAct cX11_keepAct 2 none (d + 0) [.ref a0] M none M' := by
  refine Ct.of (by decide) ?_
  intro p e s m below meth c hr hlk B hR
  have B : Bx p s m _ c cX11_keepAct 2 RX11 E L := B
  have hx := B.1
  have hb := B.2.1
  have hl := lv_entry ([.ref a0]) (n := 2) (Nat.le_of_ble_eq_true rfl)
  rw [lg_entry_eq]
  generalize (lg_sl ([.ref a0]) ++ List.replicate (2 - (lg_sl ([.ref a0])).length) Slot.unset).toArray = ls at hl ⊢
  have hl : lv_has ls 2 [(0, .ref a0)] := hl
  unfold fX11_keepAct at h
  refine lv_aload_n hx hb dX11_keepAct_0 rfl (lv_at hl 0 rfl) ?_
  refine gf_X11_234 B hR (h0.at0 rfl) dX11_keepAct_1 ?_
  refine lv_bipush (v := 16) hx hb dX11_keepAct_4 (by decide) ?_
  refine lv_icmp_ne (tgt := 50) hx hb dX11_keepAct_6 (by decide) (fun c_6 => ?_) (fun c_6 => ?_)
  · rw [if_neg c_6] at h
    exact wX11_keepAct_j50 B hr hlk h0 h hR hl
  · rw [if_pos c_6] at h
    refine lv_iconst (v := 0) hx hb dX11_keepAct_9 (by decide) ?_
    refine lv_istore_n (lv' := [(1, .int 0), (0, .ref a0)]) hx hb dX11_keepAct_10 rfl hl (by decide) rfl (fun ls hl => ?_)
    exact wX11_keepAct_l11 B hr hlk h0 h hR (lv_sub hl [1, 0] rfl)
def fX11_span_j39 (fu : Nat) (M : Mm) : Option (Int32 × Mm) :=
  some ((-1), M)
set_option maxRecDepth 100000 in
set_option maxHeartbeats 4000000 in
theorem wX11_span_j39 {r : Int32} {M' : Mm}    {M : Mm} (B : Bx p s m args c cX11_span 5 RX11 E L) (hr : meth.sig.returnType = (some .int)) (hlk : meth.locks = false)   (h : fX11_span_j39 fu M = some (r, M')) (hR : Rx s E L M H locs) (hl : lv_has ls 5 []) : W p l e (rmD (d + 2)) s m args below meth c H locs 0 0 (MQ below (QcM E L (some (.int r)) M') args s 0 0 E.2.2.2) (F0 m 39 ls []) := by
  have hx := B.1
  have hb := B.2.1
  unfold fX11_span_j39 at h
  refine lv_iconst (v := (-1)) hx hb dX11_span_39 (by decide) ?_
  exact r_iretW B hR hr hlk h dX11_span_40
def fX11_span (fu : Nat) (a0 : Nat) (x1 : Int32) (x2 : Int32) (x3 : Int32) (M : Mm) : Option (Int32 × Mm) :=
  bi (fX11_isAddress fu a0 x1 M) fun r_2 =>
  if r_2 = 0 then
    fX11_span_j39 fu M
  else
    bi (fX11_isAddress fu a0 x2 M) fun r_10 =>
    if r_10 = 0 then
      fX11_span_j39 fu M
    else
      if x2 < x1 then
        fX11_span_j39 fu M
      else
        bi (fX11_isKind fu x3) fun r_22 =>
        if r_22 = 0 then
          fX11_span_j39 fu M
        else
          if (M.1 (a0 + 1) (ix 1)) = 12 then
            fX11_span_j39 fu M
          else
            bm (fX11_keepAct fu a0 M) fun M_42 =>
            lt ((2 + (3 * (M_42.1 (a0 + 1) (ix 1))))) fun x4_55 =>
            if x4_55 < 0 ∨ 140 ≤ ix x4_55 then none else
            lt (wI M_42 (a0 + 1) (ix x4_55) x1) fun M_64 =>
            if (x4_55 + 1) < 0 ∨ 140 ≤ ix (x4_55 + 1) then none else
            lt (wI M_64 (a0 + 1) (ix (x4_55 + 1)) x2) fun M_74 =>
            if (x4_55 + 2) < 0 ∨ 140 ≤ ix (x4_55 + 2) then none else
            lt (wI M_74 (a0 + 1) (ix (x4_55 + 2)) x3) fun M_84 =>
            lt (wI M_84 (a0 + 1) (ix 1) ((M_84.1 (a0 + 1) (ix 1)) + 1)) fun M_94 =>
            some (((M_94.1 (a0 + 1) (ix 1)) - 1), M_94)
set_option maxRecDepth 100000 in
set_option maxHeartbeats 4000000 in
theorem mX11_span {l : Launch} {E : Ge} {L : Lay} (fu d : Nat) {a0 : Nat} {x1 : Int32} {x2 : Int32} {x3 : Int32} {M : Mm} {r : Int32} {M' : Mm}  (h0 : At L a0 T11) (h : fX11_span fu a0 x1 x2 x3 M = some (r, M')) : Ct l E L yX11_span cX11_span 5 (some .int) (d + 2) [.ref a0, .int x1, .int x2, .int x3] M (some (.int r)) M' := by
  refine Ct.of (by decide) ?_
  intro p e s m below meth c hr hlk B hR
  have B : Bx p s m _ c cX11_span 5 RX11 E L := B
  have hx := B.1
  have hb := B.2.1
  have hl := lv_entry ([.ref a0, .int x1, .int x2, .int x3]) (n := 5) (Nat.le_of_ble_eq_true rfl)
  rw [lg_entry_eq]
  generalize (lg_sl ([.ref a0, .int x1, .int x2, .int x3]) ++ List.replicate (5 - (lg_sl ([.ref a0, .int x1, .int x2, .int x3])).length) Slot.unset).toArray = ls at hl ⊢
  have hl : lv_has ls 5 [(0, .ref a0), (1, .int x1), (2, .int x2), (3, .int x3)] := hl
  unfold fX11_span at h
  refine lv_aload_n hx hb dX11_span_0 rfl (lv_at hl 0 rfl) ?_
  refine lv_iload_n hx hb dX11_span_1 rfl (lv_at hl 1 rfl) ?_
  obtain ⟨r_2, hc_2, h⟩ := bi_el h
  refine iv_X11_282 B hR (h0.at0 rfl) hl.1 (mX11_isAddress fu _ h0 hc_2) (Nat.le_of_ble_eq_true rfl) dX11_span_2 (fun H locs hR => ?_)
  refine lv_if_eq (tgt := 39) hx hb dX11_span_5 (by decide) (fun c_5 => ?_) (fun c_5 => ?_)
  · rw [if_pos c_5] at h
    exact wX11_span_j39 B hr hlk  h hR (lv_sub hl [] rfl)
  · rw [if_neg c_5] at h
    refine lv_aload_n hx hb dX11_span_8 rfl (lv_at hl 0 rfl) ?_
    refine lv_iload_n hx hb dX11_span_9 rfl (lv_at hl 2 rfl) ?_
    obtain ⟨r_10, hc_10, h⟩ := bi_el h
    refine iv_X11_282 B hR (h0.at0 rfl) hl.1 (mX11_isAddress fu _ h0 hc_10) (Nat.le_of_ble_eq_true rfl) dX11_span_10 (fun H locs hR => ?_)
    refine lv_if_eq (tgt := 39) hx hb dX11_span_13 (by decide) (fun c_13 => ?_) (fun c_13 => ?_)
    · rw [if_pos c_13] at h
      exact wX11_span_j39 B hr hlk  h hR (lv_sub hl [] rfl)
    · rw [if_neg c_13] at h
      refine lv_iload_n hx hb dX11_span_16 rfl (lv_at hl 2 rfl) ?_
      refine lv_iload_n hx hb dX11_span_17 rfl (lv_at hl 1 rfl) ?_
      refine lv_icmp_lt (tgt := 39) hx hb dX11_span_18 (by decide) (fun c_18 => ?_) (fun c_18 => ?_)
      · rw [if_pos c_18] at h
        exact wX11_span_j39 B hr hlk  h hR (lv_sub hl [] rfl)
      · rw [if_neg c_18] at h
        refine lv_iload_n hx hb dX11_span_21 rfl (lv_at hl 3 rfl) ?_
        obtain ⟨r_22, hc_22, h⟩ := bi_el h
        refine is_X11_306 B hR hl.1 (mX11_isKind fu _  hc_22) (Nat.le_of_ble_eq_true rfl) dX11_span_22 (fun H locs hR => ?_)
        refine lv_if_eq (tgt := 39) hx hb dX11_span_25 (by decide) (fun c_25 => ?_) (fun c_25 => ?_)
        · rw [if_pos c_25] at h
          exact wX11_span_j39 B hr hlk  h hR (lv_sub hl [] rfl)
        · rw [if_neg c_25] at h
          refine lv_aload_n hx hb dX11_span_28 rfl (lv_at hl 0 rfl) ?_
          refine gf_X11_7 B hR (h0.at0 rfl) dX11_span_29 ?_
          refine lv_iconst (v := 1) hx hb dX11_span_32 (by decide) ?_
          refine r_iald B hR (h0.at 1 rfl) (by decide +kernel) dX11_span_33 ?_
          refine lv_bipush (v := 12) hx hb dX11_span_34 (by decide) ?_
          refine lv_icmp_ne (tgt := 41) hx hb dX11_span_36 (by decide) (fun c_36 => ?_) (fun c_36 => ?_)
          · rw [if_neg c_36] at h
            refine lv_aload_n hx hb dX11_span_41 rfl (lv_at hl 0 rfl) ?_
            obtain ⟨M_42, hc_42, h⟩ := bm_el h
            refine iv_X11_474 B hR (h0.at0 rfl) hl.1 (mX11_keepAct fu _ h0 hc_42) (Nat.le_of_ble_eq_true rfl) dX11_span_42 (fun H locs hR => ?_)
            refine lv_iconst (v := 2) hx hb dX11_span_45 (by decide) ?_
            refine lv_iconst (v := 3) hx hb dX11_span_46 (by decide) ?_
            refine lv_aload_n hx hb dX11_span_47 rfl (lv_at hl 0 rfl) ?_
            refine gf_X11_7 B hR (h0.at0 rfl) dX11_span_48 ?_
            refine lv_iconst (v := 1) hx hb dX11_span_51 (by decide) ?_
            refine r_iald B hR (h0.at 1 rfl) (by decide +kernel) dX11_span_52 ?_
            refine lv_imul hx hb dX11_span_53 ?_
            refine lv_iadd hx hb dX11_span_54 ?_
            obtain ⟨x4_55, ex4_55, h⟩ := lt_el h
            refine r_nmI ex4_55 ?_
            refine lv_istore (lv' := [(4, .int x4_55), (0, .ref a0), (1, .int x1), (2, .int x2), (3, .int x3)]) hx hb dX11_span_55 hl (by decide) rfl (fun ls hl => ?_)
            refine lv_aload_n hx hb dX11_span_57 rfl (lv_at hl 1 rfl) ?_
            refine gf_X11_7 B hR (h0.at0 rfl) dX11_span_58 ?_
            refine lv_iload hx hb dX11_span_61 (lv_at hl 0 rfl) ?_
            refine lv_iload_n hx hb dX11_span_63 rfl (lv_at hl 2 rfl) ?_
            obtain ⟨hi_64, h⟩ := ifn_el h
            obtain ⟨M_64, eM_64, h⟩ := lt_el h
            refine r_iast B hR (h0.at 1 rfl) hi_64 dX11_span_64 (fun H locs hR => ?_)
            rw [← eM_64] at hR
            refine lv_aload_n hx hb dX11_span_65 rfl (lv_at hl 1 rfl) ?_
            refine gf_X11_7 B hR (h0.at0 rfl) dX11_span_66 ?_
            refine lv_iload hx hb dX11_span_69 (lv_at hl 0 rfl) ?_
            refine lv_iconst (v := 1) hx hb dX11_span_71 (by decide) ?_
            refine lv_iadd hx hb dX11_span_72 ?_
            refine lv_iload_n hx hb dX11_span_73 rfl (lv_at hl 3 rfl) ?_
            obtain ⟨hi_74, h⟩ := ifn_el h
            obtain ⟨M_74, eM_74, h⟩ := lt_el h
            refine r_iast B hR (h0.at 1 rfl) hi_74 dX11_span_74 (fun H locs hR => ?_)
            rw [← eM_74] at hR
            refine lv_aload_n hx hb dX11_span_75 rfl (lv_at hl 1 rfl) ?_
            refine gf_X11_7 B hR (h0.at0 rfl) dX11_span_76 ?_
            refine lv_iload hx hb dX11_span_79 (lv_at hl 0 rfl) ?_
            refine lv_iconst (v := 2) hx hb dX11_span_81 (by decide) ?_
            refine lv_iadd hx hb dX11_span_82 ?_
            refine lv_iload_n hx hb dX11_span_83 rfl (lv_at hl 4 rfl) ?_
            obtain ⟨hi_84, h⟩ := ifn_el h
            obtain ⟨M_84, eM_84, h⟩ := lt_el h
            refine r_iast B hR (h0.at 1 rfl) hi_84 dX11_span_84 (fun H locs hR => ?_)
            rw [← eM_84] at hR
            refine lv_aload_n hx hb dX11_span_85 rfl (lv_at hl 1 rfl) ?_
            refine gf_X11_7 B hR (h0.at0 rfl) dX11_span_86 ?_
            refine lv_iconst (v := 1) hx hb dX11_span_89 (by decide) ?_
            refine lv_dup2_11 hx hb dX11_span_90 rfl rfl ?_
            refine r_iald B hR (h0.at 1 rfl) (by decide +kernel) dX11_span_91 ?_
            refine lv_iconst (v := 1) hx hb dX11_span_92 (by decide) ?_
            refine lv_iadd hx hb dX11_span_93 ?_
            obtain ⟨M_94, eM_94, h⟩ := lt_el h
            refine r_iast B hR (h0.at 1 rfl) (by decide +kernel) dX11_span_94 (fun H locs hR => ?_)
            rw [← eM_94] at hR
            refine lv_aload_n hx hb dX11_span_95 rfl (lv_at hl 1 rfl) ?_
            refine gf_X11_7 B hR (h0.at0 rfl) dX11_span_96 ?_
            refine lv_iconst (v := 1) hx hb dX11_span_99 (by decide) ?_
            refine r_iald B hR (h0.at 1 rfl) (by decide +kernel) dX11_span_100 ?_
            refine lv_iconst (v := 1) hx hb dX11_span_101 (by decide) ?_
            refine lv_isub hx hb dX11_span_102 ?_
            exact r_iretW B hR hr hlk h dX11_span_103
          · rw [if_pos c_36] at h
            exact wX11_span_j39 B hr hlk  h hR (lv_sub hl [] rfl)
def fX11_drop_j72 (fu : Nat) (a0 : Nat) (M : Mm) : Option (Int32 × Mm) :=
  some ((M.1 (a0 + 1) (ix 1)), M)
set_option maxRecDepth 100000 in
set_option maxHeartbeats 4000000 in
theorem wX11_drop_j72 {r : Int32} {M' : Mm}   {a0 : Nat} {M : Mm} (B : Bx p s m args c cX11_drop 3 RX11 E L) (hr : meth.sig.returnType = (some .int)) (hlk : meth.locks = false)  (h0 : At L a0 T11) (h : fX11_drop_j72 fu a0 M = some (r, M')) (hR : Rx s E L M H locs) (hl : lv_has ls 3 [(0, .ref a0)]) : W p l e (rmD (d + 1)) s m args below meth c H locs 0 0 (MQ below (QcM E L (some (.int r)) M') args s 0 0 E.2.2.2) (F0 m 72 ls []) := by
  have hx := B.1
  have hb := B.2.1
  unfold fX11_drop_j72 at h
  refine lv_aload_n hx hb dX11_drop_72 rfl (lv_at hl 0 rfl) ?_
  refine gf_X11_7 B hR (h0.at0 rfl) dX11_drop_73 ?_
  refine lv_iconst (v := 1) hx hb dX11_drop_76 (by decide) ?_
  refine r_iald B hR (h0.at 1 rfl) (by decide +kernel) dX11_drop_77 ?_
  exact r_iretW B hR hr hlk h dX11_drop_78
def fX11_drop_b38 (fu : Nat) (k38 : Int32 → Mm → Option (Int32 × Mm)) (a0 : Nat) (x2 : Int32) (M : Mm) : Option (Int32 × Mm) :=
  if (2 + (3 * (M.1 (a0 + 1) (ix 1)))) ≤ x2 then
    fX11_drop_j72 fu a0 M
  else
    if (x2 + 3) < 0 ∨ 140 ≤ ix (x2 + 3) then none else
    if x2 < 0 ∨ 140 ≤ ix x2 then none else
    lt (wI M (a0 + 1) (ix x2) (M.1 (a0 + 1) (ix (x2 + 3)))) fun M_65 =>
    lt (x2 + 1) fun x2_66 =>
    k38 x2_66 M_65
set_option maxRecDepth 100000 in
set_option maxHeartbeats 4000000 in
theorem wX11_drop_b38 {r : Int32} {M' : Mm}   {k38 : Int32 → Mm → Option (Int32 × Mm)} {a0 : Nat} {x2 : Int32} {M : Mm} (B : Bx p s m args c cX11_drop 3 RX11 E L) (hr : meth.sig.returnType = (some .int)) (hlk : meth.locks = false)  (ih38 : ∀ (x2 : Int32) (M : Mm), k38 x2 M = some (r, M') → ∀ (H : Heap) (locs : List Loc) (ls : Array Slot), Rx s E L M H locs → lv_has ls 3 [(0, .ref a0), (2, .int x2)] → W p l e (rmD (d + 1)) s m args below meth c H locs 0 0 (MQ below (QcM E L (some (.int r)) M') args s 0 0 E.2.2.2) (F0 m 38 ls [])) (h0 : At L a0 T11) (h : fX11_drop_b38 fu k38 a0 x2 M = some (r, M')) (hR : Rx s E L M H locs) (hl : lv_has ls 3 [(0, .ref a0), (2, .int x2)]) : W p l e (rmD (d + 1)) s m args below meth c H locs 0 0 (MQ below (QcM E L (some (.int r)) M') args s 0 0 E.2.2.2) (F0 m 38 ls []) := by
  have hx := B.1
  have hb := B.2.1
  unfold fX11_drop_b38 at h
  refine lv_iload_n hx hb dX11_drop_38 rfl (lv_at hl 1 rfl) ?_
  refine lv_iconst (v := 2) hx hb dX11_drop_39 (by decide) ?_
  refine lv_iconst (v := 3) hx hb dX11_drop_40 (by decide) ?_
  refine lv_aload_n hx hb dX11_drop_41 rfl (lv_at hl 0 rfl) ?_
  refine gf_X11_7 B hR (h0.at0 rfl) dX11_drop_42 ?_
  refine lv_iconst (v := 1) hx hb dX11_drop_45 (by decide) ?_
  refine r_iald B hR (h0.at 1 rfl) (by decide +kernel) dX11_drop_46 ?_
  refine lv_imul hx hb dX11_drop_47 ?_
  refine lv_iadd hx hb dX11_drop_48 ?_
  refine lv_icmp_ge (tgt := 72) hx hb dX11_drop_49 (by decide) (fun c_49 => ?_) (fun c_49 => ?_)
  · rw [if_pos c_49] at h
    exact wX11_drop_j72 B hr hlk h0 h hR (lv_sub hl [0] rfl)
  · rw [if_neg c_49] at h
    refine lv_aload_n hx hb dX11_drop_52 rfl (lv_at hl 0 rfl) ?_
    refine gf_X11_7 B hR (h0.at0 rfl) dX11_drop_53 ?_
    refine lv_iload_n hx hb dX11_drop_56 rfl (lv_at hl 1 rfl) ?_
    refine lv_aload_n hx hb dX11_drop_57 rfl (lv_at hl 0 rfl) ?_
    refine gf_X11_7 B hR (h0.at0 rfl) dX11_drop_58 ?_
    refine lv_iload_n hx hb dX11_drop_61 rfl (lv_at hl 1 rfl) ?_
    refine lv_iconst (v := 3) hx hb dX11_drop_62 (by decide) ?_
    refine lv_iadd hx hb dX11_drop_63 ?_
    obtain ⟨hi_64, h⟩ := ifn_el h
    refine r_iald B hR (h0.at 1 rfl) hi_64 dX11_drop_64 ?_
    obtain ⟨hi_65, h⟩ := ifn_el h
    obtain ⟨M_65, eM_65, h⟩ := lt_el h
    refine r_iast B hR (h0.at 1 rfl) hi_65 dX11_drop_65 (fun H locs hR => ?_)
    rw [← eM_65] at hR
    obtain ⟨x2_66, ex2_66, h⟩ := lt_el h
    refine lv_iinc (v := x2_66) (lv' := [(2, .int x2_66), (0, .ref a0)]) hx hb dX11_drop_66 hl (k := 1) rfl (by rw [ex2_66]; rfl) (by decide) rfl (fun ls hl => ?_)
    refine lv_goto (tgt := 38) hx hb dX11_drop_69 (by decide) ?_
    exact ih38 x2_66 M_65 h _ _ _ hR (lv_sub hl [1, 0] rfl)
def fX11_drop_l38 (fu : Nat) (a0 : Nat) (x2 : Int32) (M : Mm) : Option (Int32 × Mm) := lp (fun (rec : (Int32 × Mm) → Option (Int32 × Mm)) (s : Int32 × Mm) => fX11_drop_b38 fu  (fun x2 M => rec (x2, M)) a0 s.1 s.2) fu (x2, M)
set_option maxRecDepth 100000 in
set_option maxHeartbeats 4000000 in
theorem wX11_drop_l38 {r : Int32} {M' : Mm}   {a0 : Nat} {x2 : Int32} {M : Mm} (B : Bx p s m args c cX11_drop 3 RX11 E L) (hr : meth.sig.returnType = (some .int)) (hlk : meth.locks = false)  (h0 : At L a0 T11) (h : fX11_drop_l38 fu a0 x2 M = some (r, M')) (hR : Rx s E L M H locs) (hl : lv_has ls 3 [(0, .ref a0), (2, .int x2)]) : W p l e (rmD (d + 1)) s m args below meth c H locs 0 0 (MQ below (QcM E L (some (.int r)) M') args s 0 0 E.2.2.2) (F0 m 38 ls []) := by
  refine lp_G (G := fun z : Int32 × Mm => ∀ (H : Heap) (locs : List Loc) (ls : Array Slot), Rx s E L z.2 H locs → lv_has ls 3 [(0, .ref a0), (2, .int z.1)] → W p l e (rmD (d + 1)) s m args below meth c H locs 0 0 (MQ below (QcM E L (some (.int r)) M') args s 0 0 E.2.2.2) (F0 m 38 ls [])) (fun rec ih z h H locs ls hR hl => ?_) fu _ h H locs ls hR hl
  exact wX11_drop_b38 B hr hlk  (fun x2 M h => ih (x2, M) h) h0 h hR hl
def fX11_drop (fu : Nat) (a0 : Nat) (x1 : Int32) (M : Mm) : Option (Int32 × Mm) :=
  bi (fX11_isIn fu x1 0 ((M.1 (a0 + 1) (ix 1)) - 1)) fun r_10 =>
  if r_10 = 0 then
    some ((-1), M)
  else
    bm (fX11_keepAct fu a0 M) fun M_19 =>
    lt (wI M_19 (a0 + 1) (ix 1) ((M_19.1 (a0 + 1) (ix 1)) - 1)) fun M_31 =>
    lt ((2 + (3 * x1))) fun x2_37 =>
    fX11_drop_l38 fu a0 x2_37 M_31
set_option maxRecDepth 100000 in
set_option maxHeartbeats 4000000 in
theorem mX11_drop {l : Launch} {E : Ge} {L : Lay} (fu d : Nat) {a0 : Nat} {x1 : Int32} {M : Mm} {r : Int32} {M' : Mm}  (h0 : At L a0 T11) (h : fX11_drop fu a0 x1 M = some (r, M')) : Ct l E L yX11_drop cX11_drop 3 (some .int) (d + 1) [.ref a0, .int x1] M (some (.int r)) M' := by
  refine Ct.of (by decide) ?_
  intro p e s m below meth c hr hlk B hR
  have B : Bx p s m _ c cX11_drop 3 RX11 E L := B
  have hx := B.1
  have hb := B.2.1
  have hl := lv_entry ([.ref a0, .int x1]) (n := 3) (Nat.le_of_ble_eq_true rfl)
  rw [lg_entry_eq]
  generalize (lg_sl ([.ref a0, .int x1]) ++ List.replicate (3 - (lg_sl ([.ref a0, .int x1])).length) Slot.unset).toArray = ls at hl ⊢
  have hl : lv_has ls 3 [(0, .ref a0), (1, .int x1)] := hl
  unfold fX11_drop at h
  refine lv_iload_n hx hb dX11_drop_0 rfl (lv_at hl 1 rfl) ?_
  refine lv_iconst (v := 0) hx hb dX11_drop_1 (by decide) ?_
  refine lv_aload_n hx hb dX11_drop_2 rfl (lv_at hl 0 rfl) ?_
  refine gf_X11_7 B hR (h0.at0 rfl) dX11_drop_3 ?_
  refine lv_iconst (v := 1) hx hb dX11_drop_6 (by decide) ?_
  refine r_iald B hR (h0.at 1 rfl) (by decide +kernel) dX11_drop_7 ?_
  refine lv_iconst (v := 1) hx hb dX11_drop_8 (by decide) ?_
  refine lv_isub hx hb dX11_drop_9 ?_
  obtain ⟨r_10, hc_10, h⟩ := bi_el h
  refine is_X11_163 B hR hl.1 (mX11_isIn fu _  hc_10) (Nat.le_of_ble_eq_true rfl) dX11_drop_10 (fun H locs hR => ?_)
  refine lv_if_ne (tgt := 18) hx hb dX11_drop_13 (by decide) (fun c_13 => ?_) (fun c_13 => ?_)
  · rw [if_neg c_13] at h
    refine lv_aload_n hx hb dX11_drop_18 rfl (lv_at hl 0 rfl) ?_
    obtain ⟨M_19, hc_19, h⟩ := bm_el h
    refine iv_X11_474 B hR (h0.at0 rfl) hl.1 (mX11_keepAct fu _ h0 hc_19) (Nat.le_of_ble_eq_true rfl) dX11_drop_19 (fun H locs hR => ?_)
    refine lv_aload_n hx hb dX11_drop_22 rfl (lv_at hl 0 rfl) ?_
    refine gf_X11_7 B hR (h0.at0 rfl) dX11_drop_23 ?_
    refine lv_iconst (v := 1) hx hb dX11_drop_26 (by decide) ?_
    refine lv_dup2_11 hx hb dX11_drop_27 rfl rfl ?_
    refine r_iald B hR (h0.at 1 rfl) (by decide +kernel) dX11_drop_28 ?_
    refine lv_iconst (v := 1) hx hb dX11_drop_29 (by decide) ?_
    refine lv_isub hx hb dX11_drop_30 ?_
    obtain ⟨M_31, eM_31, h⟩ := lt_el h
    refine r_iast B hR (h0.at 1 rfl) (by decide +kernel) dX11_drop_31 (fun H locs hR => ?_)
    rw [← eM_31] at hR
    refine lv_iconst (v := 2) hx hb dX11_drop_32 (by decide) ?_
    refine lv_iconst (v := 3) hx hb dX11_drop_33 (by decide) ?_
    refine lv_iload_n hx hb dX11_drop_34 rfl (lv_at hl 1 rfl) ?_
    refine lv_imul hx hb dX11_drop_35 ?_
    refine lv_iadd hx hb dX11_drop_36 ?_
    obtain ⟨x2_37, ex2_37, h⟩ := lt_el h
    refine r_nmI ex2_37 ?_
    refine lv_istore_n (lv' := [(2, .int x2_37), (0, .ref a0), (1, .int x1)]) hx hb dX11_drop_37 rfl hl (by decide) rfl (fun ls hl => ?_)
    exact wX11_drop_l38 B hr hlk h0 h hR (lv_sub hl [1, 0] rfl)
  · rw [if_pos c_13] at h
    refine lv_iconst (v := (-1)) hx hb dX11_drop_16 (by decide) ?_
    exact r_iretW B hR hr hlk h dX11_drop_17
def fX11_becomes (fu : Nat) (a0 : Nat) (x1 : Int32) (x2 : Int32) (M : Mm) : Option (Int32 × Mm) :=
  bm (fX11_keepAct fu a0 M) fun M_1 =>
  if x1 < 0 ∨ 140 ≤ ix x1 then none else
  lt ((M_1.1 (a0 + 1) (ix x1))) fun x3_10 =>
  lt (wI M_1 (a0 + 1) (ix x1) x2) fun M_17 =>
  some (x3_10, M_17)
set_option maxRecDepth 100000 in
set_option maxHeartbeats 4000000 in
theorem mX11_becomes {l : Launch} {E : Ge} {L : Lay} (fu d : Nat) {a0 : Nat} {x1 : Int32} {x2 : Int32} {M : Mm} {r : Int32} {M' : Mm}  (h0 : At L a0 T11) (h : fX11_becomes fu a0 x1 x2 M = some (r, M')) : Ct l E L yX11_becomes cX11_becomes 4 (some .int) (d + 1) [.ref a0, .int x1, .int x2] M (some (.int r)) M' := by
  refine Ct.of (by decide) ?_
  intro p e s m below meth c hr hlk B hR
  have B : Bx p s m _ c cX11_becomes 4 RX11 E L := B
  have hx := B.1
  have hb := B.2.1
  have hl := lv_entry ([.ref a0, .int x1, .int x2]) (n := 4) (Nat.le_of_ble_eq_true rfl)
  rw [lg_entry_eq]
  generalize (lg_sl ([.ref a0, .int x1, .int x2]) ++ List.replicate (4 - (lg_sl ([.ref a0, .int x1, .int x2])).length) Slot.unset).toArray = ls at hl ⊢
  have hl : lv_has ls 4 [(0, .ref a0), (1, .int x1), (2, .int x2)] := hl
  unfold fX11_becomes at h
  refine lv_aload_n hx hb dX11_becomes_0 rfl (lv_at hl 0 rfl) ?_
  obtain ⟨M_1, hc_1, h⟩ := bm_el h
  refine iv_X11_474 B hR (h0.at0 rfl) hl.1 (mX11_keepAct fu _ h0 hc_1) (Nat.le_of_ble_eq_true rfl) dX11_becomes_1 (fun H locs hR => ?_)
  refine lv_aload_n hx hb dX11_becomes_4 rfl (lv_at hl 0 rfl) ?_
  refine gf_X11_7 B hR (h0.at0 rfl) dX11_becomes_5 ?_
  refine lv_iload_n hx hb dX11_becomes_8 rfl (lv_at hl 1 rfl) ?_
  obtain ⟨hi_9, h⟩ := ifn_el h
  refine r_iald B hR (h0.at 1 rfl) hi_9 dX11_becomes_9 ?_
  obtain ⟨x3_10, ex3_10, h⟩ := lt_el h
  refine r_nmI ex3_10 ?_
  refine lv_istore_n (lv' := [(3, .int x3_10), (0, .ref a0), (1, .int x1), (2, .int x2)]) hx hb dX11_becomes_10 rfl hl (by decide) rfl (fun ls hl => ?_)
  refine lv_aload_n hx hb dX11_becomes_11 rfl (lv_at hl 1 rfl) ?_
  refine gf_X11_7 B hR (h0.at0 rfl) dX11_becomes_12 ?_
  refine lv_iload_n hx hb dX11_becomes_15 rfl (lv_at hl 2 rfl) ?_
  refine lv_iload_n hx hb dX11_becomes_16 rfl (lv_at hl 3 rfl) ?_
  obtain ⟨M_17, eM_17, h⟩ := lt_el h
  refine r_iast B hR (h0.at 1 rfl) hi_9 dX11_becomes_17 (fun H locs hR => ?_)
  rw [← eM_17] at hR
  refine lv_iload_n hx hb dX11_becomes_18 rfl (lv_at hl 0 rfl) ?_
  exact r_iretW B hR hr hlk h dX11_becomes_19
def fX11_prefer_j17 (fu : Nat) (t0 : Int32) (M : Mm) : Option (Int32 × Mm) :=
  some (t0, M)
set_option maxRecDepth 100000 in
set_option maxHeartbeats 4000000 in
theorem wX11_prefer_j17 {r : Int32} {M' : Mm}   {t0 : Int32} {M : Mm} (B : Bx p s m args c cX11_prefer 2 RX11 E L) (hr : meth.sig.returnType = (some .int)) (hlk : meth.locks = false)   (h : fX11_prefer_j17 fu t0 M = some (r, M')) (hR : Rx s E L M H locs) (hl : lv_has ls 2 []) : W p l e (rmD (d + 2)) s m args below meth c H locs 0 0 (MQ below (QcM E L (some (.int r)) M') args s 0 0 E.2.2.2) (F0 m 17 ls [.int t0]) := by
  have hx := B.1
  have hb := B.2.1
  unfold fX11_prefer_j17 at h
  exact r_iretW B hR hr hlk h dX11_prefer_17
def fX11_prefer (fu : Nat) (a0 : Nat) (x1 : Int32) (M : Mm) : Option (Int32 × Mm) :=
  bi (fX11_isKind fu x1) fun r_1 =>
  if r_1 = 0 then
    fX11_prefer_j17 fu (-1) M
  else
    bw (fX11_becomes fu a0 0 x1 M) fun r_10 M_10 =>
    fX11_prefer_j17 fu r_10 M_10
set_option maxRecDepth 100000 in
set_option maxHeartbeats 4000000 in
theorem mX11_prefer {l : Launch} {E : Ge} {L : Lay} (fu d : Nat) {a0 : Nat} {x1 : Int32} {M : Mm} {r : Int32} {M' : Mm}  (h0 : At L a0 T11) (h : fX11_prefer fu a0 x1 M = some (r, M')) : Ct l E L yX11_prefer cX11_prefer 2 (some .int) (d + 2) [.ref a0, .int x1] M (some (.int r)) M' := by
  refine Ct.of (by decide) ?_
  intro p e s m below meth c hr hlk B hR
  have B : Bx p s m _ c cX11_prefer 2 RX11 E L := B
  have hx := B.1
  have hb := B.2.1
  have hl := lv_entry ([.ref a0, .int x1]) (n := 2) (Nat.le_of_ble_eq_true rfl)
  rw [lg_entry_eq]
  generalize (lg_sl ([.ref a0, .int x1]) ++ List.replicate (2 - (lg_sl ([.ref a0, .int x1])).length) Slot.unset).toArray = ls at hl ⊢
  have hl : lv_has ls 2 [(0, .ref a0), (1, .int x1)] := hl
  unfold fX11_prefer at h
  refine lv_iload_n hx hb dX11_prefer_0 rfl (lv_at hl 1 rfl) ?_
  obtain ⟨r_1, hc_1, h⟩ := bi_el h
  refine is_X11_306 B hR hl.1 (mX11_isKind fu _  hc_1) (Nat.le_of_ble_eq_true rfl) dX11_prefer_1 (fun H locs hR => ?_)
  refine lv_if_eq (tgt := 16) hx hb dX11_prefer_4 (by decide) (fun c_4 => ?_) (fun c_4 => ?_)
  · rw [if_pos c_4] at h
    refine lv_iconst (v := (-1)) hx hb dX11_prefer_16 (by decide) ?_
    exact wX11_prefer_j17 B hr hlk  h hR (lv_sub hl [] rfl)
  · rw [if_neg c_4] at h
    refine lv_aload_n hx hb dX11_prefer_7 rfl (lv_at hl 0 rfl) ?_
    refine lv_iconst (v := 0) hx hb dX11_prefer_8 (by decide) ?_
    refine lv_iload_n hx hb dX11_prefer_9 rfl (lv_at hl 1 rfl) ?_
    obtain ⟨r_10, M_10, hc_10, h⟩ := bw_el h
    refine iv_X11_477 B hR (h0.at0 rfl) hl.1 (mX11_becomes fu _ h0 hc_10) (Nat.le_of_ble_eq_true rfl) dX11_prefer_10 (fun H locs hR => ?_)
    refine lv_goto (tgt := 17) hx hb dX11_prefer_13 (by decide) ?_
    exact wX11_prefer_j17 B hr hlk  h hR (lv_sub hl [] rfl)
def fX11_fix_j42 (fu : Nat) (t0 : Int32) (M : Mm) : Option (Int32 × Mm) :=
  some (t0, M)
set_option maxRecDepth 100000 in
set_option maxHeartbeats 4000000 in
theorem wX11_fix_j42 {r : Int32} {M' : Mm}   {t0 : Int32} {M : Mm} (B : Bx p s m args c cX11_fix 3 RX11 E L) (hr : meth.sig.returnType = (some .int)) (hlk : meth.locks = false)   (h : fX11_fix_j42 fu t0 M = some (r, M')) (hR : Rx s E L M H locs) (hl : lv_has ls 3 []) : W p l e (rmD (d + 2)) s m args below meth c H locs 0 0 (MQ below (QcM E L (some (.int r)) M') args s 0 0 E.2.2.2) (F0 m 42 ls [.int t0]) := by
  have hx := B.1
  have hb := B.2.1
  unfold fX11_fix_j42 at h
  exact r_iretW B hR hr hlk h dX11_fix_42
def fX11_fix_j41 (fu : Nat) (M : Mm) : Option (Int32 × Mm) :=
  fX11_fix_j42 fu (-1) M
set_option maxRecDepth 100000 in
set_option maxHeartbeats 4000000 in
theorem wX11_fix_j41 {r : Int32} {M' : Mm}    {M : Mm} (B : Bx p s m args c cX11_fix 3 RX11 E L) (hr : meth.sig.returnType = (some .int)) (hlk : meth.locks = false)   (h : fX11_fix_j41 fu M = some (r, M')) (hR : Rx s E L M H locs) (hl : lv_has ls 3 []) : W p l e (rmD (d + 2)) s m args below meth c H locs 0 0 (MQ below (QcM E L (some (.int r)) M') args s 0 0 E.2.2.2) (F0 m 41 ls []) := by
  have hx := B.1
  have hb := B.2.1
  unfold fX11_fix_j41 at h
  refine lv_iconst (v := (-1)) hx hb dX11_fix_41 (by decide) ?_
  exact wX11_fix_j42 B hr hlk  h hR hl
def fX11_fix (fu : Nat) (a0 : Nat) (x1 : Int32) (x2 : Int32) (M : Mm) : Option (Int32 × Mm) :=
  if (M.1 a0 5) < 0 ∨ 2 ≤ ix (M.1 a0 5) then none else
  if (M.1 (a0 + 4) (ix (M.1 a0 5))) ≤ 0 then
    fX11_fix_j41 fu M
  else
    bi (fX11_isIn fu x1 0 7) fun r_16 =>
    if r_16 = 0 then
      fX11_fix_j41 fu M
    else
      bi (fX11_isKind fu x2) fun r_23 =>
      if r_23 = 0 then
        fX11_fix_j41 fu M
      else
        bw (fX11_becomes fu a0 (68 + x1) x2 M) fun r_35 M_35 =>
        fX11_fix_j42 fu r_35 M_35
set_option maxRecDepth 100000 in
set_option maxHeartbeats 4000000 in
theorem mX11_fix {l : Launch} {E : Ge} {L : Lay} (fu d : Nat) {a0 : Nat} {x1 : Int32} {x2 : Int32} {M : Mm} {r : Int32} {M' : Mm}  (h0 : At L a0 T11) (h : fX11_fix fu a0 x1 x2 M = some (r, M')) : Ct l E L yX11_fix cX11_fix 3 (some .int) (d + 2) [.ref a0, .int x1, .int x2] M (some (.int r)) M' := by
  refine Ct.of (by decide) ?_
  intro p e s m below meth c hr hlk B hR
  have B : Bx p s m _ c cX11_fix 3 RX11 E L := B
  have hx := B.1
  have hb := B.2.1
  have hl := lv_entry ([.ref a0, .int x1, .int x2]) (n := 3) (Nat.le_of_ble_eq_true rfl)
  rw [lg_entry_eq]
  generalize (lg_sl ([.ref a0, .int x1, .int x2]) ++ List.replicate (3 - (lg_sl ([.ref a0, .int x1, .int x2])).length) Slot.unset).toArray = ls at hl ⊢
  have hl : lv_has ls 3 [(0, .ref a0), (1, .int x1), (2, .int x2)] := hl
  unfold fX11_fix at h
  refine lv_aload_n hx hb dX11_fix_0 rfl (lv_at hl 0 rfl) ?_
  refine gf_X11_19 B hR (h0.at0 rfl) dX11_fix_1 ?_
  refine lv_aload_n hx hb dX11_fix_4 rfl (lv_at hl 0 rfl) ?_
  refine gf_X11_225 B hR (h0.at0 rfl) dX11_fix_5 ?_
  obtain ⟨hi_8, h⟩ := ifn_el h
  refine r_iald B hR (h0.at 4 rfl) hi_8 dX11_fix_8 ?_
  refine lv_if_le (tgt := 41) hx hb dX11_fix_9 (by decide) (fun c_9 => ?_) (fun c_9 => ?_)
  · rw [if_pos c_9] at h
    exact wX11_fix_j41 B hr hlk  h hR (lv_sub hl [] rfl)
  · rw [if_neg c_9] at h
    refine lv_iload_n hx hb dX11_fix_12 rfl (lv_at hl 1 rfl) ?_
    refine lv_iconst (v := 0) hx hb dX11_fix_13 (by decide) ?_
    refine lv_bipush (v := 7) hx hb dX11_fix_14 (by decide) ?_
    obtain ⟨r_16, hc_16, h⟩ := bi_el h
    refine is_X11_163 B hR hl.1 (mX11_isIn fu _  hc_16) (Nat.le_of_ble_eq_true rfl) dX11_fix_16 (fun H locs hR => ?_)
    refine lv_if_eq (tgt := 41) hx hb dX11_fix_19 (by decide) (fun c_19 => ?_) (fun c_19 => ?_)
    · rw [if_pos c_19] at h
      exact wX11_fix_j41 B hr hlk  h hR (lv_sub hl [] rfl)
    · rw [if_neg c_19] at h
      refine lv_iload_n hx hb dX11_fix_22 rfl (lv_at hl 2 rfl) ?_
      obtain ⟨r_23, hc_23, h⟩ := bi_el h
      refine is_X11_306 B hR hl.1 (mX11_isKind fu _  hc_23) (Nat.le_of_ble_eq_true rfl) dX11_fix_23 (fun H locs hR => ?_)
      refine lv_if_eq (tgt := 41) hx hb dX11_fix_26 (by decide) (fun c_26 => ?_) (fun c_26 => ?_)
      · rw [if_pos c_26] at h
        exact wX11_fix_j41 B hr hlk  h hR (lv_sub hl [] rfl)
      · rw [if_neg c_26] at h
        refine lv_aload_n hx hb dX11_fix_29 rfl (lv_at hl 0 rfl) ?_
        refine lv_bipush (v := 68) hx hb dX11_fix_30 (by decide) ?_
        refine lv_iload_n hx hb dX11_fix_32 rfl (lv_at hl 1 rfl) ?_
        refine lv_iadd hx hb dX11_fix_33 ?_
        refine lv_iload_n hx hb dX11_fix_34 rfl (lv_at hl 2 rfl) ?_
        obtain ⟨r_35, M_35, hc_35, h⟩ := bw_el h
        refine iv_X11_477 B hR (h0.at0 rfl) hl.1 (mX11_becomes fu _ h0 hc_35) (Nat.le_of_ble_eq_true rfl) dX11_fix_35 (fun H locs hR => ?_)
        refine lv_goto (tgt := 42) hx hb dX11_fix_38 (by decide) ?_
        exact wX11_fix_j42 B hr hlk  h hR (lv_sub hl [] rfl)
def fX11_page_j36 (fu : Nat) (t0 : Int32) (M : Mm) : Option (Int32 × Mm) :=
  some (t0, M)
set_option maxRecDepth 100000 in
set_option maxHeartbeats 4000000 in
theorem wX11_page_j36 {r : Int32} {M' : Mm}   {t0 : Int32} {M : Mm} (B : Bx p s m args c cX11_page 3 RX11 E L) (hr : meth.sig.returnType = (some .int)) (hlk : meth.locks = false)   (h : fX11_page_j36 fu t0 M = some (r, M')) (hR : Rx s E L M H locs) (hl : lv_has ls 3 []) : W p l e (rmD (d + 2)) s m args below meth c H locs 0 0 (MQ below (QcM E L (some (.int r)) M') args s 0 0 E.2.2.2) (F0 m 36 ls [.int t0]) := by
  have hx := B.1
  have hb := B.2.1
  unfold fX11_page_j36 at h
  exact r_iretW B hR hr hlk h dX11_page_36
def fX11_page_j35 (fu : Nat) (M : Mm) : Option (Int32 × Mm) :=
  fX11_page_j36 fu (-1) M
set_option maxRecDepth 100000 in
set_option maxHeartbeats 4000000 in
theorem wX11_page_j35 {r : Int32} {M' : Mm}    {M : Mm} (B : Bx p s m args c cX11_page 3 RX11 E L) (hr : meth.sig.returnType = (some .int)) (hlk : meth.locks = false)   (h : fX11_page_j35 fu M = some (r, M')) (hR : Rx s E L M H locs) (hl : lv_has ls 3 []) : W p l e (rmD (d + 2)) s m args below meth c H locs 0 0 (MQ below (QcM E L (some (.int r)) M') args s 0 0 E.2.2.2) (F0 m 35 ls []) := by
  have hx := B.1
  have hb := B.2.1
  unfold fX11_page_j35 at h
  refine lv_iconst (v := (-1)) hx hb dX11_page_35 (by decide) ?_
  exact wX11_page_j36 B hr hlk  h hR hl
def fX11_page (fu : Nat) (a0 : Nat) (x1 : Int32) (x2 : Int32) (M : Mm) : Option (Int32 × Mm) :=
  bi (fX11_pages fu a0 M) fun r_3 =>
  bi (fX11_isIn fu x1 0 (r_3 - 1)) fun r_8 =>
  if r_8 = 0 then
    fX11_page_j35 fu M
  else
    bi (fX11_isIn fu x2 0 5) fun r_17 =>
    if r_17 = 0 then
      fX11_page_j35 fu M
    else
      bw (fX11_becomes fu a0 (76 + x1) x2 M) fun r_29 M_29 =>
      fX11_page_j36 fu r_29 M_29
set_option maxRecDepth 100000 in
set_option maxHeartbeats 4000000 in
theorem mX11_page {l : Launch} {E : Ge} {L : Lay} (fu d : Nat) {a0 : Nat} {x1 : Int32} {x2 : Int32} {M : Mm} {r : Int32} {M' : Mm}  (h0 : At L a0 T11) (h : fX11_page fu a0 x1 x2 M = some (r, M')) : Ct l E L yX11_page cX11_page 3 (some .int) (d + 2) [.ref a0, .int x1, .int x2] M (some (.int r)) M' := by
  refine Ct.of (by decide) ?_
  intro p e s m below meth c hr hlk B hR
  have B : Bx p s m _ c cX11_page 3 RX11 E L := B
  have hx := B.1
  have hb := B.2.1
  have hl := lv_entry ([.ref a0, .int x1, .int x2]) (n := 3) (Nat.le_of_ble_eq_true rfl)
  rw [lg_entry_eq]
  generalize (lg_sl ([.ref a0, .int x1, .int x2]) ++ List.replicate (3 - (lg_sl ([.ref a0, .int x1, .int x2])).length) Slot.unset).toArray = ls at hl ⊢
  have hl : lv_has ls 3 [(0, .ref a0), (1, .int x1), (2, .int x2)] := hl
  unfold fX11_page at h
  refine lv_iload_n hx hb dX11_page_0 rfl (lv_at hl 1 rfl) ?_
  refine lv_iconst (v := 0) hx hb dX11_page_1 (by decide) ?_
  refine lv_aload_n hx hb dX11_page_2 rfl (lv_at hl 0 rfl) ?_
  obtain ⟨r_3, hc_3, h⟩ := bi_el h
  refine iv_X11_291 B hR (h0.at0 rfl) hl.1 (mX11_pages fu _ h0 hc_3) (Nat.le_of_ble_eq_true rfl) dX11_page_3 (fun H locs hR => ?_)
  refine lv_iconst (v := 1) hx hb dX11_page_6 (by decide) ?_
  refine lv_isub hx hb dX11_page_7 ?_
  obtain ⟨r_8, hc_8, h⟩ := bi_el h
  refine is_X11_163 B hR hl.1 (mX11_isIn fu _  hc_8) (Nat.le_of_ble_eq_true rfl) dX11_page_8 (fun H locs hR => ?_)
  refine lv_if_eq (tgt := 35) hx hb dX11_page_11 (by decide) (fun c_11 => ?_) (fun c_11 => ?_)
  · rw [if_pos c_11] at h
    exact wX11_page_j35 B hr hlk  h hR (lv_sub hl [] rfl)
  · rw [if_neg c_11] at h
    refine lv_iload_n hx hb dX11_page_14 rfl (lv_at hl 2 rfl) ?_
    refine lv_iconst (v := 0) hx hb dX11_page_15 (by decide) ?_
    refine lv_iconst (v := 5) hx hb dX11_page_16 (by decide) ?_
    obtain ⟨r_17, hc_17, h⟩ := bi_el h
    refine is_X11_163 B hR hl.1 (mX11_isIn fu _  hc_17) (Nat.le_of_ble_eq_true rfl) dX11_page_17 (fun H locs hR => ?_)
    refine lv_if_eq (tgt := 35) hx hb dX11_page_20 (by decide) (fun c_20 => ?_) (fun c_20 => ?_)
    · rw [if_pos c_20] at h
      exact wX11_page_j35 B hr hlk  h hR (lv_sub hl [] rfl)
    · rw [if_neg c_20] at h
      refine lv_aload_n hx hb dX11_page_23 rfl (lv_at hl 0 rfl) ?_
      refine lv_bipush (v := 76) hx hb dX11_page_24 (by decide) ?_
      refine lv_iload_n hx hb dX11_page_26 rfl (lv_at hl 1 rfl) ?_
      refine lv_iadd hx hb dX11_page_27 ?_
      refine lv_iload_n hx hb dX11_page_28 rfl (lv_at hl 2 rfl) ?_
      obtain ⟨r_29, M_29, hc_29, h⟩ := bw_el h
      refine iv_X11_477 B hR (h0.at0 rfl) hl.1 (mX11_becomes fu _ h0 hc_29) (Nat.le_of_ble_eq_true rfl) dX11_page_29 (fun H locs hR => ?_)
      refine lv_goto (tgt := 36) hx hb dX11_page_32 (by decide) ?_
      exact wX11_page_j36 B hr hlk  h hR (lv_sub hl [] rfl)
def fX11_setOne (fu : Nat) (a0 : Nat) (x1 : Int32) (x2 : Int32) (x3 : Int32) (x4 : Int32) (M : Mm) : Option Mm :=
  if (38 + (3 * x1)) < 0 ∨ 140 ≤ ix (38 + (3 * x1)) then none else
  lt (wI M (a0 + 1) (ix (38 + (3 * x1))) x2) fun M_11 =>
  if ((38 + (3 * x1)) + 1) < 0 ∨ 140 ≤ ix ((38 + (3 * x1)) + 1) then none else
  lt (wI M_11 (a0 + 1) (ix ((38 + (3 * x1)) + 1)) x3) fun M_25 =>
  if ((38 + (3 * x1)) + 2) < 0 ∨ 140 ≤ ix ((38 + (3 * x1)) + 2) then none else
  lt (wI M_25 (a0 + 1) (ix ((38 + (3 * x1)) + 2)) x4) fun M_40 =>
  some M_40
set_option maxRecDepth 100000 in
set_option maxHeartbeats 4000000 in
theorem mX11_setOne {l : Launch} {E : Ge} {L : Lay} (fu d : Nat) {a0 : Nat} {x1 : Int32} {x2 : Int32} {x3 : Int32} {x4 : Int32} {M : Mm} {M' : Mm}  (h0 : At L a0 T11) (h : fX11_setOne fu a0 x1 x2 x3 x4 M = some M') : Ct l E L yX11_setOne cX11_setOne 5 none (d + 0) [.ref a0, .int x1, .int x2, .int x3, .int x4] M none M' := by
  refine Ct.of (by decide) ?_
  intro p e s m below meth c hr hlk B hR
  have B : Bx p s m _ c cX11_setOne 5 RX11 E L := B
  have hx := B.1
  have hb := B.2.1
  have hl := lv_entry ([.ref a0, .int x1, .int x2, .int x3, .int x4]) (n := 5) (Nat.le_of_ble_eq_true rfl)
  rw [lg_entry_eq]
  generalize (lg_sl ([.ref a0, .int x1, .int x2, .int x3, .int x4]) ++ List.replicate (5 - (lg_sl ([.ref a0, .int x1, .int x2, .int x3, .int x4])).length) Slot.unset).toArray = ls at hl ⊢
  have hl : lv_has ls 5 [(0, .ref a0), (1, .int x1), (2, .int x2), (3, .int x3), (4, .int x4)] := hl
  unfold fX11_setOne at h
  refine lv_aload_n hx hb dX11_setOne_0 rfl (lv_at hl 0 rfl) ?_
  refine gf_X11_7 B hR (h0.at0 rfl) dX11_setOne_1 ?_
  refine lv_bipush (v := 38) hx hb dX11_setOne_4 (by decide) ?_
  refine lv_iconst (v := 3) hx hb dX11_setOne_6 (by decide) ?_
  refine lv_iload_n hx hb dX11_setOne_7 rfl (lv_at hl 1 rfl) ?_
  refine lv_imul hx hb dX11_setOne_8 ?_
  refine lv_iadd hx hb dX11_setOne_9 ?_
  refine lv_iload_n hx hb dX11_setOne_10 rfl (lv_at hl 2 rfl) ?_
  obtain ⟨hi_11, h⟩ := ifn_el h
  obtain ⟨M_11, eM_11, h⟩ := lt_el h
  refine r_iast B hR (h0.at 1 rfl) hi_11 dX11_setOne_11 (fun H locs hR => ?_)
  rw [← eM_11] at hR
  refine lv_aload_n hx hb dX11_setOne_12 rfl (lv_at hl 0 rfl) ?_
  refine gf_X11_7 B hR (h0.at0 rfl) dX11_setOne_13 ?_
  refine lv_bipush (v := 38) hx hb dX11_setOne_16 (by decide) ?_
  refine lv_iconst (v := 3) hx hb dX11_setOne_18 (by decide) ?_
  refine lv_iload_n hx hb dX11_setOne_19 rfl (lv_at hl 1 rfl) ?_
  refine lv_imul hx hb dX11_setOne_20 ?_
  refine lv_iadd hx hb dX11_setOne_21 ?_
  refine lv_iconst (v := 1) hx hb dX11_setOne_22 (by decide) ?_
  refine lv_iadd hx hb dX11_setOne_23 ?_
  refine lv_iload_n hx hb dX11_setOne_24 rfl (lv_at hl 3 rfl) ?_
  obtain ⟨hi_25, h⟩ := ifn_el h
  obtain ⟨M_25, eM_25, h⟩ := lt_el h
  refine r_iast B hR (h0.at 1 rfl) hi_25 dX11_setOne_25 (fun H locs hR => ?_)
  rw [← eM_25] at hR
  refine lv_aload_n hx hb dX11_setOne_26 rfl (lv_at hl 0 rfl) ?_
  refine gf_X11_7 B hR (h0.at0 rfl) dX11_setOne_27 ?_
  refine lv_bipush (v := 38) hx hb dX11_setOne_30 (by decide) ?_
  refine lv_iconst (v := 3) hx hb dX11_setOne_32 (by decide) ?_
  refine lv_iload_n hx hb dX11_setOne_33 rfl (lv_at hl 1 rfl) ?_
  refine lv_imul hx hb dX11_setOne_34 ?_
  refine lv_iadd hx hb dX11_setOne_35 ?_
  refine lv_iconst (v := 2) hx hb dX11_setOne_36 (by decide) ?_
  refine lv_iadd hx hb dX11_setOne_37 ?_
  refine lv_iload hx hb dX11_setOne_38 (lv_at hl 4 rfl) ?_
  obtain ⟨hi_40, h⟩ := ifn_el h
  obtain ⟨M_40, eM_40, h⟩ := lt_el h
  refine r_iast B hR (h0.at 1 rfl) hi_40 dX11_setOne_40 (fun H locs hR => ?_)
  rw [← eM_40] at hR
  exact r_vretW B hR hr hlk h dX11_setOne_41
end G24_model3_lean_txt
