theorem dX8_put_0 : decode cX8_put 0 = .ok (.aload_n 0, 1) := by decide +kernel
theorem dX8_put_1 : decode cX8_put 1 = .ok (.getfield 24, 3) := by decide +kernel
theorem dX8_put_4 : decode cX8_put 4 = .ok (.iload_n 1, 1) := by decide +kernel
theorem dX8_put_5 : decode cX8_put 5 = .ok (.iload_n 2, 1) := by decide +kernel
theorem dX8_put_6 : decode cX8_put 6 = .ok (.iastore, 1) := by decide +kernel
theorem dX8_put_7 : decode cX8_put 7 = .ok (.aload_n 0, 1) := by decide +kernel
theorem dX8_put_8 : decode cX8_put 8 = .ok (.getfield 27, 3) := by decide +kernel
theorem dX8_put_11 : decode cX8_put 11 = .ok (.iload_n 1, 1) := by decide +kernel
theorem dX8_put_12 : decode cX8_put 12 = .ok (.iload_n 3, 1) := by decide +kernel
theorem dX8_put_13 : decode cX8_put 13 = .ok (.iastore, 1) := by decide +kernel
theorem dX8_put_14 : decode cX8_put 14 = .ok (.aload_n 0, 1) := by decide +kernel
theorem dX8_put_15 : decode cX8_put 15 = .ok (.getfield 30, 3) := by decide +kernel
theorem dX8_put_18 : decode cX8_put 18 = .ok (.iload_n 1, 1) := by decide +kernel
theorem dX8_put_19 : decode cX8_put 19 = .ok (.iload 4, 2) := by decide +kernel
theorem dX8_put_21 : decode cX8_put 21 = .ok (.iastore, 1) := by decide +kernel
theorem dX8_put_22 : decode cX8_put 22 = .ok (.return_, 1) := by decide +kernel
theorem dX8_wipe_0 : decode cX8_wipe 0 = .ok (.aload_n 0, 1) := by decide +kernel
theorem dX8_wipe_1 : decode cX8_wipe 1 = .ok (.sipush 256, 3) := by decide +kernel
theorem dX8_wipe_4 : decode cX8_wipe 4 = .ok (.putfield 39, 3) := by decide +kernel
theorem dX8_wipe_7 : decode cX8_wipe 7 = .ok (.aload_n 0, 1) := by decide +kernel
theorem dX8_wipe_8 : decode cX8_wipe 8 = .ok (.bipush 8, 2) := by decide +kernel
theorem dX8_wipe_10 : decode cX8_wipe 10 = .ok (.putfield 43, 3) := by decide +kernel
theorem dX8_wipe_13 : decode cX8_wipe 13 = .ok (.aload_n 0, 1) := by decide +kernel
theorem dX8_wipe_14 : decode cX8_wipe 14 = .ok (.iconst 0, 1) := by decide +kernel
theorem dX8_wipe_15 : decode cX8_wipe 15 = .ok (.putfield 46, 3) := by decide +kernel
theorem dX8_wipe_18 : decode cX8_wipe 18 = .ok (.aload_n 0, 1) := by decide +kernel
theorem dX8_wipe_19 : decode cX8_wipe 19 = .ok (.iconst 0, 1) := by decide +kernel
theorem dX8_wipe_20 : decode cX8_wipe 20 = .ok (.putfield 49, 3) := by decide +kernel
theorem dX8_wipe_23 : decode cX8_wipe 23 = .ok (.aload_n 0, 1) := by decide +kernel
theorem dX8_wipe_24 : decode cX8_wipe 24 = .ok (.iconst 0, 1) := by decide +kernel
theorem dX8_wipe_25 : decode cX8_wipe 25 = .ok (.putfield 52, 3) := by decide +kernel
theorem dX8_wipe_28 : decode cX8_wipe 28 = .ok (.iconst 0, 1) := by decide +kernel
theorem dX8_wipe_29 : decode cX8_wipe 29 = .ok (.istore_n 1, 1) := by decide +kernel
theorem dX8_wipe_30 : decode cX8_wipe 30 = .ok (.iload_n 1, 1) := by decide +kernel
theorem dX8_wipe_31 : decode cX8_wipe 31 = .ok (.bipush 10, 2) := by decide +kernel
theorem dX8_wipe_33 : decode cX8_wipe 33 = .ok (.if_icmp .ge 17, 3) := by decide +kernel
theorem dX8_wipe_36 : decode cX8_wipe 36 = .ok (.aload_n 0, 1) := by decide +kernel
theorem dX8_wipe_37 : decode cX8_wipe 37 = .ok (.iload_n 1, 1) := by decide +kernel
theorem dX8_wipe_38 : decode cX8_wipe 38 = .ok (.iconst 0, 1) := by decide +kernel
theorem dX8_wipe_39 : decode cX8_wipe 39 = .ok (.iconst 0, 1) := by decide +kernel
theorem dX8_wipe_40 : decode cX8_wipe 40 = .ok (.iconst 0, 1) := by decide +kernel
theorem dX8_wipe_41 : decode cX8_wipe 41 = .ok (.invokevirtual 55, 3) := by decide +kernel
theorem dX8_wipe_44 : decode cX8_wipe 44 = .ok (.iinc 1 1, 3) := by decide +kernel
theorem dX8_wipe_47 : decode cX8_wipe 47 = .ok (.goto (-17), 3) := by decide +kernel
theorem dX8_wipe_50 : decode cX8_wipe 50 = .ok (.iconst 0, 1) := by decide +kernel
theorem dX8_wipe_51 : decode cX8_wipe 51 = .ok (.istore_n 1, 1) := by decide +kernel
theorem dX8_wipe_52 : decode cX8_wipe 52 = .ok (.iload_n 1, 1) := by decide +kernel
theorem dX8_wipe_53 : decode cX8_wipe 53 = .ok (.bipush 64, 2) := by decide +kernel
theorem dX8_wipe_55 : decode cX8_wipe 55 = .ok (.if_icmp .ge 16, 3) := by decide +kernel
theorem dX8_wipe_58 : decode cX8_wipe 58 = .ok (.aload_n 0, 1) := by decide +kernel
theorem dX8_wipe_59 : decode cX8_wipe 59 = .ok (.getfield 33, 3) := by decide +kernel
theorem dX8_wipe_62 : decode cX8_wipe 62 = .ok (.iload_n 1, 1) := by decide +kernel
theorem dX8_wipe_63 : decode cX8_wipe 63 = .ok (.iconst 5, 1) := by decide +kernel
theorem dX8_wipe_64 : decode cX8_wipe 64 = .ok (.iastore, 1) := by decide +kernel
theorem dX8_wipe_65 : decode cX8_wipe 65 = .ok (.iinc 1 1, 3) := by decide +kernel
theorem dX8_wipe_68 : decode cX8_wipe 68 = .ok (.goto (-16), 3) := by decide +kernel
theorem dX8_wipe_71 : decode cX8_wipe 71 = .ok (.return_, 1) := by decide +kernel
theorem dX8_copyFrom_0 : decode cX8_copyFrom 0 = .ok (.aload_n 0, 1) := by decide +kernel
theorem dX8_copyFrom_1 : decode cX8_copyFrom 1 = .ok (.aload_n 1, 1) := by decide +kernel
theorem dX8_copyFrom_2 : decode cX8_copyFrom 2 = .ok (.getfield 39, 3) := by decide +kernel
theorem dX8_copyFrom_5 : decode cX8_copyFrom 5 = .ok (.putfield 39, 3) := by decide +kernel
theorem dX8_copyFrom_8 : decode cX8_copyFrom 8 = .ok (.aload_n 0, 1) := by decide +kernel
theorem dX8_copyFrom_9 : decode cX8_copyFrom 9 = .ok (.aload_n 1, 1) := by decide +kernel
theorem dX8_copyFrom_10 : decode cX8_copyFrom 10 = .ok (.getfield 43, 3) := by decide +kernel
theorem dX8_copyFrom_13 : decode cX8_copyFrom 13 = .ok (.putfield 43, 3) := by decide +kernel
theorem dX8_copyFrom_16 : decode cX8_copyFrom 16 = .ok (.aload_n 0, 1) := by decide +kernel
theorem dX8_copyFrom_17 : decode cX8_copyFrom 17 = .ok (.aload_n 1, 1) := by decide +kernel
theorem dX8_copyFrom_18 : decode cX8_copyFrom 18 = .ok (.getfield 46, 3) := by decide +kernel
theorem dX8_copyFrom_21 : decode cX8_copyFrom 21 = .ok (.putfield 46, 3) := by decide +kernel
theorem dX8_copyFrom_24 : decode cX8_copyFrom 24 = .ok (.aload_n 0, 1) := by decide +kernel
theorem dX8_copyFrom_25 : decode cX8_copyFrom 25 = .ok (.aload_n 1, 1) := by decide +kernel
theorem dX8_copyFrom_26 : decode cX8_copyFrom 26 = .ok (.getfield 49, 3) := by decide +kernel
theorem dX8_copyFrom_29 : decode cX8_copyFrom 29 = .ok (.putfield 49, 3) := by decide +kernel
theorem dX8_copyFrom_32 : decode cX8_copyFrom 32 = .ok (.aload_n 0, 1) := by decide +kernel
theorem dX8_copyFrom_33 : decode cX8_copyFrom 33 = .ok (.aload_n 1, 1) := by decide +kernel
theorem dX8_copyFrom_34 : decode cX8_copyFrom 34 = .ok (.getfield 52, 3) := by decide +kernel
theorem dX8_copyFrom_37 : decode cX8_copyFrom 37 = .ok (.putfield 52, 3) := by decide +kernel
theorem dX8_copyFrom_40 : decode cX8_copyFrom 40 = .ok (.aload_n 1, 1) := by decide +kernel
theorem dX8_copyFrom_41 : decode cX8_copyFrom 41 = .ok (.getfield 9, 3) := by decide +kernel
theorem dX8_copyFrom_44 : decode cX8_copyFrom 44 = .ok (.iconst 0, 1) := by decide +kernel
theorem dX8_copyFrom_45 : decode cX8_copyFrom 45 = .ok (.aload_n 0, 1) := by decide +kernel
theorem dX8_copyFrom_46 : decode cX8_copyFrom 46 = .ok (.getfield 9, 3) := by decide +kernel
theorem dX8_copyFrom_49 : decode cX8_copyFrom 49 = .ok (.iconst 0, 1) := by decide +kernel
theorem dX8_copyFrom_50 : decode cX8_copyFrom 50 = .ok (.bipush 12, 2) := by decide +kernel
theorem dX8_copyFrom_52 : decode cX8_copyFrom 52 = .ok (.invokestatic 59, 3) := by decide +kernel
theorem dX8_copyFrom_55 : decode cX8_copyFrom 55 = .ok (.aload_n 1, 1) := by decide +kernel
theorem dX8_copyFrom_56 : decode cX8_copyFrom 56 = .ok (.getfield 15, 3) := by decide +kernel
theorem dX8_copyFrom_59 : decode cX8_copyFrom 59 = .ok (.iconst 0, 1) := by decide +kernel
theorem dX8_copyFrom_60 : decode cX8_copyFrom 60 = .ok (.aload_n 0, 1) := by decide +kernel
theorem dX8_copyFrom_61 : decode cX8_copyFrom 61 = .ok (.getfield 15, 3) := by decide +kernel
theorem dX8_copyFrom_64 : decode cX8_copyFrom 64 = .ok (.iconst 0, 1) := by decide +kernel
theorem dX8_copyFrom_65 : decode cX8_copyFrom 65 = .ok (.bipush 12, 2) := by decide +kernel
theorem dX8_copyFrom_67 : decode cX8_copyFrom 67 = .ok (.invokestatic 59, 3) := by decide +kernel
theorem dX8_copyFrom_70 : decode cX8_copyFrom 70 = .ok (.aload_n 1, 1) := by decide +kernel
theorem dX8_copyFrom_71 : decode cX8_copyFrom 71 = .ok (.getfield 18, 3) := by decide +kernel
theorem dX8_copyFrom_74 : decode cX8_copyFrom 74 = .ok (.iconst 0, 1) := by decide +kernel
theorem dX8_copyFrom_75 : decode cX8_copyFrom 75 = .ok (.aload_n 0, 1) := by decide +kernel
theorem dX8_copyFrom_76 : decode cX8_copyFrom 76 = .ok (.getfield 18, 3) := by decide +kernel
theorem dX8_copyFrom_79 : decode cX8_copyFrom 79 = .ok (.iconst 0, 1) := by decide +kernel
theorem dX8_copyFrom_80 : decode cX8_copyFrom 80 = .ok (.bipush 12, 2) := by decide +kernel
theorem dX8_copyFrom_82 : decode cX8_copyFrom 82 = .ok (.invokestatic 59, 3) := by decide +kernel
theorem dX8_copyFrom_85 : decode cX8_copyFrom 85 = .ok (.aload_n 1, 1) := by decide +kernel
theorem dX8_copyFrom_86 : decode cX8_copyFrom 86 = .ok (.getfield 21, 3) := by decide +kernel
theorem dX8_copyFrom_89 : decode cX8_copyFrom 89 = .ok (.iconst 0, 1) := by decide +kernel
theorem dX8_copyFrom_90 : decode cX8_copyFrom 90 = .ok (.aload_n 0, 1) := by decide +kernel
theorem dX8_copyFrom_91 : decode cX8_copyFrom 91 = .ok (.getfield 21, 3) := by decide +kernel
theorem dX8_copyFrom_94 : decode cX8_copyFrom 94 = .ok (.iconst 0, 1) := by decide +kernel
theorem dX8_copyFrom_95 : decode cX8_copyFrom 95 = .ok (.bipush 8, 2) := by decide +kernel
theorem dX8_copyFrom_97 : decode cX8_copyFrom 97 = .ok (.invokestatic 59, 3) := by decide +kernel
theorem dX8_copyFrom_100 : decode cX8_copyFrom 100 = .ok (.aload_n 1, 1) := by decide +kernel
theorem dX8_copyFrom_101 : decode cX8_copyFrom 101 = .ok (.getfield 24, 3) := by decide +kernel
theorem dX8_copyFrom_104 : decode cX8_copyFrom 104 = .ok (.iconst 0, 1) := by decide +kernel
theorem dX8_copyFrom_105 : decode cX8_copyFrom 105 = .ok (.aload_n 0, 1) := by decide +kernel
theorem dX8_copyFrom_106 : decode cX8_copyFrom 106 = .ok (.getfield 24, 3) := by decide +kernel
theorem dX8_copyFrom_109 : decode cX8_copyFrom 109 = .ok (.iconst 0, 1) := by decide +kernel
theorem dX8_copyFrom_110 : decode cX8_copyFrom 110 = .ok (.bipush 10, 2) := by decide +kernel
theorem dX8_copyFrom_112 : decode cX8_copyFrom 112 = .ok (.invokestatic 59, 3) := by decide +kernel
theorem dX8_copyFrom_115 : decode cX8_copyFrom 115 = .ok (.aload_n 1, 1) := by decide +kernel
theorem dX8_copyFrom_116 : decode cX8_copyFrom 116 = .ok (.getfield 27, 3) := by decide +kernel
theorem dX8_copyFrom_119 : decode cX8_copyFrom 119 = .ok (.iconst 0, 1) := by decide +kernel
theorem dX8_copyFrom_120 : decode cX8_copyFrom 120 = .ok (.aload_n 0, 1) := by decide +kernel
theorem dX8_copyFrom_121 : decode cX8_copyFrom 121 = .ok (.getfield 27, 3) := by decide +kernel
theorem dX8_copyFrom_124 : decode cX8_copyFrom 124 = .ok (.iconst 0, 1) := by decide +kernel
theorem dX8_copyFrom_125 : decode cX8_copyFrom 125 = .ok (.bipush 10, 2) := by decide +kernel
theorem dX8_copyFrom_127 : decode cX8_copyFrom 127 = .ok (.invokestatic 59, 3) := by decide +kernel
theorem dX8_copyFrom_130 : decode cX8_copyFrom 130 = .ok (.aload_n 1, 1) := by decide +kernel
theorem dX8_copyFrom_131 : decode cX8_copyFrom 131 = .ok (.getfield 30, 3) := by decide +kernel
theorem dX8_copyFrom_134 : decode cX8_copyFrom 134 = .ok (.iconst 0, 1) := by decide +kernel
theorem dX8_copyFrom_135 : decode cX8_copyFrom 135 = .ok (.aload_n 0, 1) := by decide +kernel
theorem dX8_copyFrom_136 : decode cX8_copyFrom 136 = .ok (.getfield 30, 3) := by decide +kernel
theorem dX8_copyFrom_139 : decode cX8_copyFrom 139 = .ok (.iconst 0, 1) := by decide +kernel
theorem dX8_copyFrom_140 : decode cX8_copyFrom 140 = .ok (.bipush 10, 2) := by decide +kernel
theorem dX8_copyFrom_142 : decode cX8_copyFrom 142 = .ok (.invokestatic 59, 3) := by decide +kernel
theorem dX8_copyFrom_145 : decode cX8_copyFrom 145 = .ok (.aload_n 1, 1) := by decide +kernel
theorem dX8_copyFrom_146 : decode cX8_copyFrom 146 = .ok (.getfield 33, 3) := by decide +kernel
theorem dX8_copyFrom_149 : decode cX8_copyFrom 149 = .ok (.iconst 0, 1) := by decide +kernel
theorem dX8_copyFrom_150 : decode cX8_copyFrom 150 = .ok (.aload_n 0, 1) := by decide +kernel
theorem dX8_copyFrom_151 : decode cX8_copyFrom 151 = .ok (.getfield 33, 3) := by decide +kernel
theorem dX8_copyFrom_154 : decode cX8_copyFrom 154 = .ok (.iconst 0, 1) := by decide +kernel
theorem dX8_copyFrom_155 : decode cX8_copyFrom 155 = .ok (.bipush 64, 2) := by decide +kernel
theorem dX8_copyFrom_157 : decode cX8_copyFrom 157 = .ok (.invokestatic 59, 3) := by decide +kernel
theorem dX8_copyFrom_160 : decode cX8_copyFrom 160 = .ok (.return_, 1) := by decide +kernel
theorem dX8_pages_0 : decode cX8_pages 0 = .ok (.aload_n 0, 1) := by decide +kernel
theorem dX8_pages_1 : decode cX8_pages 1 = .ok (.getfield 39, 3) := by decide +kernel
theorem dX8_pages_4 : decode cX8_pages 4 = .ok (.bipush 16, 2) := by decide +kernel
theorem dX8_pages_6 : decode cX8_pages 6 = .ok (.idiv, 1) := by decide +kernel
theorem dX8_pages_7 : decode cX8_pages 7 = .ok (.ireturn, 1) := by decide +kernel
theorem dX8_hasAddress_0 : decode cX8_hasAddress 0 = .ok (.iload_n 1, 1) := by decide +kernel
theorem dX8_hasAddress_1 : decode cX8_hasAddress 1 = .ok (.ifCond .lt 15, 3) := by decide +kernel
theorem dX8_hasAddress_4 : decode cX8_hasAddress 4 = .ok (.iload_n 1, 1) := by decide +kernel
theorem dX8_hasAddress_5 : decode cX8_hasAddress 5 = .ok (.aload_n 0, 1) := by decide +kernel
theorem dX8_hasAddress_6 : decode cX8_hasAddress 6 = .ok (.getfield 39, 3) := by decide +kernel
theorem dX8_hasAddress_9 : decode cX8_hasAddress 9 = .ok (.if_icmp .ge 7, 3) := by decide +kernel
theorem dX8_hasAddress_12 : decode cX8_hasAddress 12 = .ok (.iconst 1, 1) := by decide +kernel
theorem dX8_hasAddress_13 : decode cX8_hasAddress 13 = .ok (.goto 4, 3) := by decide +kernel
theorem dX8_hasAddress_16 : decode cX8_hasAddress 16 = .ok (.iconst 0, 1) := by decide +kernel
theorem dX8_hasAddress_17 : decode cX8_hasAddress 17 = .ok (.ireturn, 1) := by decide +kernel
theorem dX8_hasPart_0 : decode cX8_hasPart 0 = .ok (.aload_n 0, 1) := by decide +kernel
theorem dX8_hasPart_1 : decode cX8_hasPart 1 = .ok (.getfield 52, 3) := by decide +kernel
theorem dX8_hasPart_4 : decode cX8_hasPart 4 = .ok (.ifCond .le 17, 3) := by decide +kernel
theorem dX8_hasPart_7 : decode cX8_hasPart 7 = .ok (.iload_n 1, 1) := by decide +kernel
theorem dX8_hasPart_8 : decode cX8_hasPart 8 = .ok (.ifCond .lt 13, 3) := by decide +kernel
theorem dX8_hasPart_11 : decode cX8_hasPart 11 = .ok (.iload_n 1, 1) := by decide +kernel
theorem dX8_hasPart_12 : decode cX8_hasPart 12 = .ok (.bipush 8, 2) := by decide +kernel
theorem dX8_hasPart_14 : decode cX8_hasPart 14 = .ok (.if_icmp .ge 7, 3) := by decide +kernel
theorem dX8_hasPart_17 : decode cX8_hasPart 17 = .ok (.iconst 1, 1) := by decide +kernel
theorem dX8_hasPart_18 : decode cX8_hasPart 18 = .ok (.goto 4, 3) := by decide +kernel
theorem dX8_hasPart_21 : decode cX8_hasPart 21 = .ok (.iconst 0, 1) := by decide +kernel
theorem dX8_hasPart_22 : decode cX8_hasPart 22 = .ok (.ireturn, 1) := by decide +kernel
theorem dX8_hasPage_0 : decode cX8_hasPage 0 = .ok (.iload_n 1, 1) := by decide +kernel
theorem dX8_hasPage_1 : decode cX8_hasPage 1 = .ok (.ifCond .lt 15, 3) := by decide +kernel
theorem dX8_hasPage_4 : decode cX8_hasPage 4 = .ok (.iload_n 1, 1) := by decide +kernel
theorem dX8_hasPage_5 : decode cX8_hasPage 5 = .ok (.aload_n 0, 1) := by decide +kernel
theorem dX8_hasPage_6 : decode cX8_hasPage 6 = .ok (.invokevirtual 65, 3) := by decide +kernel
theorem dX8_hasPage_9 : decode cX8_hasPage 9 = .ok (.if_icmp .ge 7, 3) := by decide +kernel
theorem dX8_hasPage_12 : decode cX8_hasPage 12 = .ok (.iconst 1, 1) := by decide +kernel
theorem dX8_hasPage_13 : decode cX8_hasPage 13 = .ok (.goto 4, 3) := by decide +kernel
theorem dX8_hasPage_16 : decode cX8_hasPage 16 = .ok (.iconst 0, 1) := by decide +kernel
theorem dX8_hasPage_17 : decode cX8_hasPage 17 = .ok (.ireturn, 1) := by decide +kernel
theorem dX8_hasRegister_0 : decode cX8_hasRegister 0 = .ok (.iload_n 1, 1) := by decide +kernel
theorem dX8_hasRegister_1 : decode cX8_hasRegister 1 = .ok (.ifCond .lt 15, 3) := by decide +kernel
theorem dX8_hasRegister_4 : decode cX8_hasRegister 4 = .ok (.iload_n 1, 1) := by decide +kernel
theorem dX8_hasRegister_5 : decode cX8_hasRegister 5 = .ok (.aload_n 0, 1) := by decide +kernel
theorem dX8_hasRegister_6 : decode cX8_hasRegister 6 = .ok (.getfield 43, 3) := by decide +kernel
theorem dX8_hasRegister_9 : decode cX8_hasRegister 9 = .ok (.if_icmp .ge 7, 3) := by decide +kernel
theorem dX8_hasRegister_12 : decode cX8_hasRegister 12 = .ok (.iconst 1, 1) := by decide +kernel
theorem dX8_hasRegister_13 : decode cX8_hasRegister 13 = .ok (.goto 4, 3) := by decide +kernel
theorem dX8_hasRegister_16 : decode cX8_hasRegister 16 = .ok (.iconst 0, 1) := by decide +kernel
theorem dX8_hasRegister_17 : decode cX8_hasRegister 17 = .ok (.ireturn, 1) := by decide +kernel
theorem dX8_isSet_0 : decode cX8_isSet 0 = .ok (.aload_n 0, 1) := by decide +kernel
theorem dX8_isSet_1 : decode cX8_isSet 1 = .ok (.iload_n 1, 1) := by decide +kernel
theorem dX8_isSet_2 : decode cX8_isSet 2 = .ok (.invokevirtual 69, 3) := by decide +kernel
theorem dX8_isSet_5 : decode cX8_isSet 5 = .ok (.ifCond .eq 16, 3) := by decide +kernel
theorem dX8_isSet_8 : decode cX8_isSet 8 = .ok (.aload_n 0, 1) := by decide +kernel
theorem dX8_isSet_9 : decode cX8_isSet 9 = .ok (.getfield 27, 3) := by decide +kernel
theorem dX8_isSet_12 : decode cX8_isSet 12 = .ok (.iload_n 1, 1) := by decide +kernel
theorem dX8_isSet_13 : decode cX8_isSet 13 = .ok (.iaload, 1) := by decide +kernel
theorem dX8_isSet_14 : decode cX8_isSet 14 = .ok (.ifCond .le 7, 3) := by decide +kernel
theorem dX8_isSet_17 : decode cX8_isSet 17 = .ok (.iconst 1, 1) := by decide +kernel
theorem dX8_isSet_18 : decode cX8_isSet 18 = .ok (.goto 4, 3) := by decide +kernel
theorem dX8_isSet_21 : decode cX8_isSet 21 = .ok (.iconst 0, 1) := by decide +kernel
theorem dX8_isSet_22 : decode cX8_isSet 22 = .ok (.ireturn, 1) := by decide +kernel
theorem dX8_countSet_0 : decode cX8_countSet 0 = .ok (.iconst 0, 1) := by decide +kernel
theorem dX8_countSet_1 : decode cX8_countSet 1 = .ok (.istore_n 1, 1) := by decide +kernel
theorem dX8_countSet_2 : decode cX8_countSet 2 = .ok (.iconst 0, 1) := by decide +kernel
theorem dX8_countSet_3 : decode cX8_countSet 3 = .ok (.istore_n 2, 1) := by decide +kernel
theorem dX8_countSet_4 : decode cX8_countSet 4 = .ok (.iload_n 2, 1) := by decide +kernel
theorem dX8_countSet_5 : decode cX8_countSet 5 = .ok (.aload_n 0, 1) := by decide +kernel
theorem dX8_countSet_6 : decode cX8_countSet 6 = .ok (.getfield 43, 3) := by decide +kernel
theorem dX8_countSet_9 : decode cX8_countSet 9 = .ok (.if_icmp .ge 26, 3) := by decide +kernel
theorem dX8_countSet_12 : decode cX8_countSet 12 = .ok (.iload_n 1, 1) := by decide +kernel
theorem dX8_countSet_13 : decode cX8_countSet 13 = .ok (.aload_n 0, 1) := by decide +kernel
theorem dX8_countSet_14 : decode cX8_countSet 14 = .ok (.getfield 27, 3) := by decide +kernel
theorem dX8_countSet_17 : decode cX8_countSet 17 = .ok (.iload_n 2, 1) := by decide +kernel
theorem dX8_countSet_18 : decode cX8_countSet 18 = .ok (.iaload, 1) := by decide +kernel
theorem dX8_countSet_19 : decode cX8_countSet 19 = .ok (.ifCond .le 7, 3) := by decide +kernel
theorem dX8_countSet_22 : decode cX8_countSet 22 = .ok (.iconst 1, 1) := by decide +kernel
theorem dX8_countSet_23 : decode cX8_countSet 23 = .ok (.goto 4, 3) := by decide +kernel
theorem dX8_countSet_26 : decode cX8_countSet 26 = .ok (.iconst 0, 1) := by decide +kernel
theorem dX8_countSet_27 : decode cX8_countSet 27 = .ok (.iadd, 1) := by decide +kernel
theorem dX8_countSet_28 : decode cX8_countSet 28 = .ok (.istore_n 1, 1) := by decide +kernel
theorem dX8_countSet_29 : decode cX8_countSet 29 = .ok (.iinc 2 1, 3) := by decide +kernel
theorem dX8_countSet_32 : decode cX8_countSet 32 = .ok (.goto (-28), 3) := by decide +kernel
theorem dX8_countSet_35 : decode cX8_countSet 35 = .ok (.iload_n 1, 1) := by decide +kernel
theorem dX8_countSet_36 : decode cX8_countSet 36 = .ok (.ireturn, 1) := by decide +kernel
theorem dX8_fits_0 : decode cX8_fits 0 = .ok (.iload_n 2, 1) := by decide +kernel
theorem dX8_fits_1 : decode cX8_fits 1 = .ok (.ifCond .le 23, 3) := by decide +kernel
theorem dX8_fits_4 : decode cX8_fits 4 = .ok (.iload_n 2, 1) := by decide +kernel
theorem dX8_fits_5 : decode cX8_fits 5 = .ok (.aload_n 0, 1) := by decide +kernel
theorem dX8_fits_6 : decode cX8_fits 6 = .ok (.getfield 39, 3) := by decide +kernel
theorem dX8_fits_9 : decode cX8_fits 9 = .ok (.if_icmp .gt 15, 3) := by decide +kernel
theorem dX8_fits_12 : decode cX8_fits 12 = .ok (.iload_n 2, 1) := by decide +kernel
theorem dX8_fits_13 : decode cX8_fits 13 = .ok (.iload_n 2, 1) := by decide +kernel
theorem dX8_fits_14 : decode cX8_fits 14 = .ok (.iconst 1, 1) := by decide +kernel
theorem dX8_fits_15 : decode cX8_fits 15 = .ok (.isub, 1) := by decide +kernel
theorem dX8_fits_16 : decode cX8_fits 16 = .ok (.iand, 1) := by decide +kernel
theorem dX8_fits_17 : decode cX8_fits 17 = .ok (.ifCond .ne 7, 3) := by decide +kernel
theorem dX8_fits_20 : decode cX8_fits 20 = .ok (.iconst 1, 1) := by decide +kernel
theorem dX8_fits_21 : decode cX8_fits 21 = .ok (.goto 4, 3) := by decide +kernel
theorem dX8_fits_24 : decode cX8_fits 24 = .ok (.iconst 0, 1) := by decide +kernel
theorem dX8_fits_25 : decode cX8_fits 25 = .ok (.istore_n 3, 1) := by decide +kernel
theorem dX8_fits_26 : decode cX8_fits 26 = .ok (.iload_n 3, 1) := by decide +kernel
theorem dX8_fits_27 : decode cX8_fits 27 = .ok (.ifCond .eq 23, 3) := by decide +kernel
theorem dX8_fits_30 : decode cX8_fits 30 = .ok (.aload_n 0, 1) := by decide +kernel
theorem dX8_fits_31 : decode cX8_fits 31 = .ok (.iload_n 1, 1) := by decide +kernel
theorem dX8_fits_32 : decode cX8_fits 32 = .ok (.invokevirtual 73, 3) := by decide +kernel
theorem dX8_fits_35 : decode cX8_fits 35 = .ok (.ifCond .eq 15, 3) := by decide +kernel
theorem dX8_fits_38 : decode cX8_fits 38 = .ok (.iload_n 1, 1) := by decide +kernel
theorem dX8_fits_39 : decode cX8_fits 39 = .ok (.iload_n 2, 1) := by decide +kernel
theorem dX8_fits_40 : decode cX8_fits 40 = .ok (.iconst 1, 1) := by decide +kernel
theorem dX8_fits_41 : decode cX8_fits 41 = .ok (.isub, 1) := by decide +kernel
theorem dX8_fits_42 : decode cX8_fits 42 = .ok (.iand, 1) := by decide +kernel
theorem dX8_fits_43 : decode cX8_fits 43 = .ok (.ifCond .ne 7, 3) := by decide +kernel
theorem dX8_fits_46 : decode cX8_fits 46 = .ok (.iconst 1, 1) := by decide +kernel
theorem dX8_fits_47 : decode cX8_fits 47 = .ok (.goto 4, 3) := by decide +kernel
theorem dX8_fits_50 : decode cX8_fits 50 = .ok (.iconst 0, 1) := by decide +kernel
theorem dX8_fits_51 : decode cX8_fits 51 = .ok (.ireturn, 1) := by decide +kernel
theorem dX8_holderOf_0 : decode cX8_holderOf 0 = .ok (.iconst 0, 1) := by decide +kernel
theorem dX8_holderOf_1 : decode cX8_holderOf 1 = .ok (.istore_n 3, 1) := by decide +kernel
theorem dX8_holderOf_2 : decode cX8_holderOf 2 = .ok (.iload_n 3, 1) := by decide +kernel
theorem dX8_holderOf_3 : decode cX8_holderOf 3 = .ok (.aload_n 0, 1) := by decide +kernel
theorem dX8_holderOf_4 : decode cX8_holderOf 4 = .ok (.getfield 43, 3) := by decide +kernel
theorem dX8_holderOf_7 : decode cX8_holderOf 7 = .ok (.if_icmp .ge 31, 3) := by decide +kernel
theorem dX8_holderOf_10 : decode cX8_holderOf 10 = .ok (.aload_n 0, 1) := by decide +kernel
theorem dX8_holderOf_11 : decode cX8_holderOf 11 = .ok (.getfield 27, 3) := by decide +kernel
theorem dX8_holderOf_14 : decode cX8_holderOf 14 = .ok (.iload_n 3, 1) := by decide +kernel
theorem dX8_holderOf_15 : decode cX8_holderOf 15 = .ok (.iaload, 1) := by decide +kernel
theorem dX8_holderOf_16 : decode cX8_holderOf 16 = .ok (.iload_n 2, 1) := by decide +kernel
theorem dX8_holderOf_17 : decode cX8_holderOf 17 = .ok (.if_icmp .ne 15, 3) := by decide +kernel
theorem dX8_holderOf_20 : decode cX8_holderOf 20 = .ok (.aload_n 0, 1) := by decide +kernel
theorem dX8_holderOf_21 : decode cX8_holderOf 21 = .ok (.getfield 24, 3) := by decide +kernel
theorem dX8_holderOf_24 : decode cX8_holderOf 24 = .ok (.iload_n 3, 1) := by decide +kernel
theorem dX8_holderOf_25 : decode cX8_holderOf 25 = .ok (.iaload, 1) := by decide +kernel
theorem dX8_holderOf_26 : decode cX8_holderOf 26 = .ok (.iload_n 1, 1) := by decide +kernel
theorem dX8_holderOf_27 : decode cX8_holderOf 27 = .ok (.if_icmp .ne 5, 3) := by decide +kernel
theorem dX8_holderOf_30 : decode cX8_holderOf 30 = .ok (.iload_n 3, 1) := by decide +kernel
theorem dX8_holderOf_31 : decode cX8_holderOf 31 = .ok (.ireturn, 1) := by decide +kernel
theorem dX8_holderOf_32 : decode cX8_holderOf 32 = .ok (.iinc 3 1, 3) := by decide +kernel
theorem dX8_holderOf_35 : decode cX8_holderOf 35 = .ok (.goto (-33), 3) := by decide +kernel
theorem dX8_holderOf_38 : decode cX8_holderOf 38 = .ok (.iconst (-1), 1) := by decide +kernel
theorem dX8_holderOf_39 : decode cX8_holderOf 39 = .ok (.ireturn, 1) := by decide +kernel
theorem dX8_addSpan_0 : decode cX8_addSpan 0 = .ok (.aload_n 0, 1) := by decide +kernel
theorem dX8_addSpan_1 : decode cX8_addSpan 1 = .ok (.getfield 49, 3) := by decide +kernel
theorem dX8_addSpan_4 : decode cX8_addSpan 4 = .ok (.bipush 12, 2) := by decide +kernel
theorem dX8_addSpan_6 : decode cX8_addSpan 6 = .ok (.if_icmp .ge 43, 3) := by decide +kernel
theorem dX8_addSpan_9 : decode cX8_addSpan 9 = .ok (.aload_n 0, 1) := by decide +kernel
theorem dX8_addSpan_10 : decode cX8_addSpan 10 = .ok (.getfield 9, 3) := by decide +kernel
theorem dX8_addSpan_13 : decode cX8_addSpan 13 = .ok (.aload_n 0, 1) := by decide +kernel
theorem dX8_addSpan_14 : decode cX8_addSpan 14 = .ok (.getfield 49, 3) := by decide +kernel
theorem dX8_addSpan_17 : decode cX8_addSpan 17 = .ok (.iload_n 1, 1) := by decide +kernel
theorem dX8_addSpan_18 : decode cX8_addSpan 18 = .ok (.iastore, 1) := by decide +kernel
theorem dX8_addSpan_19 : decode cX8_addSpan 19 = .ok (.aload_n 0, 1) := by decide +kernel
theorem dX8_addSpan_20 : decode cX8_addSpan 20 = .ok (.getfield 15, 3) := by decide +kernel
theorem dX8_addSpan_23 : decode cX8_addSpan 23 = .ok (.aload_n 0, 1) := by decide +kernel
theorem dX8_addSpan_24 : decode cX8_addSpan 24 = .ok (.getfield 49, 3) := by decide +kernel
theorem dX8_addSpan_27 : decode cX8_addSpan 27 = .ok (.iload_n 2, 1) := by decide +kernel
theorem dX8_addSpan_28 : decode cX8_addSpan 28 = .ok (.iastore, 1) := by decide +kernel
theorem dX8_addSpan_29 : decode cX8_addSpan 29 = .ok (.aload_n 0, 1) := by decide +kernel
theorem dX8_addSpan_30 : decode cX8_addSpan 30 = .ok (.getfield 18, 3) := by decide +kernel
theorem dX8_addSpan_33 : decode cX8_addSpan 33 = .ok (.aload_n 0, 1) := by decide +kernel
theorem dX8_addSpan_34 : decode cX8_addSpan 34 = .ok (.getfield 49, 3) := by decide +kernel
theorem dX8_addSpan_37 : decode cX8_addSpan 37 = .ok (.iload_n 3, 1) := by decide +kernel
theorem dX8_addSpan_38 : decode cX8_addSpan 38 = .ok (.iastore, 1) := by decide +kernel
theorem dX8_addSpan_39 : decode cX8_addSpan 39 = .ok (.aload_n 0, 1) := by decide +kernel
theorem dX8_addSpan_40 : decode cX8_addSpan 40 = .ok (.dup, 1) := by decide +kernel
theorem dX8_addSpan_41 : decode cX8_addSpan 41 = .ok (.getfield 49, 3) := by decide +kernel
theorem dX8_addSpan_44 : decode cX8_addSpan 44 = .ok (.iconst 1, 1) := by decide +kernel
theorem dX8_addSpan_45 : decode cX8_addSpan 45 = .ok (.iadd, 1) := by decide +kernel
theorem dX8_addSpan_46 : decode cX8_addSpan 46 = .ok (.putfield 49, 3) := by decide +kernel
theorem dX8_addSpan_49 : decode cX8_addSpan 49 = .ok (.return_, 1) := by decide +kernel
theorem dX8_dropSpan_0 : decode cX8_dropSpan 0 = .ok (.iload_n 1, 1) := by decide +kernel
theorem dX8_dropSpan_1 : decode cX8_dropSpan 1 = .ok (.istore_n 2, 1) := by decide +kernel
theorem dX8_dropSpan_2 : decode cX8_dropSpan 2 = .ok (.iload_n 2, 1) := by decide +kernel
theorem dX8_dropSpan_3 : decode cX8_dropSpan 3 = .ok (.iconst 1, 1) := by decide +kernel
theorem dX8_dropSpan_4 : decode cX8_dropSpan 4 = .ok (.iadd, 1) := by decide +kernel
theorem dX8_dropSpan_5 : decode cX8_dropSpan 5 = .ok (.aload_n 0, 1) := by decide +kernel
theorem dX8_dropSpan_6 : decode cX8_dropSpan 6 = .ok (.getfield 49, 3) := by decide +kernel
theorem dX8_dropSpan_9 : decode cX8_dropSpan 9 = .ok (.if_icmp .ge 51, 3) := by decide +kernel
theorem dX8_dropSpan_12 : decode cX8_dropSpan 12 = .ok (.aload_n 0, 1) := by decide +kernel
theorem dX8_dropSpan_13 : decode cX8_dropSpan 13 = .ok (.getfield 9, 3) := by decide +kernel
theorem dX8_dropSpan_16 : decode cX8_dropSpan 16 = .ok (.iload_n 2, 1) := by decide +kernel
theorem dX8_dropSpan_17 : decode cX8_dropSpan 17 = .ok (.aload_n 0, 1) := by decide +kernel
theorem dX8_dropSpan_18 : decode cX8_dropSpan 18 = .ok (.getfield 9, 3) := by decide +kernel
theorem dX8_dropSpan_21 : decode cX8_dropSpan 21 = .ok (.iload_n 2, 1) := by decide +kernel
theorem dX8_dropSpan_22 : decode cX8_dropSpan 22 = .ok (.iconst 1, 1) := by decide +kernel
theorem dX8_dropSpan_23 : decode cX8_dropSpan 23 = .ok (.iadd, 1) := by decide +kernel
theorem dX8_dropSpan_24 : decode cX8_dropSpan 24 = .ok (.iaload, 1) := by decide +kernel
theorem dX8_dropSpan_25 : decode cX8_dropSpan 25 = .ok (.iastore, 1) := by decide +kernel
theorem dX8_dropSpan_26 : decode cX8_dropSpan 26 = .ok (.aload_n 0, 1) := by decide +kernel
theorem dX8_dropSpan_27 : decode cX8_dropSpan 27 = .ok (.getfield 15, 3) := by decide +kernel
theorem dX8_dropSpan_30 : decode cX8_dropSpan 30 = .ok (.iload_n 2, 1) := by decide +kernel
theorem dX8_dropSpan_31 : decode cX8_dropSpan 31 = .ok (.aload_n 0, 1) := by decide +kernel
theorem dX8_dropSpan_32 : decode cX8_dropSpan 32 = .ok (.getfield 15, 3) := by decide +kernel
theorem dX8_dropSpan_35 : decode cX8_dropSpan 35 = .ok (.iload_n 2, 1) := by decide +kernel
theorem dX8_dropSpan_36 : decode cX8_dropSpan 36 = .ok (.iconst 1, 1) := by decide +kernel
theorem dX8_dropSpan_37 : decode cX8_dropSpan 37 = .ok (.iadd, 1) := by decide +kernel
theorem dX8_dropSpan_38 : decode cX8_dropSpan 38 = .ok (.iaload, 1) := by decide +kernel
theorem dX8_dropSpan_39 : decode cX8_dropSpan 39 = .ok (.iastore, 1) := by decide +kernel
theorem dX8_dropSpan_40 : decode cX8_dropSpan 40 = .ok (.aload_n 0, 1) := by decide +kernel
theorem dX8_dropSpan_41 : decode cX8_dropSpan 41 = .ok (.getfield 18, 3) := by decide +kernel
theorem dX8_dropSpan_44 : decode cX8_dropSpan 44 = .ok (.iload_n 2, 1) := by decide +kernel
theorem dX8_dropSpan_45 : decode cX8_dropSpan 45 = .ok (.aload_n 0, 1) := by decide +kernel
theorem dX8_dropSpan_46 : decode cX8_dropSpan 46 = .ok (.getfield 18, 3) := by decide +kernel
theorem dX8_dropSpan_49 : decode cX8_dropSpan 49 = .ok (.iload_n 2, 1) := by decide +kernel
theorem dX8_dropSpan_50 : decode cX8_dropSpan 50 = .ok (.iconst 1, 1) := by decide +kernel
theorem dX8_dropSpan_51 : decode cX8_dropSpan 51 = .ok (.iadd, 1) := by decide +kernel
theorem dX8_dropSpan_52 : decode cX8_dropSpan 52 = .ok (.iaload, 1) := by decide +kernel
theorem dX8_dropSpan_53 : decode cX8_dropSpan 53 = .ok (.iastore, 1) := by decide +kernel
theorem dX8_dropSpan_54 : decode cX8_dropSpan 54 = .ok (.iinc 2 1, 3) := by decide +kernel
theorem dX8_dropSpan_57 : decode cX8_dropSpan 57 = .ok (.goto (-55), 3) := by decide +kernel
theorem dX8_dropSpan_60 : decode cX8_dropSpan 60 = .ok (.aload_n 0, 1) := by decide +kernel
theorem dX8_dropSpan_61 : decode cX8_dropSpan 61 = .ok (.dup, 1) := by decide +kernel
theorem dX8_dropSpan_62 : decode cX8_dropSpan 62 = .ok (.getfield 49, 3) := by decide +kernel
theorem dX8_dropSpan_65 : decode cX8_dropSpan 65 = .ok (.iconst 1, 1) := by decide +kernel
theorem dX8_dropSpan_66 : decode cX8_dropSpan 66 = .ok (.isub, 1) := by decide +kernel
theorem dX8_dropSpan_67 : decode cX8_dropSpan 67 = .ok (.putfield 49, 3) := by decide +kernel
theorem dX8_dropSpan_70 : decode cX8_dropSpan 70 = .ok (.return_, 1) := by decide +kernel
theorem dX8_wantedAt_0 : decode cX8_wantedAt 0 = .ok (.aload_n 0, 1) := by decide +kernel
theorem dX8_wantedAt_1 : decode cX8_wantedAt 1 = .ok (.getfield 49, 3) := by decide +kernel
theorem dX8_wantedAt_4 : decode cX8_wantedAt 4 = .ok (.iconst 1, 1) := by decide +kernel
theorem dX8_wantedAt_5 : decode cX8_wantedAt 5 = .ok (.isub, 1) := by decide +kernel
theorem dX8_wantedAt_6 : decode cX8_wantedAt 6 = .ok (.istore_n 3, 1) := by decide +kernel
theorem dX8_wantedAt_7 : decode cX8_wantedAt 7 = .ok (.iload_n 3, 1) := by decide +kernel
theorem dX8_wantedAt_8 : decode cX8_wantedAt 8 = .ok (.ifCond .lt 36, 3) := by decide +kernel
theorem dX8_wantedAt_11 : decode cX8_wantedAt 11 = .ok (.aload_n 0, 1) := by decide +kernel
theorem dX8_wantedAt_12 : decode cX8_wantedAt 12 = .ok (.getfield 9, 3) := by decide +kernel
theorem dX8_wantedAt_15 : decode cX8_wantedAt 15 = .ok (.iload_n 3, 1) := by decide +kernel
theorem dX8_wantedAt_16 : decode cX8_wantedAt 16 = .ok (.iaload, 1) := by decide +kernel
theorem dX8_wantedAt_17 : decode cX8_wantedAt 17 = .ok (.iload_n 1, 1) := by decide +kernel
theorem dX8_wantedAt_18 : decode cX8_wantedAt 18 = .ok (.if_icmp .gt 20, 3) := by decide +kernel
theorem dX8_wantedAt_21 : decode cX8_wantedAt 21 = .ok (.iload_n 1, 1) := by decide +kernel
theorem dX8_wantedAt_22 : decode cX8_wantedAt 22 = .ok (.aload_n 0, 1) := by decide +kernel
theorem dX8_wantedAt_23 : decode cX8_wantedAt 23 = .ok (.getfield 15, 3) := by decide +kernel
theorem dX8_wantedAt_26 : decode cX8_wantedAt 26 = .ok (.iload_n 3, 1) := by decide +kernel
theorem dX8_wantedAt_27 : decode cX8_wantedAt 27 = .ok (.iaload, 1) := by decide +kernel
theorem dX8_wantedAt_28 : decode cX8_wantedAt 28 = .ok (.if_icmp .gt 10, 3) := by decide +kernel
theorem dX8_wantedAt_31 : decode cX8_wantedAt 31 = .ok (.aload_n 0, 1) := by decide +kernel
theorem dX8_wantedAt_32 : decode cX8_wantedAt 32 = .ok (.getfield 18, 3) := by decide +kernel
theorem dX8_wantedAt_35 : decode cX8_wantedAt 35 = .ok (.iload_n 3, 1) := by decide +kernel
theorem dX8_wantedAt_36 : decode cX8_wantedAt 36 = .ok (.iaload, 1) := by decide +kernel
theorem dX8_wantedAt_37 : decode cX8_wantedAt 37 = .ok (.ireturn, 1) := by decide +kernel
theorem dX8_wantedAt_38 : decode cX8_wantedAt 38 = .ok (.iinc 3 (-1), 3) := by decide +kernel
theorem dX8_wantedAt_41 : decode cX8_wantedAt 41 = .ok (.goto (-34), 3) := by decide +kernel
theorem dX8_wantedAt_44 : decode cX8_wantedAt 44 = .ok (.iload_n 2, 1) := by decide +kernel
theorem dX8_wantedAt_45 : decode cX8_wantedAt 45 = .ok (.ireturn, 1) := by decide +kernel
theorem dX8_kindsOver_0 : decode cX8_kindsOver 0 = .ok (.iconst 0, 1) := by decide +kernel
theorem dX8_kindsOver_1 : decode cX8_kindsOver 1 = .ok (.istore_n 3, 1) := by decide +kernel
theorem dX8_kindsOver_2 : decode cX8_kindsOver 2 = .ok (.iconst 0, 1) := by decide +kernel
theorem dX8_kindsOver_3 : decode cX8_kindsOver 3 = .ok (.istore 4, 2) := by decide +kernel
theorem dX8_kindsOver_5 : decode cX8_kindsOver 5 = .ok (.iload 4, 2) := by decide +kernel
theorem dX8_kindsOver_7 : decode cX8_kindsOver 7 = .ok (.aload_n 0, 1) := by decide +kernel
theorem dX8_kindsOver_8 : decode cX8_kindsOver 8 = .ok (.getfield 43, 3) := by decide +kernel
theorem dX8_kindsOver_11 : decode cX8_kindsOver 11 = .ok (.if_icmp .ge 57, 3) := by decide +kernel
theorem dX8_kindsOver_14 : decode cX8_kindsOver 14 = .ok (.iload 4, 2) := by decide +kernel
theorem dX8_kindsOver_16 : decode cX8_kindsOver 16 = .ok (.iload_n 2, 1) := by decide +kernel
theorem dX8_kindsOver_17 : decode cX8_kindsOver 17 = .ok (.if_icmp .eq 45, 3) := by decide +kernel
theorem dX8_kindsOver_20 : decode cX8_kindsOver 20 = .ok (.aload_n 0, 1) := by decide +kernel
theorem dX8_kindsOver_21 : decode cX8_kindsOver 21 = .ok (.getfield 24, 3) := by decide +kernel
theorem dX8_kindsOver_24 : decode cX8_kindsOver 24 = .ok (.iload 4, 2) := by decide +kernel
theorem dX8_kindsOver_26 : decode cX8_kindsOver 26 = .ok (.iaload, 1) := by decide +kernel
theorem dX8_kindsOver_27 : decode cX8_kindsOver 27 = .ok (.iload_n 1, 1) := by decide +kernel
theorem dX8_kindsOver_28 : decode cX8_kindsOver 28 = .ok (.if_icmp .gt 34, 3) := by decide +kernel
theorem dX8_kindsOver_31 : decode cX8_kindsOver 31 = .ok (.iload_n 1, 1) := by decide +kernel
theorem dX8_kindsOver_32 : decode cX8_kindsOver 32 = .ok (.aload_n 0, 1) := by decide +kernel
theorem dX8_kindsOver_33 : decode cX8_kindsOver 33 = .ok (.getfield 24, 3) := by decide +kernel
theorem dX8_kindsOver_36 : decode cX8_kindsOver 36 = .ok (.iload 4, 2) := by decide +kernel
theorem dX8_kindsOver_38 : decode cX8_kindsOver 38 = .ok (.iaload, 1) := by decide +kernel
theorem dX8_kindsOver_39 : decode cX8_kindsOver 39 = .ok (.aload_n 0, 1) := by decide +kernel
theorem dX8_kindsOver_40 : decode cX8_kindsOver 40 = .ok (.getfield 27, 3) := by decide +kernel
theorem dX8_kindsOver_43 : decode cX8_kindsOver 43 = .ok (.iload 4, 2) := by decide +kernel
theorem dX8_kindsOver_45 : decode cX8_kindsOver 45 = .ok (.iaload, 1) := by decide +kernel
theorem dX8_kindsOver_46 : decode cX8_kindsOver 46 = .ok (.iadd, 1) := by decide +kernel
theorem dX8_kindsOver_47 : decode cX8_kindsOver 47 = .ok (.if_icmp .ge 15, 3) := by decide +kernel
theorem dX8_kindsOver_50 : decode cX8_kindsOver 50 = .ok (.iload_n 3, 1) := by decide +kernel
theorem dX8_kindsOver_51 : decode cX8_kindsOver 51 = .ok (.iconst 1, 1) := by decide +kernel
theorem dX8_kindsOver_52 : decode cX8_kindsOver 52 = .ok (.aload_n 0, 1) := by decide +kernel
theorem dX8_kindsOver_53 : decode cX8_kindsOver 53 = .ok (.getfield 30, 3) := by decide +kernel
theorem dX8_kindsOver_56 : decode cX8_kindsOver 56 = .ok (.iload 4, 2) := by decide +kernel
theorem dX8_kindsOver_58 : decode cX8_kindsOver 58 = .ok (.iaload, 1) := by decide +kernel
theorem dX8_kindsOver_59 : decode cX8_kindsOver 59 = .ok (.ishl, 1) := by decide +kernel
theorem dX8_kindsOver_60 : decode cX8_kindsOver 60 = .ok (.ior, 1) := by decide +kernel
theorem dX8_kindsOver_61 : decode cX8_kindsOver 61 = .ok (.istore_n 3, 1) := by decide +kernel
theorem dX8_kindsOver_62 : decode cX8_kindsOver 62 = .ok (.iinc 4 1, 3) := by decide +kernel
theorem dX8_kindsOver_65 : decode cX8_kindsOver 65 = .ok (.goto (-60), 3) := by decide +kernel
theorem dX8_kindsOver_68 : decode cX8_kindsOver 68 = .ok (.iload_n 3, 1) := by decide +kernel
theorem dX8_kindsOver_69 : decode cX8_kindsOver 69 = .ok (.ireturn, 1) := by decide +kernel
theorem dX8_seenAs_0 : decode cX8_seenAs 0 = .ok (.getstatic 93, 3) := by decide +kernel
theorem dX8_seenAs_3 : decode cX8_seenAs 3 = .ok (.aload_n 0, 1) := by decide +kernel
theorem dX8_seenAs_4 : decode cX8_seenAs 4 = .ok (.getfield 33, 3) := by decide +kernel
theorem dX8_seenAs_7 : decode cX8_seenAs 7 = .ok (.iload_n 1, 1) := by decide +kernel
theorem dX8_seenAs_8 : decode cX8_seenAs 8 = .ok (.bipush 16, 2) := by decide +kernel
theorem dX8_seenAs_10 : decode cX8_seenAs 10 = .ok (.idiv, 1) := by decide +kernel
theorem dX8_seenAs_11 : decode cX8_seenAs 11 = .ok (.iaload, 1) := by decide +kernel
theorem dX8_seenAs_12 : decode cX8_seenAs 12 = .ok (.bipush 6, 2) := by decide +kernel
theorem dX8_seenAs_14 : decode cX8_seenAs 14 = .ok (.imul, 1) := by decide +kernel
theorem dX8_seenAs_15 : decode cX8_seenAs 15 = .ok (.iload_n 2, 1) := by decide +kernel
theorem dX8_seenAs_16 : decode cX8_seenAs 16 = .ok (.iadd, 1) := by decide +kernel
theorem dX8_seenAs_17 : decode cX8_seenAs 17 = .ok (.iaload, 1) := by decide +kernel
theorem dX8_seenAs_18 : decode cX8_seenAs 18 = .ok (.ireturn, 1) := by decide +kernel
section G10_store_lean_txt
variable {p : Program} {l : Launch} {e : Env} {s : State} {m : MethodId} {args : Array Value} {below : List Frame} {meth : Method} {c : Code} {H : Heap} {locs : List Loc} {ls : Array Slot} {E : Ge} {L : Lay} {fu d : Nat}
def fX8_put (fu : Nat) (a0 : Nat) (x1 : Int32) (x2 : Int32) (x3 : Int32) (x4 : Int32) (M : Mm) : Option Mm :=
  if x1 < 0 ∨ 10 ≤ ix x1 then none else
  lt (wI M (a0 + 5) (ix x1) x2) fun M_6 =>
  lt (wI M_6 (a0 + 6) (ix x1) x3) fun M_13 =>
  lt (wI M_13 (a0 + 7) (ix x1) x4) fun M_21 =>
  some M_21
set_option maxRecDepth 100000 in
set_option maxHeartbeats 4000000 in
theorem mX8_put {l : Launch} {E : Ge} {L : Lay} (fu d : Nat) {a0 : Nat} {x1 : Int32} {x2 : Int32} {x3 : Int32} {x4 : Int32} {M : Mm} {M' : Mm} (h0 : At L a0 T8) (h : fX8_put fu a0 x1 x2 x3 x4 M = some M') : Ct l E L yX8_put cX8_put 5 none (d + 0) [.ref a0, .int x1, .int x2, .int x3, .int x4] M none M' := by
  refine Ct.of (by decide) ?_
  intro p e s m below meth c hr hlk B hR
  have B : Bx p s m _ c cX8_put 5 RX8 E L := B
  have hx := B.1
  have hb := B.2.1
  have hl := lv_entry ([.ref a0, .int x1, .int x2, .int x3, .int x4]) (n := 5) (Nat.le_of_ble_eq_true rfl)
  rw [lg_entry_eq]
  generalize (lg_sl ([.ref a0, .int x1, .int x2, .int x3, .int x4]) ++ List.replicate (5 - (lg_sl ([.ref a0, .int x1, .int x2, .int x3, .int x4])).length) Slot.unset).toArray = ls at hl ⊢
  have hl : lv_has ls 5 [(0, .ref a0), (1, .int x1), (2, .int x2), (3, .int x3), (4, .int x4)] := hl
  unfold fX8_put at h
  refine lv_aload_n hx hb dX8_put_0 rfl (lv_at hl 0 rfl) ?_
  refine gf_X8_24 B hR (h0.at0 rfl) dX8_put_1 ?_
  refine lv_iload_n hx hb dX8_put_4 rfl (lv_at hl 1 rfl) ?_
  refine lv_iload_n hx hb dX8_put_5 rfl (lv_at hl 2 rfl) ?_
  obtain ⟨hi_6, h⟩ := ifn_el h
  obtain ⟨M_6, eM_6, h⟩ := lt_el h
  refine r_iast B hR (h0.at 5 rfl) hi_6 dX8_put_6 (fun H locs hR => ?_)
  rw [← eM_6] at hR
  refine lv_aload_n hx hb dX8_put_7 rfl (lv_at hl 0 rfl) ?_
  refine gf_X8_27 B hR (h0.at0 rfl) dX8_put_8 ?_
  refine lv_iload_n hx hb dX8_put_11 rfl (lv_at hl 1 rfl) ?_
  refine lv_iload_n hx hb dX8_put_12 rfl (lv_at hl 3 rfl) ?_
  obtain ⟨M_13, eM_13, h⟩ := lt_el h
  refine r_iast B hR (h0.at 6 rfl) hi_6 dX8_put_13 (fun H locs hR => ?_)
  rw [← eM_13] at hR
  refine lv_aload_n hx hb dX8_put_14 rfl (lv_at hl 0 rfl) ?_
  refine gf_X8_30 B hR (h0.at0 rfl) dX8_put_15 ?_
  refine lv_iload_n hx hb dX8_put_18 rfl (lv_at hl 1 rfl) ?_
  refine lv_iload hx hb dX8_put_19 (lv_at hl 4 rfl) ?_
  obtain ⟨M_21, eM_21, h⟩ := lt_el h
  refine r_iast B hR (h0.at 7 rfl) hi_6 dX8_put_21 (fun H locs hR => ?_)
  rw [← eM_21] at hR
  exact r_vretW B hR hr hlk h dX8_put_22
def fX8_wipe_j71 (fu : Nat) (M : Mm) : Option Mm :=
  some M
set_option maxRecDepth 100000 in
set_option maxHeartbeats 4000000 in
theorem wX8_wipe_j71 {M' : Mm}    {M : Mm} (B : Bx p s m args c cX8_wipe 2 RX8 E L) (hr : meth.sig.returnType = none) (hlk : meth.locks = false)   (h : fX8_wipe_j71 fu M = some M') (hR : Rx s E L M H locs) (hl : lv_has ls 2 []) : W p l e (rmD (d + 1)) s m args below meth c H locs 0 0 (MQ below (QcM E L none M') args s 0 0 E.2.2.2) (F0 m 71 ls []) := by
  have hx := B.1
  have hb := B.2.1
  unfold fX8_wipe_j71 at h
  exact r_vretW B hR hr hlk h dX8_wipe_71
def fX8_wipe_b52 (fu : Nat) (k52 : Int32 → Mm → Option Mm) (a0 : Nat) (x1 : Int32) (M : Mm) : Option Mm :=
  if 64 ≤ x1 then
    fX8_wipe_j71 fu M
  else
    if x1 < 0 ∨ 64 ≤ ix x1 then none else
    lt (wI M (a0 + 8) (ix x1) 5) fun M_64 =>
    lt (x1 + 1) fun x1_65 =>
    k52 x1_65 M_64
set_option maxRecDepth 100000 in
set_option maxHeartbeats 4000000 in
theorem wX8_wipe_b52 {M' : Mm}   {k52 : Int32 → Mm → Option Mm} {a0 : Nat} {x1 : Int32} {M : Mm} (B : Bx p s m args c cX8_wipe 2 RX8 E L) (hr : meth.sig.returnType = none) (hlk : meth.locks = false)  (ih52 : ∀ (x1 : Int32) (M : Mm), k52 x1 M = some M' → ∀ (H : Heap) (locs : List Loc) (ls : Array Slot), Rx s E L M H locs → lv_has ls 2 [(0, .ref a0), (1, .int x1)] → W p l e (rmD (d + 1)) s m args below meth c H locs 0 0 (MQ below (QcM E L none M') args s 0 0 E.2.2.2) (F0 m 52 ls [])) (h0 : At L a0 T8) (h : fX8_wipe_b52 fu k52 a0 x1 M = some M') (hR : Rx s E L M H locs) (hl : lv_has ls 2 [(0, .ref a0), (1, .int x1)]) : W p l e (rmD (d + 1)) s m args below meth c H locs 0 0 (MQ below (QcM E L none M') args s 0 0 E.2.2.2) (F0 m 52 ls []) := by
  have hx := B.1
  have hb := B.2.1
  unfold fX8_wipe_b52 at h
  refine lv_iload_n hx hb dX8_wipe_52 rfl (lv_at hl 1 rfl) ?_
  refine lv_bipush (v := 64) hx hb dX8_wipe_53 (by decide) ?_
  refine lv_icmp_ge (tgt := 71) hx hb dX8_wipe_55 (by decide) (fun c_55 => ?_) (fun c_55 => ?_)
  · rw [if_pos c_55] at h
    exact wX8_wipe_j71 B hr hlk  h hR (lv_sub hl [] rfl)
  · rw [if_neg c_55] at h
    refine lv_aload_n hx hb dX8_wipe_58 rfl (lv_at hl 0 rfl) ?_
    refine gf_X8_33 B hR (h0.at0 rfl) dX8_wipe_59 ?_
    refine lv_iload_n hx hb dX8_wipe_62 rfl (lv_at hl 1 rfl) ?_
    refine lv_iconst (v := 5) hx hb dX8_wipe_63 (by decide) ?_
    obtain ⟨hi_64, h⟩ := ifn_el h
    obtain ⟨M_64, eM_64, h⟩ := lt_el h
    refine r_iast B hR (h0.at 8 rfl) hi_64 dX8_wipe_64 (fun H locs hR => ?_)
    rw [← eM_64] at hR
    obtain ⟨x1_65, ex1_65, h⟩ := lt_el h
    refine lv_iinc (v := x1_65) (lv' := [(1, .int x1_65), (0, .ref a0)]) hx hb dX8_wipe_65 hl (k := 1) rfl (by rw [ex1_65]; rfl) (by decide) rfl (fun ls hl => ?_)
    refine lv_goto (tgt := 52) hx hb dX8_wipe_68 (by decide) ?_
    exact ih52 x1_65 M_64 h _ _ _ hR (lv_sub hl [1, 0] rfl)
def fX8_wipe_l52 (fu : Nat) (a0 : Nat) (x1 : Int32) (M : Mm) : Option Mm := lp (fun (rec : (Int32 × Mm) → Option Mm) (s : Int32 × Mm) => fX8_wipe_b52 fu  (fun x1 M => rec (x1, M)) a0 s.1 s.2) fu (x1, M)
set_option maxRecDepth 100000 in
set_option maxHeartbeats 4000000 in
theorem wX8_wipe_l52 {M' : Mm}   {a0 : Nat} {x1 : Int32} {M : Mm} (B : Bx p s m args c cX8_wipe 2 RX8 E L) (hr : meth.sig.returnType = none) (hlk : meth.locks = false)  (h0 : At L a0 T8) (h : fX8_wipe_l52 fu a0 x1 M = some M') (hR : Rx s E L M H locs) (hl : lv_has ls 2 [(0, .ref a0), (1, .int x1)]) : W p l e (rmD (d + 1)) s m args below meth c H locs 0 0 (MQ below (QcM E L none M') args s 0 0 E.2.2.2) (F0 m 52 ls []) := by
  refine lp_G (G := fun z : Int32 × Mm => ∀ (H : Heap) (locs : List Loc) (ls : Array Slot), Rx s E L z.2 H locs → lv_has ls 2 [(0, .ref a0), (1, .int z.1)] → W p l e (rmD (d + 1)) s m args below meth c H locs 0 0 (MQ below (QcM E L none M') args s 0 0 E.2.2.2) (F0 m 52 ls [])) (fun rec ih z h H locs ls hR hl => ?_) fu _ h H locs ls hR hl
  exact wX8_wipe_b52 B hr hlk  (fun x1 M h => ih (x1, M) h) h0 h hR hl
def fX8_wipe_j50 (fu : Nat) (a0 : Nat) (M : Mm) : Option Mm :=
  fX8_wipe_l52 fu a0 0 M
set_option maxRecDepth 100000 in
set_option maxHeartbeats 4000000 in
theorem wX8_wipe_j50 {M' : Mm}   {a0 : Nat} {M : Mm} (B : Bx p s m args c cX8_wipe 2 RX8 E L) (hr : meth.sig.returnType = none) (hlk : meth.locks = false)  (h0 : At L a0 T8) (h : fX8_wipe_j50 fu a0 M = some M') (hR : Rx s E L M H locs) (hl : lv_has ls 2 [(0, .ref a0)]) : W p l e (rmD (d + 1)) s m args below meth c H locs 0 0 (MQ below (QcM E L none M') args s 0 0 E.2.2.2) (F0 m 50 ls []) := by
  have hx := B.1
  have hb := B.2.1
  unfold fX8_wipe_j50 at h
  refine lv_iconst (v := 0) hx hb dX8_wipe_50 (by decide) ?_
  refine lv_istore_n (lv' := [(1, .int 0), (0, .ref a0)]) hx hb dX8_wipe_51 rfl hl (by decide) rfl (fun ls hl => ?_)
  exact wX8_wipe_l52 B hr hlk h0 h hR (lv_sub hl [1, 0] rfl)
def fX8_wipe_b30 (fu : Nat) (k30 : Int32 → Mm → Option Mm) (a0 : Nat) (x1 : Int32) (M : Mm) : Option Mm :=
  if 10 ≤ x1 then
    fX8_wipe_j50 fu a0 M
  else
    bm (fX8_put fu a0 x1 0 0 0 M) fun M_41 =>
    lt (x1 + 1) fun x1_44 =>
    k30 x1_44 M_41
set_option maxRecDepth 100000 in
set_option maxHeartbeats 4000000 in
theorem wX8_wipe_b30 {M' : Mm}   {k30 : Int32 → Mm → Option Mm} {a0 : Nat} {x1 : Int32} {M : Mm} (B : Bx p s m args c cX8_wipe 2 RX8 E L) (hr : meth.sig.returnType = none) (hlk : meth.locks = false)  (ih30 : ∀ (x1 : Int32) (M : Mm), k30 x1 M = some M' → ∀ (H : Heap) (locs : List Loc) (ls : Array Slot), Rx s E L M H locs → lv_has ls 2 [(0, .ref a0), (1, .int x1)] → W p l e (rmD (d + 1)) s m args below meth c H locs 0 0 (MQ below (QcM E L none M') args s 0 0 E.2.2.2) (F0 m 30 ls [])) (h0 : At L a0 T8) (h : fX8_wipe_b30 fu k30 a0 x1 M = some M') (hR : Rx s E L M H locs) (hl : lv_has ls 2 [(0, .ref a0), (1, .int x1)]) : W p l e (rmD (d + 1)) s m args below meth c H locs 0 0 (MQ below (QcM E L none M') args s 0 0 E.2.2.2) (F0 m 30 ls []) := by
  have hx := B.1
  have hb := B.2.1
  unfold fX8_wipe_b30 at h
  refine lv_iload_n hx hb dX8_wipe_30 rfl (lv_at hl 1 rfl) ?_
  refine lv_bipush (v := 10) hx hb dX8_wipe_31 (by decide) ?_
  refine lv_icmp_ge (tgt := 50) hx hb dX8_wipe_33 (by decide) (fun c_33 => ?_) (fun c_33 => ?_)
  · rw [if_pos c_33] at h
    exact wX8_wipe_j50 B hr hlk h0 h hR (lv_sub hl [0] rfl)
  · rw [if_neg c_33] at h
    refine lv_aload_n hx hb dX8_wipe_36 rfl (lv_at hl 0 rfl) ?_
    refine lv_iload_n hx hb dX8_wipe_37 rfl (lv_at hl 1 rfl) ?_
    refine lv_iconst (v := 0) hx hb dX8_wipe_38 (by decide) ?_
    refine lv_iconst (v := 0) hx hb dX8_wipe_39 (by decide) ?_
    refine lv_iconst (v := 0) hx hb dX8_wipe_40 (by decide) ?_
    obtain ⟨M_41, hc_41, h⟩ := bm_el h
    refine iv_X8_55 B hR (h0.at0 rfl) hl.1 (mX8_put fu _ h0 hc_41) (Nat.le_of_ble_eq_true rfl) dX8_wipe_41 (fun H locs hR => ?_)
    obtain ⟨x1_44, ex1_44, h⟩ := lt_el h
    refine lv_iinc (v := x1_44) (lv' := [(1, .int x1_44), (0, .ref a0)]) hx hb dX8_wipe_44 hl (k := 1) rfl (by rw [ex1_44]; rfl) (by decide) rfl (fun ls hl => ?_)
    refine lv_goto (tgt := 30) hx hb dX8_wipe_47 (by decide) ?_
    exact ih30 x1_44 M_41 h _ _ _ hR (lv_sub hl [1, 0] rfl)
def fX8_wipe_l30 (fu : Nat) (a0 : Nat) (x1 : Int32) (M : Mm) : Option Mm := lp (fun (rec : (Int32 × Mm) → Option Mm) (s : Int32 × Mm) => fX8_wipe_b30 fu  (fun x1 M => rec (x1, M)) a0 s.1 s.2) fu (x1, M)
set_option maxRecDepth 100000 in
set_option maxHeartbeats 4000000 in
theorem wX8_wipe_l30 {M' : Mm}   {a0 : Nat} {x1 : Int32} {M : Mm} (B : Bx p s m args c cX8_wipe 2 RX8 E L) (hr : meth.sig.returnType = none) (hlk : meth.locks = false)  (h0 : At L a0 T8) (h : fX8_wipe_l30 fu a0 x1 M = some M') (hR : Rx s E L M H locs) (hl : lv_has ls 2 [(0, .ref a0), (1, .int x1)]) : W p l e (rmD (d + 1)) s m args below meth c H locs 0 0 (MQ below (QcM E L none M') args s 0 0 E.2.2.2) (F0 m 30 ls []) := by
  refine lp_G (G := fun z : Int32 × Mm => ∀ (H : Heap) (locs : List Loc) (ls : Array Slot), Rx s E L z.2 H locs → lv_has ls 2 [(0, .ref a0), (1, .int z.1)] → W p l e (rmD (d + 1)) s m args below meth c H locs 0 0 (MQ below (QcM E L none M') args s 0 0 E.2.2.2) (F0 m 30 ls [])) (fun rec ih z h H locs ls hR hl => ?_) fu _ h H locs ls hR hl
  exact wX8_wipe_b30 B hr hlk  (fun x1 M h => ih (x1, M) h) h0 h hR hl
def fX8_wipe (fu : Nat) (a0 : Nat) (M : Mm) : Option Mm :=
  lt (wI M a0 0 256) fun M_4 =>
  lt (wI M_4 a0 1 8) fun M_10 =>
  lt (wI M_10 a0 2 0) fun M_15 =>
  lt (wI M_15 a0 3 0) fun M_20 =>
  lt (wI M_20 a0 4 0) fun M_25 =>
  fX8_wipe_l30 fu a0 0 M_25
set_option maxRecDepth 100000 in
set_option maxHeartbeats 4000000 in
theorem mX8_wipe {l : Launch} {E : Ge} {L : Lay} (fu d : Nat) {a0 : Nat} {M : Mm} {M' : Mm} (h0 : At L a0 T8) (h : fX8_wipe fu a0 M = some M') : Ct l E L yX8_wipe cX8_wipe 2 none (d + 1) [.ref a0] M none M' := by
  refine Ct.of (by decide) ?_
  intro p e s m below meth c hr hlk B hR
  have B : Bx p s m _ c cX8_wipe 2 RX8 E L := B
  have hx := B.1
  have hb := B.2.1
  have hl := lv_entry ([.ref a0]) (n := 2) (Nat.le_of_ble_eq_true rfl)
  rw [lg_entry_eq]
  generalize (lg_sl ([.ref a0]) ++ List.replicate (2 - (lg_sl ([.ref a0])).length) Slot.unset).toArray = ls at hl ⊢
  have hl : lv_has ls 2 [(0, .ref a0)] := hl
  unfold fX8_wipe at h
  refine lv_aload_n hx hb dX8_wipe_0 rfl (lv_at hl 0 rfl) ?_
  refine lv_sipush (v := 256) hx hb dX8_wipe_1 (by decide) ?_
  obtain ⟨M_4, eM_4, h⟩ := lt_el h
  refine pf_X8_39 B hR (h0.at0 rfl) dX8_wipe_4 (fun H locs hR => ?_)
  rw [← eM_4] at hR
  refine lv_aload_n hx hb dX8_wipe_7 rfl (lv_at hl 0 rfl) ?_
  refine lv_bipush (v := 8) hx hb dX8_wipe_8 (by decide) ?_
  obtain ⟨M_10, eM_10, h⟩ := lt_el h
  refine pf_X8_43 B hR (h0.at0 rfl) dX8_wipe_10 (fun H locs hR => ?_)
  rw [← eM_10] at hR
  refine lv_aload_n hx hb dX8_wipe_13 rfl (lv_at hl 0 rfl) ?_
  refine lv_iconst (v := 0) hx hb dX8_wipe_14 (by decide) ?_
  obtain ⟨M_15, eM_15, h⟩ := lt_el h
  refine pf_X8_46 B hR (h0.at0 rfl) dX8_wipe_15 (fun H locs hR => ?_)
  rw [← eM_15] at hR
  refine lv_aload_n hx hb dX8_wipe_18 rfl (lv_at hl 0 rfl) ?_
  refine lv_iconst (v := 0) hx hb dX8_wipe_19 (by decide) ?_
  obtain ⟨M_20, eM_20, h⟩ := lt_el h
  refine pf_X8_49 B hR (h0.at0 rfl) dX8_wipe_20 (fun H locs hR => ?_)
  rw [← eM_20] at hR
  refine lv_aload_n hx hb dX8_wipe_23 rfl (lv_at hl 0 rfl) ?_
  refine lv_iconst (v := 0) hx hb dX8_wipe_24 (by decide) ?_
  obtain ⟨M_25, eM_25, h⟩ := lt_el h
  refine pf_X8_52 B hR (h0.at0 rfl) dX8_wipe_25 (fun H locs hR => ?_)
  rw [← eM_25] at hR
  refine lv_iconst (v := 0) hx hb dX8_wipe_28 (by decide) ?_
  refine lv_istore_n (lv' := [(1, .int 0), (0, .ref a0)]) hx hb dX8_wipe_29 rfl hl (by decide) rfl (fun ls hl => ?_)
  exact wX8_wipe_l30 B hr hlk h0 h hR (lv_sub hl [1, 0] rfl)
def fX8_copyFrom (fu : Nat) (a0 : Nat) (a1 : Nat) (M : Mm) : Option Mm :=
  lt (wI M a0 0 (M.1 a1 0)) fun M_5 =>
  lt (wI M_5 a0 1 (M_5.1 a1 1)) fun M_13 =>
  lt (wI M_13 a0 2 (M_13.1 a1 2)) fun M_21 =>
  lt (wI M_21 a0 3 (M_21.1 a1 3)) fun M_29 =>
  lt (wI M_29 a0 4 (M_29.1 a1 4)) fun M_37 =>
  lt (wIs M_37 (a0 + 1) (va_cpy (M_37.1 (a1 + 1)) (M_37.1 (a0 + 1)) (ix 0) (ix 0) (ix 12))) fun M_52 =>
  lt (wIs M_52 (a0 + 2) (va_cpy (M_52.1 (a1 + 2)) (M_52.1 (a0 + 2)) (ix 0) (ix 0) (ix 12))) fun M_67 =>
  lt (wIs M_67 (a0 + 3) (va_cpy (M_67.1 (a1 + 3)) (M_67.1 (a0 + 3)) (ix 0) (ix 0) (ix 12))) fun M_82 =>
  lt (wIs M_82 (a0 + 4) (va_cpy (M_82.1 (a1 + 4)) (M_82.1 (a0 + 4)) (ix 0) (ix 0) (ix 8))) fun M_97 =>
  lt (wIs M_97 (a0 + 5) (va_cpy (M_97.1 (a1 + 5)) (M_97.1 (a0 + 5)) (ix 0) (ix 0) (ix 10))) fun M_112 =>
  lt (wIs M_112 (a0 + 6) (va_cpy (M_112.1 (a1 + 6)) (M_112.1 (a0 + 6)) (ix 0) (ix 0) (ix 10))) fun M_127 =>
  lt (wIs M_127 (a0 + 7) (va_cpy (M_127.1 (a1 + 7)) (M_127.1 (a0 + 7)) (ix 0) (ix 0) (ix 10))) fun M_142 =>
  lt (wIs M_142 (a0 + 8) (va_cpy (M_142.1 (a1 + 8)) (M_142.1 (a0 + 8)) (ix 0) (ix 0) (ix 64))) fun M_157 =>
  some M_157
set_option maxRecDepth 100000 in
set_option maxHeartbeats 4000000 in
theorem mX8_copyFrom {l : Launch} {E : Ge} {L : Lay} (fu d : Nat) {a0 : Nat} {a1 : Nat} {M : Mm} {M' : Mm} (h0 : At L a0 T8) (h1 : At L a1 T8) (h : fX8_copyFrom fu a0 a1 M = some M') : Ct l E L yX8_copyFrom cX8_copyFrom 2 none (d + 1) [.ref a0, .ref a1] M none M' := by
  refine Ct.of (by decide) ?_
  intro p e s m below meth c hr hlk B hR
  have B : Bx p s m _ c cX8_copyFrom 2 RX8 E L := B
  have hx := B.1
  have hb := B.2.1
  have hl := lv_entry ([.ref a0, .ref a1]) (n := 2) (Nat.le_of_ble_eq_true rfl)
  rw [lg_entry_eq]
  generalize (lg_sl ([.ref a0, .ref a1]) ++ List.replicate (2 - (lg_sl ([.ref a0, .ref a1])).length) Slot.unset).toArray = ls at hl ⊢
  have hl : lv_has ls 2 [(0, .ref a0), (1, .ref a1)] := hl
  unfold fX8_copyFrom at h
  refine lv_aload_n hx hb dX8_copyFrom_0 rfl (lv_at hl 0 rfl) ?_
  refine lv_aload_n hx hb dX8_copyFrom_1 rfl (lv_at hl 1 rfl) ?_
  refine gf_X8_39 B hR (h1.at0 rfl) dX8_copyFrom_2 ?_
  obtain ⟨M_5, eM_5, h⟩ := lt_el h
  refine pf_X8_39 B hR (h0.at0 rfl) dX8_copyFrom_5 (fun H locs hR => ?_)
  rw [← eM_5] at hR
  refine lv_aload_n hx hb dX8_copyFrom_8 rfl (lv_at hl 0 rfl) ?_
  refine lv_aload_n hx hb dX8_copyFrom_9 rfl (lv_at hl 1 rfl) ?_
  refine gf_X8_43 B hR (h1.at0 rfl) dX8_copyFrom_10 ?_
  obtain ⟨M_13, eM_13, h⟩ := lt_el h
  refine pf_X8_43 B hR (h0.at0 rfl) dX8_copyFrom_13 (fun H locs hR => ?_)
  rw [← eM_13] at hR
  refine lv_aload_n hx hb dX8_copyFrom_16 rfl (lv_at hl 0 rfl) ?_
  refine lv_aload_n hx hb dX8_copyFrom_17 rfl (lv_at hl 1 rfl) ?_
  refine gf_X8_46 B hR (h1.at0 rfl) dX8_copyFrom_18 ?_
  obtain ⟨M_21, eM_21, h⟩ := lt_el h
  refine pf_X8_46 B hR (h0.at0 rfl) dX8_copyFrom_21 (fun H locs hR => ?_)
  rw [← eM_21] at hR
  refine lv_aload_n hx hb dX8_copyFrom_24 rfl (lv_at hl 0 rfl) ?_
  refine lv_aload_n hx hb dX8_copyFrom_25 rfl (lv_at hl 1 rfl) ?_
  refine gf_X8_49 B hR (h1.at0 rfl) dX8_copyFrom_26 ?_
  obtain ⟨M_29, eM_29, h⟩ := lt_el h
  refine pf_X8_49 B hR (h0.at0 rfl) dX8_copyFrom_29 (fun H locs hR => ?_)
  rw [← eM_29] at hR
  refine lv_aload_n hx hb dX8_copyFrom_32 rfl (lv_at hl 0 rfl) ?_
  refine lv_aload_n hx hb dX8_copyFrom_33 rfl (lv_at hl 1 rfl) ?_
  refine gf_X8_52 B hR (h1.at0 rfl) dX8_copyFrom_34 ?_
  obtain ⟨M_37, eM_37, h⟩ := lt_el h
  refine pf_X8_52 B hR (h0.at0 rfl) dX8_copyFrom_37 (fun H locs hR => ?_)
  rw [← eM_37] at hR
  refine lv_aload_n hx hb dX8_copyFrom_40 rfl (lv_at hl 1 rfl) ?_
  refine gf_X8_9 B hR (h1.at0 rfl) dX8_copyFrom_41 ?_
  refine lv_iconst (v := 0) hx hb dX8_copyFrom_44 (by decide) ?_
  refine lv_aload_n hx hb dX8_copyFrom_45 rfl (lv_at hl 0 rfl) ?_
  refine gf_X8_9 B hR (h0.at0 rfl) dX8_copyFrom_46 ?_
  refine lv_iconst (v := 0) hx hb dX8_copyFrom_49 (by decide) ?_
  refine lv_bipush (v := 12) hx hb dX8_copyFrom_50 (by decide) ?_
  obtain ⟨M_52, eM_52, h⟩ := lt_el h
  refine cp_X8_59 B hR (h1.at 1 rfl) (h0.at 1 rfl) hl.1 (by decide +kernel) (Nat.le_of_ble_eq_true rfl) dX8_copyFrom_52 (fun H locs hR => ?_)
  rw [← eM_52] at hR
  refine lv_aload_n hx hb dX8_copyFrom_55 rfl (lv_at hl 1 rfl) ?_
  refine gf_X8_15 B hR (h1.at0 rfl) dX8_copyFrom_56 ?_
  refine lv_iconst (v := 0) hx hb dX8_copyFrom_59 (by decide) ?_
  refine lv_aload_n hx hb dX8_copyFrom_60 rfl (lv_at hl 0 rfl) ?_
  refine gf_X8_15 B hR (h0.at0 rfl) dX8_copyFrom_61 ?_
  refine lv_iconst (v := 0) hx hb dX8_copyFrom_64 (by decide) ?_
  refine lv_bipush (v := 12) hx hb dX8_copyFrom_65 (by decide) ?_
  obtain ⟨M_67, eM_67, h⟩ := lt_el h
  refine cp_X8_59 B hR (h1.at 2 rfl) (h0.at 2 rfl) hl.1 (by decide +kernel) (Nat.le_of_ble_eq_true rfl) dX8_copyFrom_67 (fun H locs hR => ?_)
  rw [← eM_67] at hR
  refine lv_aload_n hx hb dX8_copyFrom_70 rfl (lv_at hl 1 rfl) ?_
  refine gf_X8_18 B hR (h1.at0 rfl) dX8_copyFrom_71 ?_
  refine lv_iconst (v := 0) hx hb dX8_copyFrom_74 (by decide) ?_
  refine lv_aload_n hx hb dX8_copyFrom_75 rfl (lv_at hl 0 rfl) ?_
  refine gf_X8_18 B hR (h0.at0 rfl) dX8_copyFrom_76 ?_
  refine lv_iconst (v := 0) hx hb dX8_copyFrom_79 (by decide) ?_
  refine lv_bipush (v := 12) hx hb dX8_copyFrom_80 (by decide) ?_
  obtain ⟨M_82, eM_82, h⟩ := lt_el h
  refine cp_X8_59 B hR (h1.at 3 rfl) (h0.at 3 rfl) hl.1 (by decide +kernel) (Nat.le_of_ble_eq_true rfl) dX8_copyFrom_82 (fun H locs hR => ?_)
  rw [← eM_82] at hR
  refine lv_aload_n hx hb dX8_copyFrom_85 rfl (lv_at hl 1 rfl) ?_
  refine gf_X8_21 B hR (h1.at0 rfl) dX8_copyFrom_86 ?_
  refine lv_iconst (v := 0) hx hb dX8_copyFrom_89 (by decide) ?_
  refine lv_aload_n hx hb dX8_copyFrom_90 rfl (lv_at hl 0 rfl) ?_
  refine gf_X8_21 B hR (h0.at0 rfl) dX8_copyFrom_91 ?_
  refine lv_iconst (v := 0) hx hb dX8_copyFrom_94 (by decide) ?_
  refine lv_bipush (v := 8) hx hb dX8_copyFrom_95 (by decide) ?_
  obtain ⟨M_97, eM_97, h⟩ := lt_el h
  refine cp_X8_59 B hR (h1.at 4 rfl) (h0.at 4 rfl) hl.1 (by decide +kernel) (Nat.le_of_ble_eq_true rfl) dX8_copyFrom_97 (fun H locs hR => ?_)
  rw [← eM_97] at hR
  refine lv_aload_n hx hb dX8_copyFrom_100 rfl (lv_at hl 1 rfl) ?_
  refine gf_X8_24 B hR (h1.at0 rfl) dX8_copyFrom_101 ?_
  refine lv_iconst (v := 0) hx hb dX8_copyFrom_104 (by decide) ?_
  refine lv_aload_n hx hb dX8_copyFrom_105 rfl (lv_at hl 0 rfl) ?_
  refine gf_X8_24 B hR (h0.at0 rfl) dX8_copyFrom_106 ?_
  refine lv_iconst (v := 0) hx hb dX8_copyFrom_109 (by decide) ?_
  refine lv_bipush (v := 10) hx hb dX8_copyFrom_110 (by decide) ?_
  obtain ⟨M_112, eM_112, h⟩ := lt_el h
  refine cp_X8_59 B hR (h1.at 5 rfl) (h0.at 5 rfl) hl.1 (by decide +kernel) (Nat.le_of_ble_eq_true rfl) dX8_copyFrom_112 (fun H locs hR => ?_)
  rw [← eM_112] at hR
  refine lv_aload_n hx hb dX8_copyFrom_115 rfl (lv_at hl 1 rfl) ?_
  refine gf_X8_27 B hR (h1.at0 rfl) dX8_copyFrom_116 ?_
  refine lv_iconst (v := 0) hx hb dX8_copyFrom_119 (by decide) ?_
  refine lv_aload_n hx hb dX8_copyFrom_120 rfl (lv_at hl 0 rfl) ?_
  refine gf_X8_27 B hR (h0.at0 rfl) dX8_copyFrom_121 ?_
  refine lv_iconst (v := 0) hx hb dX8_copyFrom_124 (by decide) ?_
  refine lv_bipush (v := 10) hx hb dX8_copyFrom_125 (by decide) ?_
  obtain ⟨M_127, eM_127, h⟩ := lt_el h
  refine cp_X8_59 B hR (h1.at 6 rfl) (h0.at 6 rfl) hl.1 (by decide +kernel) (Nat.le_of_ble_eq_true rfl) dX8_copyFrom_127 (fun H locs hR => ?_)
  rw [← eM_127] at hR
  refine lv_aload_n hx hb dX8_copyFrom_130 rfl (lv_at hl 1 rfl) ?_
  refine gf_X8_30 B hR (h1.at0 rfl) dX8_copyFrom_131 ?_
  refine lv_iconst (v := 0) hx hb dX8_copyFrom_134 (by decide) ?_
  refine lv_aload_n hx hb dX8_copyFrom_135 rfl (lv_at hl 0 rfl) ?_
  refine gf_X8_30 B hR (h0.at0 rfl) dX8_copyFrom_136 ?_
  refine lv_iconst (v := 0) hx hb dX8_copyFrom_139 (by decide) ?_
  refine lv_bipush (v := 10) hx hb dX8_copyFrom_140 (by decide) ?_
  obtain ⟨M_142, eM_142, h⟩ := lt_el h
  refine cp_X8_59 B hR (h1.at 7 rfl) (h0.at 7 rfl) hl.1 (by decide +kernel) (Nat.le_of_ble_eq_true rfl) dX8_copyFrom_142 (fun H locs hR => ?_)
  rw [← eM_142] at hR
  refine lv_aload_n hx hb dX8_copyFrom_145 rfl (lv_at hl 1 rfl) ?_
  refine gf_X8_33 B hR (h1.at0 rfl) dX8_copyFrom_146 ?_
  refine lv_iconst (v := 0) hx hb dX8_copyFrom_149 (by decide) ?_
  refine lv_aload_n hx hb dX8_copyFrom_150 rfl (lv_at hl 0 rfl) ?_
  refine gf_X8_33 B hR (h0.at0 rfl) dX8_copyFrom_151 ?_
  refine lv_iconst (v := 0) hx hb dX8_copyFrom_154 (by decide) ?_
  refine lv_bipush (v := 64) hx hb dX8_copyFrom_155 (by decide) ?_
  obtain ⟨M_157, eM_157, h⟩ := lt_el h
  refine cp_X8_59 B hR (h1.at 8 rfl) (h0.at 8 rfl) hl.1 (by decide +kernel) (Nat.le_of_ble_eq_true rfl) dX8_copyFrom_157 (fun H locs hR => ?_)
  rw [← eM_157] at hR
  exact r_vretW B hR hr hlk h dX8_copyFrom_160
def fX8_pages (fu : Nat) (a0 : Nat) (M : Mm) : Option Int32 :=
  some ((M.1 a0 0) / 16)
set_option maxRecDepth 100000 in
set_option maxHeartbeats 4000000 in
theorem mX8_pages {l : Launch} {E : Ge} {L : Lay} (fu d : Nat) {a0 : Nat} {M : Mm} {r : Int32} (h0 : At L a0 T8) (h : fX8_pages fu a0 M = some r) : Ct l E L yX8_pages cX8_pages 1 (some .int) (d + 0) [.ref a0] M (some (.int r)) M := by
  refine Ct.of (by decide) ?_
  intro p e s m below meth c hr hlk B hR
  have B : Bx p s m _ c cX8_pages 1 RX8 E L := B
  have hx := B.1
  have hb := B.2.1
  have hl := lv_entry ([.ref a0]) (n := 1) (Nat.le_of_ble_eq_true rfl)
  rw [lg_entry_eq]
  generalize (lg_sl ([.ref a0]) ++ List.replicate (1 - (lg_sl ([.ref a0])).length) Slot.unset).toArray = ls at hl ⊢
  have hl : lv_has ls 1 [(0, .ref a0)] := hl
  unfold fX8_pages at h
  refine lv_aload_n hx hb dX8_pages_0 rfl (lv_at hl 0 rfl) ?_
  refine gf_X8_39 B hR (h0.at0 rfl) dX8_pages_1 ?_
  refine lv_bipush (v := 16) hx hb dX8_pages_4 (by decide) ?_
  refine lv_idiv hx hb dX8_pages_6 (by decide) ?_
  exact r_iretP B hR hr hlk h dX8_pages_7
def fX8_hasAddress_j17 (fu : Nat) (t0 : Int32) (M : Mm) : Option Int32 :=
  gd (t0 = 0 ∨ t0 = 1) <|
  some t0
set_option maxRecDepth 100000 in
set_option maxHeartbeats 4000000 in
theorem wX8_hasAddress_j17 {r : Int32}   {t0 : Int32} {M : Mm} (B : Bx p s m args c cX8_hasAddress 2 RX8 E L) (hr : meth.sig.returnType = (some .boolean)) (hlk : meth.locks = false)   (h : fX8_hasAddress_j17 fu t0 M = some r) (hR : Rx s E L M H locs) (hl : lv_has ls 2 []) : W p l e (rmD (d + 0)) s m args below meth c H locs 0 0 (MQ below (QcM E L (some (.int r)) M) args s 0 0 E.2.2.2) (F0 m 17 ls [.int t0]) := by
  have hx := B.1
  have hb := B.2.1
  unfold fX8_hasAddress_j17 at h
  obtain ⟨hz_17, h⟩ := gd_el h
  exact r_zretP B hR hr hlk hz_17 h dX8_hasAddress_17
def fX8_hasAddress_j16 (fu : Nat) (M : Mm) : Option Int32 :=
  fX8_hasAddress_j17 fu 0 M
set_option maxRecDepth 100000 in
set_option maxHeartbeats 4000000 in
theorem wX8_hasAddress_j16 {r : Int32}    {M : Mm} (B : Bx p s m args c cX8_hasAddress 2 RX8 E L) (hr : meth.sig.returnType = (some .boolean)) (hlk : meth.locks = false)   (h : fX8_hasAddress_j16 fu M = some r) (hR : Rx s E L M H locs) (hl : lv_has ls 2 []) : W p l e (rmD (d + 0)) s m args below meth c H locs 0 0 (MQ below (QcM E L (some (.int r)) M) args s 0 0 E.2.2.2) (F0 m 16 ls []) := by
  have hx := B.1
  have hb := B.2.1
  unfold fX8_hasAddress_j16 at h
  refine lv_iconst (v := 0) hx hb dX8_hasAddress_16 (by decide) ?_
  exact wX8_hasAddress_j17 B hr hlk  h hR hl
def fX8_hasAddress (fu : Nat) (a0 : Nat) (x1 : Int32) (M : Mm) : Option Int32 :=
  if x1 < 0 then
    fX8_hasAddress_j16 fu M
  else
    if (M.1 a0 0) ≤ x1 then
      fX8_hasAddress_j16 fu M
    else
      fX8_hasAddress_j17 fu 1 M
set_option maxRecDepth 100000 in
set_option maxHeartbeats 4000000 in
theorem mX8_hasAddress {l : Launch} {E : Ge} {L : Lay} (fu d : Nat) {a0 : Nat} {x1 : Int32} {M : Mm} {r : Int32} (h0 : At L a0 T8) (h : fX8_hasAddress fu a0 x1 M = some r) : Ct l E L yX8_hasAddress cX8_hasAddress 2 (some .boolean) (d + 0) [.ref a0, .int x1] M (some (.int r)) M := by
  refine Ct.of (by decide) ?_
  intro p e s m below meth c hr hlk B hR
  have B : Bx p s m _ c cX8_hasAddress 2 RX8 E L := B
  have hx := B.1
  have hb := B.2.1
  have hl := lv_entry ([.ref a0, .int x1]) (n := 2) (Nat.le_of_ble_eq_true rfl)
  rw [lg_entry_eq]
  generalize (lg_sl ([.ref a0, .int x1]) ++ List.replicate (2 - (lg_sl ([.ref a0, .int x1])).length) Slot.unset).toArray = ls at hl ⊢
  have hl : lv_has ls 2 [(0, .ref a0), (1, .int x1)] := hl
  unfold fX8_hasAddress at h
  refine lv_iload_n hx hb dX8_hasAddress_0 rfl (lv_at hl 1 rfl) ?_
  refine lv_if_lt (tgt := 16) hx hb dX8_hasAddress_1 (by decide) (fun c_1 => ?_) (fun c_1 => ?_)
  · rw [if_pos c_1] at h
    exact wX8_hasAddress_j16 B hr hlk  h hR (lv_sub hl [] rfl)
  · rw [if_neg c_1] at h
    refine lv_iload_n hx hb dX8_hasAddress_4 rfl (lv_at hl 1 rfl) ?_
    refine lv_aload_n hx hb dX8_hasAddress_5 rfl (lv_at hl 0 rfl) ?_
    refine gf_X8_39 B hR (h0.at0 rfl) dX8_hasAddress_6 ?_
    refine lv_icmp_ge (tgt := 16) hx hb dX8_hasAddress_9 (by decide) (fun c_9 => ?_) (fun c_9 => ?_)
    · rw [if_pos c_9] at h
      exact wX8_hasAddress_j16 B hr hlk  h hR (lv_sub hl [] rfl)
    · rw [if_neg c_9] at h
      refine lv_iconst (v := 1) hx hb dX8_hasAddress_12 (by decide) ?_
      refine lv_goto (tgt := 17) hx hb dX8_hasAddress_13 (by decide) ?_
      exact wX8_hasAddress_j17 B hr hlk  h hR (lv_sub hl [] rfl)
def fX8_hasPart_j22 (fu : Nat) (t0 : Int32) (M : Mm) : Option Int32 :=
  gd (t0 = 0 ∨ t0 = 1) <|
  some t0
set_option maxRecDepth 100000 in
set_option maxHeartbeats 4000000 in
theorem wX8_hasPart_j22 {r : Int32}   {t0 : Int32} {M : Mm} (B : Bx p s m args c cX8_hasPart 2 RX8 E L) (hr : meth.sig.returnType = (some .boolean)) (hlk : meth.locks = false)   (h : fX8_hasPart_j22 fu t0 M = some r) (hR : Rx s E L M H locs) (hl : lv_has ls 2 []) : W p l e (rmD (d + 0)) s m args below meth c H locs 0 0 (MQ below (QcM E L (some (.int r)) M) args s 0 0 E.2.2.2) (F0 m 22 ls [.int t0]) := by
  have hx := B.1
  have hb := B.2.1
  unfold fX8_hasPart_j22 at h
  obtain ⟨hz_22, h⟩ := gd_el h
  exact r_zretP B hR hr hlk hz_22 h dX8_hasPart_22
def fX8_hasPart_j21 (fu : Nat) (M : Mm) : Option Int32 :=
  fX8_hasPart_j22 fu 0 M
set_option maxRecDepth 100000 in
set_option maxHeartbeats 4000000 in
theorem wX8_hasPart_j21 {r : Int32}    {M : Mm} (B : Bx p s m args c cX8_hasPart 2 RX8 E L) (hr : meth.sig.returnType = (some .boolean)) (hlk : meth.locks = false)   (h : fX8_hasPart_j21 fu M = some r) (hR : Rx s E L M H locs) (hl : lv_has ls 2 []) : W p l e (rmD (d + 0)) s m args below meth c H locs 0 0 (MQ below (QcM E L (some (.int r)) M) args s 0 0 E.2.2.2) (F0 m 21 ls []) := by
  have hx := B.1
  have hb := B.2.1
  unfold fX8_hasPart_j21 at h
  refine lv_iconst (v := 0) hx hb dX8_hasPart_21 (by decide) ?_
  exact wX8_hasPart_j22 B hr hlk  h hR hl
def fX8_hasPart (fu : Nat) (a0 : Nat) (x1 : Int32) (M : Mm) : Option Int32 :=
  if (M.1 a0 4) ≤ 0 then
    fX8_hasPart_j21 fu M
  else
    if x1 < 0 then
      fX8_hasPart_j21 fu M
    else
      if 8 ≤ x1 then
        fX8_hasPart_j21 fu M
      else
        fX8_hasPart_j22 fu 1 M
set_option maxRecDepth 100000 in
set_option maxHeartbeats 4000000 in
theorem mX8_hasPart {l : Launch} {E : Ge} {L : Lay} (fu d : Nat) {a0 : Nat} {x1 : Int32} {M : Mm} {r : Int32} (h0 : At L a0 T8) (h : fX8_hasPart fu a0 x1 M = some r) : Ct l E L yX8_hasPart cX8_hasPart 2 (some .boolean) (d + 0) [.ref a0, .int x1] M (some (.int r)) M := by
  refine Ct.of (by decide) ?_
  intro p e s m below meth c hr hlk B hR
  have B : Bx p s m _ c cX8_hasPart 2 RX8 E L := B
  have hx := B.1
  have hb := B.2.1
  have hl := lv_entry ([.ref a0, .int x1]) (n := 2) (Nat.le_of_ble_eq_true rfl)
  rw [lg_entry_eq]
  generalize (lg_sl ([.ref a0, .int x1]) ++ List.replicate (2 - (lg_sl ([.ref a0, .int x1])).length) Slot.unset).toArray = ls at hl ⊢
  have hl : lv_has ls 2 [(0, .ref a0), (1, .int x1)] := hl
  unfold fX8_hasPart at h
  refine lv_aload_n hx hb dX8_hasPart_0 rfl (lv_at hl 0 rfl) ?_
  refine gf_X8_52 B hR (h0.at0 rfl) dX8_hasPart_1 ?_
  refine lv_if_le (tgt := 21) hx hb dX8_hasPart_4 (by decide) (fun c_4 => ?_) (fun c_4 => ?_)
  · rw [if_pos c_4] at h
    exact wX8_hasPart_j21 B hr hlk  h hR (lv_sub hl [] rfl)
  · rw [if_neg c_4] at h
    refine lv_iload_n hx hb dX8_hasPart_7 rfl (lv_at hl 1 rfl) ?_
    refine lv_if_lt (tgt := 21) hx hb dX8_hasPart_8 (by decide) (fun c_8 => ?_) (fun c_8 => ?_)
    · rw [if_pos c_8] at h
      exact wX8_hasPart_j21 B hr hlk  h hR (lv_sub hl [] rfl)
    · rw [if_neg c_8] at h
      refine lv_iload_n hx hb dX8_hasPart_11 rfl (lv_at hl 1 rfl) ?_
      refine lv_bipush (v := 8) hx hb dX8_hasPart_12 (by decide) ?_
      refine lv_icmp_ge (tgt := 21) hx hb dX8_hasPart_14 (by decide) (fun c_14 => ?_) (fun c_14 => ?_)
      · rw [if_pos c_14] at h
        exact wX8_hasPart_j21 B hr hlk  h hR (lv_sub hl [] rfl)
      · rw [if_neg c_14] at h
        refine lv_iconst (v := 1) hx hb dX8_hasPart_17 (by decide) ?_
        refine lv_goto (tgt := 22) hx hb dX8_hasPart_18 (by decide) ?_
        exact wX8_hasPart_j22 B hr hlk  h hR (lv_sub hl [] rfl)
def fX8_hasPage_j17 (fu : Nat) (t0 : Int32) (M : Mm) : Option Int32 :=
  gd (t0 = 0 ∨ t0 = 1) <|
  some t0
set_option maxRecDepth 100000 in
set_option maxHeartbeats 4000000 in
theorem wX8_hasPage_j17 {r : Int32}   {t0 : Int32} {M : Mm} (B : Bx p s m args c cX8_hasPage 2 RX8 E L) (hr : meth.sig.returnType = (some .boolean)) (hlk : meth.locks = false)   (h : fX8_hasPage_j17 fu t0 M = some r) (hR : Rx s E L M H locs) (hl : lv_has ls 2 []) : W p l e (rmD (d + 1)) s m args below meth c H locs 0 0 (MQ below (QcM E L (some (.int r)) M) args s 0 0 E.2.2.2) (F0 m 17 ls [.int t0]) := by
  have hx := B.1
  have hb := B.2.1
  unfold fX8_hasPage_j17 at h
  obtain ⟨hz_17, h⟩ := gd_el h
  exact r_zretP B hR hr hlk hz_17 h dX8_hasPage_17
def fX8_hasPage_j16 (fu : Nat) (M : Mm) : Option Int32 :=
  fX8_hasPage_j17 fu 0 M
set_option maxRecDepth 100000 in
set_option maxHeartbeats 4000000 in
theorem wX8_hasPage_j16 {r : Int32}    {M : Mm} (B : Bx p s m args c cX8_hasPage 2 RX8 E L) (hr : meth.sig.returnType = (some .boolean)) (hlk : meth.locks = false)   (h : fX8_hasPage_j16 fu M = some r) (hR : Rx s E L M H locs) (hl : lv_has ls 2 []) : W p l e (rmD (d + 1)) s m args below meth c H locs 0 0 (MQ below (QcM E L (some (.int r)) M) args s 0 0 E.2.2.2) (F0 m 16 ls []) := by
  have hx := B.1
  have hb := B.2.1
  unfold fX8_hasPage_j16 at h
  refine lv_iconst (v := 0) hx hb dX8_hasPage_16 (by decide) ?_
  exact wX8_hasPage_j17 B hr hlk  h hR hl
def fX8_hasPage (fu : Nat) (a0 : Nat) (x1 : Int32) (M : Mm) : Option Int32 :=
  if x1 < 0 then
    fX8_hasPage_j16 fu M
  else
    bi (fX8_pages fu a0 M) fun r_6 =>
    if r_6 ≤ x1 then
      fX8_hasPage_j16 fu M
    else
      fX8_hasPage_j17 fu 1 M
set_option maxRecDepth 100000 in
set_option maxHeartbeats 4000000 in
theorem mX8_hasPage {l : Launch} {E : Ge} {L : Lay} (fu d : Nat) {a0 : Nat} {x1 : Int32} {M : Mm} {r : Int32} (h0 : At L a0 T8) (h : fX8_hasPage fu a0 x1 M = some r) : Ct l E L yX8_hasPage cX8_hasPage 2 (some .boolean) (d + 1) [.ref a0, .int x1] M (some (.int r)) M := by
  refine Ct.of (by decide) ?_
  intro p e s m below meth c hr hlk B hR
  have B : Bx p s m _ c cX8_hasPage 2 RX8 E L := B
  have hx := B.1
  have hb := B.2.1
  have hl := lv_entry ([.ref a0, .int x1]) (n := 2) (Nat.le_of_ble_eq_true rfl)
  rw [lg_entry_eq]
  generalize (lg_sl ([.ref a0, .int x1]) ++ List.replicate (2 - (lg_sl ([.ref a0, .int x1])).length) Slot.unset).toArray = ls at hl ⊢
  have hl : lv_has ls 2 [(0, .ref a0), (1, .int x1)] := hl
  unfold fX8_hasPage at h
  refine lv_iload_n hx hb dX8_hasPage_0 rfl (lv_at hl 1 rfl) ?_
  refine lv_if_lt (tgt := 16) hx hb dX8_hasPage_1 (by decide) (fun c_1 => ?_) (fun c_1 => ?_)
  · rw [if_pos c_1] at h
    exact wX8_hasPage_j16 B hr hlk  h hR (lv_sub hl [] rfl)
  · rw [if_neg c_1] at h
    refine lv_iload_n hx hb dX8_hasPage_4 rfl (lv_at hl 1 rfl) ?_
    refine lv_aload_n hx hb dX8_hasPage_5 rfl (lv_at hl 0 rfl) ?_
    obtain ⟨r_6, hc_6, h⟩ := bi_el h
    refine iv_X8_65 B hR (h0.at0 rfl) hl.1 (mX8_pages fu _ h0 hc_6) (Nat.le_of_ble_eq_true rfl) dX8_hasPage_6 (fun H locs hR => ?_)
    refine lv_icmp_ge (tgt := 16) hx hb dX8_hasPage_9 (by decide) (fun c_9 => ?_) (fun c_9 => ?_)
    · rw [if_pos c_9] at h
      exact wX8_hasPage_j16 B hr hlk  h hR (lv_sub hl [] rfl)
    · rw [if_neg c_9] at h
      refine lv_iconst (v := 1) hx hb dX8_hasPage_12 (by decide) ?_
      refine lv_goto (tgt := 17) hx hb dX8_hasPage_13 (by decide) ?_
      exact wX8_hasPage_j17 B hr hlk  h hR (lv_sub hl [] rfl)
def fX8_hasRegister_j17 (fu : Nat) (t0 : Int32) (M : Mm) : Option Int32 :=
  gd (t0 = 0 ∨ t0 = 1) <|
  some t0
set_option maxRecDepth 100000 in
set_option maxHeartbeats 4000000 in
theorem wX8_hasRegister_j17 {r : Int32}   {t0 : Int32} {M : Mm} (B : Bx p s m args c cX8_hasRegister 2 RX8 E L) (hr : meth.sig.returnType = (some .boolean)) (hlk : meth.locks = false)   (h : fX8_hasRegister_j17 fu t0 M = some r) (hR : Rx s E L M H locs) (hl : lv_has ls 2 []) : W p l e (rmD (d + 0)) s m args below meth c H locs 0 0 (MQ below (QcM E L (some (.int r)) M) args s 0 0 E.2.2.2) (F0 m 17 ls [.int t0]) := by
  have hx := B.1
  have hb := B.2.1
  unfold fX8_hasRegister_j17 at h
  obtain ⟨hz_17, h⟩ := gd_el h
  exact r_zretP B hR hr hlk hz_17 h dX8_hasRegister_17
def fX8_hasRegister_j16 (fu : Nat) (M : Mm) : Option Int32 :=
  fX8_hasRegister_j17 fu 0 M
set_option maxRecDepth 100000 in
set_option maxHeartbeats 4000000 in
theorem wX8_hasRegister_j16 {r : Int32}    {M : Mm} (B : Bx p s m args c cX8_hasRegister 2 RX8 E L) (hr : meth.sig.returnType = (some .boolean)) (hlk : meth.locks = false)   (h : fX8_hasRegister_j16 fu M = some r) (hR : Rx s E L M H locs) (hl : lv_has ls 2 []) : W p l e (rmD (d + 0)) s m args below meth c H locs 0 0 (MQ below (QcM E L (some (.int r)) M) args s 0 0 E.2.2.2) (F0 m 16 ls []) := by
  have hx := B.1
  have hb := B.2.1
  unfold fX8_hasRegister_j16 at h
  refine lv_iconst (v := 0) hx hb dX8_hasRegister_16 (by decide) ?_
  exact wX8_hasRegister_j17 B hr hlk  h hR hl
def fX8_hasRegister (fu : Nat) (a0 : Nat) (x1 : Int32) (M : Mm) : Option Int32 :=
  if x1 < 0 then
    fX8_hasRegister_j16 fu M
  else
    if (M.1 a0 1) ≤ x1 then
      fX8_hasRegister_j16 fu M
    else
      fX8_hasRegister_j17 fu 1 M
set_option maxRecDepth 100000 in
set_option maxHeartbeats 4000000 in
theorem mX8_hasRegister {l : Launch} {E : Ge} {L : Lay} (fu d : Nat) {a0 : Nat} {x1 : Int32} {M : Mm} {r : Int32} (h0 : At L a0 T8) (h : fX8_hasRegister fu a0 x1 M = some r) : Ct l E L yX8_hasRegister cX8_hasRegister 2 (some .boolean) (d + 0) [.ref a0, .int x1] M (some (.int r)) M := by
  refine Ct.of (by decide) ?_
  intro p e s m below meth c hr hlk B hR
  have B : Bx p s m _ c cX8_hasRegister 2 RX8 E L := B
  have hx := B.1
  have hb := B.2.1
  have hl := lv_entry ([.ref a0, .int x1]) (n := 2) (Nat.le_of_ble_eq_true rfl)
  rw [lg_entry_eq]
  generalize (lg_sl ([.ref a0, .int x1]) ++ List.replicate (2 - (lg_sl ([.ref a0, .int x1])).length) Slot.unset).toArray = ls at hl ⊢
  have hl : lv_has ls 2 [(0, .ref a0), (1, .int x1)] := hl
  unfold fX8_hasRegister at h
  refine lv_iload_n hx hb dX8_hasRegister_0 rfl (lv_at hl 1 rfl) ?_
  refine lv_if_lt (tgt := 16) hx hb dX8_hasRegister_1 (by decide) (fun c_1 => ?_) (fun c_1 => ?_)
  · rw [if_pos c_1] at h
    exact wX8_hasRegister_j16 B hr hlk  h hR (lv_sub hl [] rfl)
  · rw [if_neg c_1] at h
    refine lv_iload_n hx hb dX8_hasRegister_4 rfl (lv_at hl 1 rfl) ?_
    refine lv_aload_n hx hb dX8_hasRegister_5 rfl (lv_at hl 0 rfl) ?_
    refine gf_X8_43 B hR (h0.at0 rfl) dX8_hasRegister_6 ?_
    refine lv_icmp_ge (tgt := 16) hx hb dX8_hasRegister_9 (by decide) (fun c_9 => ?_) (fun c_9 => ?_)
    · rw [if_pos c_9] at h
      exact wX8_hasRegister_j16 B hr hlk  h hR (lv_sub hl [] rfl)
    · rw [if_neg c_9] at h
      refine lv_iconst (v := 1) hx hb dX8_hasRegister_12 (by decide) ?_
      refine lv_goto (tgt := 17) hx hb dX8_hasRegister_13 (by decide) ?_
      exact wX8_hasRegister_j17 B hr hlk  h hR (lv_sub hl [] rfl)
def fX8_isSet_j22 (fu : Nat) (t0 : Int32) (M : Mm) : Option Int32 :=
  gd (t0 = 0 ∨ t0 = 1) <|
  some t0
set_option maxRecDepth 100000 in
set_option maxHeartbeats 4000000 in
theorem wX8_isSet_j22 {r : Int32}   {t0 : Int32} {M : Mm} (B : Bx p s m args c cX8_isSet 2 RX8 E L) (hr : meth.sig.returnType = (some .boolean)) (hlk : meth.locks = false)   (h : fX8_isSet_j22 fu t0 M = some r) (hR : Rx s E L M H locs) (hl : lv_has ls 2 []) : W p l e (rmD (d + 1)) s m args below meth c H locs 0 0 (MQ below (QcM E L (some (.int r)) M) args s 0 0 E.2.2.2) (F0 m 22 ls [.int t0]) := by
  have hx := B.1
  have hb := B.2.1
  unfold fX8_isSet_j22 at h
  obtain ⟨hz_22, h⟩ := gd_el h
  exact r_zretP B hR hr hlk hz_22 h dX8_isSet_22
def fX8_isSet_j21 (fu : Nat) (M : Mm) : Option Int32 :=
  fX8_isSet_j22 fu 0 M
set_option maxRecDepth 100000 in
set_option maxHeartbeats 4000000 in
theorem wX8_isSet_j21 {r : Int32}    {M : Mm} (B : Bx p s m args c cX8_isSet 2 RX8 E L) (hr : meth.sig.returnType = (some .boolean)) (hlk : meth.locks = false)   (h : fX8_isSet_j21 fu M = some r) (hR : Rx s E L M H locs) (hl : lv_has ls 2 []) : W p l e (rmD (d + 1)) s m args below meth c H locs 0 0 (MQ below (QcM E L (some (.int r)) M) args s 0 0 E.2.2.2) (F0 m 21 ls []) := by
  have hx := B.1
  have hb := B.2.1
  unfold fX8_isSet_j21 at h
  refine lv_iconst (v := 0) hx hb dX8_isSet_21 (by decide) ?_
  exact wX8_isSet_j22 B hr hlk  h hR hl
def fX8_isSet (fu : Nat) (a0 : Nat) (x1 : Int32) (M : Mm) : Option Int32 :=
  bi (fX8_hasRegister fu a0 x1 M) fun r_2 =>
  if r_2 = 0 then
    fX8_isSet_j21 fu M
  else
    if x1 < 0 ∨ 10 ≤ ix x1 then none else
    if (M.1 (a0 + 6) (ix x1)) ≤ 0 then
      fX8_isSet_j21 fu M
    else
      fX8_isSet_j22 fu 1 M
set_option maxRecDepth 100000 in
set_option maxHeartbeats 4000000 in
theorem mX8_isSet {l : Launch} {E : Ge} {L : Lay} (fu d : Nat) {a0 : Nat} {x1 : Int32} {M : Mm} {r : Int32} (h0 : At L a0 T8) (h : fX8_isSet fu a0 x1 M = some r) : Ct l E L yX8_isSet cX8_isSet 2 (some .boolean) (d + 1) [.ref a0, .int x1] M (some (.int r)) M := by
  refine Ct.of (by decide) ?_
  intro p e s m below meth c hr hlk B hR
  have B : Bx p s m _ c cX8_isSet 2 RX8 E L := B
  have hx := B.1
  have hb := B.2.1
  have hl := lv_entry ([.ref a0, .int x1]) (n := 2) (Nat.le_of_ble_eq_true rfl)
  rw [lg_entry_eq]
  generalize (lg_sl ([.ref a0, .int x1]) ++ List.replicate (2 - (lg_sl ([.ref a0, .int x1])).length) Slot.unset).toArray = ls at hl ⊢
  have hl : lv_has ls 2 [(0, .ref a0), (1, .int x1)] := hl
  unfold fX8_isSet at h
  refine lv_aload_n hx hb dX8_isSet_0 rfl (lv_at hl 0 rfl) ?_
  refine lv_iload_n hx hb dX8_isSet_1 rfl (lv_at hl 1 rfl) ?_
  obtain ⟨r_2, hc_2, h⟩ := bi_el h
  refine iv_X8_69 B hR (h0.at0 rfl) hl.1 (mX8_hasRegister fu _ h0 hc_2) (Nat.le_of_ble_eq_true rfl) dX8_isSet_2 (fun H locs hR => ?_)
  refine lv_if_eq (tgt := 21) hx hb dX8_isSet_5 (by decide) (fun c_5 => ?_) (fun c_5 => ?_)
  · rw [if_pos c_5] at h
    exact wX8_isSet_j21 B hr hlk  h hR (lv_sub hl [] rfl)
  · rw [if_neg c_5] at h
    refine lv_aload_n hx hb dX8_isSet_8 rfl (lv_at hl 0 rfl) ?_
    refine gf_X8_27 B hR (h0.at0 rfl) dX8_isSet_9 ?_
    refine lv_iload_n hx hb dX8_isSet_12 rfl (lv_at hl 1 rfl) ?_
    obtain ⟨hi_13, h⟩ := ifn_el h
    refine r_iald B hR (h0.at 6 rfl) hi_13 dX8_isSet_13 ?_
    refine lv_if_le (tgt := 21) hx hb dX8_isSet_14 (by decide) (fun c_14 => ?_) (fun c_14 => ?_)
    · rw [if_pos c_14] at h
      exact wX8_isSet_j21 B hr hlk  h hR (lv_sub hl [] rfl)
    · rw [if_neg c_14] at h
      refine lv_iconst (v := 1) hx hb dX8_isSet_17 (by decide) ?_
      refine lv_goto (tgt := 22) hx hb dX8_isSet_18 (by decide) ?_
      exact wX8_isSet_j22 B hr hlk  h hR (lv_sub hl [] rfl)
def fX8_countSet_j35 (fu : Nat) (x1 : Int32) (M : Mm) : Option Int32 :=
  some x1
set_option maxRecDepth 100000 in
set_option maxHeartbeats 4000000 in
theorem wX8_countSet_j35 {r : Int32}   {x1 : Int32} {M : Mm} (B : Bx p s m args c cX8_countSet 3 RX8 E L) (hr : meth.sig.returnType = (some .int)) (hlk : meth.locks = false)   (h : fX8_countSet_j35 fu x1 M = some r) (hR : Rx s E L M H locs) (hl : lv_has ls 3 [(1, .int x1)]) : W p l e (rmD (d + 0)) s m args below meth c H locs 0 0 (MQ below (QcM E L (some (.int r)) M) args s 0 0 E.2.2.2) (F0 m 35 ls []) := by
  have hx := B.1
  have hb := B.2.1
  unfold fX8_countSet_j35 at h
  refine lv_iload_n hx hb dX8_countSet_35 rfl (lv_at hl 0 rfl) ?_
  exact r_iretP B hR hr hlk h dX8_countSet_36
def fX8_countSet_j27 (fu : Nat) (k4 : Int32 → Int32 → Option Int32) (a0 : Nat) (x2 : Int32) (t0 : Int32) (t1 : Int32) (M : Mm) : Option Int32 :=
  lt ((t0 + t1)) fun x1_28 =>
  lt (x2 + 1) fun x2_29 =>
  k4 x1_28 x2_29
set_option maxRecDepth 100000 in
set_option maxHeartbeats 4000000 in
theorem wX8_countSet_j27 {r : Int32}  {k4 : Int32 → Int32 → Option Int32} {a0 : Nat} {x2 : Int32} {t0 : Int32} {t1 : Int32} {M : Mm} (B : Bx p s m args c cX8_countSet 3 RX8 E L) (hr : meth.sig.returnType = (some .int)) (hlk : meth.locks = false) (ih4 : ∀ (x1 : Int32) (x2 : Int32), k4 x1 x2 = some r → ∀ (H : Heap) (locs : List Loc) (ls : Array Slot), Rx s E L M H locs → lv_has ls 3 [(0, .ref a0), (1, .int x1), (2, .int x2)] → W p l e (rmD (d + 0)) s m args below meth c H locs 0 0 (MQ below (QcM E L (some (.int r)) M) args s 0 0 E.2.2.2) (F0 m 4 ls [])) (h0 : At L a0 T8) (h : fX8_countSet_j27 fu k4 a0 x2 t0 t1 M = some r) (hR : Rx s E L M H locs) (hl : lv_has ls 3 [(0, .ref a0), (2, .int x2)]) : W p l e (rmD (d + 0)) s m args below meth c H locs 0 0 (MQ below (QcM E L (some (.int r)) M) args s 0 0 E.2.2.2) (F0 m 27 ls [.int t1, .int t0]) := by
  have hx := B.1
  have hb := B.2.1
  unfold fX8_countSet_j27 at h
  refine lv_iadd hx hb dX8_countSet_27 ?_
  obtain ⟨x1_28, ex1_28, h⟩ := lt_el h
  refine r_nmI ex1_28 ?_
  refine lv_istore_n (lv' := [(1, .int x1_28), (0, .ref a0), (2, .int x2)]) hx hb dX8_countSet_28 rfl hl (by decide) rfl (fun ls hl => ?_)
  obtain ⟨x2_29, ex2_29, h⟩ := lt_el h
  refine lv_iinc (v := x2_29) (lv' := [(2, .int x2_29), (1, .int x1_28), (0, .ref a0)]) hx hb dX8_countSet_29 hl (k := 2) rfl (by rw [ex2_29]; rfl) (by decide) rfl (fun ls hl => ?_)
  refine lv_goto (tgt := 4) hx hb dX8_countSet_32 (by decide) ?_
  exact ih4 x1_28 x2_29 h _ _ _ hR (lv_sub hl [2, 1, 0] rfl)
def fX8_countSet_b4 (fu : Nat) (k4 : Int32 → Int32 → Option Int32) (a0 : Nat) (x1 : Int32) (x2 : Int32) (M : Mm) : Option Int32 :=
  if (M.1 a0 1) ≤ x2 then
    fX8_countSet_j35 fu x1 M
  else
    if x2 < 0 ∨ 10 ≤ ix x2 then none else
    if (M.1 (a0 + 6) (ix x2)) ≤ 0 then
      fX8_countSet_j27 fu k4 a0 x2 x1 0 M
    else
      fX8_countSet_j27 fu k4 a0 x2 x1 1 M
set_option maxRecDepth 100000 in
set_option maxHeartbeats 4000000 in
theorem wX8_countSet_b4 {r : Int32}   {k4 : Int32 → Int32 → Option Int32} {a0 : Nat} {x1 : Int32} {x2 : Int32} {M : Mm} (B : Bx p s m args c cX8_countSet 3 RX8 E L) (hr : meth.sig.returnType = (some .int)) (hlk : meth.locks = false)  (ih4 : ∀ (x1 : Int32) (x2 : Int32), k4 x1 x2 = some r → ∀ (H : Heap) (locs : List Loc) (ls : Array Slot), Rx s E L M H locs → lv_has ls 3 [(0, .ref a0), (1, .int x1), (2, .int x2)] → W p l e (rmD (d + 0)) s m args below meth c H locs 0 0 (MQ below (QcM E L (some (.int r)) M) args s 0 0 E.2.2.2) (F0 m 4 ls [])) (h0 : At L a0 T8) (h : fX8_countSet_b4 fu k4 a0 x1 x2 M = some r) (hR : Rx s E L M H locs) (hl : lv_has ls 3 [(0, .ref a0), (1, .int x1), (2, .int x2)]) : W p l e (rmD (d + 0)) s m args below meth c H locs 0 0 (MQ below (QcM E L (some (.int r)) M) args s 0 0 E.2.2.2) (F0 m 4 ls []) := by
  have hx := B.1
  have hb := B.2.1
  unfold fX8_countSet_b4 at h
  refine lv_iload_n hx hb dX8_countSet_4 rfl (lv_at hl 2 rfl) ?_
  refine lv_aload_n hx hb dX8_countSet_5 rfl (lv_at hl 0 rfl) ?_
  refine gf_X8_43 B hR (h0.at0 rfl) dX8_countSet_6 ?_
  refine lv_icmp_ge (tgt := 35) hx hb dX8_countSet_9 (by decide) (fun c_9 => ?_) (fun c_9 => ?_)
  · rw [if_pos c_9] at h
    exact wX8_countSet_j35 B hr hlk  h hR (lv_sub hl [1] rfl)
  · rw [if_neg c_9] at h
    refine lv_iload_n hx hb dX8_countSet_12 rfl (lv_at hl 1 rfl) ?_
    refine lv_aload_n hx hb dX8_countSet_13 rfl (lv_at hl 0 rfl) ?_
    refine gf_X8_27 B hR (h0.at0 rfl) dX8_countSet_14 ?_
    refine lv_iload_n hx hb dX8_countSet_17 rfl (lv_at hl 2 rfl) ?_
    obtain ⟨hi_18, h⟩ := ifn_el h
    refine r_iald B hR (h0.at 6 rfl) hi_18 dX8_countSet_18 ?_
    refine lv_if_le (tgt := 26) hx hb dX8_countSet_19 (by decide) (fun c_19 => ?_) (fun c_19 => ?_)
    · rw [if_pos c_19] at h
      refine lv_iconst (v := 0) hx hb dX8_countSet_26 (by decide) ?_
      exact wX8_countSet_j27 B hr hlk ih4 h0 h hR (lv_sub hl [0, 2] rfl)
    · rw [if_neg c_19] at h
      refine lv_iconst (v := 1) hx hb dX8_countSet_22 (by decide) ?_
      refine lv_goto (tgt := 27) hx hb dX8_countSet_23 (by decide) ?_
      exact wX8_countSet_j27 B hr hlk ih4 h0 h hR (lv_sub hl [0, 2] rfl)
def fX8_countSet_l4 (fu : Nat) (a0 : Nat) (M : Mm) (x1 : Int32) (x2 : Int32) : Option Int32 := lp (fun (rec : (Int32 × Int32) → Option Int32) (s : Int32 × Int32) => fX8_countSet_b4 fu  (fun x1 x2 => rec (x1, x2)) a0 s.1 s.2 M) fu (x1, x2)
set_option maxRecDepth 100000 in
set_option maxHeartbeats 4000000 in
theorem wX8_countSet_l4 {r : Int32}   {a0 : Nat} {x1 : Int32} {x2 : Int32} {M : Mm} (B : Bx p s m args c cX8_countSet 3 RX8 E L) (hr : meth.sig.returnType = (some .int)) (hlk : meth.locks = false)  (h0 : At L a0 T8) (h : fX8_countSet_l4 fu a0 M x1 x2 = some r) (hR : Rx s E L M H locs) (hl : lv_has ls 3 [(0, .ref a0), (1, .int x1), (2, .int x2)]) : W p l e (rmD (d + 0)) s m args below meth c H locs 0 0 (MQ below (QcM E L (some (.int r)) M) args s 0 0 E.2.2.2) (F0 m 4 ls []) := by
  refine lp_G (G := fun z : Int32 × Int32 => ∀ (H : Heap) (locs : List Loc) (ls : Array Slot), Rx s E L M H locs → lv_has ls 3 [(0, .ref a0), (1, .int z.1), (2, .int z.2)] → W p l e (rmD (d + 0)) s m args below meth c H locs 0 0 (MQ below (QcM E L (some (.int r)) M) args s 0 0 E.2.2.2) (F0 m 4 ls [])) (fun rec ih z h H locs ls hR hl => ?_) fu _ h H locs ls hR hl
  exact wX8_countSet_b4 B hr hlk  (fun x1 x2 h => ih (x1, x2) h) h0 h hR hl
def fX8_countSet (fu : Nat) (a0 : Nat) (M : Mm) : Option Int32 :=
  fX8_countSet_l4 fu a0 M 0 0
set_option maxRecDepth 100000 in
set_option maxHeartbeats 4000000 in
theorem mX8_countSet {l : Launch} {E : Ge} {L : Lay} (fu d : Nat) {a0 : Nat} {M : Mm} {r : Int32} (h0 : At L a0 T8) (h : fX8_countSet fu a0 M = some r) : Ct l E L yX8_countSet cX8_countSet 3 (some .int) (d + 0) [.ref a0] M (some (.int r)) M := by
  refine Ct.of (by decide) ?_
  intro p e s m below meth c hr hlk B hR
  have B : Bx p s m _ c cX8_countSet 3 RX8 E L := B
  have hx := B.1
  have hb := B.2.1
  have hl := lv_entry ([.ref a0]) (n := 3) (Nat.le_of_ble_eq_true rfl)
  rw [lg_entry_eq]
  generalize (lg_sl ([.ref a0]) ++ List.replicate (3 - (lg_sl ([.ref a0])).length) Slot.unset).toArray = ls at hl ⊢
  have hl : lv_has ls 3 [(0, .ref a0)] := hl
  unfold fX8_countSet at h
  refine lv_iconst (v := 0) hx hb dX8_countSet_0 (by decide) ?_
  refine lv_istore_n (lv' := [(1, .int 0), (0, .ref a0)]) hx hb dX8_countSet_1 rfl hl (by decide) rfl (fun ls hl => ?_)
  refine lv_iconst (v := 0) hx hb dX8_countSet_2 (by decide) ?_
  refine lv_istore_n (lv' := [(2, .int 0), (1, .int 0), (0, .ref a0)]) hx hb dX8_countSet_3 rfl hl (by decide) rfl (fun ls hl => ?_)
  exact wX8_countSet_l4 B hr hlk h0 h hR (lv_sub hl [2, 1, 0] rfl)
def fX8_fits_j51 (fu : Nat) (t0 : Int32) (M : Mm) : Option Int32 :=
  gd (t0 = 0 ∨ t0 = 1) <|
  some t0
set_option maxRecDepth 100000 in
set_option maxHeartbeats 4000000 in
theorem wX8_fits_j51 {r : Int32}   {t0 : Int32} {M : Mm} (B : Bx p s m args c cX8_fits 4 RX8 E L) (hr : meth.sig.returnType = (some .boolean)) (hlk : meth.locks = false)   (h : fX8_fits_j51 fu t0 M = some r) (hR : Rx s E L M H locs) (hl : lv_has ls 4 []) : W p l e (rmD (d + 1)) s m args below meth c H locs 0 0 (MQ below (QcM E L (some (.int r)) M) args s 0 0 E.2.2.2) (F0 m 51 ls [.int t0]) := by
  have hx := B.1
  have hb := B.2.1
  unfold fX8_fits_j51 at h
  obtain ⟨hz_51, h⟩ := gd_el h
  exact r_zretP B hR hr hlk hz_51 h dX8_fits_51
def fX8_fits_j50 (fu : Nat) (M : Mm) : Option Int32 :=
  fX8_fits_j51 fu 0 M
set_option maxRecDepth 100000 in
set_option maxHeartbeats 4000000 in
theorem wX8_fits_j50 {r : Int32}    {M : Mm} (B : Bx p s m args c cX8_fits 4 RX8 E L) (hr : meth.sig.returnType = (some .boolean)) (hlk : meth.locks = false)   (h : fX8_fits_j50 fu M = some r) (hR : Rx s E L M H locs) (hl : lv_has ls 4 []) : W p l e (rmD (d + 1)) s m args below meth c H locs 0 0 (MQ below (QcM E L (some (.int r)) M) args s 0 0 E.2.2.2) (F0 m 50 ls []) := by
  have hx := B.1
  have hb := B.2.1
  unfold fX8_fits_j50 at h
  refine lv_iconst (v := 0) hx hb dX8_fits_50 (by decide) ?_
  exact wX8_fits_j51 B hr hlk  h hR hl
def fX8_fits_j25 (fu : Nat) (a0 : Nat) (x1 : Int32) (x2 : Int32) (t0 : Int32) (M : Mm) : Option Int32 :=
  if t0 = 0 then
    fX8_fits_j50 fu M
  else
    bi (fX8_hasAddress fu a0 x1 M) fun r_32 =>
    if r_32 = 0 then
      fX8_fits_j50 fu M
    else
      if (x1 &&& (x2 - 1)) = 0 then
        fX8_fits_j51 fu 1 M
      else
        fX8_fits_j50 fu M
set_option maxRecDepth 100000 in
set_option maxHeartbeats 4000000 in
theorem wX8_fits_j25 {r : Int32}   {a0 : Nat} {x1 : Int32} {x2 : Int32} {t0 : Int32} {M : Mm} (B : Bx p s m args c cX8_fits 4 RX8 E L) (hr : meth.sig.returnType = (some .boolean)) (hlk : meth.locks = false)  (h0 : At L a0 T8) (h : fX8_fits_j25 fu a0 x1 x2 t0 M = some r) (hR : Rx s E L M H locs) (hl : lv_has ls 4 [(0, .ref a0), (1, .int x1), (2, .int x2)]) : W p l e (rmD (d + 1)) s m args below meth c H locs 0 0 (MQ below (QcM E L (some (.int r)) M) args s 0 0 E.2.2.2) (F0 m 25 ls [.int t0]) := by
  have hx := B.1
  have hb := B.2.1
  unfold fX8_fits_j25 at h
  refine lv_istore_n (lv' := [(3, .int t0), (0, .ref a0), (1, .int x1), (2, .int x2)]) hx hb dX8_fits_25 rfl hl (by decide) rfl (fun ls hl => ?_)
  refine lv_iload_n hx hb dX8_fits_26 rfl (lv_at hl 0 rfl) ?_
  refine lv_if_eq (tgt := 50) hx hb dX8_fits_27 (by decide) (fun c_27 => ?_) (fun c_27 => ?_)
  · rw [if_pos c_27] at h
    exact wX8_fits_j50 B hr hlk  h hR (lv_sub hl [] rfl)
  · rw [if_neg c_27] at h
    refine lv_aload_n hx hb dX8_fits_30 rfl (lv_at hl 1 rfl) ?_
    refine lv_iload_n hx hb dX8_fits_31 rfl (lv_at hl 2 rfl) ?_
    obtain ⟨r_32, hc_32, h⟩ := bi_el h
    refine iv_X8_73 B hR (h0.at0 rfl) hl.1 (mX8_hasAddress fu _ h0 hc_32) (Nat.le_of_ble_eq_true rfl) dX8_fits_32 (fun H locs hR => ?_)
    refine lv_if_eq (tgt := 50) hx hb dX8_fits_35 (by decide) (fun c_35 => ?_) (fun c_35 => ?_)
    · rw [if_pos c_35] at h
      exact wX8_fits_j50 B hr hlk  h hR (lv_sub hl [] rfl)
    · rw [if_neg c_35] at h
      refine lv_iload_n hx hb dX8_fits_38 rfl (lv_at hl 2 rfl) ?_
      refine lv_iload_n hx hb dX8_fits_39 rfl (lv_at hl 3 rfl) ?_
      refine lv_iconst (v := 1) hx hb dX8_fits_40 (by decide) ?_
      refine lv_isub hx hb dX8_fits_41 ?_
      refine lv_iand hx hb dX8_fits_42 ?_
      refine lv_if_ne (tgt := 50) hx hb dX8_fits_43 (by decide) (fun c_43 => ?_) (fun c_43 => ?_)
      · rw [if_neg c_43] at h
        exact wX8_fits_j50 B hr hlk  h hR (lv_sub hl [] rfl)
      · rw [if_pos c_43] at h
        refine lv_iconst (v := 1) hx hb dX8_fits_46 (by decide) ?_
        refine lv_goto (tgt := 51) hx hb dX8_fits_47 (by decide) ?_
        exact wX8_fits_j51 B hr hlk  h hR (lv_sub hl [] rfl)
def fX8_fits_j24 (fu : Nat) (a0 : Nat) (x1 : Int32) (x2 : Int32) (M : Mm) : Option Int32 :=
  fX8_fits_j25 fu a0 x1 x2 0 M
set_option maxRecDepth 100000 in
set_option maxHeartbeats 4000000 in
theorem wX8_fits_j24 {r : Int32}   {a0 : Nat} {x1 : Int32} {x2 : Int32} {M : Mm} (B : Bx p s m args c cX8_fits 4 RX8 E L) (hr : meth.sig.returnType = (some .boolean)) (hlk : meth.locks = false)  (h0 : At L a0 T8) (h : fX8_fits_j24 fu a0 x1 x2 M = some r) (hR : Rx s E L M H locs) (hl : lv_has ls 4 [(0, .ref a0), (1, .int x1), (2, .int x2)]) : W p l e (rmD (d + 1)) s m args below meth c H locs 0 0 (MQ below (QcM E L (some (.int r)) M) args s 0 0 E.2.2.2) (F0 m 24 ls []) := by
  have hx := B.1
  have hb := B.2.1
  unfold fX8_fits_j24 at h
  refine lv_iconst (v := 0) hx hb dX8_fits_24 (by decide) ?_
  exact wX8_fits_j25 B hr hlk h0 h hR hl
def fX8_fits (fu : Nat) (a0 : Nat) (x1 : Int32) (x2 : Int32) (M : Mm) : Option Int32 :=
  if x2 ≤ 0 then
    fX8_fits_j24 fu a0 x1 x2 M
  else
    if (M.1 a0 0) < x2 then
      fX8_fits_j24 fu a0 x1 x2 M
    else
      if (x2 &&& (x2 - 1)) = 0 then
        fX8_fits_j25 fu a0 x1 x2 1 M
      else
        fX8_fits_j24 fu a0 x1 x2 M
set_option maxRecDepth 100000 in
set_option maxHeartbeats 4000000 in
theorem mX8_fits {l : Launch} {E : Ge} {L : Lay} (fu d : Nat) {a0 : Nat} {x1 : Int32} {x2 : Int32} {M : Mm} {r : Int32} (h0 : At L a0 T8) (h : fX8_fits fu a0 x1 x2 M = some r) : Ct l E L yX8_fits cX8_fits 4 (some .boolean) (d + 1) [.ref a0, .int x1, .int x2] M (some (.int r)) M := by
  refine Ct.of (by decide) ?_
  intro p e s m below meth c hr hlk B hR
  have B : Bx p s m _ c cX8_fits 4 RX8 E L := B
  have hx := B.1
  have hb := B.2.1
  have hl := lv_entry ([.ref a0, .int x1, .int x2]) (n := 4) (Nat.le_of_ble_eq_true rfl)
  rw [lg_entry_eq]
  generalize (lg_sl ([.ref a0, .int x1, .int x2]) ++ List.replicate (4 - (lg_sl ([.ref a0, .int x1, .int x2])).length) Slot.unset).toArray = ls at hl ⊢
  have hl : lv_has ls 4 [(0, .ref a0), (1, .int x1), (2, .int x2)] := hl
  unfold fX8_fits at h
  refine lv_iload_n hx hb dX8_fits_0 rfl (lv_at hl 2 rfl) ?_
  refine lv_if_le (tgt := 24) hx hb dX8_fits_1 (by decide) (fun c_1 => ?_) (fun c_1 => ?_)
  · rw [if_pos c_1] at h
    exact wX8_fits_j24 B hr hlk h0 h hR hl
  · rw [if_neg c_1] at h
    refine lv_iload_n hx hb dX8_fits_4 rfl (lv_at hl 2 rfl) ?_
    refine lv_aload_n hx hb dX8_fits_5 rfl (lv_at hl 0 rfl) ?_
    refine gf_X8_39 B hR (h0.at0 rfl) dX8_fits_6 ?_
    refine lv_icmp_gt (tgt := 24) hx hb dX8_fits_9 (by decide) (fun c_9 => ?_) (fun c_9 => ?_)
    · rw [if_pos c_9] at h
      exact wX8_fits_j24 B hr hlk h0 h hR hl
    · rw [if_neg c_9] at h
      refine lv_iload_n hx hb dX8_fits_12 rfl (lv_at hl 2 rfl) ?_
      refine lv_iload_n hx hb dX8_fits_13 rfl (lv_at hl 2 rfl) ?_
      refine lv_iconst (v := 1) hx hb dX8_fits_14 (by decide) ?_
      refine lv_isub hx hb dX8_fits_15 ?_
      refine lv_iand hx hb dX8_fits_16 ?_
      refine lv_if_ne (tgt := 24) hx hb dX8_fits_17 (by decide) (fun c_17 => ?_) (fun c_17 => ?_)
      · rw [if_neg c_17] at h
        exact wX8_fits_j24 B hr hlk h0 h hR hl
      · rw [if_pos c_17] at h
        refine lv_iconst (v := 1) hx hb dX8_fits_20 (by decide) ?_
        refine lv_goto (tgt := 25) hx hb dX8_fits_21 (by decide) ?_
        exact wX8_fits_j25 B hr hlk h0 h hR hl
def fX8_holderOf_j38 (fu : Nat) (M : Mm) : Option Int32 :=
  some (-1)
set_option maxRecDepth 100000 in
set_option maxHeartbeats 4000000 in
theorem wX8_holderOf_j38 {r : Int32}    {M : Mm} (B : Bx p s m args c cX8_holderOf 4 RX8 E L) (hr : meth.sig.returnType = (some .int)) (hlk : meth.locks = false)   (h : fX8_holderOf_j38 fu M = some r) (hR : Rx s E L M H locs) (hl : lv_has ls 4 []) : W p l e (rmD (d + 0)) s m args below meth c H locs 0 0 (MQ below (QcM E L (some (.int r)) M) args s 0 0 E.2.2.2) (F0 m 38 ls []) := by
  have hx := B.1
  have hb := B.2.1
  unfold fX8_holderOf_j38 at h
  refine lv_iconst (v := (-1)) hx hb dX8_holderOf_38 (by decide) ?_
  exact r_iretP B hR hr hlk h dX8_holderOf_39
def fX8_holderOf_j32 (fu : Nat) (k2 : Int32 → Option Int32) (a0 : Nat) (x1 : Int32) (x2 : Int32) (x3 : Int32) (M : Mm) : Option Int32 :=
  lt (x3 + 1) fun x3_32 =>
  k2 x3_32
set_option maxRecDepth 100000 in
set_option maxHeartbeats 4000000 in
theorem wX8_holderOf_j32 {r : Int32}  {k2 : Int32 → Option Int32} {a0 : Nat} {x1 : Int32} {x2 : Int32} {x3 : Int32} {M : Mm} (B : Bx p s m args c cX8_holderOf 4 RX8 E L) (hr : meth.sig.returnType = (some .int)) (hlk : meth.locks = false) (ih2 : ∀ (x3 : Int32), k2 x3 = some r → ∀ (H : Heap) (locs : List Loc) (ls : Array Slot), Rx s E L M H locs → lv_has ls 4 [(0, .ref a0), (1, .int x1), (2, .int x2), (3, .int x3)] → W p l e (rmD (d + 0)) s m args below meth c H locs 0 0 (MQ below (QcM E L (some (.int r)) M) args s 0 0 E.2.2.2) (F0 m 2 ls [])) (h0 : At L a0 T8) (h : fX8_holderOf_j32 fu k2 a0 x1 x2 x3 M = some r) (hR : Rx s E L M H locs) (hl : lv_has ls 4 [(0, .ref a0), (1, .int x1), (2, .int x2), (3, .int x3)]) : W p l e (rmD (d + 0)) s m args below meth c H locs 0 0 (MQ below (QcM E L (some (.int r)) M) args s 0 0 E.2.2.2) (F0 m 32 ls []) := by
  have hx := B.1
  have hb := B.2.1
  unfold fX8_holderOf_j32 at h
  obtain ⟨x3_32, ex3_32, h⟩ := lt_el h
  refine lv_iinc (v := x3_32) (lv' := [(3, .int x3_32), (0, .ref a0), (1, .int x1), (2, .int x2)]) hx hb dX8_holderOf_32 hl (k := 3) rfl (by rw [ex3_32]; rfl) (by decide) rfl (fun ls hl => ?_)
  refine lv_goto (tgt := 2) hx hb dX8_holderOf_35 (by decide) ?_
  exact ih2 x3_32 h _ _ _ hR (lv_sub hl [1, 2, 3, 0] rfl)
def fX8_holderOf_j30 (fu : Nat) (x3 : Int32) (M : Mm) : Option Int32 :=
  some x3
set_option maxRecDepth 100000 in
set_option maxHeartbeats 4000000 in
theorem wX8_holderOf_j30 {r : Int32}   {x3 : Int32} {M : Mm} (B : Bx p s m args c cX8_holderOf 4 RX8 E L) (hr : meth.sig.returnType = (some .int)) (hlk : meth.locks = false)   (h : fX8_holderOf_j30 fu x3 M = some r) (hR : Rx s E L M H locs) (hl : lv_has ls 4 [(3, .int x3)]) : W p l e (rmD (d + 0)) s m args below meth c H locs 0 0 (MQ below (QcM E L (some (.int r)) M) args s 0 0 E.2.2.2) (F0 m 30 ls []) := by
  have hx := B.1
  have hb := B.2.1
  unfold fX8_holderOf_j30 at h
  refine lv_iload_n hx hb dX8_holderOf_30 rfl (lv_at hl 0 rfl) ?_
  exact r_iretP B hR hr hlk h dX8_holderOf_31
def fX8_holderOf_b2 (fu : Nat) (k2 : Int32 → Option Int32) (a0 : Nat) (x1 : Int32) (x2 : Int32) (x3 : Int32) (M : Mm) : Option Int32 :=
  if (M.1 a0 1) ≤ x3 then
    fX8_holderOf_j38 fu M
  else
    if x3 < 0 ∨ 10 ≤ ix x3 then none else
    if (M.1 (a0 + 6) (ix x3)) = x2 then
      if (M.1 (a0 + 5) (ix x3)) = x1 then
        fX8_holderOf_j30 fu x3 M
      else
        fX8_holderOf_j32 fu k2 a0 x1 x2 x3 M
    else
      fX8_holderOf_j32 fu k2 a0 x1 x2 x3 M
set_option maxRecDepth 100000 in
set_option maxHeartbeats 4000000 in
theorem wX8_holderOf_b2 {r : Int32}   {k2 : Int32 → Option Int32} {a0 : Nat} {x1 : Int32} {x2 : Int32} {x3 : Int32} {M : Mm} (B : Bx p s m args c cX8_holderOf 4 RX8 E L) (hr : meth.sig.returnType = (some .int)) (hlk : meth.locks = false)  (ih2 : ∀ (x3 : Int32), k2 x3 = some r → ∀ (H : Heap) (locs : List Loc) (ls : Array Slot), Rx s E L M H locs → lv_has ls 4 [(0, .ref a0), (1, .int x1), (2, .int x2), (3, .int x3)] → W p l e (rmD (d + 0)) s m args below meth c H locs 0 0 (MQ below (QcM E L (some (.int r)) M) args s 0 0 E.2.2.2) (F0 m 2 ls [])) (h0 : At L a0 T8) (h : fX8_holderOf_b2 fu k2 a0 x1 x2 x3 M = some r) (hR : Rx s E L M H locs) (hl : lv_has ls 4 [(0, .ref a0), (1, .int x1), (2, .int x2), (3, .int x3)]) : W p l e (rmD (d + 0)) s m args below meth c H locs 0 0 (MQ below (QcM E L (some (.int r)) M) args s 0 0 E.2.2.2) (F0 m 2 ls []) := by
  have hx := B.1
  have hb := B.2.1
  unfold fX8_holderOf_b2 at h
  refine lv_iload_n hx hb dX8_holderOf_2 rfl (lv_at hl 3 rfl) ?_
  refine lv_aload_n hx hb dX8_holderOf_3 rfl (lv_at hl 0 rfl) ?_
  refine gf_X8_43 B hR (h0.at0 rfl) dX8_holderOf_4 ?_
  refine lv_icmp_ge (tgt := 38) hx hb dX8_holderOf_7 (by decide) (fun c_7 => ?_) (fun c_7 => ?_)
  · rw [if_pos c_7] at h
    exact wX8_holderOf_j38 B hr hlk  h hR (lv_sub hl [] rfl)
  · rw [if_neg c_7] at h
    refine lv_aload_n hx hb dX8_holderOf_10 rfl (lv_at hl 0 rfl) ?_
    refine gf_X8_27 B hR (h0.at0 rfl) dX8_holderOf_11 ?_
    refine lv_iload_n hx hb dX8_holderOf_14 rfl (lv_at hl 3 rfl) ?_
    obtain ⟨hi_15, h⟩ := ifn_el h
    refine r_iald B hR (h0.at 6 rfl) hi_15 dX8_holderOf_15 ?_
    refine lv_iload_n hx hb dX8_holderOf_16 rfl (lv_at hl 2 rfl) ?_
    refine lv_icmp_ne (tgt := 32) hx hb dX8_holderOf_17 (by decide) (fun c_17 => ?_) (fun c_17 => ?_)
    · rw [if_neg c_17] at h
      exact wX8_holderOf_j32 B hr hlk ih2 h0 h hR hl
    · rw [if_pos c_17] at h
      refine lv_aload_n hx hb dX8_holderOf_20 rfl (lv_at hl 0 rfl) ?_
      refine gf_X8_24 B hR (h0.at0 rfl) dX8_holderOf_21 ?_
      refine lv_iload_n hx hb dX8_holderOf_24 rfl (lv_at hl 3 rfl) ?_
      refine r_iald B hR (h0.at 5 rfl) hi_15 dX8_holderOf_25 ?_
      refine lv_iload_n hx hb dX8_holderOf_26 rfl (lv_at hl 1 rfl) ?_
      refine lv_icmp_ne (tgt := 32) hx hb dX8_holderOf_27 (by decide) (fun c_27 => ?_) (fun c_27 => ?_)
      · rw [if_neg c_27] at h
        exact wX8_holderOf_j32 B hr hlk ih2 h0 h hR hl
      · rw [if_pos c_27] at h
        exact wX8_holderOf_j30 B hr hlk  h hR (lv_sub hl [3] rfl)
def fX8_holderOf_l2 (fu : Nat) (a0 : Nat) (x1 : Int32) (x2 : Int32) (M : Mm) (x3 : Int32) : Option Int32 := lp (fun (rec : Int32 → Option Int32) (s : Int32) => fX8_holderOf_b2 fu  (fun x3 => rec (x3)) a0 x1 x2 s M) fu (x3)
set_option maxRecDepth 100000 in
set_option maxHeartbeats 4000000 in
theorem wX8_holderOf_l2 {r : Int32}   {a0 : Nat} {x1 : Int32} {x2 : Int32} {x3 : Int32} {M : Mm} (B : Bx p s m args c cX8_holderOf 4 RX8 E L) (hr : meth.sig.returnType = (some .int)) (hlk : meth.locks = false)  (h0 : At L a0 T8) (h : fX8_holderOf_l2 fu a0 x1 x2 M x3 = some r) (hR : Rx s E L M H locs) (hl : lv_has ls 4 [(0, .ref a0), (1, .int x1), (2, .int x2), (3, .int x3)]) : W p l e (rmD (d + 0)) s m args below meth c H locs 0 0 (MQ below (QcM E L (some (.int r)) M) args s 0 0 E.2.2.2) (F0 m 2 ls []) := by
  refine lp_G (G := fun z : Int32 => ∀ (H : Heap) (locs : List Loc) (ls : Array Slot), Rx s E L M H locs → lv_has ls 4 [(0, .ref a0), (1, .int x1), (2, .int x2), (3, .int z)] → W p l e (rmD (d + 0)) s m args below meth c H locs 0 0 (MQ below (QcM E L (some (.int r)) M) args s 0 0 E.2.2.2) (F0 m 2 ls [])) (fun rec ih z h H locs ls hR hl => ?_) fu _ h H locs ls hR hl
  exact wX8_holderOf_b2 B hr hlk  (fun x3 h => ih (x3) h) h0 h hR hl
def fX8_holderOf (fu : Nat) (a0 : Nat) (x1 : Int32) (x2 : Int32) (M : Mm) : Option Int32 :=
  fX8_holderOf_l2 fu a0 x1 x2 M 0
set_option maxRecDepth 100000 in
set_option maxHeartbeats 4000000 in
theorem mX8_holderOf {l : Launch} {E : Ge} {L : Lay} (fu d : Nat) {a0 : Nat} {x1 : Int32} {x2 : Int32} {M : Mm} {r : Int32} (h0 : At L a0 T8) (h : fX8_holderOf fu a0 x1 x2 M = some r) : Ct l E L yX8_holderOf cX8_holderOf 4 (some .int) (d + 0) [.ref a0, .int x1, .int x2] M (some (.int r)) M := by
  refine Ct.of (by decide) ?_
  intro p e s m below meth c hr hlk B hR
  have B : Bx p s m _ c cX8_holderOf 4 RX8 E L := B
  have hx := B.1
  have hb := B.2.1
  have hl := lv_entry ([.ref a0, .int x1, .int x2]) (n := 4) (Nat.le_of_ble_eq_true rfl)
  rw [lg_entry_eq]
  generalize (lg_sl ([.ref a0, .int x1, .int x2]) ++ List.replicate (4 - (lg_sl ([.ref a0, .int x1, .int x2])).length) Slot.unset).toArray = ls at hl ⊢
  have hl : lv_has ls 4 [(0, .ref a0), (1, .int x1), (2, .int x2)] := hl
  unfold fX8_holderOf at h
  refine lv_iconst (v := 0) hx hb dX8_holderOf_0 (by decide) ?_
  refine lv_istore_n (lv' := [(3, .int 0), (0, .ref a0), (1, .int x1), (2, .int x2)]) hx hb dX8_holderOf_1 rfl hl (by decide) rfl (fun ls hl => ?_)
  exact wX8_holderOf_l2 B hr hlk h0 h hR (lv_sub hl [1, 2, 3, 0] rfl)
def fX8_addSpan_j49 (fu : Nat) (M : Mm) : Option Mm :=
  some M
set_option maxRecDepth 100000 in
set_option maxHeartbeats 4000000 in
theorem wX8_addSpan_j49 {M' : Mm}    {M : Mm} (B : Bx p s m args c cX8_addSpan 4 RX8 E L) (hr : meth.sig.returnType = none) (hlk : meth.locks = false)   (h : fX8_addSpan_j49 fu M = some M') (hR : Rx s E L M H locs) (hl : lv_has ls 4 []) : W p l e (rmD (d + 0)) s m args below meth c H locs 0 0 (MQ below (QcM E L none M') args s 0 0 E.2.2.2) (F0 m 49 ls []) := by
  have hx := B.1
  have hb := B.2.1
  unfold fX8_addSpan_j49 at h
  exact r_vretW B hR hr hlk h dX8_addSpan_49
def fX8_addSpan (fu : Nat) (a0 : Nat) (x1 : Int32) (x2 : Int32) (x3 : Int32) (M : Mm) : Option Mm :=
  if 12 ≤ (M.1 a0 3) then
    fX8_addSpan_j49 fu M
  else
    if (M.1 a0 3) < 0 ∨ 12 ≤ ix (M.1 a0 3) then none else
    lt (wI M (a0 + 1) (ix (M.1 a0 3)) x1) fun M_18 =>
    if (M_18.1 a0 3) < 0 ∨ 12 ≤ ix (M_18.1 a0 3) then none else
    lt (wI M_18 (a0 + 2) (ix (M_18.1 a0 3)) x2) fun M_28 =>
    if (M_28.1 a0 3) < 0 ∨ 12 ≤ ix (M_28.1 a0 3) then none else
    lt (wI M_28 (a0 + 3) (ix (M_28.1 a0 3)) x3) fun M_38 =>
    lt (wI M_38 a0 3 ((M_38.1 a0 3) + 1)) fun M_46 =>
    fX8_addSpan_j49 fu M_46
set_option maxRecDepth 100000 in
set_option maxHeartbeats 4000000 in
theorem mX8_addSpan {l : Launch} {E : Ge} {L : Lay} (fu d : Nat) {a0 : Nat} {x1 : Int32} {x2 : Int32} {x3 : Int32} {M : Mm} {M' : Mm} (h0 : At L a0 T8) (h : fX8_addSpan fu a0 x1 x2 x3 M = some M') : Ct l E L yX8_addSpan cX8_addSpan 4 none (d + 0) [.ref a0, .int x1, .int x2, .int x3] M none M' := by
  refine Ct.of (by decide) ?_
  intro p e s m below meth c hr hlk B hR
  have B : Bx p s m _ c cX8_addSpan 4 RX8 E L := B
  have hx := B.1
  have hb := B.2.1
  have hl := lv_entry ([.ref a0, .int x1, .int x2, .int x3]) (n := 4) (Nat.le_of_ble_eq_true rfl)
  rw [lg_entry_eq]
  generalize (lg_sl ([.ref a0, .int x1, .int x2, .int x3]) ++ List.replicate (4 - (lg_sl ([.ref a0, .int x1, .int x2, .int x3])).length) Slot.unset).toArray = ls at hl ⊢
  have hl : lv_has ls 4 [(0, .ref a0), (1, .int x1), (2, .int x2), (3, .int x3)] := hl
  unfold fX8_addSpan at h
  refine lv_aload_n hx hb dX8_addSpan_0 rfl (lv_at hl 0 rfl) ?_
  refine gf_X8_49 B hR (h0.at0 rfl) dX8_addSpan_1 ?_
  refine lv_bipush (v := 12) hx hb dX8_addSpan_4 (by decide) ?_
  refine lv_icmp_ge (tgt := 49) hx hb dX8_addSpan_6 (by decide) (fun c_6 => ?_) (fun c_6 => ?_)
  · rw [if_pos c_6] at h
    exact wX8_addSpan_j49 B hr hlk  h hR (lv_sub hl [] rfl)
  · rw [if_neg c_6] at h
    refine lv_aload_n hx hb dX8_addSpan_9 rfl (lv_at hl 0 rfl) ?_
    refine gf_X8_9 B hR (h0.at0 rfl) dX8_addSpan_10 ?_
    refine lv_aload_n hx hb dX8_addSpan_13 rfl (lv_at hl 0 rfl) ?_
    refine gf_X8_49 B hR (h0.at0 rfl) dX8_addSpan_14 ?_
    refine lv_iload_n hx hb dX8_addSpan_17 rfl (lv_at hl 1 rfl) ?_
    obtain ⟨hi_18, h⟩ := ifn_el h
    obtain ⟨M_18, eM_18, h⟩ := lt_el h
    refine r_iast B hR (h0.at 1 rfl) hi_18 dX8_addSpan_18 (fun H locs hR => ?_)
    rw [← eM_18] at hR
    refine lv_aload_n hx hb dX8_addSpan_19 rfl (lv_at hl 0 rfl) ?_
    refine gf_X8_15 B hR (h0.at0 rfl) dX8_addSpan_20 ?_
    refine lv_aload_n hx hb dX8_addSpan_23 rfl (lv_at hl 0 rfl) ?_
    refine gf_X8_49 B hR (h0.at0 rfl) dX8_addSpan_24 ?_
    refine lv_iload_n hx hb dX8_addSpan_27 rfl (lv_at hl 2 rfl) ?_
    obtain ⟨hi_28, h⟩ := ifn_el h
    obtain ⟨M_28, eM_28, h⟩ := lt_el h
    refine r_iast B hR (h0.at 2 rfl) hi_28 dX8_addSpan_28 (fun H locs hR => ?_)
    rw [← eM_28] at hR
    refine lv_aload_n hx hb dX8_addSpan_29 rfl (lv_at hl 0 rfl) ?_
    refine gf_X8_18 B hR (h0.at0 rfl) dX8_addSpan_30 ?_
    refine lv_aload_n hx hb dX8_addSpan_33 rfl (lv_at hl 0 rfl) ?_
    refine gf_X8_49 B hR (h0.at0 rfl) dX8_addSpan_34 ?_
    refine lv_iload_n hx hb dX8_addSpan_37 rfl (lv_at hl 3 rfl) ?_
    obtain ⟨hi_38, h⟩ := ifn_el h
    obtain ⟨M_38, eM_38, h⟩ := lt_el h
    refine r_iast B hR (h0.at 3 rfl) hi_38 dX8_addSpan_38 (fun H locs hR => ?_)
    rw [← eM_38] at hR
    refine lv_aload_n hx hb dX8_addSpan_39 rfl (lv_at hl 0 rfl) ?_
    refine lv_dup hx hb dX8_addSpan_40 rfl ?_
    refine gf_X8_49 B hR (h0.at0 rfl) dX8_addSpan_41 ?_
    refine lv_iconst (v := 1) hx hb dX8_addSpan_44 (by decide) ?_
    refine lv_iadd hx hb dX8_addSpan_45 ?_
    obtain ⟨M_46, eM_46, h⟩ := lt_el h
    refine pf_X8_49 B hR (h0.at0 rfl) dX8_addSpan_46 (fun H locs hR => ?_)
    rw [← eM_46] at hR
    exact wX8_addSpan_j49 B hr hlk  h hR (lv_sub hl [] rfl)
def fX8_dropSpan_j60 (fu : Nat) (a0 : Nat) (M : Mm) : Option Mm :=
  lt (wI M a0 3 ((M.1 a0 3) - 1)) fun M_67 =>
  some M_67
set_option maxRecDepth 100000 in
set_option maxHeartbeats 4000000 in
theorem wX8_dropSpan_j60 {M' : Mm}   {a0 : Nat} {M : Mm} (B : Bx p s m args c cX8_dropSpan 3 RX8 E L) (hr : meth.sig.returnType = none) (hlk : meth.locks = false)  (h0 : At L a0 T8) (h : fX8_dropSpan_j60 fu a0 M = some M') (hR : Rx s E L M H locs) (hl : lv_has ls 3 [(0, .ref a0)]) : W p l e (rmD (d + 0)) s m args below meth c H locs 0 0 (MQ below (QcM E L none M') args s 0 0 E.2.2.2) (F0 m 60 ls []) := by
  have hx := B.1
  have hb := B.2.1
  unfold fX8_dropSpan_j60 at h
  refine lv_aload_n hx hb dX8_dropSpan_60 rfl (lv_at hl 0 rfl) ?_
  refine lv_dup hx hb dX8_dropSpan_61 rfl ?_
  refine gf_X8_49 B hR (h0.at0 rfl) dX8_dropSpan_62 ?_
  refine lv_iconst (v := 1) hx hb dX8_dropSpan_65 (by decide) ?_
  refine lv_isub hx hb dX8_dropSpan_66 ?_
  obtain ⟨M_67, eM_67, h⟩ := lt_el h
  refine pf_X8_49 B hR (h0.at0 rfl) dX8_dropSpan_67 (fun H locs hR => ?_)
  rw [← eM_67] at hR
  exact r_vretW B hR hr hlk h dX8_dropSpan_70
def fX8_dropSpan_b2 (fu : Nat) (k2 : Int32 → Mm → Option Mm) (a0 : Nat) (x2 : Int32) (M : Mm) : Option Mm :=
  if (M.1 a0 3) ≤ (x2 + 1) then
    fX8_dropSpan_j60 fu a0 M
  else
    if (x2 + 1) < 0 ∨ 12 ≤ ix (x2 + 1) then none else
    if x2 < 0 ∨ 12 ≤ ix x2 then none else
    lt (wI M (a0 + 1) (ix x2) (M.1 (a0 + 1) (ix (x2 + 1)))) fun M_25 =>
    lt (wI M_25 (a0 + 2) (ix x2) (M_25.1 (a0 + 2) (ix (x2 + 1)))) fun M_39 =>
    lt (wI M_39 (a0 + 3) (ix x2) (M_39.1 (a0 + 3) (ix (x2 + 1)))) fun M_53 =>
    lt (x2 + 1) fun x2_54 =>
    k2 x2_54 M_53
set_option maxRecDepth 100000 in
set_option maxHeartbeats 4000000 in
theorem wX8_dropSpan_b2 {M' : Mm}   {k2 : Int32 → Mm → Option Mm} {a0 : Nat} {x2 : Int32} {M : Mm} (B : Bx p s m args c cX8_dropSpan 3 RX8 E L) (hr : meth.sig.returnType = none) (hlk : meth.locks = false)  (ih2 : ∀ (x2 : Int32) (M : Mm), k2 x2 M = some M' → ∀ (H : Heap) (locs : List Loc) (ls : Array Slot), Rx s E L M H locs → lv_has ls 3 [(0, .ref a0), (2, .int x2)] → W p l e (rmD (d + 0)) s m args below meth c H locs 0 0 (MQ below (QcM E L none M') args s 0 0 E.2.2.2) (F0 m 2 ls [])) (h0 : At L a0 T8) (h : fX8_dropSpan_b2 fu k2 a0 x2 M = some M') (hR : Rx s E L M H locs) (hl : lv_has ls 3 [(0, .ref a0), (2, .int x2)]) : W p l e (rmD (d + 0)) s m args below meth c H locs 0 0 (MQ below (QcM E L none M') args s 0 0 E.2.2.2) (F0 m 2 ls []) := by
  have hx := B.1
  have hb := B.2.1
  unfold fX8_dropSpan_b2 at h
  refine lv_iload_n hx hb dX8_dropSpan_2 rfl (lv_at hl 1 rfl) ?_
  refine lv_iconst (v := 1) hx hb dX8_dropSpan_3 (by decide) ?_
  refine lv_iadd hx hb dX8_dropSpan_4 ?_
  refine lv_aload_n hx hb dX8_dropSpan_5 rfl (lv_at hl 0 rfl) ?_
  refine gf_X8_49 B hR (h0.at0 rfl) dX8_dropSpan_6 ?_
  refine lv_icmp_ge (tgt := 60) hx hb dX8_dropSpan_9 (by decide) (fun c_9 => ?_) (fun c_9 => ?_)
  · rw [if_pos c_9] at h
    exact wX8_dropSpan_j60 B hr hlk h0 h hR (lv_sub hl [0] rfl)
  · rw [if_neg c_9] at h
    refine lv_aload_n hx hb dX8_dropSpan_12 rfl (lv_at hl 0 rfl) ?_
    refine gf_X8_9 B hR (h0.at0 rfl) dX8_dropSpan_13 ?_
    refine lv_iload_n hx hb dX8_dropSpan_16 rfl (lv_at hl 1 rfl) ?_
    refine lv_aload_n hx hb dX8_dropSpan_17 rfl (lv_at hl 0 rfl) ?_
    refine gf_X8_9 B hR (h0.at0 rfl) dX8_dropSpan_18 ?_
    refine lv_iload_n hx hb dX8_dropSpan_21 rfl (lv_at hl 1 rfl) ?_
    refine lv_iconst (v := 1) hx hb dX8_dropSpan_22 (by decide) ?_
    refine lv_iadd hx hb dX8_dropSpan_23 ?_
    obtain ⟨hi_24, h⟩ := ifn_el h
    refine r_iald B hR (h0.at 1 rfl) hi_24 dX8_dropSpan_24 ?_
    obtain ⟨hi_25, h⟩ := ifn_el h
    obtain ⟨M_25, eM_25, h⟩ := lt_el h
    refine r_iast B hR (h0.at 1 rfl) hi_25 dX8_dropSpan_25 (fun H locs hR => ?_)
    rw [← eM_25] at hR
    refine lv_aload_n hx hb dX8_dropSpan_26 rfl (lv_at hl 0 rfl) ?_
    refine gf_X8_15 B hR (h0.at0 rfl) dX8_dropSpan_27 ?_
    refine lv_iload_n hx hb dX8_dropSpan_30 rfl (lv_at hl 1 rfl) ?_
    refine lv_aload_n hx hb dX8_dropSpan_31 rfl (lv_at hl 0 rfl) ?_
    refine gf_X8_15 B hR (h0.at0 rfl) dX8_dropSpan_32 ?_
    refine lv_iload_n hx hb dX8_dropSpan_35 rfl (lv_at hl 1 rfl) ?_
    refine lv_iconst (v := 1) hx hb dX8_dropSpan_36 (by decide) ?_
    refine lv_iadd hx hb dX8_dropSpan_37 ?_
    refine r_iald B hR (h0.at 2 rfl) hi_24 dX8_dropSpan_38 ?_
    obtain ⟨M_39, eM_39, h⟩ := lt_el h
    refine r_iast B hR (h0.at 2 rfl) hi_25 dX8_dropSpan_39 (fun H locs hR => ?_)
    rw [← eM_39] at hR
    refine lv_aload_n hx hb dX8_dropSpan_40 rfl (lv_at hl 0 rfl) ?_
    refine gf_X8_18 B hR (h0.at0 rfl) dX8_dropSpan_41 ?_
    refine lv_iload_n hx hb dX8_dropSpan_44 rfl (lv_at hl 1 rfl) ?_
    refine lv_aload_n hx hb dX8_dropSpan_45 rfl (lv_at hl 0 rfl) ?_
    refine gf_X8_18 B hR (h0.at0 rfl) dX8_dropSpan_46 ?_
    refine lv_iload_n hx hb dX8_dropSpan_49 rfl (lv_at hl 1 rfl) ?_
    refine lv_iconst (v := 1) hx hb dX8_dropSpan_50 (by decide) ?_
    refine lv_iadd hx hb dX8_dropSpan_51 ?_
    refine r_iald B hR (h0.at 3 rfl) hi_24 dX8_dropSpan_52 ?_
    obtain ⟨M_53, eM_53, h⟩ := lt_el h
    refine r_iast B hR (h0.at 3 rfl) hi_25 dX8_dropSpan_53 (fun H locs hR => ?_)
    rw [← eM_53] at hR
    obtain ⟨x2_54, ex2_54, h⟩ := lt_el h
    refine lv_iinc (v := x2_54) (lv' := [(2, .int x2_54), (0, .ref a0)]) hx hb dX8_dropSpan_54 hl (k := 1) rfl (by rw [ex2_54]; rfl) (by decide) rfl (fun ls hl => ?_)
    refine lv_goto (tgt := 2) hx hb dX8_dropSpan_57 (by decide) ?_
    exact ih2 x2_54 M_53 h _ _ _ hR (lv_sub hl [1, 0] rfl)
def fX8_dropSpan_l2 (fu : Nat) (a0 : Nat) (x2 : Int32) (M : Mm) : Option Mm := lp (fun (rec : (Int32 × Mm) → Option Mm) (s : Int32 × Mm) => fX8_dropSpan_b2 fu  (fun x2 M => rec (x2, M)) a0 s.1 s.2) fu (x2, M)
set_option maxRecDepth 100000 in
set_option maxHeartbeats 4000000 in
theorem wX8_dropSpan_l2 {M' : Mm}   {a0 : Nat} {x2 : Int32} {M : Mm} (B : Bx p s m args c cX8_dropSpan 3 RX8 E L) (hr : meth.sig.returnType = none) (hlk : meth.locks = false)  (h0 : At L a0 T8) (h : fX8_dropSpan_l2 fu a0 x2 M = some M') (hR : Rx s E L M H locs) (hl : lv_has ls 3 [(0, .ref a0), (2, .int x2)]) : W p l e (rmD (d + 0)) s m args below meth c H locs 0 0 (MQ below (QcM E L none M') args s 0 0 E.2.2.2) (F0 m 2 ls []) := by
  refine lp_G (G := fun z : Int32 × Mm => ∀ (H : Heap) (locs : List Loc) (ls : Array Slot), Rx s E L z.2 H locs → lv_has ls 3 [(0, .ref a0), (2, .int z.1)] → W p l e (rmD (d + 0)) s m args below meth c H locs 0 0 (MQ below (QcM E L none M') args s 0 0 E.2.2.2) (F0 m 2 ls [])) (fun rec ih z h H locs ls hR hl => ?_) fu _ h H locs ls hR hl
  exact wX8_dropSpan_b2 B hr hlk  (fun x2 M h => ih (x2, M) h) h0 h hR hl
def fX8_dropSpan (fu : Nat) (a0 : Nat) (x1 : Int32) (M : Mm) : Option Mm :=
  fX8_dropSpan_l2 fu a0 x1 M
set_option maxRecDepth 100000 in
set_option maxHeartbeats 4000000 in
theorem mX8_dropSpan {l : Launch} {E : Ge} {L : Lay} (fu d : Nat) {a0 : Nat} {x1 : Int32} {M : Mm} {M' : Mm} (h0 : At L a0 T8) (h : fX8_dropSpan fu a0 x1 M = some M') : Ct l E L yX8_dropSpan cX8_dropSpan 3 none (d + 0) [.ref a0, .int x1] M none M' := by
  refine Ct.of (by decide) ?_
  intro p e s m below meth c hr hlk B hR
  have B : Bx p s m _ c cX8_dropSpan 3 RX8 E L := B
  have hx := B.1
  have hb := B.2.1
  have hl := lv_entry ([.ref a0, .int x1]) (n := 3) (Nat.le_of_ble_eq_true rfl)
  rw [lg_entry_eq]
  generalize (lg_sl ([.ref a0, .int x1]) ++ List.replicate (3 - (lg_sl ([.ref a0, .int x1])).length) Slot.unset).toArray = ls at hl ⊢
  have hl : lv_has ls 3 [(0, .ref a0), (1, .int x1)] := hl
  unfold fX8_dropSpan at h
  refine lv_iload_n hx hb dX8_dropSpan_0 rfl (lv_at hl 1 rfl) ?_
  refine lv_istore_n (lv' := [(2, .int x1), (0, .ref a0), (1, .int x1)]) hx hb dX8_dropSpan_1 rfl hl (by decide) rfl (fun ls hl => ?_)
  exact wX8_dropSpan_l2 B hr hlk h0 h hR (lv_sub hl [1, 0] rfl)
def fX8_wantedAt_j44 (fu : Nat) (x2 : Int32) (M : Mm) : Option Int32 :=
  some x2
set_option maxRecDepth 100000 in
set_option maxHeartbeats 4000000 in
theorem wX8_wantedAt_j44 {r : Int32}   {x2 : Int32} {M : Mm} (B : Bx p s m args c cX8_wantedAt 4 RX8 E L) (hr : meth.sig.returnType = (some .int)) (hlk : meth.locks = false)   (h : fX8_wantedAt_j44 fu x2 M = some r) (hR : Rx s E L M H locs) (hl : lv_has ls 4 [(2, .int x2)]) : W p l e (rmD (d + 0)) s m args below meth c H locs 0 0 (MQ below (QcM E L (some (.int r)) M) args s 0 0 E.2.2.2) (F0 m 44 ls []) := by
  have hx := B.1
  have hb := B.2.1
  unfold fX8_wantedAt_j44 at h
  refine lv_iload_n hx hb dX8_wantedAt_44 rfl (lv_at hl 0 rfl) ?_
  exact r_iretP B hR hr hlk h dX8_wantedAt_45
def fX8_wantedAt_j38 (fu : Nat) (k7 : Int32 → Option Int32) (a0 : Nat) (x1 : Int32) (x2 : Int32) (x3 : Int32) (M : Mm) : Option Int32 :=
  lt (x3 + (-1)) fun x3_38 =>
  k7 x3_38
set_option maxRecDepth 100000 in
set_option maxHeartbeats 4000000 in
theorem wX8_wantedAt_j38 {r : Int32}  {k7 : Int32 → Option Int32} {a0 : Nat} {x1 : Int32} {x2 : Int32} {x3 : Int32} {M : Mm} (B : Bx p s m args c cX8_wantedAt 4 RX8 E L) (hr : meth.sig.returnType = (some .int)) (hlk : meth.locks = false) (ih7 : ∀ (x3 : Int32), k7 x3 = some r → ∀ (H : Heap) (locs : List Loc) (ls : Array Slot), Rx s E L M H locs → lv_has ls 4 [(0, .ref a0), (1, .int x1), (2, .int x2), (3, .int x3)] → W p l e (rmD (d + 0)) s m args below meth c H locs 0 0 (MQ below (QcM E L (some (.int r)) M) args s 0 0 E.2.2.2) (F0 m 7 ls [])) (h0 : At L a0 T8) (h : fX8_wantedAt_j38 fu k7 a0 x1 x2 x3 M = some r) (hR : Rx s E L M H locs) (hl : lv_has ls 4 [(0, .ref a0), (1, .int x1), (2, .int x2), (3, .int x3)]) : W p l e (rmD (d + 0)) s m args below meth c H locs 0 0 (MQ below (QcM E L (some (.int r)) M) args s 0 0 E.2.2.2) (F0 m 38 ls []) := by
  have hx := B.1
  have hb := B.2.1
  unfold fX8_wantedAt_j38 at h
  obtain ⟨x3_38, ex3_38, h⟩ := lt_el h
  refine lv_iinc (v := x3_38) (lv' := [(3, .int x3_38), (0, .ref a0), (1, .int x1), (2, .int x2)]) hx hb dX8_wantedAt_38 hl (k := 3) rfl (by rw [ex3_38]; rfl) (by decide) rfl (fun ls hl => ?_)
  refine lv_goto (tgt := 7) hx hb dX8_wantedAt_41 (by decide) ?_
  exact ih7 x3_38 h _ _ _ hR (lv_sub hl [1, 2, 3, 0] rfl)
def fX8_wantedAt_j31 (fu : Nat) (a0 : Nat) (x3 : Int32) (M : Mm) : Option Int32 :=
  if x3 < 0 ∨ 12 ≤ ix x3 then none else
  some (M.1 (a0 + 3) (ix x3))
set_option maxRecDepth 100000 in
set_option maxHeartbeats 4000000 in
theorem wX8_wantedAt_j31 {r : Int32}   {a0 : Nat} {x3 : Int32} {M : Mm} (B : Bx p s m args c cX8_wantedAt 4 RX8 E L) (hr : meth.sig.returnType = (some .int)) (hlk : meth.locks = false)  (h0 : At L a0 T8) (h : fX8_wantedAt_j31 fu a0 x3 M = some r) (hR : Rx s E L M H locs) (hl : lv_has ls 4 [(0, .ref a0), (3, .int x3)]) : W p l e (rmD (d + 0)) s m args below meth c H locs 0 0 (MQ below (QcM E L (some (.int r)) M) args s 0 0 E.2.2.2) (F0 m 31 ls []) := by
  have hx := B.1
  have hb := B.2.1
  unfold fX8_wantedAt_j31 at h
  refine lv_aload_n hx hb dX8_wantedAt_31 rfl (lv_at hl 0 rfl) ?_
  refine gf_X8_18 B hR (h0.at0 rfl) dX8_wantedAt_32 ?_
  refine lv_iload_n hx hb dX8_wantedAt_35 rfl (lv_at hl 1 rfl) ?_
  obtain ⟨hi_36, h⟩ := ifn_el h
  refine r_iald B hR (h0.at 3 rfl) hi_36 dX8_wantedAt_36 ?_
  exact r_iretP B hR hr hlk h dX8_wantedAt_37
def fX8_wantedAt_b7 (fu : Nat) (k7 : Int32 → Option Int32) (a0 : Nat) (x1 : Int32) (x2 : Int32) (x3 : Int32) (M : Mm) : Option Int32 :=
  if x3 < 0 then
    fX8_wantedAt_j44 fu x2 M
  else
    if x3 < 0 ∨ 12 ≤ ix x3 then none else
    if x1 < (M.1 (a0 + 1) (ix x3)) then
      fX8_wantedAt_j38 fu k7 a0 x1 x2 x3 M
    else
      if (M.1 (a0 + 2) (ix x3)) < x1 then
        fX8_wantedAt_j38 fu k7 a0 x1 x2 x3 M
      else
        fX8_wantedAt_j31 fu a0 x3 M
set_option maxRecDepth 100000 in
set_option maxHeartbeats 4000000 in
theorem wX8_wantedAt_b7 {r : Int32}   {k7 : Int32 → Option Int32} {a0 : Nat} {x1 : Int32} {x2 : Int32} {x3 : Int32} {M : Mm} (B : Bx p s m args c cX8_wantedAt 4 RX8 E L) (hr : meth.sig.returnType = (some .int)) (hlk : meth.locks = false)  (ih7 : ∀ (x3 : Int32), k7 x3 = some r → ∀ (H : Heap) (locs : List Loc) (ls : Array Slot), Rx s E L M H locs → lv_has ls 4 [(0, .ref a0), (1, .int x1), (2, .int x2), (3, .int x3)] → W p l e (rmD (d + 0)) s m args below meth c H locs 0 0 (MQ below (QcM E L (some (.int r)) M) args s 0 0 E.2.2.2) (F0 m 7 ls [])) (h0 : At L a0 T8) (h : fX8_wantedAt_b7 fu k7 a0 x1 x2 x3 M = some r) (hR : Rx s E L M H locs) (hl : lv_has ls 4 [(0, .ref a0), (1, .int x1), (2, .int x2), (3, .int x3)]) : W p l e (rmD (d + 0)) s m args below meth c H locs 0 0 (MQ below (QcM E L (some (.int r)) M) args s 0 0 E.2.2.2) (F0 m 7 ls []) := by
  have hx := B.1
  have hb := B.2.1
  unfold fX8_wantedAt_b7 at h
  refine lv_iload_n hx hb dX8_wantedAt_7 rfl (lv_at hl 3 rfl) ?_
  refine lv_if_lt (tgt := 44) hx hb dX8_wantedAt_8 (by decide) (fun c_8 => ?_) (fun c_8 => ?_)
  · rw [if_pos c_8] at h
    exact wX8_wantedAt_j44 B hr hlk  h hR (lv_sub hl [2] rfl)
  · rw [if_neg c_8] at h
    refine lv_aload_n hx hb dX8_wantedAt_11 rfl (lv_at hl 0 rfl) ?_
    refine gf_X8_9 B hR (h0.at0 rfl) dX8_wantedAt_12 ?_
    refine lv_iload_n hx hb dX8_wantedAt_15 rfl (lv_at hl 3 rfl) ?_
    obtain ⟨hi_16, h⟩ := ifn_el h
    refine r_iald B hR (h0.at 1 rfl) hi_16 dX8_wantedAt_16 ?_
    refine lv_iload_n hx hb dX8_wantedAt_17 rfl (lv_at hl 1 rfl) ?_
    refine lv_icmp_gt (tgt := 38) hx hb dX8_wantedAt_18 (by decide) (fun c_18 => ?_) (fun c_18 => ?_)
    · rw [if_pos c_18] at h
      exact wX8_wantedAt_j38 B hr hlk ih7 h0 h hR hl
    · rw [if_neg c_18] at h
      refine lv_iload_n hx hb dX8_wantedAt_21 rfl (lv_at hl 1 rfl) ?_
      refine lv_aload_n hx hb dX8_wantedAt_22 rfl (lv_at hl 0 rfl) ?_
      refine gf_X8_15 B hR (h0.at0 rfl) dX8_wantedAt_23 ?_
      refine lv_iload_n hx hb dX8_wantedAt_26 rfl (lv_at hl 3 rfl) ?_
      refine r_iald B hR (h0.at 2 rfl) hi_16 dX8_wantedAt_27 ?_
      refine lv_icmp_gt (tgt := 38) hx hb dX8_wantedAt_28 (by decide) (fun c_28 => ?_) (fun c_28 => ?_)
      · rw [if_pos c_28] at h
        exact wX8_wantedAt_j38 B hr hlk ih7 h0 h hR hl
      · rw [if_neg c_28] at h
        exact wX8_wantedAt_j31 B hr hlk h0 h hR (lv_sub hl [0, 3] rfl)
def fX8_wantedAt_l7 (fu : Nat) (a0 : Nat) (x1 : Int32) (x2 : Int32) (M : Mm) (x3 : Int32) : Option Int32 := lp (fun (rec : Int32 → Option Int32) (s : Int32) => fX8_wantedAt_b7 fu  (fun x3 => rec (x3)) a0 x1 x2 s M) fu (x3)
set_option maxRecDepth 100000 in
set_option maxHeartbeats 4000000 in
theorem wX8_wantedAt_l7 {r : Int32}   {a0 : Nat} {x1 : Int32} {x2 : Int32} {x3 : Int32} {M : Mm} (B : Bx p s m args c cX8_wantedAt 4 RX8 E L) (hr : meth.sig.returnType = (some .int)) (hlk : meth.locks = false)  (h0 : At L a0 T8) (h : fX8_wantedAt_l7 fu a0 x1 x2 M x3 = some r) (hR : Rx s E L M H locs) (hl : lv_has ls 4 [(0, .ref a0), (1, .int x1), (2, .int x2), (3, .int x3)]) : W p l e (rmD (d + 0)) s m args below meth c H locs 0 0 (MQ below (QcM E L (some (.int r)) M) args s 0 0 E.2.2.2) (F0 m 7 ls []) := by
  refine lp_G (G := fun z : Int32 => ∀ (H : Heap) (locs : List Loc) (ls : Array Slot), Rx s E L M H locs → lv_has ls 4 [(0, .ref a0), (1, .int x1), (2, .int x2), (3, .int z)] → W p l e (rmD (d + 0)) s m args below meth c H locs 0 0 (MQ below (QcM E L (some (.int r)) M) args s 0 0 E.2.2.2) (F0 m 7 ls [])) (fun rec ih z h H locs ls hR hl => ?_) fu _ h H locs ls hR hl
  exact wX8_wantedAt_b7 B hr hlk  (fun x3 h => ih (x3) h) h0 h hR hl
def fX8_wantedAt (fu : Nat) (a0 : Nat) (x1 : Int32) (x2 : Int32) (M : Mm) : Option Int32 :=
  lt (((M.1 a0 3) - 1)) fun x3_6 =>
  fX8_wantedAt_l7 fu a0 x1 x2 M x3_6
set_option maxRecDepth 100000 in
set_option maxHeartbeats 4000000 in
theorem mX8_wantedAt {l : Launch} {E : Ge} {L : Lay} (fu d : Nat) {a0 : Nat} {x1 : Int32} {x2 : Int32} {M : Mm} {r : Int32} (h0 : At L a0 T8) (h : fX8_wantedAt fu a0 x1 x2 M = some r) : Ct l E L yX8_wantedAt cX8_wantedAt 4 (some .int) (d + 0) [.ref a0, .int x1, .int x2] M (some (.int r)) M := by
  refine Ct.of (by decide) ?_
  intro p e s m below meth c hr hlk B hR
  have B : Bx p s m _ c cX8_wantedAt 4 RX8 E L := B
  have hx := B.1
  have hb := B.2.1
  have hl := lv_entry ([.ref a0, .int x1, .int x2]) (n := 4) (Nat.le_of_ble_eq_true rfl)
  rw [lg_entry_eq]
  generalize (lg_sl ([.ref a0, .int x1, .int x2]) ++ List.replicate (4 - (lg_sl ([.ref a0, .int x1, .int x2])).length) Slot.unset).toArray = ls at hl ⊢
  have hl : lv_has ls 4 [(0, .ref a0), (1, .int x1), (2, .int x2)] := hl
  unfold fX8_wantedAt at h
  refine lv_aload_n hx hb dX8_wantedAt_0 rfl (lv_at hl 0 rfl) ?_
  refine gf_X8_49 B hR (h0.at0 rfl) dX8_wantedAt_1 ?_
  refine lv_iconst (v := 1) hx hb dX8_wantedAt_4 (by decide) ?_
  refine lv_isub hx hb dX8_wantedAt_5 ?_
  obtain ⟨x3_6, ex3_6, h⟩ := lt_el h
  refine r_nmI ex3_6 ?_
  refine lv_istore_n (lv' := [(3, .int x3_6), (0, .ref a0), (1, .int x1), (2, .int x2)]) hx hb dX8_wantedAt_6 rfl hl (by decide) rfl (fun ls hl => ?_)
  exact wX8_wantedAt_l7 B hr hlk h0 h hR (lv_sub hl [1, 2, 3, 0] rfl)
def fX8_kindsOver_j68 (fu : Nat) (x3 : Int32) (M : Mm) : Option Int32 :=
  some x3
set_option maxRecDepth 100000 in
set_option maxHeartbeats 4000000 in
theorem wX8_kindsOver_j68 {r : Int32}   {x3 : Int32} {M : Mm} (B : Bx p s m args c cX8_kindsOver 5 RX8 E L) (hr : meth.sig.returnType = (some .int)) (hlk : meth.locks = false)   (h : fX8_kindsOver_j68 fu x3 M = some r) (hR : Rx s E L M H locs) (hl : lv_has ls 5 [(3, .int x3)]) : W p l e (rmD (d + 0)) s m args below meth c H locs 0 0 (MQ below (QcM E L (some (.int r)) M) args s 0 0 E.2.2.2) (F0 m 68 ls []) := by
  have hx := B.1
  have hb := B.2.1
  unfold fX8_kindsOver_j68 at h
  refine lv_iload_n hx hb dX8_kindsOver_68 rfl (lv_at hl 0 rfl) ?_
  exact r_iretP B hR hr hlk h dX8_kindsOver_69
def fX8_kindsOver_j62 (fu : Nat) (k5 : Int32 → Int32 → Option Int32) (a0 : Nat) (x1 : Int32) (x2 : Int32) (x3 : Int32) (x4 : Int32) (M : Mm) : Option Int32 :=
  lt (x4 + 1) fun x4_62 =>
  k5 x3 x4_62
set_option maxRecDepth 100000 in
set_option maxHeartbeats 4000000 in
theorem wX8_kindsOver_j62 {r : Int32}  {k5 : Int32 → Int32 → Option Int32} {a0 : Nat} {x1 : Int32} {x2 : Int32} {x3 : Int32} {x4 : Int32} {M : Mm} (B : Bx p s m args c cX8_kindsOver 5 RX8 E L) (hr : meth.sig.returnType = (some .int)) (hlk : meth.locks = false) (ih5 : ∀ (x3 : Int32) (x4 : Int32), k5 x3 x4 = some r → ∀ (H : Heap) (locs : List Loc) (ls : Array Slot), Rx s E L M H locs → lv_has ls 5 [(0, .ref a0), (1, .int x1), (2, .int x2), (3, .int x3), (4, .int x4)] → W p l e (rmD (d + 0)) s m args below meth c H locs 0 0 (MQ below (QcM E L (some (.int r)) M) args s 0 0 E.2.2.2) (F0 m 5 ls [])) (h0 : At L a0 T8) (h : fX8_kindsOver_j62 fu k5 a0 x1 x2 x3 x4 M = some r) (hR : Rx s E L M H locs) (hl : lv_has ls 5 [(0, .ref a0), (1, .int x1), (2, .int x2), (3, .int x3), (4, .int x4)]) : W p l e (rmD (d + 0)) s m args below meth c H locs 0 0 (MQ below (QcM E L (some (.int r)) M) args s 0 0 E.2.2.2) (F0 m 62 ls []) := by
  have hx := B.1
  have hb := B.2.1
  unfold fX8_kindsOver_j62 at h
  obtain ⟨x4_62, ex4_62, h⟩ := lt_el h
  refine lv_iinc (v := x4_62) (lv' := [(4, .int x4_62), (0, .ref a0), (1, .int x1), (2, .int x2), (3, .int x3)]) hx hb dX8_kindsOver_62 hl (k := 4) rfl (by rw [ex4_62]; rfl) (by decide) rfl (fun ls hl => ?_)
  refine lv_goto (tgt := 5) hx hb dX8_kindsOver_65 (by decide) ?_
  exact ih5 x3 x4_62 h _ _ _ hR (lv_sub hl [1, 2, 3, 4, 0] rfl)
def fX8_kindsOver_b5 (fu : Nat) (k5 : Int32 → Int32 → Option Int32) (a0 : Nat) (x1 : Int32) (x2 : Int32) (x3 : Int32) (x4 : Int32) (M : Mm) : Option Int32 :=
  if (M.1 a0 1) ≤ x4 then
    fX8_kindsOver_j68 fu x3 M
  else
    if x4 = x2 then
      fX8_kindsOver_j62 fu k5 a0 x1 x2 x3 x4 M
    else
      if x4 < 0 ∨ 10 ≤ ix x4 then none else
      if x1 < (M.1 (a0 + 5) (ix x4)) then
        fX8_kindsOver_j62 fu k5 a0 x1 x2 x3 x4 M
      else
        if ((M.1 (a0 + 5) (ix x4)) + (M.1 (a0 + 6) (ix x4))) ≤ x1 then
          fX8_kindsOver_j62 fu k5 a0 x1 x2 x3 x4 M
        else
          lt ((x3 ||| (1 <<< ((M.1 (a0 + 7) (ix x4)) &&& 31)))) fun x3_61 =>
          fX8_kindsOver_j62 fu k5 a0 x1 x2 x3_61 x4 M
set_option maxRecDepth 100000 in
set_option maxHeartbeats 4000000 in
theorem wX8_kindsOver_b5 {r : Int32}   {k5 : Int32 → Int32 → Option Int32} {a0 : Nat} {x1 : Int32} {x2 : Int32} {x3 : Int32} {x4 : Int32} {M : Mm} (B : Bx p s m args c cX8_kindsOver 5 RX8 E L) (hr : meth.sig.returnType = (some .int)) (hlk : meth.locks = false)  (ih5 : ∀ (x3 : Int32) (x4 : Int32), k5 x3 x4 = some r → ∀ (H : Heap) (locs : List Loc) (ls : Array Slot), Rx s E L M H locs → lv_has ls 5 [(0, .ref a0), (1, .int x1), (2, .int x2), (3, .int x3), (4, .int x4)] → W p l e (rmD (d + 0)) s m args below meth c H locs 0 0 (MQ below (QcM E L (some (.int r)) M) args s 0 0 E.2.2.2) (F0 m 5 ls [])) (h0 : At L a0 T8) (h : fX8_kindsOver_b5 fu k5 a0 x1 x2 x3 x4 M = some r) (hR : Rx s E L M H locs) (hl : lv_has ls 5 [(0, .ref a0), (1, .int x1), (2, .int x2), (3, .int x3), (4, .int x4)]) : W p l e (rmD (d + 0)) s m args below meth c H locs 0 0 (MQ below (QcM E L (some (.int r)) M) args s 0 0 E.2.2.2) (F0 m 5 ls []) := by
  have hx := B.1
  have hb := B.2.1
  unfold fX8_kindsOver_b5 at h
  refine lv_iload hx hb dX8_kindsOver_5 (lv_at hl 4 rfl) ?_
  refine lv_aload_n hx hb dX8_kindsOver_7 rfl (lv_at hl 0 rfl) ?_
  refine gf_X8_43 B hR (h0.at0 rfl) dX8_kindsOver_8 ?_
  refine lv_icmp_ge (tgt := 68) hx hb dX8_kindsOver_11 (by decide) (fun c_11 => ?_) (fun c_11 => ?_)
  · rw [if_pos c_11] at h
    exact wX8_kindsOver_j68 B hr hlk  h hR (lv_sub hl [3] rfl)
  · rw [if_neg c_11] at h
    refine lv_iload hx hb dX8_kindsOver_14 (lv_at hl 4 rfl) ?_
    refine lv_iload_n hx hb dX8_kindsOver_16 rfl (lv_at hl 2 rfl) ?_
    refine lv_icmp_eq (tgt := 62) hx hb dX8_kindsOver_17 (by decide) (fun c_17 => ?_) (fun c_17 => ?_)
    · rw [if_pos c_17] at h
      exact wX8_kindsOver_j62 B hr hlk ih5 h0 h hR hl
    · rw [if_neg c_17] at h
      refine lv_aload_n hx hb dX8_kindsOver_20 rfl (lv_at hl 0 rfl) ?_
      refine gf_X8_24 B hR (h0.at0 rfl) dX8_kindsOver_21 ?_
      refine lv_iload hx hb dX8_kindsOver_24 (lv_at hl 4 rfl) ?_
      obtain ⟨hi_26, h⟩ := ifn_el h
      refine r_iald B hR (h0.at 5 rfl) hi_26 dX8_kindsOver_26 ?_
      refine lv_iload_n hx hb dX8_kindsOver_27 rfl (lv_at hl 1 rfl) ?_
      refine lv_icmp_gt (tgt := 62) hx hb dX8_kindsOver_28 (by decide) (fun c_28 => ?_) (fun c_28 => ?_)
      · rw [if_pos c_28] at h
        exact wX8_kindsOver_j62 B hr hlk ih5 h0 h hR hl
      · rw [if_neg c_28] at h
        refine lv_iload_n hx hb dX8_kindsOver_31 rfl (lv_at hl 1 rfl) ?_
        refine lv_aload_n hx hb dX8_kindsOver_32 rfl (lv_at hl 0 rfl) ?_
        refine gf_X8_24 B hR (h0.at0 rfl) dX8_kindsOver_33 ?_
        refine lv_iload hx hb dX8_kindsOver_36 (lv_at hl 4 rfl) ?_
        refine r_iald B hR (h0.at 5 rfl) hi_26 dX8_kindsOver_38 ?_
        refine lv_aload_n hx hb dX8_kindsOver_39 rfl (lv_at hl 0 rfl) ?_
        refine gf_X8_27 B hR (h0.at0 rfl) dX8_kindsOver_40 ?_
        refine lv_iload hx hb dX8_kindsOver_43 (lv_at hl 4 rfl) ?_
        refine r_iald B hR (h0.at 6 rfl) hi_26 dX8_kindsOver_45 ?_
        refine lv_iadd hx hb dX8_kindsOver_46 ?_
        refine lv_icmp_ge (tgt := 62) hx hb dX8_kindsOver_47 (by decide) (fun c_47 => ?_) (fun c_47 => ?_)
        · rw [if_pos c_47] at h
          exact wX8_kindsOver_j62 B hr hlk ih5 h0 h hR hl
        · rw [if_neg c_47] at h
          refine lv_iload_n hx hb dX8_kindsOver_50 rfl (lv_at hl 3 rfl) ?_
          refine lv_iconst (v := 1) hx hb dX8_kindsOver_51 (by decide) ?_
          refine lv_aload_n hx hb dX8_kindsOver_52 rfl (lv_at hl 0 rfl) ?_
          refine gf_X8_30 B hR (h0.at0 rfl) dX8_kindsOver_53 ?_
          refine lv_iload hx hb dX8_kindsOver_56 (lv_at hl 4 rfl) ?_
          refine r_iald B hR (h0.at 7 rfl) hi_26 dX8_kindsOver_58 ?_
          refine lv_ishl hx hb dX8_kindsOver_59 ?_
          refine lv_ior hx hb dX8_kindsOver_60 ?_
          obtain ⟨x3_61, ex3_61, h⟩ := lt_el h
          refine r_nmI ex3_61 ?_
          refine lv_istore_n (lv' := [(3, .int x3_61), (0, .ref a0), (1, .int x1), (2, .int x2), (4, .int x4)]) hx hb dX8_kindsOver_61 rfl hl (by decide) rfl (fun ls hl => ?_)
          exact wX8_kindsOver_j62 B hr hlk ih5 h0 h hR (lv_sub hl [1, 2, 3, 0, 4] rfl)
def fX8_kindsOver_l5 (fu : Nat) (a0 : Nat) (x1 : Int32) (x2 : Int32) (M : Mm) (x3 : Int32) (x4 : Int32) : Option Int32 := lp (fun (rec : (Int32 × Int32) → Option Int32) (s : Int32 × Int32) => fX8_kindsOver_b5 fu  (fun x3 x4 => rec (x3, x4)) a0 x1 x2 s.1 s.2 M) fu (x3, x4)
set_option maxRecDepth 100000 in
set_option maxHeartbeats 4000000 in
theorem wX8_kindsOver_l5 {r : Int32}   {a0 : Nat} {x1 : Int32} {x2 : Int32} {x3 : Int32} {x4 : Int32} {M : Mm} (B : Bx p s m args c cX8_kindsOver 5 RX8 E L) (hr : meth.sig.returnType = (some .int)) (hlk : meth.locks = false)  (h0 : At L a0 T8) (h : fX8_kindsOver_l5 fu a0 x1 x2 M x3 x4 = some r) (hR : Rx s E L M H locs) (hl : lv_has ls 5 [(0, .ref a0), (1, .int x1), (2, .int x2), (3, .int x3), (4, .int x4)]) : W p l e (rmD (d + 0)) s m args below meth c H locs 0 0 (MQ below (QcM E L (some (.int r)) M) args s 0 0 E.2.2.2) (F0 m 5 ls []) := by
  refine lp_G (G := fun z : Int32 × Int32 => ∀ (H : Heap) (locs : List Loc) (ls : Array Slot), Rx s E L M H locs → lv_has ls 5 [(0, .ref a0), (1, .int x1), (2, .int x2), (3, .int z.1), (4, .int z.2)] → W p l e (rmD (d + 0)) s m args below meth c H locs 0 0 (MQ below (QcM E L (some (.int r)) M) args s 0 0 E.2.2.2) (F0 m 5 ls [])) (fun rec ih z h H locs ls hR hl => ?_) fu _ h H locs ls hR hl
  exact wX8_kindsOver_b5 B hr hlk  (fun x3 x4 h => ih (x3, x4) h) h0 h hR hl
def fX8_kindsOver (fu : Nat) (a0 : Nat) (x1 : Int32) (x2 : Int32) (M : Mm) : Option Int32 :=
  fX8_kindsOver_l5 fu a0 x1 x2 M 0 0
set_option maxRecDepth 100000 in
set_option maxHeartbeats 4000000 in
theorem mX8_kindsOver {l : Launch} {E : Ge} {L : Lay} (fu d : Nat) {a0 : Nat} {x1 : Int32} {x2 : Int32} {M : Mm} {r : Int32} (h0 : At L a0 T8) (h : fX8_kindsOver fu a0 x1 x2 M = some r) : Ct l E L yX8_kindsOver cX8_kindsOver 5 (some .int) (d + 0) [.ref a0, .int x1, .int x2] M (some (.int r)) M := by
  refine Ct.of (by decide) ?_
  intro p e s m below meth c hr hlk B hR
  have B : Bx p s m _ c cX8_kindsOver 5 RX8 E L := B
  have hx := B.1
  have hb := B.2.1
  have hl := lv_entry ([.ref a0, .int x1, .int x2]) (n := 5) (Nat.le_of_ble_eq_true rfl)
  rw [lg_entry_eq]
  generalize (lg_sl ([.ref a0, .int x1, .int x2]) ++ List.replicate (5 - (lg_sl ([.ref a0, .int x1, .int x2])).length) Slot.unset).toArray = ls at hl ⊢
  have hl : lv_has ls 5 [(0, .ref a0), (1, .int x1), (2, .int x2)] := hl
  unfold fX8_kindsOver at h
  refine lv_iconst (v := 0) hx hb dX8_kindsOver_0 (by decide) ?_
  refine lv_istore_n (lv' := [(3, .int 0), (0, .ref a0), (1, .int x1), (2, .int x2)]) hx hb dX8_kindsOver_1 rfl hl (by decide) rfl (fun ls hl => ?_)
  refine lv_iconst (v := 0) hx hb dX8_kindsOver_2 (by decide) ?_
  refine lv_istore (lv' := [(4, .int 0), (3, .int 0), (0, .ref a0), (1, .int x1), (2, .int x2)]) hx hb dX8_kindsOver_3 hl (by decide) rfl (fun ls hl => ?_)
  exact wX8_kindsOver_l5 B hr hlk h0 h hR (lv_sub hl [2, 3, 4, 1, 0] rfl)
def fX8_seenAs (fu : Nat) (a0 : Nat) (x1 : Int32) (x2 : Int32) (M : Mm) : Option Int32 :=
  if (x1 / 16) < 0 ∨ 64 ≤ ix (x1 / 16) then none else
  if (((M.1 (a0 + 8) (ix (x1 / 16))) * 6) + x2) < 0 ∨ 36 ≤ ix (((M.1 (a0 + 8) (ix (x1 / 16))) * 6) + x2) then none else
  some (seenT.getD (ix (((M.1 (a0 + 8) (ix (x1 / 16))) * 6) + x2)) 0)
set_option maxRecDepth 100000 in
set_option maxHeartbeats 4000000 in
theorem mX8_seenAs {l : Launch} {E : Ge} {L : Lay} (fu d : Nat) {a0 : Nat} {x1 : Int32} {x2 : Int32} {M : Mm} {r : Int32} (h0 : At L a0 T8) (h : fX8_seenAs fu a0 x1 x2 M = some r) : Ct l E L yX8_seenAs cX8_seenAs 3 (some .int) (d + 0) [.ref a0, .int x1, .int x2] M (some (.int r)) M := by
  refine Ct.of (by decide) ?_
  intro p e s m below meth c hr hlk B hR
  have B : Bx p s m _ c cX8_seenAs 3 RX8 E L := B
  have hx := B.1
  have hb := B.2.1
  have hl := lv_entry ([.ref a0, .int x1, .int x2]) (n := 3) (Nat.le_of_ble_eq_true rfl)
  rw [lg_entry_eq]
  generalize (lg_sl ([.ref a0, .int x1, .int x2]) ++ List.replicate (3 - (lg_sl ([.ref a0, .int x1, .int x2])).length) Slot.unset).toArray = ls at hl ⊢
  have hl : lv_has ls 3 [(0, .ref a0), (1, .int x1), (2, .int x2)] := hl
  unfold fX8_seenAs at h
  refine gs_X8_93 B hR dX8_seenAs_0 ?_
  refine lv_aload_n hx hb dX8_seenAs_3 rfl (lv_at hl 0 rfl) ?_
  refine gf_X8_33 B hR (h0.at0 rfl) dX8_seenAs_4 ?_
  refine lv_iload_n hx hb dX8_seenAs_7 rfl (lv_at hl 1 rfl) ?_
  refine lv_bipush (v := 16) hx hb dX8_seenAs_8 (by decide) ?_
  refine lv_idiv hx hb dX8_seenAs_10 (by decide) ?_
  obtain ⟨hi_11, h⟩ := ifn_el h
  refine r_iald B hR (h0.at 8 rfl) hi_11 dX8_seenAs_11 ?_
  refine lv_bipush (v := 6) hx hb dX8_seenAs_12 (by decide) ?_
  refine lv_imul hx hb dX8_seenAs_14 ?_
  refine lv_iload_n hx hb dX8_seenAs_15 rfl (lv_at hl 2 rfl) ?_
  refine lv_iadd hx hb dX8_seenAs_16 ?_
  obtain ⟨hi_17, h⟩ := ifn_el h
  refine r_tald B hR B.2.2.2.2.2.2.2.2.1.2 hi_17 dX8_seenAs_17 ?_
  exact r_iretP B hR hr hlk h dX8_seenAs_18
end G10_store_lean_txt
