theorem dX11_store_0 : decode cX11_store 0 = .ok (.iconst 1, 1) := by decide +kernel
theorem dX11_store_1 : decode cX11_store 1 = .ok (.aload_n 0, 1) := by decide +kernel
theorem dX11_store_2 : decode cX11_store 2 = .ok (.getfield 225, 3) := by decide +kernel
theorem dX11_store_5 : decode cX11_store 5 = .ok (.isub, 1) := by decide +kernel
theorem dX11_store_6 : decode cX11_store 6 = .ok (.istore_n 1, 1) := by decide +kernel
theorem dX11_store_7 : decode cX11_store 7 = .ok (.aload_n 0, 1) := by decide +kernel
theorem dX11_store_8 : decode cX11_store 8 = .ok (.aload_n 0, 1) := by decide +kernel
theorem dX11_store_9 : decode cX11_store 9 = .ok (.getfield 111, 3) := by decide +kernel
theorem dX11_store_12 : decode cX11_store 12 = .ok (.putfield 114, 3) := by decide +kernel
theorem dX11_store_15 : decode cX11_store 15 = .ok (.aload_n 0, 1) := by decide +kernel
theorem dX11_store_16 : decode cX11_store 16 = .ok (.iconst 0, 1) := by decide +kernel
theorem dX11_store_17 : decode cX11_store 17 = .ok (.putfield 111, 3) := by decide +kernel
theorem dX11_store_20 : decode cX11_store 20 = .ok (.aload_n 0, 1) := by decide +kernel
theorem dX11_store_21 : decode cX11_store 21 = .ok (.iconst 0, 1) := by decide +kernel
theorem dX11_store_22 : decode cX11_store 22 = .ok (.putfield 117, 3) := by decide +kernel
theorem dX11_store_25 : decode cX11_store 25 = .ok (.aload_n 0, 1) := by decide +kernel
theorem dX11_store_26 : decode cX11_store 26 = .ok (.iconst 0, 1) := by decide +kernel
theorem dX11_store_27 : decode cX11_store 27 = .ok (.putfield 157, 3) := by decide +kernel
theorem dX11_store_30 : decode cX11_store 30 = .ok (.aload_n 0, 1) := by decide +kernel
theorem dX11_store_31 : decode cX11_store 31 = .ok (.iconst (-1), 1) := by decide +kernel
theorem dX11_store_32 : decode cX11_store 32 = .ok (.putfield 160, 3) := by decide +kernel
theorem dX11_store_35 : decode cX11_store 35 = .ok (.aload_n 0, 1) := by decide +kernel
theorem dX11_store_36 : decode cX11_store 36 = .ok (.iconst 0, 1) := by decide +kernel
theorem dX11_store_37 : decode cX11_store 37 = .ok (.putfield 183, 3) := by decide +kernel
theorem dX11_store_40 : decode cX11_store 40 = .ok (.aload_n 0, 1) := by decide +kernel
theorem dX11_store_41 : decode cX11_store 41 = .ok (.iconst 0, 1) := by decide +kernel
theorem dX11_store_42 : decode cX11_store 42 = .ok (.putfield 186, 3) := by decide +kernel
theorem dX11_store_45 : decode cX11_store 45 = .ok (.aload_n 0, 1) := by decide +kernel
theorem dX11_store_46 : decode cX11_store 46 = .ok (.iload_n 1, 1) := by decide +kernel
theorem dX11_store_47 : decode cX11_store 47 = .ok (.invokevirtual 104, 3) := by decide +kernel
theorem dX11_store_50 : decode cX11_store 50 = .ok (.aload_n 0, 1) := by decide +kernel
theorem dX11_store_51 : decode cX11_store 51 = .ok (.iload_n 1, 1) := by decide +kernel
theorem dX11_store_52 : decode cX11_store 52 = .ok (.invokevirtual 228, 3) := by decide +kernel
theorem dX11_store_55 : decode cX11_store 55 = .ok (.aload_n 0, 1) := by decide +kernel
theorem dX11_store_56 : decode cX11_store 56 = .ok (.aload_n 0, 1) := by decide +kernel
theorem dX11_store_57 : decode cX11_store 57 = .ok (.getfield 157, 3) := by decide +kernel
theorem dX11_store_60 : decode cX11_store 60 = .ok (.putfield 231, 3) := by decide +kernel
theorem dX11_store_63 : decode cX11_store 63 = .ok (.aload_n 0, 1) := by decide +kernel
theorem dX11_store_64 : decode cX11_store 64 = .ok (.aload_n 0, 1) := by decide +kernel
theorem dX11_store_65 : decode cX11_store 65 = .ok (.getfield 160, 3) := by decide +kernel
theorem dX11_store_68 : decode cX11_store 68 = .ok (.putfield 29, 3) := by decide +kernel
theorem dX11_store_71 : decode cX11_store 71 = .ok (.aload_n 0, 1) := by decide +kernel
theorem dX11_store_72 : decode cX11_store 72 = .ok (.getfield 231, 3) := by decide +kernel
theorem dX11_store_75 : decode cX11_store 75 = .ok (.ifCond .le 5, 3) := by decide +kernel
theorem dX11_store_78 : decode cX11_store 78 = .ok (.iconst (-1), 1) := by decide +kernel
theorem dX11_store_79 : decode cX11_store 79 = .ok (.ireturn, 1) := by decide +kernel
theorem dX11_store_80 : decode cX11_store 80 = .ok (.aload_n 0, 1) := by decide +kernel
theorem dX11_store_81 : decode cX11_store 81 = .ok (.iload_n 1, 1) := by decide +kernel
theorem dX11_store_82 : decode cX11_store 82 = .ok (.putfield 225, 3) := by decide +kernel
theorem dX11_store_85 : decode cX11_store 85 = .ok (.aload_n 0, 1) := by decide +kernel
theorem dX11_store_86 : decode cX11_store 86 = .ok (.invokevirtual 108, 3) := by decide +kernel
theorem dX11_store_89 : decode cX11_store 89 = .ok (.aload_n 0, 1) := by decide +kernel
theorem dX11_store_90 : decode cX11_store 90 = .ok (.getfield 7, 3) := by decide +kernel
theorem dX11_store_93 : decode cX11_store 93 = .ok (.iconst 1, 1) := by decide +kernel
theorem dX11_store_94 : decode cX11_store 94 = .ok (.iaload, 1) := by decide +kernel
theorem dX11_store_95 : decode cX11_store 95 = .ok (.ireturn, 1) := by decide +kernel
theorem dX11_fault_0 : decode cX11_fault 0 = .ok (.iload_n 1, 1) := by decide +kernel
theorem dX11_fault_1 : decode cX11_fault 1 = .ok (.ifCond .ne 10, 3) := by decide +kernel
theorem dX11_fault_4 : decode cX11_fault 4 = .ok (.aload_n 0, 1) := by decide +kernel
theorem dX11_fault_5 : decode cX11_fault 5 = .ok (.getfield 231, 3) := by decide +kernel
theorem dX11_fault_8 : decode cX11_fault 8 = .ok (.goto 16, 3) := by decide +kernel
theorem dX11_fault_11 : decode cX11_fault 11 = .ok (.iload_n 1, 1) := by decide +kernel
theorem dX11_fault_12 : decode cX11_fault 12 = .ok (.iconst 1, 1) := by decide +kernel
theorem dX11_fault_13 : decode cX11_fault 13 = .ok (.if_icmp .ne 10, 3) := by decide +kernel
theorem dX11_fault_16 : decode cX11_fault 16 = .ok (.aload_n 0, 1) := by decide +kernel
theorem dX11_fault_17 : decode cX11_fault 17 = .ok (.getfield 29, 3) := by decide +kernel
theorem dX11_fault_20 : decode cX11_fault 20 = .ok (.goto 4, 3) := by decide +kernel
theorem dX11_fault_23 : decode cX11_fault 23 = .ok (.iconst (-1), 1) := by decide +kernel
theorem dX11_fault_24 : decode cX11_fault 24 = .ok (.ireturn, 1) := by decide +kernel
theorem dX11_addresses_0 : decode cX11_addresses 0 = .ok (.iconst 1, 1) := by decide +kernel
theorem dX11_addresses_1 : decode cX11_addresses 1 = .ok (.aload_n 0, 1) := by decide +kernel
theorem dX11_addresses_2 : decode cX11_addresses 2 = .ok (.getfield 13, 3) := by decide +kernel
theorem dX11_addresses_5 : decode cX11_addresses 5 = .ok (.aload_n 0, 1) := by decide +kernel
theorem dX11_addresses_6 : decode cX11_addresses 6 = .ok (.getfield 225, 3) := by decide +kernel
theorem dX11_addresses_9 : decode cX11_addresses 9 = .ok (.iaload, 1) := by decide +kernel
theorem dX11_addresses_10 : decode cX11_addresses 10 = .ok (.ishl, 1) := by decide +kernel
theorem dX11_addresses_11 : decode cX11_addresses 11 = .ok (.ireturn, 1) := by decide +kernel
theorem dX11_pages_0 : decode cX11_pages 0 = .ok (.aload_n 0, 1) := by decide +kernel
theorem dX11_pages_1 : decode cX11_pages 1 = .ok (.invokevirtual 240, 3) := by decide +kernel
theorem dX11_pages_4 : decode cX11_pages 4 = .ok (.bipush 16, 2) := by decide +kernel
theorem dX11_pages_6 : decode cX11_pages 6 = .ok (.idiv, 1) := by decide +kernel
theorem dX11_pages_7 : decode cX11_pages 7 = .ok (.ireturn, 1) := by decide +kernel
theorem dX11_isAddress_0 : decode cX11_isAddress 0 = .ok (.iload_n 1, 1) := by decide +kernel
theorem dX11_isAddress_1 : decode cX11_isAddress 1 = .ok (.iconst 0, 1) := by decide +kernel
theorem dX11_isAddress_2 : decode cX11_isAddress 2 = .ok (.aload_n 0, 1) := by decide +kernel
theorem dX11_isAddress_3 : decode cX11_isAddress 3 = .ok (.invokevirtual 240, 3) := by decide +kernel
theorem dX11_isAddress_6 : decode cX11_isAddress 6 = .ok (.iconst 1, 1) := by decide +kernel
theorem dX11_isAddress_7 : decode cX11_isAddress 7 = .ok (.isub, 1) := by decide +kernel
theorem dX11_isAddress_8 : decode cX11_isAddress 8 = .ok (.invokestatic 163, 3) := by decide +kernel
theorem dX11_isAddress_11 : decode cX11_isAddress 11 = .ok (.ireturn, 1) := by decide +kernel
theorem dX11_isKind_0 : decode cX11_isKind 0 = .ok (.iload_n 0, 1) := by decide +kernel
theorem dX11_isKind_1 : decode cX11_isKind 1 = .ok (.iconst 0, 1) := by decide +kernel
theorem dX11_isKind_2 : decode cX11_isKind 2 = .ok (.iconst 4, 1) := by decide +kernel
theorem dX11_isKind_3 : decode cX11_isKind 3 = .ok (.invokestatic 163, 3) := by decide +kernel
theorem dX11_isKind_6 : decode cX11_isKind 6 = .ok (.ireturn, 1) := by decide +kernel
theorem dX11_registersNow_0 : decode cX11_registersNow 0 = .ok (.aload_n 0, 1) := by decide +kernel
theorem dX11_registersNow_1 : decode cX11_registersNow 1 = .ok (.getfield 16, 3) := by decide +kernel
theorem dX11_registersNow_4 : decode cX11_registersNow 4 = .ok (.aload_n 0, 1) := by decide +kernel
theorem dX11_registersNow_5 : decode cX11_registersNow 5 = .ok (.getfield 225, 3) := by decide +kernel
theorem dX11_registersNow_8 : decode cX11_registersNow 8 = .ok (.iaload, 1) := by decide +kernel
theorem dX11_registersNow_9 : decode cX11_registersNow 9 = .ok (.ireturn, 1) := by decide +kernel
theorem dX11_isRegister_0 : decode cX11_isRegister 0 = .ok (.iload_n 1, 1) := by decide +kernel
theorem dX11_isRegister_1 : decode cX11_isRegister 1 = .ok (.iconst 0, 1) := by decide +kernel
theorem dX11_isRegister_2 : decode cX11_isRegister 2 = .ok (.aload_n 0, 1) := by decide +kernel
theorem dX11_isRegister_3 : decode cX11_isRegister 3 = .ok (.invokevirtual 243, 3) := by decide +kernel
theorem dX11_isRegister_6 : decode cX11_isRegister 6 = .ok (.iconst 1, 1) := by decide +kernel
theorem dX11_isRegister_7 : decode cX11_isRegister 7 = .ok (.isub, 1) := by decide +kernel
theorem dX11_isRegister_8 : decode cX11_isRegister 8 = .ok (.invokestatic 163, 3) := by decide +kernel
theorem dX11_isRegister_11 : decode cX11_isRegister 11 = .ok (.ireturn, 1) := by decide +kernel
theorem dX11_baseOf_0 : decode cX11_baseOf 0 = .ok (.aload_n 0, 1) := by decide +kernel
theorem dX11_baseOf_1 : decode cX11_baseOf 1 = .ok (.getfield 7, 3) := by decide +kernel
theorem dX11_baseOf_4 : decode cX11_baseOf 4 = .ok (.bipush 38, 2) := by decide +kernel
theorem dX11_baseOf_6 : decode cX11_baseOf 6 = .ok (.iconst 3, 1) := by decide +kernel
theorem dX11_baseOf_7 : decode cX11_baseOf 7 = .ok (.iload_n 1, 1) := by decide +kernel
theorem dX11_baseOf_8 : decode cX11_baseOf 8 = .ok (.imul, 1) := by decide +kernel
theorem dX11_baseOf_9 : decode cX11_baseOf 9 = .ok (.iadd, 1) := by decide +kernel
theorem dX11_baseOf_10 : decode cX11_baseOf 10 = .ok (.iaload, 1) := by decide +kernel
theorem dX11_baseOf_11 : decode cX11_baseOf 11 = .ok (.ireturn, 1) := by decide +kernel
theorem dX11_sizeOf_0 : decode cX11_sizeOf 0 = .ok (.aload_n 0, 1) := by decide +kernel
theorem dX11_sizeOf_1 : decode cX11_sizeOf 1 = .ok (.getfield 7, 3) := by decide +kernel
theorem dX11_sizeOf_4 : decode cX11_sizeOf 4 = .ok (.bipush 38, 2) := by decide +kernel
theorem dX11_sizeOf_6 : decode cX11_sizeOf 6 = .ok (.iconst 3, 1) := by decide +kernel
theorem dX11_sizeOf_7 : decode cX11_sizeOf 7 = .ok (.iload_n 1, 1) := by decide +kernel
theorem dX11_sizeOf_8 : decode cX11_sizeOf 8 = .ok (.imul, 1) := by decide +kernel
theorem dX11_sizeOf_9 : decode cX11_sizeOf 9 = .ok (.iadd, 1) := by decide +kernel
theorem dX11_sizeOf_10 : decode cX11_sizeOf 10 = .ok (.iconst 1, 1) := by decide +kernel
theorem dX11_sizeOf_11 : decode cX11_sizeOf 11 = .ok (.iadd, 1) := by decide +kernel
theorem dX11_sizeOf_12 : decode cX11_sizeOf 12 = .ok (.iaload, 1) := by decide +kernel
theorem dX11_sizeOf_13 : decode cX11_sizeOf 13 = .ok (.ireturn, 1) := by decide +kernel
theorem dX11_kindOf_0 : decode cX11_kindOf 0 = .ok (.aload_n 0, 1) := by decide +kernel
theorem dX11_kindOf_1 : decode cX11_kindOf 1 = .ok (.getfield 7, 3) := by decide +kernel
theorem dX11_kindOf_4 : decode cX11_kindOf 4 = .ok (.bipush 38, 2) := by decide +kernel
theorem dX11_kindOf_6 : decode cX11_kindOf 6 = .ok (.iconst 3, 1) := by decide +kernel
theorem dX11_kindOf_7 : decode cX11_kindOf 7 = .ok (.iload_n 1, 1) := by decide +kernel
theorem dX11_kindOf_8 : decode cX11_kindOf 8 = .ok (.imul, 1) := by decide +kernel
theorem dX11_kindOf_9 : decode cX11_kindOf 9 = .ok (.iadd, 1) := by decide +kernel
theorem dX11_kindOf_10 : decode cX11_kindOf 10 = .ok (.iconst 2, 1) := by decide +kernel
theorem dX11_kindOf_11 : decode cX11_kindOf 11 = .ok (.iadd, 1) := by decide +kernel
theorem dX11_kindOf_12 : decode cX11_kindOf 12 = .ok (.iaload, 1) := by decide +kernel
theorem dX11_kindOf_13 : decode cX11_kindOf 13 = .ok (.ireturn, 1) := by decide +kernel
theorem dX11_isSet_0 : decode cX11_isSet 0 = .ok (.aload_n 0, 1) := by decide +kernel
theorem dX11_isSet_1 : decode cX11_isSet 1 = .ok (.iload_n 1, 1) := by decide +kernel
theorem dX11_isSet_2 : decode cX11_isSet 2 = .ok (.invokevirtual 246, 3) := by decide +kernel
theorem dX11_isSet_5 : decode cX11_isSet 5 = .ok (.ifCond .eq 15, 3) := by decide +kernel
theorem dX11_isSet_8 : decode cX11_isSet 8 = .ok (.aload_n 0, 1) := by decide +kernel
theorem dX11_isSet_9 : decode cX11_isSet 9 = .ok (.iload_n 1, 1) := by decide +kernel
theorem dX11_isSet_10 : decode cX11_isSet 10 = .ok (.invokevirtual 249, 3) := by decide +kernel
theorem dX11_isSet_13 : decode cX11_isSet 13 = .ok (.ifCond .le 7, 3) := by decide +kernel
theorem dX11_isSet_16 : decode cX11_isSet 16 = .ok (.iconst 1, 1) := by decide +kernel
theorem dX11_isSet_17 : decode cX11_isSet 17 = .ok (.goto 4, 3) := by decide +kernel
theorem dX11_isSet_20 : decode cX11_isSet 20 = .ok (.iconst 0, 1) := by decide +kernel
theorem dX11_isSet_21 : decode cX11_isSet 21 = .ok (.ireturn, 1) := by decide +kernel
theorem dX11_isFixed_0 : decode cX11_isFixed 0 = .ok (.iload_n 1, 1) := by decide +kernel
theorem dX11_isFixed_1 : decode cX11_isFixed 1 = .ok (.aload_n 0, 1) := by decide +kernel
theorem dX11_isFixed_2 : decode cX11_isFixed 2 = .ok (.getfield 19, 3) := by decide +kernel
theorem dX11_isFixed_5 : decode cX11_isFixed 5 = .ok (.aload_n 0, 1) := by decide +kernel
theorem dX11_isFixed_6 : decode cX11_isFixed 6 = .ok (.getfield 225, 3) := by decide +kernel
theorem dX11_isFixed_9 : decode cX11_isFixed 9 = .ok (.iaload, 1) := by decide +kernel
theorem dX11_isFixed_10 : decode cX11_isFixed 10 = .ok (.if_icmp .ge 7, 3) := by decide +kernel
theorem dX11_isFixed_13 : decode cX11_isFixed 13 = .ok (.iconst 1, 1) := by decide +kernel
theorem dX11_isFixed_14 : decode cX11_isFixed 14 = .ok (.goto 4, 3) := by decide +kernel
theorem dX11_isFixed_17 : decode cX11_isFixed 17 = .ok (.iconst 0, 1) := by decide +kernel
theorem dX11_isFixed_18 : decode cX11_isFixed 18 = .ok (.ireturn, 1) := by decide +kernel
theorem dX11_wantedAt_0 : decode cX11_wantedAt 0 = .ok (.aload_n 0, 1) := by decide +kernel
theorem dX11_wantedAt_1 : decode cX11_wantedAt 1 = .ok (.getfield 7, 3) := by decide +kernel
theorem dX11_wantedAt_4 : decode cX11_wantedAt 4 = .ok (.iconst 0, 1) := by decide +kernel
theorem dX11_wantedAt_5 : decode cX11_wantedAt 5 = .ok (.iaload, 1) := by decide +kernel
theorem dX11_wantedAt_6 : decode cX11_wantedAt 6 = .ok (.istore_n 2, 1) := by decide +kernel
theorem dX11_wantedAt_7 : decode cX11_wantedAt 7 = .ok (.iconst 0, 1) := by decide +kernel
theorem dX11_wantedAt_8 : decode cX11_wantedAt 8 = .ok (.istore_n 3, 1) := by decide +kernel
theorem dX11_wantedAt_9 : decode cX11_wantedAt 9 = .ok (.iload_n 3, 1) := by decide +kernel
theorem dX11_wantedAt_10 : decode cX11_wantedAt 10 = .ok (.aload_n 0, 1) := by decide +kernel
theorem dX11_wantedAt_11 : decode cX11_wantedAt 11 = .ok (.getfield 7, 3) := by decide +kernel
theorem dX11_wantedAt_14 : decode cX11_wantedAt 14 = .ok (.iconst 1, 1) := by decide +kernel
theorem dX11_wantedAt_15 : decode cX11_wantedAt 15 = .ok (.iaload, 1) := by decide +kernel
theorem dX11_wantedAt_16 : decode cX11_wantedAt 16 = .ok (.if_icmp .ge 51, 3) := by decide +kernel
theorem dX11_wantedAt_19 : decode cX11_wantedAt 19 = .ok (.iload_n 1, 1) := by decide +kernel
theorem dX11_wantedAt_20 : decode cX11_wantedAt 20 = .ok (.aload_n 0, 1) := by decide +kernel
theorem dX11_wantedAt_21 : decode cX11_wantedAt 21 = .ok (.getfield 7, 3) := by decide +kernel
theorem dX11_wantedAt_24 : decode cX11_wantedAt 24 = .ok (.iconst 2, 1) := by decide +kernel
theorem dX11_wantedAt_25 : decode cX11_wantedAt 25 = .ok (.iconst 3, 1) := by decide +kernel
theorem dX11_wantedAt_26 : decode cX11_wantedAt 26 = .ok (.iload_n 3, 1) := by decide +kernel
theorem dX11_wantedAt_27 : decode cX11_wantedAt 27 = .ok (.imul, 1) := by decide +kernel
theorem dX11_wantedAt_28 : decode cX11_wantedAt 28 = .ok (.iadd, 1) := by decide +kernel
theorem dX11_wantedAt_29 : decode cX11_wantedAt 29 = .ok (.iaload, 1) := by decide +kernel
theorem dX11_wantedAt_30 : decode cX11_wantedAt 30 = .ok (.aload_n 0, 1) := by decide +kernel
theorem dX11_wantedAt_31 : decode cX11_wantedAt 31 = .ok (.getfield 7, 3) := by decide +kernel
theorem dX11_wantedAt_34 : decode cX11_wantedAt 34 = .ok (.iconst 2, 1) := by decide +kernel
theorem dX11_wantedAt_35 : decode cX11_wantedAt 35 = .ok (.iconst 3, 1) := by decide +kernel
theorem dX11_wantedAt_36 : decode cX11_wantedAt 36 = .ok (.iload_n 3, 1) := by decide +kernel
theorem dX11_wantedAt_37 : decode cX11_wantedAt 37 = .ok (.imul, 1) := by decide +kernel
theorem dX11_wantedAt_38 : decode cX11_wantedAt 38 = .ok (.iadd, 1) := by decide +kernel
theorem dX11_wantedAt_39 : decode cX11_wantedAt 39 = .ok (.iconst 1, 1) := by decide +kernel
theorem dX11_wantedAt_40 : decode cX11_wantedAt 40 = .ok (.iadd, 1) := by decide +kernel
theorem dX11_wantedAt_41 : decode cX11_wantedAt 41 = .ok (.iaload, 1) := by decide +kernel
theorem dX11_wantedAt_42 : decode cX11_wantedAt 42 = .ok (.invokestatic 163, 3) := by decide +kernel
theorem dX11_wantedAt_45 : decode cX11_wantedAt 45 = .ok (.ifCond .eq 16, 3) := by decide +kernel
theorem dX11_wantedAt_48 : decode cX11_wantedAt 48 = .ok (.aload_n 0, 1) := by decide +kernel
theorem dX11_wantedAt_49 : decode cX11_wantedAt 49 = .ok (.getfield 7, 3) := by decide +kernel
theorem dX11_wantedAt_52 : decode cX11_wantedAt 52 = .ok (.iconst 2, 1) := by decide +kernel
theorem dX11_wantedAt_53 : decode cX11_wantedAt 53 = .ok (.iconst 3, 1) := by decide +kernel
theorem dX11_wantedAt_54 : decode cX11_wantedAt 54 = .ok (.iload_n 3, 1) := by decide +kernel
theorem dX11_wantedAt_55 : decode cX11_wantedAt 55 = .ok (.imul, 1) := by decide +kernel
theorem dX11_wantedAt_56 : decode cX11_wantedAt 56 = .ok (.iadd, 1) := by decide +kernel
theorem dX11_wantedAt_57 : decode cX11_wantedAt 57 = .ok (.iconst 2, 1) := by decide +kernel
theorem dX11_wantedAt_58 : decode cX11_wantedAt 58 = .ok (.iadd, 1) := by decide +kernel
theorem dX11_wantedAt_59 : decode cX11_wantedAt 59 = .ok (.iaload, 1) := by decide +kernel
theorem dX11_wantedAt_60 : decode cX11_wantedAt 60 = .ok (.istore_n 2, 1) := by decide +kernel
theorem dX11_wantedAt_61 : decode cX11_wantedAt 61 = .ok (.iinc 3 1, 3) := by decide +kernel
theorem dX11_wantedAt_64 : decode cX11_wantedAt 64 = .ok (.goto (-55), 3) := by decide +kernel
theorem dX11_wantedAt_67 : decode cX11_wantedAt 67 = .ok (.iload_n 2, 1) := by decide +kernel
theorem dX11_wantedAt_68 : decode cX11_wantedAt 68 = .ok (.ireturn, 1) := by decide +kernel
theorem dX11_together_0 : decode cX11_together 0 = .ok (.iload_n 1, 1) := by decide +kernel
theorem dX11_together_1 : decode cX11_together 1 = .ok (.ifCond .ne 10, 3) := by decide +kernel
theorem dX11_together_4 : decode cX11_together 4 = .ok (.aload_n 0, 1) := by decide +kernel
theorem dX11_together_5 : decode cX11_together 5 = .ok (.getfield 7, 3) := by decide +kernel
theorem dX11_together_8 : decode cX11_together 8 = .ok (.iconst 0, 1) := by decide +kernel
theorem dX11_together_9 : decode cX11_together 9 = .ok (.iaload, 1) := by decide +kernel
theorem dX11_together_10 : decode cX11_together 10 = .ok (.ireturn, 1) := by decide +kernel
theorem dX11_together_11 : decode cX11_together 11 = .ok (.iload_n 1, 1) := by decide +kernel
theorem dX11_together_12 : decode cX11_together 12 = .ok (.iconst 1, 1) := by decide +kernel
theorem dX11_together_13 : decode cX11_together 13 = .ok (.iand, 1) := by decide +kernel
theorem dX11_together_14 : decode cX11_together 14 = .ok (.iconst 1, 1) := by decide +kernel
theorem dX11_together_15 : decode cX11_together 15 = .ok (.if_icmp .ne 5, 3) := by decide +kernel
theorem dX11_together_18 : decode cX11_together 18 = .ok (.iconst 0, 1) := by decide +kernel
theorem dX11_together_19 : decode cX11_together 19 = .ok (.ireturn, 1) := by decide +kernel
theorem dX11_together_20 : decode cX11_together 20 = .ok (.iload_n 1, 1) := by decide +kernel
theorem dX11_together_21 : decode cX11_together 21 = .ok (.bipush 20, 2) := by decide +kernel
theorem dX11_together_23 : decode cX11_together 23 = .ok (.if_icmp .ne 5, 3) := by decide +kernel
theorem dX11_together_26 : decode cX11_together 26 = .ok (.iconst 2, 1) := by decide +kernel
theorem dX11_together_27 : decode cX11_together 27 = .ok (.ireturn, 1) := by decide +kernel
theorem dX11_together_28 : decode cX11_together 28 = .ok (.iconst 1, 1) := by decide +kernel
theorem dX11_together_29 : decode cX11_together 29 = .ok (.istore_n 2, 1) := by decide +kernel
theorem dX11_together_30 : decode cX11_together 30 = .ok (.iload_n 2, 1) := by decide +kernel
theorem dX11_together_31 : decode cX11_together 31 = .ok (.iconst 5, 1) := by decide +kernel
theorem dX11_together_32 : decode cX11_together 32 = .ok (.if_icmp .ge 18, 3) := by decide +kernel
theorem dX11_together_35 : decode cX11_together 35 = .ok (.iload_n 1, 1) := by decide +kernel
theorem dX11_together_36 : decode cX11_together 36 = .ok (.iconst 1, 1) := by decide +kernel
theorem dX11_together_37 : decode cX11_together 37 = .ok (.iload_n 2, 1) := by decide +kernel
theorem dX11_together_38 : decode cX11_together 38 = .ok (.ishl, 1) := by decide +kernel
theorem dX11_together_39 : decode cX11_together 39 = .ok (.if_icmp .ne 5, 3) := by decide +kernel
theorem dX11_together_42 : decode cX11_together 42 = .ok (.iload_n 2, 1) := by decide +kernel
theorem dX11_together_43 : decode cX11_together 43 = .ok (.ireturn, 1) := by decide +kernel
theorem dX11_together_44 : decode cX11_together 44 = .ok (.iinc 2 1, 3) := by decide +kernel
theorem dX11_together_47 : decode cX11_together 47 = .ok (.goto (-17), 3) := by decide +kernel
theorem dX11_together_50 : decode cX11_together 50 = .ok (.iconst 5, 1) := by decide +kernel
theorem dX11_together_51 : decode cX11_together 51 = .ok (.ireturn, 1) := by decide +kernel
theorem dX11_hasIt_0 : decode cX11_hasIt 0 = .ok (.aload_n 0, 1) := by decide +kernel
theorem dX11_hasIt_1 : decode cX11_hasIt 1 = .ok (.iload_n 1, 1) := by decide +kernel
theorem dX11_hasIt_2 : decode cX11_hasIt 2 = .ok (.invokevirtual 249, 3) := by decide +kernel
theorem dX11_hasIt_5 : decode cX11_hasIt 5 = .ok (.ifCond .le 32, 3) := by decide +kernel
theorem dX11_hasIt_8 : decode cX11_hasIt 8 = .ok (.iload_n 2, 1) := by decide +kernel
theorem dX11_hasIt_9 : decode cX11_hasIt 9 = .ok (.aload_n 0, 1) := by decide +kernel
theorem dX11_hasIt_10 : decode cX11_hasIt 10 = .ok (.iload_n 1, 1) := by decide +kernel
theorem dX11_hasIt_11 : decode cX11_hasIt 11 = .ok (.invokevirtual 252, 3) := by decide +kernel
theorem dX11_hasIt_14 : decode cX11_hasIt 14 = .ok (.aload_n 0, 1) := by decide +kernel
theorem dX11_hasIt_15 : decode cX11_hasIt 15 = .ok (.iload_n 1, 1) := by decide +kernel
theorem dX11_hasIt_16 : decode cX11_hasIt 16 = .ok (.invokevirtual 252, 3) := by decide +kernel
theorem dX11_hasIt_19 : decode cX11_hasIt 19 = .ok (.aload_n 0, 1) := by decide +kernel
theorem dX11_hasIt_20 : decode cX11_hasIt 20 = .ok (.iload_n 1, 1) := by decide +kernel
theorem dX11_hasIt_21 : decode cX11_hasIt 21 = .ok (.invokevirtual 249, 3) := by decide +kernel
theorem dX11_hasIt_24 : decode cX11_hasIt 24 = .ok (.iadd, 1) := by decide +kernel
theorem dX11_hasIt_25 : decode cX11_hasIt 25 = .ok (.iconst 1, 1) := by decide +kernel
theorem dX11_hasIt_26 : decode cX11_hasIt 26 = .ok (.isub, 1) := by decide +kernel
theorem dX11_hasIt_27 : decode cX11_hasIt 27 = .ok (.invokestatic 163, 3) := by decide +kernel
theorem dX11_hasIt_30 : decode cX11_hasIt 30 = .ok (.ifCond .eq 7, 3) := by decide +kernel
theorem dX11_hasIt_33 : decode cX11_hasIt 33 = .ok (.iconst 1, 1) := by decide +kernel
theorem dX11_hasIt_34 : decode cX11_hasIt 34 = .ok (.goto 4, 3) := by decide +kernel
theorem dX11_hasIt_37 : decode cX11_hasIt 37 = .ok (.iconst 0, 1) := by decide +kernel
theorem dX11_hasIt_38 : decode cX11_hasIt 38 = .ok (.ireturn, 1) := by decide +kernel
theorem dX11_setAt_0 : decode cX11_setAt 0 = .ok (.iconst 0, 1) := by decide +kernel
theorem dX11_setAt_1 : decode cX11_setAt 1 = .ok (.istore_n 3, 1) := by decide +kernel
theorem dX11_setAt_2 : decode cX11_setAt 2 = .ok (.iconst 0, 1) := by decide +kernel
theorem dX11_setAt_3 : decode cX11_setAt 3 = .ok (.istore 4, 2) := by decide +kernel
theorem dX11_setAt_5 : decode cX11_setAt 5 = .ok (.iload 4, 2) := by decide +kernel
theorem dX11_setAt_7 : decode cX11_setAt 7 = .ok (.aload_n 0, 1) := by decide +kernel
theorem dX11_setAt_8 : decode cX11_setAt 8 = .ok (.invokevirtual 243, 3) := by decide +kernel
theorem dX11_setAt_11 : decode cX11_setAt 11 = .ok (.if_icmp .ge 36, 3) := by decide +kernel
theorem dX11_setAt_14 : decode cX11_setAt 14 = .ok (.iload 4, 2) := by decide +kernel
theorem dX11_setAt_16 : decode cX11_setAt 16 = .ok (.iload_n 2, 1) := by decide +kernel
theorem dX11_setAt_17 : decode cX11_setAt 17 = .ok (.if_icmp .eq 24, 3) := by decide +kernel
theorem dX11_setAt_20 : decode cX11_setAt 20 = .ok (.aload_n 0, 1) := by decide +kernel
theorem dX11_setAt_21 : decode cX11_setAt 21 = .ok (.iload 4, 2) := by decide +kernel
theorem dX11_setAt_23 : decode cX11_setAt 23 = .ok (.iload_n 1, 1) := by decide +kernel
theorem dX11_setAt_24 : decode cX11_setAt 24 = .ok (.invokevirtual 264, 3) := by decide +kernel
theorem dX11_setAt_27 : decode cX11_setAt 27 = .ok (.ifCond .eq 14, 3) := by decide +kernel
theorem dX11_setAt_30 : decode cX11_setAt 30 = .ok (.iload_n 3, 1) := by decide +kernel
theorem dX11_setAt_31 : decode cX11_setAt 31 = .ok (.iconst 1, 1) := by decide +kernel
theorem dX11_setAt_32 : decode cX11_setAt 32 = .ok (.aload_n 0, 1) := by decide +kernel
theorem dX11_setAt_33 : decode cX11_setAt 33 = .ok (.iload 4, 2) := by decide +kernel
theorem dX11_setAt_35 : decode cX11_setAt 35 = .ok (.invokevirtual 267, 3) := by decide +kernel
theorem dX11_setAt_38 : decode cX11_setAt 38 = .ok (.ishl, 1) := by decide +kernel
theorem dX11_setAt_39 : decode cX11_setAt 39 = .ok (.ior, 1) := by decide +kernel
theorem dX11_setAt_40 : decode cX11_setAt 40 = .ok (.istore_n 3, 1) := by decide +kernel
theorem dX11_setAt_41 : decode cX11_setAt 41 = .ok (.iinc 4 1, 3) := by decide +kernel
theorem dX11_setAt_44 : decode cX11_setAt 44 = .ok (.goto (-39), 3) := by decide +kernel
theorem dX11_setAt_47 : decode cX11_setAt 47 = .ok (.iload_n 3, 1) := by decide +kernel
theorem dX11_setAt_48 : decode cX11_setAt 48 = .ok (.ireturn, 1) := by decide +kernel
theorem dX11_kindWithout_0 : decode cX11_kindWithout 0 = .ok (.aload_n 0, 1) := by decide +kernel
theorem dX11_kindWithout_1 : decode cX11_kindWithout 1 = .ok (.iload_n 1, 1) := by decide +kernel
theorem dX11_kindWithout_2 : decode cX11_kindWithout 2 = .ok (.invokevirtual 255, 3) := by decide +kernel
theorem dX11_kindWithout_5 : decode cX11_kindWithout 5 = .ok (.ifCond .eq 26, 3) := by decide +kernel
theorem dX11_kindWithout_8 : decode cX11_kindWithout 8 = .ok (.aload_n 0, 1) := by decide +kernel
theorem dX11_kindWithout_9 : decode cX11_kindWithout 9 = .ok (.getfield 7, 3) := by decide +kernel
theorem dX11_kindWithout_12 : decode cX11_kindWithout 12 = .ok (.bipush 68, 2) := by decide +kernel
theorem dX11_kindWithout_14 : decode cX11_kindWithout 14 = .ok (.iload_n 1, 1) := by decide +kernel
theorem dX11_kindWithout_15 : decode cX11_kindWithout 15 = .ok (.aload_n 0, 1) := by decide +kernel
theorem dX11_kindWithout_16 : decode cX11_kindWithout 16 = .ok (.getfield 19, 3) := by decide +kernel
theorem dX11_kindWithout_19 : decode cX11_kindWithout 19 = .ok (.aload_n 0, 1) := by decide +kernel
theorem dX11_kindWithout_20 : decode cX11_kindWithout 20 = .ok (.getfield 225, 3) := by decide +kernel
theorem dX11_kindWithout_23 : decode cX11_kindWithout 23 = .ok (.iaload, 1) := by decide +kernel
theorem dX11_kindWithout_24 : decode cX11_kindWithout 24 = .ok (.bipush 8, 2) := by decide +kernel
theorem dX11_kindWithout_26 : decode cX11_kindWithout 26 = .ok (.idiv, 1) := by decide +kernel
theorem dX11_kindWithout_27 : decode cX11_kindWithout 27 = .ok (.idiv, 1) := by decide +kernel
theorem dX11_kindWithout_28 : decode cX11_kindWithout 28 = .ok (.iadd, 1) := by decide +kernel
theorem dX11_kindWithout_29 : decode cX11_kindWithout 29 = .ok (.iaload, 1) := by decide +kernel
theorem dX11_kindWithout_30 : decode cX11_kindWithout 30 = .ok (.ireturn, 1) := by decide +kernel
theorem dX11_kindWithout_31 : decode cX11_kindWithout 31 = .ok (.aload_n 0, 1) := by decide +kernel
theorem dX11_kindWithout_32 : decode cX11_kindWithout 32 = .ok (.aload_n 0, 1) := by decide +kernel
theorem dX11_kindWithout_33 : decode cX11_kindWithout 33 = .ok (.iload_n 1, 1) := by decide +kernel
theorem dX11_kindWithout_34 : decode cX11_kindWithout 34 = .ok (.iload_n 2, 1) := by decide +kernel
theorem dX11_kindWithout_35 : decode cX11_kindWithout 35 = .ok (.invokevirtual 258, 3) := by decide +kernel
theorem dX11_kindWithout_38 : decode cX11_kindWithout 38 = .ok (.invokevirtual 261, 3) := by decide +kernel
theorem dX11_kindWithout_41 : decode cX11_kindWithout 41 = .ok (.ireturn, 1) := by decide +kernel
theorem dX11_kindAt_0 : decode cX11_kindAt 0 = .ok (.aload_n 0, 1) := by decide +kernel
theorem dX11_kindAt_1 : decode cX11_kindAt 1 = .ok (.iload_n 1, 1) := by decide +kernel
theorem dX11_kindAt_2 : decode cX11_kindAt 2 = .ok (.iconst (-1), 1) := by decide +kernel
theorem dX11_kindAt_3 : decode cX11_kindAt 3 = .ok (.invokevirtual 270, 3) := by decide +kernel
theorem dX11_kindAt_6 : decode cX11_kindAt 6 = .ok (.ireturn, 1) := by decide +kernel
theorem dX11_seenAs_0 : decode cX11_seenAs 0 = .ok (.iload_n 0, 1) := by decide +kernel
theorem dX11_seenAs_1 : decode cX11_seenAs 1 = .ok (.iconst 5, 1) := by decide +kernel
theorem dX11_seenAs_2 : decode cX11_seenAs 2 = .ok (.if_icmp .ne 5, 3) := by decide +kernel
theorem dX11_seenAs_5 : decode cX11_seenAs 5 = .ok (.iload_n 1, 1) := by decide +kernel
theorem dX11_seenAs_6 : decode cX11_seenAs 6 = .ok (.ireturn, 1) := by decide +kernel
theorem dX11_seenAs_7 : decode cX11_seenAs 7 = .ok (.iload_n 1, 1) := by decide +kernel
theorem dX11_seenAs_8 : decode cX11_seenAs 8 = .ok (.iconst 5, 1) := by decide +kernel
theorem dX11_seenAs_9 : decode cX11_seenAs 9 = .ok (.if_icmp .ne 5, 3) := by decide +kernel
theorem dX11_seenAs_12 : decode cX11_seenAs 12 = .ok (.iconst 5, 1) := by decide +kernel
theorem dX11_seenAs_13 : decode cX11_seenAs 13 = .ok (.ireturn, 1) := by decide +kernel
theorem dX11_seenAs_14 : decode cX11_seenAs 14 = .ok (.iload_n 0, 1) := by decide +kernel
theorem dX11_seenAs_15 : decode cX11_seenAs 15 = .ok (.iconst 2, 1) := by decide +kernel
theorem dX11_seenAs_16 : decode cX11_seenAs 16 = .ok (.if_icmp .ne 8, 3) := by decide +kernel
theorem dX11_seenAs_19 : decode cX11_seenAs 19 = .ok (.iload_n 1, 1) := by decide +kernel
theorem dX11_seenAs_20 : decode cX11_seenAs 20 = .ok (.iconst 3, 1) := by decide +kernel
theorem dX11_seenAs_21 : decode cX11_seenAs 21 = .ok (.if_icmp .eq 13, 3) := by decide +kernel
theorem dX11_seenAs_24 : decode cX11_seenAs 24 = .ok (.iload_n 0, 1) := by decide +kernel
theorem dX11_seenAs_25 : decode cX11_seenAs 25 = .ok (.iconst 3, 1) := by decide +kernel
theorem dX11_seenAs_26 : decode cX11_seenAs 26 = .ok (.if_icmp .ne 12, 3) := by decide +kernel
theorem dX11_seenAs_29 : decode cX11_seenAs 29 = .ok (.iload_n 1, 1) := by decide +kernel
theorem dX11_seenAs_30 : decode cX11_seenAs 30 = .ok (.iconst 2, 1) := by decide +kernel
theorem dX11_seenAs_31 : decode cX11_seenAs 31 = .ok (.if_icmp .ne 7, 3) := by decide +kernel
theorem dX11_seenAs_34 : decode cX11_seenAs 34 = .ok (.iconst 0, 1) := by decide +kernel
theorem dX11_seenAs_35 : decode cX11_seenAs 35 = .ok (.goto 8, 3) := by decide +kernel
theorem dX11_seenAs_38 : decode cX11_seenAs 38 = .ok (.iload_n 0, 1) := by decide +kernel
theorem dX11_seenAs_39 : decode cX11_seenAs 39 = .ok (.iload_n 1, 1) := by decide +kernel
theorem dX11_seenAs_40 : decode cX11_seenAs 40 = .ok (.invokestatic 273, 3) := by decide +kernel
theorem dX11_seenAs_43 : decode cX11_seenAs 43 = .ok (.ireturn, 1) := by decide +kernel
theorem dX11_seenAt_0 : decode cX11_seenAt 0 = .ok (.aload_n 0, 1) := by decide +kernel
theorem dX11_seenAt_1 : decode cX11_seenAt 1 = .ok (.getfield 7, 3) := by decide +kernel
theorem dX11_seenAt_4 : decode cX11_seenAt 4 = .ok (.bipush 76, 2) := by decide +kernel
theorem dX11_seenAt_6 : decode cX11_seenAt 6 = .ok (.iload_n 1, 1) := by decide +kernel
theorem dX11_seenAt_7 : decode cX11_seenAt 7 = .ok (.bipush 16, 2) := by decide +kernel
theorem dX11_seenAt_9 : decode cX11_seenAt 9 = .ok (.idiv, 1) := by decide +kernel
theorem dX11_seenAt_10 : decode cX11_seenAt 10 = .ok (.iadd, 1) := by decide +kernel
theorem dX11_seenAt_11 : decode cX11_seenAt 11 = .ok (.iaload, 1) := by decide +kernel
theorem dX11_seenAt_12 : decode cX11_seenAt 12 = .ok (.aload_n 0, 1) := by decide +kernel
theorem dX11_seenAt_13 : decode cX11_seenAt 13 = .ok (.iload_n 1, 1) := by decide +kernel
theorem dX11_seenAt_14 : decode cX11_seenAt 14 = .ok (.invokevirtual 276, 3) := by decide +kernel
theorem dX11_seenAt_17 : decode cX11_seenAt 17 = .ok (.invokestatic 279, 3) := by decide +kernel
theorem dX11_seenAt_20 : decode cX11_seenAt 20 = .ok (.ireturn, 1) := by decide +kernel
theorem dX11_wanted_0 : decode cX11_wanted 0 = .ok (.aload_n 0, 1) := by decide +kernel
theorem dX11_wanted_1 : decode cX11_wanted 1 = .ok (.iload_n 1, 1) := by decide +kernel
theorem dX11_wanted_2 : decode cX11_wanted 2 = .ok (.invokevirtual 282, 3) := by decide +kernel
theorem dX11_wanted_5 : decode cX11_wanted 5 = .ok (.ifCond .eq 11, 3) := by decide +kernel
theorem dX11_wanted_8 : decode cX11_wanted 8 = .ok (.aload_n 0, 1) := by decide +kernel
theorem dX11_wanted_9 : decode cX11_wanted 9 = .ok (.iload_n 1, 1) := by decide +kernel
theorem dX11_wanted_10 : decode cX11_wanted 10 = .ok (.invokevirtual 285, 3) := by decide +kernel
theorem dX11_wanted_13 : decode cX11_wanted 13 = .ok (.goto 4, 3) := by decide +kernel
theorem dX11_wanted_16 : decode cX11_wanted 16 = .ok (.iconst (-1), 1) := by decide +kernel
theorem dX11_wanted_17 : decode cX11_wanted 17 = .ok (.ireturn, 1) := by decide +kernel
theorem dX11_kind_0 : decode cX11_kind 0 = .ok (.aload_n 0, 1) := by decide +kernel
theorem dX11_kind_1 : decode cX11_kind 1 = .ok (.iload_n 1, 1) := by decide +kernel
theorem dX11_kind_2 : decode cX11_kind 2 = .ok (.invokevirtual 282, 3) := by decide +kernel
theorem dX11_kind_5 : decode cX11_kind 5 = .ok (.ifCond .eq 11, 3) := by decide +kernel
theorem dX11_kind_8 : decode cX11_kind 8 = .ok (.aload_n 0, 1) := by decide +kernel
theorem dX11_kind_9 : decode cX11_kind 9 = .ok (.iload_n 1, 1) := by decide +kernel
theorem dX11_kind_10 : decode cX11_kind 10 = .ok (.invokevirtual 276, 3) := by decide +kernel
theorem dX11_kind_13 : decode cX11_kind 13 = .ok (.goto 4, 3) := by decide +kernel
theorem dX11_kind_16 : decode cX11_kind 16 = .ok (.iconst (-1), 1) := by decide +kernel
theorem dX11_kind_17 : decode cX11_kind 17 = .ok (.ireturn, 1) := by decide +kernel
theorem dX11_seen_0 : decode cX11_seen 0 = .ok (.aload_n 0, 1) := by decide +kernel
theorem dX11_seen_1 : decode cX11_seen 1 = .ok (.iload_n 1, 1) := by decide +kernel
theorem dX11_seen_2 : decode cX11_seen 2 = .ok (.invokevirtual 282, 3) := by decide +kernel
theorem dX11_seen_5 : decode cX11_seen 5 = .ok (.ifCond .eq 11, 3) := by decide +kernel
theorem dX11_seen_8 : decode cX11_seen 8 = .ok (.aload_n 0, 1) := by decide +kernel
theorem dX11_seen_9 : decode cX11_seen 9 = .ok (.iload_n 1, 1) := by decide +kernel
theorem dX11_seen_10 : decode cX11_seen 10 = .ok (.invokevirtual 288, 3) := by decide +kernel
theorem dX11_seen_13 : decode cX11_seen 13 = .ok (.goto 4, 3) := by decide +kernel
theorem dX11_seen_16 : decode cX11_seen 16 = .ok (.iconst (-1), 1) := by decide +kernel
theorem dX11_seen_17 : decode cX11_seen 17 = .ok (.ireturn, 1) := by decide +kernel
theorem dX11_paged_0 : decode cX11_paged 0 = .ok (.iload_n 1, 1) := by decide +kernel
theorem dX11_paged_1 : decode cX11_paged 1 = .ok (.iconst 0, 1) := by decide +kernel
theorem dX11_paged_2 : decode cX11_paged 2 = .ok (.aload_n 0, 1) := by decide +kernel
theorem dX11_paged_3 : decode cX11_paged 3 = .ok (.invokevirtual 291, 3) := by decide +kernel
theorem dX11_paged_6 : decode cX11_paged 6 = .ok (.iconst 1, 1) := by decide +kernel
theorem dX11_paged_7 : decode cX11_paged 7 = .ok (.isub, 1) := by decide +kernel
theorem dX11_paged_8 : decode cX11_paged 8 = .ok (.invokestatic 163, 3) := by decide +kernel
theorem dX11_paged_11 : decode cX11_paged 11 = .ok (.ifCond .eq 15, 3) := by decide +kernel
theorem dX11_paged_14 : decode cX11_paged 14 = .ok (.aload_n 0, 1) := by decide +kernel
theorem dX11_paged_15 : decode cX11_paged 15 = .ok (.getfield 7, 3) := by decide +kernel
theorem dX11_paged_18 : decode cX11_paged 18 = .ok (.bipush 76, 2) := by decide +kernel
theorem dX11_paged_20 : decode cX11_paged 20 = .ok (.iload_n 1, 1) := by decide +kernel
theorem dX11_paged_21 : decode cX11_paged 21 = .ok (.iadd, 1) := by decide +kernel
theorem dX11_paged_22 : decode cX11_paged 22 = .ok (.iaload, 1) := by decide +kernel
theorem dX11_paged_23 : decode cX11_paged 23 = .ok (.goto 4, 3) := by decide +kernel
theorem dX11_paged_26 : decode cX11_paged 26 = .ok (.iconst (-1), 1) := by decide +kernel
theorem dX11_paged_27 : decode cX11_paged 27 = .ok (.ireturn, 1) := by decide +kernel
theorem dX11_part_0 : decode cX11_part 0 = .ok (.aload_n 0, 1) := by decide +kernel
theorem dX11_part_1 : decode cX11_part 1 = .ok (.getfield 19, 3) := by decide +kernel
theorem dX11_part_4 : decode cX11_part 4 = .ok (.aload_n 0, 1) := by decide +kernel
theorem dX11_part_5 : decode cX11_part 5 = .ok (.getfield 225, 3) := by decide +kernel
theorem dX11_part_8 : decode cX11_part 8 = .ok (.iaload, 1) := by decide +kernel
theorem dX11_part_9 : decode cX11_part 9 = .ok (.ifCond .le 25, 3) := by decide +kernel
theorem dX11_part_12 : decode cX11_part 12 = .ok (.iload_n 1, 1) := by decide +kernel
theorem dX11_part_13 : decode cX11_part 13 = .ok (.iconst 0, 1) := by decide +kernel
theorem dX11_part_14 : decode cX11_part 14 = .ok (.bipush 7, 2) := by decide +kernel
theorem dX11_part_16 : decode cX11_part 16 = .ok (.invokestatic 163, 3) := by decide +kernel
theorem dX11_part_19 : decode cX11_part 19 = .ok (.ifCond .eq 15, 3) := by decide +kernel
theorem dX11_part_22 : decode cX11_part 22 = .ok (.aload_n 0, 1) := by decide +kernel
theorem dX11_part_23 : decode cX11_part 23 = .ok (.getfield 7, 3) := by decide +kernel
theorem dX11_part_26 : decode cX11_part 26 = .ok (.bipush 68, 2) := by decide +kernel
theorem dX11_part_28 : decode cX11_part 28 = .ok (.iload_n 1, 1) := by decide +kernel
theorem dX11_part_29 : decode cX11_part 29 = .ok (.iadd, 1) := by decide +kernel
theorem dX11_part_30 : decode cX11_part 30 = .ok (.iaload, 1) := by decide +kernel
theorem dX11_part_31 : decode cX11_part 31 = .ok (.goto 4, 3) := by decide +kernel
theorem dX11_part_34 : decode cX11_part 34 = .ok (.iconst (-1), 1) := by decide +kernel
theorem dX11_part_35 : decode cX11_part 35 = .ok (.ireturn, 1) := by decide +kernel
theorem dX11_told_0 : decode cX11_told 0 = .ok (.iload_n 1, 1) := by decide +kernel
theorem dX11_told_1 : decode cX11_told 1 = .ok (.iconst 0, 1) := by decide +kernel
theorem dX11_told_2 : decode cX11_told 2 = .ok (.aload_n 0, 1) := by decide +kernel
theorem dX11_told_3 : decode cX11_told 3 = .ok (.getfield 7, 3) := by decide +kernel
theorem dX11_told_6 : decode cX11_told 6 = .ok (.iconst 1, 1) := by decide +kernel
theorem dX11_told_7 : decode cX11_told 7 = .ok (.iaload, 1) := by decide +kernel
theorem dX11_told_8 : decode cX11_told 8 = .ok (.iconst 1, 1) := by decide +kernel
theorem dX11_told_9 : decode cX11_told 9 = .ok (.isub, 1) := by decide +kernel
theorem dX11_told_10 : decode cX11_told 10 = .ok (.invokestatic 163, 3) := by decide +kernel
theorem dX11_told_13 : decode cX11_told 13 = .ok (.ifCond .eq 27, 3) := by decide +kernel
theorem dX11_told_16 : decode cX11_told 16 = .ok (.iload_n 2, 1) := by decide +kernel
theorem dX11_told_17 : decode cX11_told 17 = .ok (.iconst 0, 1) := by decide +kernel
theorem dX11_told_18 : decode cX11_told 18 = .ok (.iconst 2, 1) := by decide +kernel
theorem dX11_told_19 : decode cX11_told 19 = .ok (.invokestatic 163, 3) := by decide +kernel
theorem dX11_told_22 : decode cX11_told 22 = .ok (.ifCond .eq 18, 3) := by decide +kernel
theorem dX11_told_25 : decode cX11_told 25 = .ok (.aload_n 0, 1) := by decide +kernel
theorem dX11_told_26 : decode cX11_told 26 = .ok (.getfield 7, 3) := by decide +kernel
theorem dX11_told_29 : decode cX11_told 29 = .ok (.iconst 2, 1) := by decide +kernel
theorem dX11_told_30 : decode cX11_told 30 = .ok (.iconst 3, 1) := by decide +kernel
theorem dX11_told_31 : decode cX11_told 31 = .ok (.iload_n 1, 1) := by decide +kernel
theorem dX11_told_32 : decode cX11_told 32 = .ok (.imul, 1) := by decide +kernel
theorem dX11_told_33 : decode cX11_told 33 = .ok (.iadd, 1) := by decide +kernel
theorem dX11_told_34 : decode cX11_told 34 = .ok (.iload_n 2, 1) := by decide +kernel
theorem dX11_told_35 : decode cX11_told 35 = .ok (.iadd, 1) := by decide +kernel
theorem dX11_told_36 : decode cX11_told 36 = .ok (.iaload, 1) := by decide +kernel
theorem dX11_told_37 : decode cX11_told 37 = .ok (.goto 4, 3) := by decide +kernel
theorem dX11_told_40 : decode cX11_told 40 = .ok (.iconst (-1), 1) := by decide +kernel
theorem dX11_told_41 : decode cX11_told 41 = .ok (.ireturn, 1) := by decide +kernel
theorem dX11_register_0 : decode cX11_register 0 = .ok (.aload_n 0, 1) := by decide +kernel
theorem dX11_register_1 : decode cX11_register 1 = .ok (.iload_n 1, 1) := by decide +kernel
theorem dX11_register_2 : decode cX11_register 2 = .ok (.invokevirtual 294, 3) := by decide +kernel
theorem dX11_register_5 : decode cX11_register 5 = .ok (.ifCond .eq 28, 3) := by decide +kernel
theorem dX11_register_8 : decode cX11_register 8 = .ok (.iload_n 2, 1) := by decide +kernel
theorem dX11_register_9 : decode cX11_register 9 = .ok (.iconst 0, 1) := by decide +kernel
theorem dX11_register_10 : decode cX11_register 10 = .ok (.iconst 2, 1) := by decide +kernel
theorem dX11_register_11 : decode cX11_register 11 = .ok (.invokestatic 163, 3) := by decide +kernel
theorem dX11_register_14 : decode cX11_register 14 = .ok (.ifCond .eq 19, 3) := by decide +kernel
theorem dX11_register_17 : decode cX11_register 17 = .ok (.aload_n 0, 1) := by decide +kernel
theorem dX11_register_18 : decode cX11_register 18 = .ok (.getfield 7, 3) := by decide +kernel
theorem dX11_register_21 : decode cX11_register 21 = .ok (.bipush 38, 2) := by decide +kernel
theorem dX11_register_23 : decode cX11_register 23 = .ok (.iconst 3, 1) := by decide +kernel
theorem dX11_register_24 : decode cX11_register 24 = .ok (.iload_n 1, 1) := by decide +kernel
theorem dX11_register_25 : decode cX11_register 25 = .ok (.imul, 1) := by decide +kernel
theorem dX11_register_26 : decode cX11_register 26 = .ok (.iadd, 1) := by decide +kernel
theorem dX11_register_27 : decode cX11_register 27 = .ok (.iload_n 2, 1) := by decide +kernel
theorem dX11_register_28 : decode cX11_register 28 = .ok (.iadd, 1) := by decide +kernel
theorem dX11_register_29 : decode cX11_register 29 = .ok (.iaload, 1) := by decide +kernel
theorem dX11_register_30 : decode cX11_register 30 = .ok (.goto 4, 3) := by decide +kernel
theorem dX11_register_33 : decode cX11_register 33 = .ok (.iconst (-1), 1) := by decide +kernel
theorem dX11_register_34 : decode cX11_register 34 = .ok (.ireturn, 1) := by decide +kernel
theorem dX11_runMany_0 : decode cX11_runMany 0 = .ok (.iconst 0, 1) := by decide +kernel
theorem dX11_runMany_1 : decode cX11_runMany 1 = .ok (.istore_n 1, 1) := by decide +kernel
theorem dX11_runMany_2 : decode cX11_runMany 2 = .ok (.iconst 0, 1) := by decide +kernel
theorem dX11_runMany_3 : decode cX11_runMany 3 = .ok (.istore_n 2, 1) := by decide +kernel
theorem dX11_runMany_4 : decode cX11_runMany 4 = .ok (.iload_n 2, 1) := by decide +kernel
theorem dX11_runMany_5 : decode cX11_runMany 5 = .ok (.aload_n 0, 1) := by decide +kernel
theorem dX11_runMany_6 : decode cX11_runMany 6 = .ok (.invokevirtual 240, 3) := by decide +kernel
theorem dX11_runMany_9 : decode cX11_runMany 9 = .ok (.if_icmp .ge 36, 3) := by decide +kernel
theorem dX11_runMany_12 : decode cX11_runMany 12 = .ok (.iload_n 1, 1) := by decide +kernel
theorem dX11_runMany_13 : decode cX11_runMany 13 = .ok (.iload_n 2, 1) := by decide +kernel
theorem dX11_runMany_14 : decode cX11_runMany 14 = .ok (.ifCond .eq 18, 3) := by decide +kernel
theorem dX11_runMany_17 : decode cX11_runMany 17 = .ok (.aload_n 0, 1) := by decide +kernel
theorem dX11_runMany_18 : decode cX11_runMany 18 = .ok (.iload_n 2, 1) := by decide +kernel
theorem dX11_runMany_19 : decode cX11_runMany 19 = .ok (.invokevirtual 285, 3) := by decide +kernel
theorem dX11_runMany_22 : decode cX11_runMany 22 = .ok (.aload_n 0, 1) := by decide +kernel
theorem dX11_runMany_23 : decode cX11_runMany 23 = .ok (.iload_n 2, 1) := by decide +kernel
theorem dX11_runMany_24 : decode cX11_runMany 24 = .ok (.iconst 1, 1) := by decide +kernel
theorem dX11_runMany_25 : decode cX11_runMany 25 = .ok (.isub, 1) := by decide +kernel
theorem dX11_runMany_26 : decode cX11_runMany 26 = .ok (.invokevirtual 285, 3) := by decide +kernel
theorem dX11_runMany_29 : decode cX11_runMany 29 = .ok (.if_icmp .eq 7, 3) := by decide +kernel
theorem dX11_runMany_32 : decode cX11_runMany 32 = .ok (.iconst 1, 1) := by decide +kernel
theorem dX11_runMany_33 : decode cX11_runMany 33 = .ok (.goto 4, 3) := by decide +kernel
theorem dX11_runMany_36 : decode cX11_runMany 36 = .ok (.iconst 0, 1) := by decide +kernel
theorem dX11_runMany_37 : decode cX11_runMany 37 = .ok (.iadd, 1) := by decide +kernel
theorem dX11_runMany_38 : decode cX11_runMany 38 = .ok (.istore_n 1, 1) := by decide +kernel
theorem dX11_runMany_39 : decode cX11_runMany 39 = .ok (.iinc 2 1, 3) := by decide +kernel
theorem dX11_runMany_42 : decode cX11_runMany 42 = .ok (.goto (-38), 3) := by decide +kernel
theorem dX11_runMany_45 : decode cX11_runMany 45 = .ok (.iload_n 1, 1) := by decide +kernel
theorem dX11_runMany_46 : decode cX11_runMany 46 = .ok (.ireturn, 1) := by decide +kernel
theorem dX11_runEnd_0 : decode cX11_runEnd 0 = .ok (.iload_n 1, 1) := by decide +kernel
theorem dX11_runEnd_1 : decode cX11_runEnd 1 = .ok (.istore_n 2, 1) := by decide +kernel
theorem dX11_runEnd_2 : decode cX11_runEnd 2 = .ok (.iload_n 2, 1) := by decide +kernel
theorem dX11_runEnd_3 : decode cX11_runEnd 3 = .ok (.iconst 1, 1) := by decide +kernel
theorem dX11_runEnd_4 : decode cX11_runEnd 4 = .ok (.iadd, 1) := by decide +kernel
theorem dX11_runEnd_5 : decode cX11_runEnd 5 = .ok (.aload_n 0, 1) := by decide +kernel
theorem dX11_runEnd_6 : decode cX11_runEnd 6 = .ok (.invokevirtual 240, 3) := by decide +kernel
theorem dX11_runEnd_9 : decode cX11_runEnd 9 = .ok (.if_icmp .ge 24, 3) := by decide +kernel
theorem dX11_runEnd_12 : decode cX11_runEnd 12 = .ok (.aload_n 0, 1) := by decide +kernel
theorem dX11_runEnd_13 : decode cX11_runEnd 13 = .ok (.iload_n 2, 1) := by decide +kernel
theorem dX11_runEnd_14 : decode cX11_runEnd 14 = .ok (.iconst 1, 1) := by decide +kernel
theorem dX11_runEnd_15 : decode cX11_runEnd 15 = .ok (.iadd, 1) := by decide +kernel
theorem dX11_runEnd_16 : decode cX11_runEnd 16 = .ok (.invokevirtual 285, 3) := by decide +kernel
theorem dX11_runEnd_19 : decode cX11_runEnd 19 = .ok (.aload_n 0, 1) := by decide +kernel
theorem dX11_runEnd_20 : decode cX11_runEnd 20 = .ok (.iload_n 1, 1) := by decide +kernel
theorem dX11_runEnd_21 : decode cX11_runEnd 21 = .ok (.invokevirtual 285, 3) := by decide +kernel
theorem dX11_runEnd_24 : decode cX11_runEnd 24 = .ok (.if_icmp .ne 9, 3) := by decide +kernel
theorem dX11_runEnd_27 : decode cX11_runEnd 27 = .ok (.iinc 2 1, 3) := by decide +kernel
theorem dX11_runEnd_30 : decode cX11_runEnd 30 = .ok (.goto (-28), 3) := by decide +kernel
theorem dX11_runEnd_33 : decode cX11_runEnd 33 = .ok (.iload_n 2, 1) := by decide +kernel
theorem dX11_runEnd_34 : decode cX11_runEnd 34 = .ok (.ireturn, 1) := by decide +kernel
theorem dX11_run_0 : decode cX11_run 0 = .ok (.iload_n 1, 1) := by decide +kernel
theorem dX11_run_1 : decode cX11_run 1 = .ok (.iconst (-1), 1) := by decide +kernel
theorem dX11_run_2 : decode cX11_run 2 = .ok (.if_icmp .ne 8, 3) := by decide +kernel
theorem dX11_run_5 : decode cX11_run 5 = .ok (.aload_n 0, 1) := by decide +kernel
theorem dX11_run_6 : decode cX11_run 6 = .ok (.invokevirtual 297, 3) := by decide +kernel
theorem dX11_run_9 : decode cX11_run 9 = .ok (.ireturn, 1) := by decide +kernel
theorem dX11_run_10 : decode cX11_run 10 = .ok (.iload_n 1, 1) := by decide +kernel
theorem dX11_run_11 : decode cX11_run 11 = .ok (.iconst 0, 1) := by decide +kernel
theorem dX11_run_12 : decode cX11_run 12 = .ok (.aload_n 0, 1) := by decide +kernel
theorem dX11_run_13 : decode cX11_run 13 = .ok (.invokevirtual 297, 3) := by decide +kernel
theorem dX11_run_16 : decode cX11_run 16 = .ok (.iconst 1, 1) := by decide +kernel
theorem dX11_run_17 : decode cX11_run 17 = .ok (.isub, 1) := by decide +kernel
theorem dX11_run_18 : decode cX11_run 18 = .ok (.invokestatic 163, 3) := by decide +kernel
theorem dX11_run_21 : decode cX11_run 21 = .ok (.ifCond .eq 12, 3) := by decide +kernel
theorem dX11_run_24 : decode cX11_run 24 = .ok (.iload_n 2, 1) := by decide +kernel
theorem dX11_run_25 : decode cX11_run 25 = .ok (.iconst 0, 1) := by decide +kernel
theorem dX11_run_26 : decode cX11_run 26 = .ok (.iconst 2, 1) := by decide +kernel
theorem dX11_run_27 : decode cX11_run 27 = .ok (.invokestatic 163, 3) := by decide +kernel
theorem dX11_run_30 : decode cX11_run 30 = .ok (.ifCond .ne 5, 3) := by decide +kernel
theorem dX11_run_33 : decode cX11_run 33 = .ok (.iconst (-1), 1) := by decide +kernel
theorem dX11_run_34 : decode cX11_run 34 = .ok (.ireturn, 1) := by decide +kernel
theorem dX11_run_35 : decode cX11_run 35 = .ok (.iconst 0, 1) := by decide +kernel
theorem dX11_run_36 : decode cX11_run 36 = .ok (.istore_n 3, 1) := by decide +kernel
theorem dX11_run_37 : decode cX11_run 37 = .ok (.iload_n 1, 1) := by decide +kernel
theorem dX11_run_38 : decode cX11_run 38 = .ok (.istore 4, 2) := by decide +kernel
theorem dX11_run_40 : decode cX11_run 40 = .ok (.iload 4, 2) := by decide +kernel
theorem dX11_run_42 : decode cX11_run 42 = .ok (.ifCond .le 17, 3) := by decide +kernel
theorem dX11_run_45 : decode cX11_run 45 = .ok (.aload_n 0, 1) := by decide +kernel
theorem dX11_run_46 : decode cX11_run 46 = .ok (.iload_n 3, 1) := by decide +kernel
theorem dX11_run_47 : decode cX11_run 47 = .ok (.invokevirtual 300, 3) := by decide +kernel
theorem dX11_run_50 : decode cX11_run 50 = .ok (.iconst 1, 1) := by decide +kernel
theorem dX11_run_51 : decode cX11_run 51 = .ok (.iadd, 1) := by decide +kernel
theorem dX11_run_52 : decode cX11_run 52 = .ok (.istore_n 3, 1) := by decide +kernel
theorem dX11_run_53 : decode cX11_run 53 = .ok (.iinc 4 (-1), 3) := by decide +kernel
theorem dX11_run_56 : decode cX11_run 56 = .ok (.goto (-16), 3) := by decide +kernel
theorem dX11_run_59 : decode cX11_run 59 = .ok (.iload_n 2, 1) := by decide +kernel
theorem dX11_run_60 : decode cX11_run 60 = .ok (.ifCond .ne 7, 3) := by decide +kernel
theorem dX11_run_63 : decode cX11_run 63 = .ok (.iload_n 3, 1) := by decide +kernel
theorem dX11_run_64 : decode cX11_run 64 = .ok (.goto 21, 3) := by decide +kernel
theorem dX11_run_67 : decode cX11_run 67 = .ok (.iload_n 2, 1) := by decide +kernel
theorem dX11_run_68 : decode cX11_run 68 = .ok (.iconst 1, 1) := by decide +kernel
theorem dX11_run_69 : decode cX11_run 69 = .ok (.if_icmp .ne 11, 3) := by decide +kernel
theorem dX11_run_72 : decode cX11_run 72 = .ok (.aload_n 0, 1) := by decide +kernel
theorem dX11_run_73 : decode cX11_run 73 = .ok (.iload_n 3, 1) := by decide +kernel
theorem dX11_run_74 : decode cX11_run 74 = .ok (.invokevirtual 300, 3) := by decide +kernel
theorem dX11_run_77 : decode cX11_run 77 = .ok (.goto 8, 3) := by decide +kernel
theorem dX11_run_80 : decode cX11_run 80 = .ok (.aload_n 0, 1) := by decide +kernel
theorem dX11_run_81 : decode cX11_run 81 = .ok (.iload_n 3, 1) := by decide +kernel
theorem dX11_run_82 : decode cX11_run 82 = .ok (.invokevirtual 285, 3) := by decide +kernel
theorem dX11_run_85 : decode cX11_run 85 = .ok (.ireturn, 1) := by decide +kernel
theorem dX11_strange_0 : decode cX11_strange 0 = .ok (.iload_n 1, 1) := by decide +kernel
theorem dX11_strange_1 : decode cX11_strange 1 = .ok (.iconst 0, 1) := by decide +kernel
theorem dX11_strange_2 : decode cX11_strange 2 = .ok (.iconst 1, 1) := by decide +kernel
theorem dX11_strange_3 : decode cX11_strange 3 = .ok (.invokestatic 163, 3) := by decide +kernel
theorem dX11_strange_6 : decode cX11_strange 6 = .ok (.ifCond .ne 5, 3) := by decide +kernel
theorem dX11_strange_9 : decode cX11_strange 9 = .ok (.iconst (-1), 1) := by decide +kernel
theorem dX11_strange_10 : decode cX11_strange 10 = .ok (.ireturn, 1) := by decide +kernel
theorem dX11_strange_11 : decode cX11_strange 11 = .ok (.iconst 0, 1) := by decide +kernel
theorem dX11_strange_12 : decode cX11_strange 12 = .ok (.istore_n 2, 1) := by decide +kernel
theorem dX11_strange_13 : decode cX11_strange 13 = .ok (.iconst (-1), 1) := by decide +kernel
theorem dX11_strange_14 : decode cX11_strange 14 = .ok (.istore_n 3, 1) := by decide +kernel
theorem dX11_strange_15 : decode cX11_strange 15 = .ok (.iconst 0, 1) := by decide +kernel
theorem dX11_strange_16 : decode cX11_strange 16 = .ok (.istore 4, 2) := by decide +kernel
theorem dX11_strange_18 : decode cX11_strange 18 = .ok (.iload 4, 2) := by decide +kernel
theorem dX11_strange_20 : decode cX11_strange 20 = .ok (.aload_n 0, 1) := by decide +kernel
theorem dX11_strange_21 : decode cX11_strange 21 = .ok (.invokevirtual 240, 3) := by decide +kernel
theorem dX11_strange_24 : decode cX11_strange 24 = .ok (.if_icmp .ge 41, 3) := by decide +kernel
theorem dX11_strange_27 : decode cX11_strange 27 = .ok (.aload_n 0, 1) := by decide +kernel
theorem dX11_strange_28 : decode cX11_strange 28 = .ok (.iload 4, 2) := by decide +kernel
theorem dX11_strange_30 : decode cX11_strange 30 = .ok (.invokevirtual 288, 3) := by decide +kernel
theorem dX11_strange_33 : decode cX11_strange 33 = .ok (.aload_n 0, 1) := by decide +kernel
theorem dX11_strange_34 : decode cX11_strange 34 = .ok (.iload 4, 2) := by decide +kernel
theorem dX11_strange_36 : decode cX11_strange 36 = .ok (.invokevirtual 285, 3) := by decide +kernel
theorem dX11_strange_39 : decode cX11_strange 39 = .ok (.if_icmp .ne 6, 3) := by decide +kernel
theorem dX11_strange_42 : decode cX11_strange 42 = .ok (.goto 17, 3) := by decide +kernel
theorem dX11_strange_45 : decode cX11_strange 45 = .ok (.iload_n 3, 1) := by decide +kernel
theorem dX11_strange_46 : decode cX11_strange 46 = .ok (.ifCond .ge 8, 3) := by decide +kernel
theorem dX11_strange_49 : decode cX11_strange 49 = .ok (.iload 4, 2) := by decide +kernel
theorem dX11_strange_51 : decode cX11_strange 51 = .ok (.goto 4, 3) := by decide +kernel
theorem dX11_strange_54 : decode cX11_strange 54 = .ok (.iload_n 3, 1) := by decide +kernel
theorem dX11_strange_55 : decode cX11_strange 55 = .ok (.istore_n 3, 1) := by decide +kernel
theorem dX11_strange_56 : decode cX11_strange 56 = .ok (.iinc 2 1, 3) := by decide +kernel
theorem dX11_strange_59 : decode cX11_strange 59 = .ok (.iinc 4 1, 3) := by decide +kernel
theorem dX11_strange_62 : decode cX11_strange 62 = .ok (.goto (-44), 3) := by decide +kernel
theorem dX11_strange_65 : decode cX11_strange 65 = .ok (.iload_n 1, 1) := by decide +kernel
theorem dX11_strange_66 : decode cX11_strange 66 = .ok (.ifCond .ne 7, 3) := by decide +kernel
theorem dX11_strange_69 : decode cX11_strange 69 = .ok (.iload_n 2, 1) := by decide +kernel
theorem dX11_strange_70 : decode cX11_strange 70 = .ok (.goto 4, 3) := by decide +kernel
theorem dX11_strange_73 : decode cX11_strange 73 = .ok (.iload_n 3, 1) := by decide +kernel
theorem dX11_strange_74 : decode cX11_strange 74 = .ok (.ireturn, 1) := by decide +kernel
theorem dX11_wrong_0 : decode cX11_wrong 0 = .ok (.iload_n 1, 1) := by decide +kernel
theorem dX11_wrong_1 : decode cX11_wrong 1 = .ok (.iconst 0, 1) := by decide +kernel
theorem dX11_wrong_2 : decode cX11_wrong 2 = .ok (.iconst 3, 1) := by decide +kernel
theorem dX11_wrong_3 : decode cX11_wrong 3 = .ok (.invokestatic 163, 3) := by decide +kernel
theorem dX11_wrong_6 : decode cX11_wrong 6 = .ok (.ifCond .ne 5, 3) := by decide +kernel
theorem dX11_wrong_9 : decode cX11_wrong 9 = .ok (.iconst (-1), 1) := by decide +kernel
theorem dX11_wrong_10 : decode cX11_wrong 10 = .ok (.ireturn, 1) := by decide +kernel
theorem dX11_wrong_11 : decode cX11_wrong 11 = .ok (.iconst 0, 1) := by decide +kernel
theorem dX11_wrong_12 : decode cX11_wrong 12 = .ok (.istore_n 2, 1) := by decide +kernel
theorem dX11_wrong_13 : decode cX11_wrong 13 = .ok (.iconst (-1), 1) := by decide +kernel
theorem dX11_wrong_14 : decode cX11_wrong 14 = .ok (.istore_n 3, 1) := by decide +kernel
theorem dX11_wrong_15 : decode cX11_wrong 15 = .ok (.iconst 0, 1) := by decide +kernel
theorem dX11_wrong_16 : decode cX11_wrong 16 = .ok (.istore 4, 2) := by decide +kernel
theorem dX11_wrong_18 : decode cX11_wrong 18 = .ok (.iconst 0, 1) := by decide +kernel
theorem dX11_wrong_19 : decode cX11_wrong 19 = .ok (.istore 5, 2) := by decide +kernel
theorem dX11_wrong_21 : decode cX11_wrong 21 = .ok (.iconst 0, 1) := by decide +kernel
theorem dX11_wrong_22 : decode cX11_wrong 22 = .ok (.istore 6, 2) := by decide +kernel
theorem dX11_wrong_24 : decode cX11_wrong 24 = .ok (.iload 6, 2) := by decide +kernel
theorem dX11_wrong_26 : decode cX11_wrong 26 = .ok (.aload_n 0, 1) := by decide +kernel
theorem dX11_wrong_27 : decode cX11_wrong 27 = .ok (.invokevirtual 240, 3) := by decide +kernel
theorem dX11_wrong_30 : decode cX11_wrong 30 = .ok (.if_icmp .ge 103, 3) := by decide +kernel
theorem dX11_wrong_33 : decode cX11_wrong 33 = .ok (.iload 4, 2) := by decide +kernel
theorem dX11_wrong_35 : decode cX11_wrong 35 = .ok (.aload_n 0, 1) := by decide +kernel
theorem dX11_wrong_36 : decode cX11_wrong 36 = .ok (.iload 6, 2) := by decide +kernel
theorem dX11_wrong_38 : decode cX11_wrong 38 = .ok (.invokevirtual 276, 3) := by decide +kernel
theorem dX11_wrong_41 : decode cX11_wrong 41 = .ok (.iconst 5, 1) := by decide +kernel
theorem dX11_wrong_42 : decode cX11_wrong 42 = .ok (.if_icmp .ne 7, 3) := by decide +kernel
theorem dX11_wrong_45 : decode cX11_wrong 45 = .ok (.iconst 1, 1) := by decide +kernel
theorem dX11_wrong_46 : decode cX11_wrong 46 = .ok (.goto 4, 3) := by decide +kernel
theorem dX11_wrong_49 : decode cX11_wrong 49 = .ok (.iconst 0, 1) := by decide +kernel
theorem dX11_wrong_50 : decode cX11_wrong 50 = .ok (.iadd, 1) := by decide +kernel
theorem dX11_wrong_51 : decode cX11_wrong 51 = .ok (.istore 4, 2) := by decide +kernel
theorem dX11_wrong_53 : decode cX11_wrong 53 = .ok (.aload_n 0, 1) := by decide +kernel
theorem dX11_wrong_54 : decode cX11_wrong 54 = .ok (.iload 6, 2) := by decide +kernel
theorem dX11_wrong_56 : decode cX11_wrong 56 = .ok (.invokevirtual 276, 3) := by decide +kernel
theorem dX11_wrong_59 : decode cX11_wrong 59 = .ok (.aload_n 0, 1) := by decide +kernel
theorem dX11_wrong_60 : decode cX11_wrong 60 = .ok (.iload 6, 2) := by decide +kernel
theorem dX11_wrong_62 : decode cX11_wrong 62 = .ok (.invokevirtual 285, 3) := by decide +kernel
theorem dX11_wrong_65 : decode cX11_wrong 65 = .ok (.if_icmp .ne 6, 3) := by decide +kernel
theorem dX11_wrong_68 : decode cX11_wrong 68 = .ok (.goto 59, 3) := by decide +kernel
theorem dX11_wrong_71 : decode cX11_wrong 71 = .ok (.iload 5, 2) := by decide +kernel
theorem dX11_wrong_73 : decode cX11_wrong 73 = .ok (.aload_n 0, 1) := by decide +kernel
theorem dX11_wrong_74 : decode cX11_wrong 74 = .ok (.iload 6, 2) := by decide +kernel
theorem dX11_wrong_76 : decode cX11_wrong 76 = .ok (.invokevirtual 255, 3) := by decide +kernel
theorem dX11_wrong_79 : decode cX11_wrong 79 = .ok (.ifCond .eq 7, 3) := by decide +kernel
theorem dX11_wrong_82 : decode cX11_wrong 82 = .ok (.iconst 1, 1) := by decide +kernel
theorem dX11_wrong_83 : decode cX11_wrong 83 = .ok (.goto 4, 3) := by decide +kernel
theorem dX11_wrong_86 : decode cX11_wrong 86 = .ok (.iconst 0, 1) := by decide +kernel
theorem dX11_wrong_87 : decode cX11_wrong 87 = .ok (.iadd, 1) := by decide +kernel
theorem dX11_wrong_88 : decode cX11_wrong 88 = .ok (.istore 5, 2) := by decide +kernel
theorem dX11_wrong_90 : decode cX11_wrong 90 = .ok (.iload_n 2, 1) := by decide +kernel
theorem dX11_wrong_91 : decode cX11_wrong 91 = .ok (.aload_n 0, 1) := by decide +kernel
theorem dX11_wrong_92 : decode cX11_wrong 92 = .ok (.iload 6, 2) := by decide +kernel
theorem dX11_wrong_94 : decode cX11_wrong 94 = .ok (.invokevirtual 255, 3) := by decide +kernel
theorem dX11_wrong_97 : decode cX11_wrong 97 = .ok (.ifCond .eq 7, 3) := by decide +kernel
theorem dX11_wrong_100 : decode cX11_wrong 100 = .ok (.iconst 0, 1) := by decide +kernel
theorem dX11_wrong_101 : decode cX11_wrong 101 = .ok (.goto 4, 3) := by decide +kernel
theorem dX11_wrong_104 : decode cX11_wrong 104 = .ok (.iconst 1, 1) := by decide +kernel
theorem dX11_wrong_105 : decode cX11_wrong 105 = .ok (.iadd, 1) := by decide +kernel
theorem dX11_wrong_106 : decode cX11_wrong 106 = .ok (.istore_n 2, 1) := by decide +kernel
theorem dX11_wrong_107 : decode cX11_wrong 107 = .ok (.iload_n 3, 1) := by decide +kernel
theorem dX11_wrong_108 : decode cX11_wrong 108 = .ok (.ifCond .ge 17, 3) := by decide +kernel
theorem dX11_wrong_111 : decode cX11_wrong 111 = .ok (.aload_n 0, 1) := by decide +kernel
theorem dX11_wrong_112 : decode cX11_wrong 112 = .ok (.iload 6, 2) := by decide +kernel
theorem dX11_wrong_114 : decode cX11_wrong 114 = .ok (.invokevirtual 255, 3) := by decide +kernel
theorem dX11_wrong_117 : decode cX11_wrong 117 = .ok (.ifCond .ne 8, 3) := by decide +kernel
theorem dX11_wrong_120 : decode cX11_wrong 120 = .ok (.iload 6, 2) := by decide +kernel
theorem dX11_wrong_122 : decode cX11_wrong 122 = .ok (.goto 4, 3) := by decide +kernel
theorem dX11_wrong_125 : decode cX11_wrong 125 = .ok (.iload_n 3, 1) := by decide +kernel
theorem dX11_wrong_126 : decode cX11_wrong 126 = .ok (.istore_n 3, 1) := by decide +kernel
theorem dX11_wrong_127 : decode cX11_wrong 127 = .ok (.iinc 6 1, 3) := by decide +kernel
theorem dX11_wrong_130 : decode cX11_wrong 130 = .ok (.goto (-106), 3) := by decide +kernel
theorem dX11_wrong_133 : decode cX11_wrong 133 = .ok (.iload_n 1, 1) := by decide +kernel
theorem dX11_wrong_134 : decode cX11_wrong 134 = .ok (.ifCond .ne 7, 3) := by decide +kernel
theorem dX11_wrong_137 : decode cX11_wrong 137 = .ok (.iload_n 2, 1) := by decide +kernel
theorem dX11_wrong_138 : decode cX11_wrong 138 = .ok (.goto 24, 3) := by decide +kernel
theorem dX11_wrong_141 : decode cX11_wrong 141 = .ok (.iload_n 1, 1) := by decide +kernel
theorem dX11_wrong_142 : decode cX11_wrong 142 = .ok (.iconst 1, 1) := by decide +kernel
theorem dX11_wrong_143 : decode cX11_wrong 143 = .ok (.if_icmp .ne 7, 3) := by decide +kernel
theorem dX11_wrong_146 : decode cX11_wrong 146 = .ok (.iload_n 3, 1) := by decide +kernel
theorem dX11_wrong_147 : decode cX11_wrong 147 = .ok (.goto 15, 3) := by decide +kernel
theorem dX11_wrong_150 : decode cX11_wrong 150 = .ok (.iload_n 1, 1) := by decide +kernel
theorem dX11_wrong_151 : decode cX11_wrong 151 = .ok (.iconst 2, 1) := by decide +kernel
theorem dX11_wrong_152 : decode cX11_wrong 152 = .ok (.if_icmp .ne 8, 3) := by decide +kernel
theorem dX11_wrong_155 : decode cX11_wrong 155 = .ok (.iload 4, 2) := by decide +kernel
theorem dX11_wrong_157 : decode cX11_wrong 157 = .ok (.goto 5, 3) := by decide +kernel
theorem dX11_wrong_160 : decode cX11_wrong 160 = .ok (.iload 5, 2) := by decide +kernel
theorem dX11_wrong_162 : decode cX11_wrong 162 = .ok (.ireturn, 1) := by decide +kernel
theorem dX11_isMended_0 : decode cX11_isMended 0 = .ok (.bipush 16, 2) := by decide +kernel
theorem dX11_isMended_2 : decode cX11_isMended 2 = .ok (.iload_n 1, 1) := by decide +kernel
theorem dX11_isMended_3 : decode cX11_isMended 3 = .ok (.imul, 1) := by decide +kernel
theorem dX11_isMended_4 : decode cX11_isMended 4 = .ok (.istore_n 3, 1) := by decide +kernel
theorem dX11_isMended_5 : decode cX11_isMended 5 = .ok (.iload_n 3, 1) := by decide +kernel
theorem dX11_isMended_6 : decode cX11_isMended 6 = .ok (.bipush 16, 2) := by decide +kernel
theorem dX11_isMended_8 : decode cX11_isMended 8 = .ok (.iload_n 1, 1) := by decide +kernel
theorem dX11_isMended_9 : decode cX11_isMended 9 = .ok (.imul, 1) := by decide +kernel
theorem dX11_isMended_10 : decode cX11_isMended 10 = .ok (.bipush 16, 2) := by decide +kernel
theorem dX11_isMended_12 : decode cX11_isMended 12 = .ok (.iadd, 1) := by decide +kernel
theorem dX11_isMended_13 : decode cX11_isMended 13 = .ok (.if_icmp .ge 36, 3) := by decide +kernel
theorem dX11_isMended_16 : decode cX11_isMended 16 = .ok (.aload_n 0, 1) := by decide +kernel
theorem dX11_isMended_17 : decode cX11_isMended 17 = .ok (.iload_n 3, 1) := by decide +kernel
theorem dX11_isMended_18 : decode cX11_isMended 18 = .ok (.invokevirtual 255, 3) := by decide +kernel
theorem dX11_isMended_21 : decode cX11_isMended 21 = .ok (.ifCond .ne 22, 3) := by decide +kernel
theorem dX11_isMended_24 : decode cX11_isMended 24 = .ok (.iload_n 2, 1) := by decide +kernel
theorem dX11_isMended_25 : decode cX11_isMended 25 = .ok (.aload_n 0, 1) := by decide +kernel
theorem dX11_isMended_26 : decode cX11_isMended 26 = .ok (.iload_n 3, 1) := by decide +kernel
theorem dX11_isMended_27 : decode cX11_isMended 27 = .ok (.invokevirtual 276, 3) := by decide +kernel
theorem dX11_isMended_30 : decode cX11_isMended 30 = .ok (.invokestatic 279, 3) := by decide +kernel
theorem dX11_isMended_33 : decode cX11_isMended 33 = .ok (.aload_n 0, 1) := by decide +kernel
theorem dX11_isMended_34 : decode cX11_isMended 34 = .ok (.iload_n 3, 1) := by decide +kernel
theorem dX11_isMended_35 : decode cX11_isMended 35 = .ok (.invokevirtual 285, 3) := by decide +kernel
theorem dX11_isMended_38 : decode cX11_isMended 38 = .ok (.if_icmp .eq 5, 3) := by decide +kernel
theorem dX11_isMended_41 : decode cX11_isMended 41 = .ok (.iconst 0, 1) := by decide +kernel
theorem dX11_isMended_42 : decode cX11_isMended 42 = .ok (.ireturn, 1) := by decide +kernel
theorem dX11_isMended_43 : decode cX11_isMended 43 = .ok (.iinc 3 1, 3) := by decide +kernel
theorem dX11_isMended_46 : decode cX11_isMended 46 = .ok (.goto (-41), 3) := by decide +kernel
theorem dX11_isMended_49 : decode cX11_isMended 49 = .ok (.iconst 1, 1) := by decide +kernel
theorem dX11_isMended_50 : decode cX11_isMended 50 = .ok (.ireturn, 1) := by decide +kernel
theorem dX11_mendable_0 : decode cX11_mendable 0 = .ok (.iload_n 1, 1) := by decide +kernel
theorem dX11_mendable_1 : decode cX11_mendable 1 = .ok (.iconst 0, 1) := by decide +kernel
theorem dX11_mendable_2 : decode cX11_mendable 2 = .ok (.aload_n 0, 1) := by decide +kernel
theorem dX11_mendable_3 : decode cX11_mendable 3 = .ok (.invokevirtual 291, 3) := by decide +kernel
theorem dX11_mendable_6 : decode cX11_mendable 6 = .ok (.iconst 1, 1) := by decide +kernel
theorem dX11_mendable_7 : decode cX11_mendable 7 = .ok (.isub, 1) := by decide +kernel
theorem dX11_mendable_8 : decode cX11_mendable 8 = .ok (.invokestatic 163, 3) := by decide +kernel
theorem dX11_mendable_11 : decode cX11_mendable 11 = .ok (.ifCond .ne 5, 3) := by decide +kernel
theorem dX11_mendable_14 : decode cX11_mendable 14 = .ok (.iconst (-1), 1) := by decide +kernel
theorem dX11_mendable_15 : decode cX11_mendable 15 = .ok (.ireturn, 1) := by decide +kernel
theorem dX11_mendable_16 : decode cX11_mendable 16 = .ok (.iconst 0, 1) := by decide +kernel
theorem dX11_mendable_17 : decode cX11_mendable 17 = .ok (.istore_n 2, 1) := by decide +kernel
theorem dX11_mendable_18 : decode cX11_mendable 18 = .ok (.iload_n 2, 1) := by decide +kernel
theorem dX11_mendable_19 : decode cX11_mendable 19 = .ok (.bipush 6, 2) := by decide +kernel
theorem dX11_mendable_21 : decode cX11_mendable 21 = .ok (.if_icmp .ge 40, 3) := by decide +kernel
theorem dX11_mendable_24 : decode cX11_mendable 24 = .ok (.aload_n 0, 1) := by decide +kernel
theorem dX11_mendable_25 : decode cX11_mendable 25 = .ok (.iload_n 1, 1) := by decide +kernel
theorem dX11_mendable_26 : decode cX11_mendable 26 = .ok (.iload_n 2, 1) := by decide +kernel
theorem dX11_mendable_27 : decode cX11_mendable 27 = .ok (.ifCond .ne 7, 3) := by decide +kernel
theorem dX11_mendable_30 : decode cX11_mendable 30 = .ok (.iconst 5, 1) := by decide +kernel
theorem dX11_mendable_31 : decode cX11_mendable 31 = .ok (.goto 6, 3) := by decide +kernel
theorem dX11_mendable_34 : decode cX11_mendable 34 = .ok (.iload_n 2, 1) := by decide +kernel
theorem dX11_mendable_35 : decode cX11_mendable 35 = .ok (.iconst 1, 1) := by decide +kernel
theorem dX11_mendable_36 : decode cX11_mendable 36 = .ok (.isub, 1) := by decide +kernel
theorem dX11_mendable_37 : decode cX11_mendable 37 = .ok (.invokevirtual 303, 3) := by decide +kernel
theorem dX11_mendable_40 : decode cX11_mendable 40 = .ok (.ifCond .eq 15, 3) := by decide +kernel
theorem dX11_mendable_43 : decode cX11_mendable 43 = .ok (.iload_n 2, 1) := by decide +kernel
theorem dX11_mendable_44 : decode cX11_mendable 44 = .ok (.ifCond .ne 7, 3) := by decide +kernel
theorem dX11_mendable_47 : decode cX11_mendable 47 = .ok (.iconst 5, 1) := by decide +kernel
theorem dX11_mendable_48 : decode cX11_mendable 48 = .ok (.goto 6, 3) := by decide +kernel
theorem dX11_mendable_51 : decode cX11_mendable 51 = .ok (.iload_n 2, 1) := by decide +kernel
theorem dX11_mendable_52 : decode cX11_mendable 52 = .ok (.iconst 1, 1) := by decide +kernel
theorem dX11_mendable_53 : decode cX11_mendable 53 = .ok (.isub, 1) := by decide +kernel
theorem dX11_mendable_54 : decode cX11_mendable 54 = .ok (.ireturn, 1) := by decide +kernel
theorem dX11_mendable_55 : decode cX11_mendable 55 = .ok (.iinc 2 1, 3) := by decide +kernel
theorem dX11_mendable_58 : decode cX11_mendable 58 = .ok (.goto (-40), 3) := by decide +kernel
theorem dX11_mendable_61 : decode cX11_mendable 61 = .ok (.iconst (-1), 1) := by decide +kernel
theorem dX11_mendable_62 : decode cX11_mendable 62 = .ok (.ireturn, 1) := by decide +kernel
theorem dX11_isAll_0 : decode cX11_isAll 0 = .ok (.iload_n 2, 1) := by decide +kernel
theorem dX11_isAll_1 : decode cX11_isAll 1 = .ok (.istore 4, 2) := by decide +kernel
theorem dX11_isAll_3 : decode cX11_isAll 3 = .ok (.iload 4, 2) := by decide +kernel
theorem dX11_isAll_5 : decode cX11_isAll 5 = .ok (.iload_n 2, 1) := by decide +kernel
theorem dX11_isAll_6 : decode cX11_isAll 6 = .ok (.iload_n 3, 1) := by decide +kernel
theorem dX11_isAll_7 : decode cX11_isAll 7 = .ok (.iadd, 1) := by decide +kernel
theorem dX11_isAll_8 : decode cX11_isAll 8 = .ok (.if_icmp .ge 21, 3) := by decide +kernel
theorem dX11_isAll_11 : decode cX11_isAll 11 = .ok (.aload_n 0, 1) := by decide +kernel
theorem dX11_isAll_12 : decode cX11_isAll 12 = .ok (.iload 4, 2) := by decide +kernel
theorem dX11_isAll_14 : decode cX11_isAll 14 = .ok (.invokevirtual 285, 3) := by decide +kernel
theorem dX11_isAll_17 : decode cX11_isAll 17 = .ok (.iload_n 1, 1) := by decide +kernel
theorem dX11_isAll_18 : decode cX11_isAll 18 = .ok (.if_icmp .eq 5, 3) := by decide +kernel
theorem dX11_isAll_21 : decode cX11_isAll 21 = .ok (.iconst 0, 1) := by decide +kernel
theorem dX11_isAll_22 : decode cX11_isAll 22 = .ok (.ireturn, 1) := by decide +kernel
theorem dX11_isAll_23 : decode cX11_isAll 23 = .ok (.iinc 4 1, 3) := by decide +kernel
theorem dX11_isAll_26 : decode cX11_isAll 26 = .ok (.goto (-23), 3) := by decide +kernel
theorem dX11_isAll_29 : decode cX11_isAll 29 = .ok (.iconst 1, 1) := by decide +kernel
theorem dX11_isAll_30 : decode cX11_isAll 30 = .ok (.ireturn, 1) := by decide +kernel
theorem dX11_block_0 : decode cX11_block 0 = .ok (.iload_n 1, 1) := by decide +kernel
theorem dX11_block_1 : decode cX11_block 1 = .ok (.invokestatic 306, 3) := by decide +kernel
theorem dX11_block_4 : decode cX11_block 4 = .ok (.ifCond .eq 12, 3) := by decide +kernel
theorem dX11_block_7 : decode cX11_block 7 = .ok (.iload_n 2, 1) := by decide +kernel
theorem dX11_block_8 : decode cX11_block 8 = .ok (.iconst 0, 1) := by decide +kernel
theorem dX11_block_9 : decode cX11_block 9 = .ok (.iconst 1, 1) := by decide +kernel
theorem dX11_block_10 : decode cX11_block 10 = .ok (.invokestatic 163, 3) := by decide +kernel
theorem dX11_block_13 : decode cX11_block 13 = .ok (.ifCond .ne 5, 3) := by decide +kernel
theorem dX11_block_16 : decode cX11_block 16 = .ok (.iconst (-1), 1) := by decide +kernel
theorem dX11_block_17 : decode cX11_block 17 = .ok (.ireturn, 1) := by decide +kernel
theorem dX11_block_18 : decode cX11_block 18 = .ok (.aload_n 0, 1) := by decide +kernel
theorem dX11_block_19 : decode cX11_block 19 = .ok (.invokevirtual 240, 3) := by decide +kernel
theorem dX11_block_22 : decode cX11_block 22 = .ok (.istore_n 3, 1) := by decide +kernel
theorem dX11_block_23 : decode cX11_block 23 = .ok (.iload_n 3, 1) := by decide +kernel
theorem dX11_block_24 : decode cX11_block 24 = .ok (.ifCond .le 56, 3) := by decide +kernel
theorem dX11_block_27 : decode cX11_block 27 = .ok (.iconst 0, 1) := by decide +kernel
theorem dX11_block_28 : decode cX11_block 28 = .ok (.istore 4, 2) := by decide +kernel
theorem dX11_block_30 : decode cX11_block 30 = .ok (.iload 4, 2) := by decide +kernel
theorem dX11_block_32 : decode cX11_block 32 = .ok (.aload_n 0, 1) := by decide +kernel
theorem dX11_block_33 : decode cX11_block 33 = .ok (.invokevirtual 240, 3) := by decide +kernel
theorem dX11_block_36 : decode cX11_block 36 = .ok (.if_icmp .ge 37, 3) := by decide +kernel
theorem dX11_block_39 : decode cX11_block 39 = .ok (.aload_n 0, 1) := by decide +kernel
theorem dX11_block_40 : decode cX11_block 40 = .ok (.iload_n 1, 1) := by decide +kernel
theorem dX11_block_41 : decode cX11_block 41 = .ok (.iload 4, 2) := by decide +kernel
theorem dX11_block_43 : decode cX11_block 43 = .ok (.iload_n 3, 1) := by decide +kernel
theorem dX11_block_44 : decode cX11_block 44 = .ok (.invokevirtual 309, 3) := by decide +kernel
theorem dX11_block_47 : decode cX11_block 47 = .ok (.ifCond .ne 6, 3) := by decide +kernel
theorem dX11_block_50 : decode cX11_block 50 = .ok (.goto 14, 3) := by decide +kernel
theorem dX11_block_53 : decode cX11_block 53 = .ok (.iload_n 2, 1) := by decide +kernel
theorem dX11_block_54 : decode cX11_block 54 = .ok (.ifCond .ne 7, 3) := by decide +kernel
theorem dX11_block_57 : decode cX11_block 57 = .ok (.iload_n 3, 1) := by decide +kernel
theorem dX11_block_58 : decode cX11_block 58 = .ok (.goto 5, 3) := by decide +kernel
theorem dX11_block_61 : decode cX11_block 61 = .ok (.iload 4, 2) := by decide +kernel
theorem dX11_block_63 : decode cX11_block 63 = .ok (.ireturn, 1) := by decide +kernel
theorem dX11_block_64 : decode cX11_block 64 = .ok (.iload 4, 2) := by decide +kernel
theorem dX11_block_66 : decode cX11_block 66 = .ok (.iload_n 3, 1) := by decide +kernel
theorem dX11_block_67 : decode cX11_block 67 = .ok (.iadd, 1) := by decide +kernel
theorem dX11_block_68 : decode cX11_block 68 = .ok (.istore 4, 2) := by decide +kernel
theorem dX11_block_70 : decode cX11_block 70 = .ok (.goto (-40), 3) := by decide +kernel
theorem dX11_block_73 : decode cX11_block 73 = .ok (.iload_n 3, 1) := by decide +kernel
theorem dX11_block_74 : decode cX11_block 74 = .ok (.iconst 2, 1) := by decide +kernel
theorem dX11_block_75 : decode cX11_block 75 = .ok (.idiv, 1) := by decide +kernel
theorem dX11_block_76 : decode cX11_block 76 = .ok (.istore_n 3, 1) := by decide +kernel
theorem dX11_block_77 : decode cX11_block 77 = .ok (.goto (-54), 3) := by decide +kernel
theorem dX11_block_80 : decode cX11_block 80 = .ok (.iconst (-1), 1) := by decide +kernel
theorem dX11_block_81 : decode cX11_block 81 = .ok (.ireturn, 1) := by decide +kernel
theorem dX11_bits_0 : decode cX11_bits 0 = .ok (.iload_n 1, 1) := by decide +kernel
theorem dX11_bits_1 : decode cX11_bits 1 = .ok (.iconst 0, 1) := by decide +kernel
theorem dX11_bits_2 : decode cX11_bits 2 = .ok (.iconst 5, 1) := by decide +kernel
theorem dX11_bits_3 : decode cX11_bits 3 = .ok (.invokestatic 163, 3) := by decide +kernel
theorem dX11_bits_6 : decode cX11_bits 6 = .ok (.ifCond .ne 5, 3) := by decide +kernel
theorem dX11_bits_9 : decode cX11_bits 9 = .ok (.iconst (-1), 1) := by decide +kernel
theorem dX11_bits_10 : decode cX11_bits 10 = .ok (.ireturn, 1) := by decide +kernel
theorem dX11_bits_11 : decode cX11_bits 11 = .ok (.iconst 0, 1) := by decide +kernel
theorem dX11_bits_12 : decode cX11_bits 12 = .ok (.istore_n 2, 1) := by decide +kernel
theorem dX11_bits_13 : decode cX11_bits 13 = .ok (.iconst 0, 1) := by decide +kernel
theorem dX11_bits_14 : decode cX11_bits 14 = .ok (.istore_n 3, 1) := by decide +kernel
theorem dX11_bits_15 : decode cX11_bits 15 = .ok (.iload_n 3, 1) := by decide +kernel
theorem dX11_bits_16 : decode cX11_bits 16 = .ok (.aload_n 0, 1) := by decide +kernel
theorem dX11_bits_17 : decode cX11_bits 17 = .ok (.invokevirtual 240, 3) := by decide +kernel
theorem dX11_bits_20 : decode cX11_bits 20 = .ok (.if_icmp .ge 43, 3) := by decide +kernel
theorem dX11_bits_23 : decode cX11_bits 23 = .ok (.iconst 0, 1) := by decide +kernel
theorem dX11_bits_24 : decode cX11_bits 24 = .ok (.istore 4, 2) := by decide +kernel
theorem dX11_bits_26 : decode cX11_bits 26 = .ok (.iload 4, 2) := by decide +kernel
theorem dX11_bits_28 : decode cX11_bits 28 = .ok (.bipush 10, 2) := by decide +kernel
theorem dX11_bits_30 : decode cX11_bits 30 = .ok (.if_icmp .ge 27, 3) := by decide +kernel
theorem dX11_bits_33 : decode cX11_bits 33 = .ok (.aload_n 0, 1) := by decide +kernel
theorem dX11_bits_34 : decode cX11_bits 34 = .ok (.iload_n 3, 1) := by decide +kernel
theorem dX11_bits_35 : decode cX11_bits 35 = .ok (.invokevirtual 276, 3) := by decide +kernel
theorem dX11_bits_38 : decode cX11_bits 38 = .ok (.iload_n 1, 1) := by decide +kernel
theorem dX11_bits_39 : decode cX11_bits 39 = .ok (.if_icmp .ne 18, 3) := by decide +kernel
theorem dX11_bits_42 : decode cX11_bits 42 = .ok (.iload_n 2, 1) := by decide +kernel
theorem dX11_bits_43 : decode cX11_bits 43 = .ok (.iload_n 3, 1) := by decide +kernel
theorem dX11_bits_44 : decode cX11_bits 44 = .ok (.iload 4, 2) := by decide +kernel
theorem dX11_bits_46 : decode cX11_bits 46 = .ok (.ishr, 1) := by decide +kernel
theorem dX11_bits_47 : decode cX11_bits 47 = .ok (.iconst 1, 1) := by decide +kernel
theorem dX11_bits_48 : decode cX11_bits 48 = .ok (.iand, 1) := by decide +kernel
theorem dX11_bits_49 : decode cX11_bits 49 = .ok (.iadd, 1) := by decide +kernel
theorem dX11_bits_50 : decode cX11_bits 50 = .ok (.istore_n 2, 1) := by decide +kernel
theorem dX11_bits_51 : decode cX11_bits 51 = .ok (.iinc 4 1, 3) := by decide +kernel
theorem dX11_bits_54 : decode cX11_bits 54 = .ok (.goto (-28), 3) := by decide +kernel
theorem dX11_bits_57 : decode cX11_bits 57 = .ok (.iinc 3 1, 3) := by decide +kernel
theorem dX11_bits_60 : decode cX11_bits 60 = .ok (.goto (-45), 3) := by decide +kernel
theorem dX11_bits_63 : decode cX11_bits 63 = .ok (.iload_n 2, 1) := by decide +kernel
theorem dX11_bits_64 : decode cX11_bits 64 = .ok (.ireturn, 1) := by decide +kernel
theorem dX11_sizeAt_0 : decode cX11_sizeAt 0 = .ok (.aload_n 0, 1) := by decide +kernel
theorem dX11_sizeAt_1 : decode cX11_sizeAt 1 = .ok (.invokevirtual 240, 3) := by decide +kernel
theorem dX11_sizeAt_4 : decode cX11_sizeAt 4 = .ok (.istore_n 2, 1) := by decide +kernel
theorem dX11_sizeAt_5 : decode cX11_sizeAt 5 = .ok (.iload_n 1, 1) := by decide +kernel
theorem dX11_sizeAt_6 : decode cX11_sizeAt 6 = .ok (.istore_n 3, 1) := by decide +kernel
theorem dX11_sizeAt_7 : decode cX11_sizeAt 7 = .ok (.iload_n 3, 1) := by decide +kernel
theorem dX11_sizeAt_8 : decode cX11_sizeAt 8 = .ok (.iconst 1, 1) := by decide +kernel
theorem dX11_sizeAt_9 : decode cX11_sizeAt 9 = .ok (.if_icmp .le 14, 3) := by decide +kernel
theorem dX11_sizeAt_12 : decode cX11_sizeAt 12 = .ok (.iload_n 2, 1) := by decide +kernel
theorem dX11_sizeAt_13 : decode cX11_sizeAt 13 = .ok (.iconst 2, 1) := by decide +kernel
theorem dX11_sizeAt_14 : decode cX11_sizeAt 14 = .ok (.idiv, 1) := by decide +kernel
theorem dX11_sizeAt_15 : decode cX11_sizeAt 15 = .ok (.istore_n 2, 1) := by decide +kernel
theorem dX11_sizeAt_16 : decode cX11_sizeAt 16 = .ok (.iload_n 3, 1) := by decide +kernel
theorem dX11_sizeAt_17 : decode cX11_sizeAt 17 = .ok (.iconst 2, 1) := by decide +kernel
theorem dX11_sizeAt_18 : decode cX11_sizeAt 18 = .ok (.idiv, 1) := by decide +kernel
theorem dX11_sizeAt_19 : decode cX11_sizeAt 19 = .ok (.istore_n 3, 1) := by decide +kernel
theorem dX11_sizeAt_20 : decode cX11_sizeAt 20 = .ok (.goto (-13), 3) := by decide +kernel
theorem dX11_sizeAt_23 : decode cX11_sizeAt 23 = .ok (.iload_n 2, 1) := by decide +kernel
theorem dX11_sizeAt_24 : decode cX11_sizeAt 24 = .ok (.ireturn, 1) := by decide +kernel
theorem dX11_baseAt_0 : decode cX11_baseAt 0 = .ok (.aload_n 0, 1) := by decide +kernel
theorem dX11_baseAt_1 : decode cX11_baseAt 1 = .ok (.iload_n 1, 1) := by decide +kernel
theorem dX11_baseAt_2 : decode cX11_baseAt 2 = .ok (.invokevirtual 312, 3) := by decide +kernel
theorem dX11_baseAt_5 : decode cX11_baseAt 5 = .ok (.istore_n 2, 1) := by decide +kernel
theorem dX11_baseAt_6 : decode cX11_baseAt 6 = .ok (.iload_n 1, 1) := by decide +kernel
theorem dX11_baseAt_7 : decode cX11_baseAt 7 = .ok (.aload_n 0, 1) := by decide +kernel
theorem dX11_baseAt_8 : decode cX11_baseAt 8 = .ok (.invokevirtual 240, 3) := by decide +kernel
theorem dX11_baseAt_11 : decode cX11_baseAt 11 = .ok (.iload_n 2, 1) := by decide +kernel
theorem dX11_baseAt_12 : decode cX11_baseAt 12 = .ok (.idiv, 1) := by decide +kernel
theorem dX11_baseAt_13 : decode cX11_baseAt 13 = .ok (.isub, 1) := by decide +kernel
theorem dX11_baseAt_14 : decode cX11_baseAt 14 = .ok (.iload_n 2, 1) := by decide +kernel
theorem dX11_baseAt_15 : decode cX11_baseAt 15 = .ok (.imul, 1) := by decide +kernel
theorem dX11_baseAt_16 : decode cX11_baseAt 16 = .ok (.ireturn, 1) := by decide +kernel
theorem dX11_layWants_0 : decode cX11_layWants 0 = .ok (.aload_n 0, 1) := by decide +kernel
theorem dX11_layWants_1 : decode cX11_layWants 1 = .ok (.getfield 7, 3) := by decide +kernel
theorem dX11_layWants_4 : decode cX11_layWants 4 = .ok (.iconst 0, 1) := by decide +kernel
theorem dX11_layWants_5 : decode cX11_layWants 5 = .ok (.iaload, 1) := by decide +kernel
theorem dX11_layWants_6 : decode cX11_layWants 6 = .ok (.istore_n 2, 1) := by decide +kernel
theorem dX11_layWants_7 : decode cX11_layWants 7 = .ok (.aload_n 0, 1) := by decide +kernel
theorem dX11_layWants_8 : decode cX11_layWants 8 = .ok (.getfield 7, 3) := by decide +kernel
theorem dX11_layWants_11 : decode cX11_layWants 11 = .ok (.iconst 0, 1) := by decide +kernel
theorem dX11_layWants_12 : decode cX11_layWants 12 = .ok (.iload_n 1, 1) := by decide +kernel
theorem dX11_layWants_13 : decode cX11_layWants 13 = .ok (.iastore, 1) := by decide +kernel
theorem dX11_layWants_14 : decode cX11_layWants 14 = .ok (.aload_n 0, 1) := by decide +kernel
theorem dX11_layWants_15 : decode cX11_layWants 15 = .ok (.iload_n 1, 1) := by decide +kernel
theorem dX11_layWants_16 : decode cX11_layWants 16 = .ok (.putfield 315, 3) := by decide +kernel
theorem dX11_layWants_19 : decode cX11_layWants 19 = .ok (.aload_n 0, 1) := by decide +kernel
theorem dX11_layWants_20 : decode cX11_layWants 20 = .ok (.invokevirtual 240, 3) := by decide +kernel
theorem dX11_layWants_23 : decode cX11_layWants 23 = .ok (.istore_n 3, 1) := by decide +kernel
theorem dX11_layWants_24 : decode cX11_layWants 24 = .ok (.iconst 0, 1) := by decide +kernel
theorem dX11_layWants_25 : decode cX11_layWants 25 = .ok (.istore 4, 2) := by decide +kernel
theorem dX11_layWants_27 : decode cX11_layWants 27 = .ok (.iload 4, 2) := by decide +kernel
theorem dX11_layWants_29 : decode cX11_layWants 29 = .ok (.iload_n 3, 1) := by decide +kernel
theorem dX11_layWants_30 : decode cX11_layWants 30 = .ok (.if_icmp .ge 38, 3) := by decide +kernel
theorem dX11_layWants_33 : decode cX11_layWants 33 = .ok (.aload_n 0, 1) := by decide +kernel
theorem dX11_layWants_34 : decode cX11_layWants 34 = .ok (.getfield 36, 3) := by decide +kernel
theorem dX11_layWants_37 : decode cX11_layWants 37 = .ok (.iload_n 3, 1) := by decide +kernel
theorem dX11_layWants_38 : decode cX11_layWants 38 = .ok (.iload 4, 2) := by decide +kernel
theorem dX11_layWants_40 : decode cX11_layWants 40 = .ok (.iadd, 1) := by decide +kernel
theorem dX11_layWants_41 : decode cX11_layWants 41 = .ok (.aload_n 0, 1) := by decide +kernel
theorem dX11_layWants_42 : decode cX11_layWants 42 = .ok (.iload 4, 2) := by decide +kernel
theorem dX11_layWants_44 : decode cX11_layWants 44 = .ok (.invokevirtual 255, 3) := by decide +kernel
theorem dX11_layWants_47 : decode cX11_layWants 47 = .ok (.ifCond .eq 8, 3) := by decide +kernel
theorem dX11_layWants_50 : decode cX11_layWants 50 = .ok (.bipush (-2), 2) := by decide +kernel
theorem dX11_layWants_52 : decode cX11_layWants 52 = .ok (.goto 9, 3) := by decide +kernel
theorem dX11_layWants_55 : decode cX11_layWants 55 = .ok (.aload_n 0, 1) := by decide +kernel
theorem dX11_layWants_56 : decode cX11_layWants 56 = .ok (.iload 4, 2) := by decide +kernel
theorem dX11_layWants_58 : decode cX11_layWants 58 = .ok (.invokevirtual 285, 3) := by decide +kernel
theorem dX11_layWants_61 : decode cX11_layWants 61 = .ok (.iastore, 1) := by decide +kernel
theorem dX11_layWants_62 : decode cX11_layWants 62 = .ok (.iinc 4 1, 3) := by decide +kernel
theorem dX11_layWants_65 : decode cX11_layWants 65 = .ok (.goto (-38), 3) := by decide +kernel
theorem dX11_layWants_68 : decode cX11_layWants 68 = .ok (.iload_n 3, 1) := by decide +kernel
theorem dX11_layWants_69 : decode cX11_layWants 69 = .ok (.iconst 1, 1) := by decide +kernel
theorem dX11_layWants_70 : decode cX11_layWants 70 = .ok (.isub, 1) := by decide +kernel
theorem dX11_layWants_71 : decode cX11_layWants 71 = .ok (.istore 4, 2) := by decide +kernel
theorem dX11_layWants_73 : decode cX11_layWants 73 = .ok (.iload 4, 2) := by decide +kernel
theorem dX11_layWants_75 : decode cX11_layWants 75 = .ok (.ifCond .le 72, 3) := by decide +kernel
theorem dX11_layWants_78 : decode cX11_layWants 78 = .ok (.aload_n 0, 1) := by decide +kernel
theorem dX11_layWants_79 : decode cX11_layWants 79 = .ok (.getfield 36, 3) := by decide +kernel
theorem dX11_layWants_82 : decode cX11_layWants 82 = .ok (.iconst 2, 1) := by decide +kernel
theorem dX11_layWants_83 : decode cX11_layWants 83 = .ok (.iload 4, 2) := by decide +kernel
theorem dX11_layWants_85 : decode cX11_layWants 85 = .ok (.imul, 1) := by decide +kernel
theorem dX11_layWants_86 : decode cX11_layWants 86 = .ok (.iaload, 1) := by decide +kernel
theorem dX11_layWants_87 : decode cX11_layWants 87 = .ok (.istore 5, 2) := by decide +kernel
theorem dX11_layWants_89 : decode cX11_layWants 89 = .ok (.aload_n 0, 1) := by decide +kernel
theorem dX11_layWants_90 : decode cX11_layWants 90 = .ok (.getfield 36, 3) := by decide +kernel
theorem dX11_layWants_93 : decode cX11_layWants 93 = .ok (.iconst 2, 1) := by decide +kernel
theorem dX11_layWants_94 : decode cX11_layWants 94 = .ok (.iload 4, 2) := by decide +kernel
theorem dX11_layWants_96 : decode cX11_layWants 96 = .ok (.imul, 1) := by decide +kernel
theorem dX11_layWants_97 : decode cX11_layWants 97 = .ok (.iconst 1, 1) := by decide +kernel
theorem dX11_layWants_98 : decode cX11_layWants 98 = .ok (.iadd, 1) := by decide +kernel
theorem dX11_layWants_99 : decode cX11_layWants 99 = .ok (.iaload, 1) := by decide +kernel
theorem dX11_layWants_100 : decode cX11_layWants 100 = .ok (.istore 6, 2) := by decide +kernel
theorem dX11_layWants_102 : decode cX11_layWants 102 = .ok (.aload_n 0, 1) := by decide +kernel
theorem dX11_layWants_103 : decode cX11_layWants 103 = .ok (.getfield 36, 3) := by decide +kernel
theorem dX11_layWants_106 : decode cX11_layWants 106 = .ok (.iload 4, 2) := by decide +kernel
theorem dX11_layWants_108 : decode cX11_layWants 108 = .ok (.iload 5, 2) := by decide +kernel
theorem dX11_layWants_110 : decode cX11_layWants 110 = .ok (.bipush (-2), 2) := by decide +kernel
theorem dX11_layWants_112 : decode cX11_layWants 112 = .ok (.if_icmp .ne 8, 3) := by decide +kernel
theorem dX11_layWants_115 : decode cX11_layWants 115 = .ok (.iload 6, 2) := by decide +kernel
theorem dX11_layWants_117 : decode cX11_layWants 117 = .ok (.goto 23, 3) := by decide +kernel
theorem dX11_layWants_120 : decode cX11_layWants 120 = .ok (.iload 6, 2) := by decide +kernel
theorem dX11_layWants_122 : decode cX11_layWants 122 = .ok (.bipush (-2), 2) := by decide +kernel
theorem dX11_layWants_124 : decode cX11_layWants 124 = .ok (.if_icmp .eq 10, 3) := by decide +kernel
theorem dX11_layWants_127 : decode cX11_layWants 127 = .ok (.iload 5, 2) := by decide +kernel
theorem dX11_layWants_129 : decode cX11_layWants 129 = .ok (.iload 6, 2) := by decide +kernel
theorem dX11_layWants_131 : decode cX11_layWants 131 = .ok (.if_icmp .ne 8, 3) := by decide +kernel
theorem dX11_layWants_134 : decode cX11_layWants 134 = .ok (.iload 5, 2) := by decide +kernel
theorem dX11_layWants_136 : decode cX11_layWants 136 = .ok (.goto 4, 3) := by decide +kernel
theorem dX11_layWants_139 : decode cX11_layWants 139 = .ok (.iconst (-1), 1) := by decide +kernel
theorem dX11_layWants_140 : decode cX11_layWants 140 = .ok (.iastore, 1) := by decide +kernel
theorem dX11_layWants_141 : decode cX11_layWants 141 = .ok (.iinc 4 (-1), 3) := by decide +kernel
theorem dX11_layWants_144 : decode cX11_layWants 144 = .ok (.goto (-71), 3) := by decide +kernel
theorem dX11_layWants_147 : decode cX11_layWants 147 = .ok (.aload_n 0, 1) := by decide +kernel
theorem dX11_layWants_148 : decode cX11_layWants 148 = .ok (.getfield 7, 3) := by decide +kernel
theorem dX11_layWants_151 : decode cX11_layWants 151 = .ok (.iconst 0, 1) := by decide +kernel
theorem dX11_layWants_152 : decode cX11_layWants 152 = .ok (.iload_n 2, 1) := by decide +kernel
theorem dX11_layWants_153 : decode cX11_layWants 153 = .ok (.iastore, 1) := by decide +kernel
theorem dX11_layWants_154 : decode cX11_layWants 154 = .ok (.return_, 1) := by decide +kernel
theorem dX11_madeBy_0 : decode cX11_madeBy 0 = .ok (.iload_n 0, 1) := by decide +kernel
theorem dX11_madeBy_1 : decode cX11_madeBy 1 = .ok (.iconst 5, 1) := by decide +kernel
theorem dX11_madeBy_2 : decode cX11_madeBy 2 = .ok (.if_icmp .ne 5, 3) := by decide +kernel
theorem dX11_madeBy_5 : decode cX11_madeBy 5 = .ok (.iload_n 1, 1) := by decide +kernel
theorem dX11_madeBy_6 : decode cX11_madeBy 6 = .ok (.ireturn, 1) := by decide +kernel
theorem dX11_madeBy_7 : decode cX11_madeBy 7 = .ok (.iload_n 0, 1) := by decide +kernel
theorem dX11_madeBy_8 : decode cX11_madeBy 8 = .ok (.ifCond .ne 5, 3) := by decide +kernel
theorem dX11_madeBy_11 : decode cX11_madeBy 11 = .ok (.iconst (-1), 1) := by decide +kernel
theorem dX11_madeBy_12 : decode cX11_madeBy 12 = .ok (.ireturn, 1) := by decide +kernel
theorem dX11_madeBy_13 : decode cX11_madeBy 13 = .ok (.iload_n 1, 1) := by decide +kernel
theorem dX11_madeBy_14 : decode cX11_madeBy 14 = .ok (.ifCond .ne 5, 3) := by decide +kernel
theorem dX11_madeBy_17 : decode cX11_madeBy 17 = .ok (.iconst 0, 1) := by decide +kernel
theorem dX11_madeBy_18 : decode cX11_madeBy 18 = .ok (.ireturn, 1) := by decide +kernel
theorem dX11_madeBy_19 : decode cX11_madeBy 19 = .ok (.iload_n 0, 1) := by decide +kernel
theorem dX11_madeBy_20 : decode cX11_madeBy 20 = .ok (.iconst 4, 1) := by decide +kernel
theorem dX11_madeBy_21 : decode cX11_madeBy 21 = .ok (.if_icmp .ne 12, 3) := by decide +kernel
theorem dX11_madeBy_24 : decode cX11_madeBy 24 = .ok (.iload_n 1, 1) := by decide +kernel
theorem dX11_madeBy_25 : decode cX11_madeBy 25 = .ok (.iconst 2, 1) := by decide +kernel
theorem dX11_madeBy_26 : decode cX11_madeBy 26 = .ok (.if_icmp .ne 7, 3) := by decide +kernel
theorem dX11_madeBy_29 : decode cX11_madeBy 29 = .ok (.iconst 2, 1) := by decide +kernel
theorem dX11_madeBy_30 : decode cX11_madeBy 30 = .ok (.goto 4, 3) := by decide +kernel
theorem dX11_madeBy_33 : decode cX11_madeBy 33 = .ok (.iconst (-1), 1) := by decide +kernel
theorem dX11_madeBy_34 : decode cX11_madeBy 34 = .ok (.ireturn, 1) := by decide +kernel
theorem dX11_aboveAt_0 : decode cX11_aboveAt 0 = .ok (.iload_n 0, 1) := by decide +kernel
theorem dX11_aboveAt_1 : decode cX11_aboveAt 1 = .ok (.ifCond .ne 7, 3) := by decide +kernel
theorem dX11_aboveAt_4 : decode cX11_aboveAt 4 = .ok (.iconst 0, 1) := by decide +kernel
theorem dX11_aboveAt_5 : decode cX11_aboveAt 5 = .ok (.goto 22, 3) := by decide +kernel
theorem dX11_aboveAt_8 : decode cX11_aboveAt 8 = .ok (.iload_n 0, 1) := by decide +kernel
theorem dX11_aboveAt_9 : decode cX11_aboveAt 9 = .ok (.iconst 1, 1) := by decide +kernel
theorem dX11_aboveAt_10 : decode cX11_aboveAt 10 = .ok (.if_icmp .ne 7, 3) := by decide +kernel
theorem dX11_aboveAt_13 : decode cX11_aboveAt 13 = .ok (.iconst 2, 1) := by decide +kernel
theorem dX11_aboveAt_14 : decode cX11_aboveAt 14 = .ok (.goto 13, 3) := by decide +kernel
theorem dX11_aboveAt_17 : decode cX11_aboveAt 17 = .ok (.iload_n 0, 1) := by decide +kernel
theorem dX11_aboveAt_18 : decode cX11_aboveAt 18 = .ok (.iconst 2, 1) := by decide +kernel
theorem dX11_aboveAt_19 : decode cX11_aboveAt 19 = .ok (.if_icmp .ne 7, 3) := by decide +kernel
theorem dX11_aboveAt_22 : decode cX11_aboveAt 22 = .ok (.iconst 1, 1) := by decide +kernel
theorem dX11_aboveAt_23 : decode cX11_aboveAt 23 = .ok (.goto 4, 3) := by decide +kernel
theorem dX11_aboveAt_26 : decode cX11_aboveAt 26 = .ok (.iload_n 0, 1) := by decide +kernel
theorem dX11_aboveAt_27 : decode cX11_aboveAt 27 = .ok (.ireturn, 1) := by decide +kernel
theorem dX11_kindBy_0 : decode cX11_kindBy 0 = .ok (.iload_n 1, 1) := by decide +kernel
theorem dX11_kindBy_1 : decode cX11_kindBy 1 = .ok (.iconst 5, 1) := by decide +kernel
theorem dX11_kindBy_2 : decode cX11_kindBy 2 = .ok (.if_icmp .ne 10, 3) := by decide +kernel
theorem dX11_kindBy_5 : decode cX11_kindBy 5 = .ok (.aload_n 0, 1) := by decide +kernel
theorem dX11_kindBy_6 : decode cX11_kindBy 6 = .ok (.getfield 315, 3) := by decide +kernel
theorem dX11_kindBy_9 : decode cX11_kindBy 9 = .ok (.goto 4, 3) := by decide +kernel
theorem dX11_kindBy_12 : decode cX11_kindBy 12 = .ok (.iload_n 1, 1) := by decide +kernel
theorem dX11_kindBy_13 : decode cX11_kindBy 13 = .ok (.ireturn, 1) := by decide +kernel
theorem dX11_isRight_0 : decode cX11_isRight 0 = .ok (.aload_n 0, 1) := by decide +kernel
theorem dX11_isRight_1 : decode cX11_isRight 1 = .ok (.getfield 36, 3) := by decide +kernel
theorem dX11_isRight_4 : decode cX11_isRight 4 = .ok (.iload_n 1, 1) := by decide +kernel
theorem dX11_isRight_5 : decode cX11_isRight 5 = .ok (.iaload, 1) := by decide +kernel
theorem dX11_isRight_6 : decode cX11_isRight 6 = .ok (.bipush (-2), 2) := by decide +kernel
theorem dX11_isRight_8 : decode cX11_isRight 8 = .ok (.if_icmp .eq 21, 3) := by decide +kernel
theorem dX11_isRight_11 : decode cX11_isRight 11 = .ok (.aload_n 0, 1) := by decide +kernel
theorem dX11_isRight_12 : decode cX11_isRight 12 = .ok (.getfield 36, 3) := by decide +kernel
theorem dX11_isRight_15 : decode cX11_isRight 15 = .ok (.iload_n 1, 1) := by decide +kernel
theorem dX11_isRight_16 : decode cX11_isRight 16 = .ok (.iaload, 1) := by decide +kernel
theorem dX11_isRight_17 : decode cX11_isRight 17 = .ok (.iload_n 3, 1) := by decide +kernel
theorem dX11_isRight_18 : decode cX11_isRight 18 = .ok (.aload_n 0, 1) := by decide +kernel
theorem dX11_isRight_19 : decode cX11_isRight 19 = .ok (.iload_n 2, 1) := by decide +kernel
theorem dX11_isRight_20 : decode cX11_isRight 20 = .ok (.invokevirtual 318, 3) := by decide +kernel
theorem dX11_isRight_23 : decode cX11_isRight 23 = .ok (.invokestatic 279, 3) := by decide +kernel
theorem dX11_isRight_26 : decode cX11_isRight 26 = .ok (.if_icmp .ne 7, 3) := by decide +kernel
theorem dX11_isRight_29 : decode cX11_isRight 29 = .ok (.iconst 1, 1) := by decide +kernel
theorem dX11_isRight_30 : decode cX11_isRight 30 = .ok (.goto 4, 3) := by decide +kernel
theorem dX11_isRight_33 : decode cX11_isRight 33 = .ok (.iconst 0, 1) := by decide +kernel
theorem dX11_isRight_34 : decode cX11_isRight 34 = .ok (.ireturn, 1) := by decide +kernel
theorem dX11_both_0 : decode cX11_both 0 = .ok (.ldc_w 321, 3) := by decide +kernel
theorem dX11_both_3 : decode cX11_both 3 = .ok (.aload_n 1, 1) := by decide +kernel
theorem dX11_both_4 : decode cX11_both 4 = .ok (.bipush 12, 2) := by decide +kernel
theorem dX11_both_6 : decode cX11_both 6 = .ok (.iload_n 2, 1) := by decide +kernel
theorem dX11_both_7 : decode cX11_both 7 = .ok (.imul, 1) := by decide +kernel
theorem dX11_both_8 : decode cX11_both 8 = .ok (.iload_n 3, 1) := by decide +kernel
theorem dX11_both_9 : decode cX11_both 9 = .ok (.iadd, 1) := by decide +kernel
theorem dX11_both_10 : decode cX11_both 10 = .ok (.iaload, 1) := by decide +kernel
theorem dX11_both_11 : decode cX11_both 11 = .ok (.aload_n 1, 1) := by decide +kernel
theorem dX11_both_12 : decode cX11_both 12 = .ok (.bipush 6, 2) := by decide +kernel
theorem dX11_both_14 : decode cX11_both 14 = .ok (.iconst 2, 1) := by decide +kernel
theorem dX11_both_15 : decode cX11_both 15 = .ok (.iload_n 2, 1) := by decide +kernel
theorem dX11_both_16 : decode cX11_both 16 = .ok (.imul, 1) := by decide +kernel
theorem dX11_both_17 : decode cX11_both 17 = .ok (.iconst 1, 1) := by decide +kernel
theorem dX11_both_18 : decode cX11_both 18 = .ok (.iadd, 1) := by decide +kernel
theorem dX11_both_19 : decode cX11_both 19 = .ok (.imul, 1) := by decide +kernel
theorem dX11_both_20 : decode cX11_both 20 = .ok (.iload_n 3, 1) := by decide +kernel
theorem dX11_both_21 : decode cX11_both 21 = .ok (.iadd, 1) := by decide +kernel
theorem dX11_both_22 : decode cX11_both 22 = .ok (.iaload, 1) := by decide +kernel
theorem dX11_both_23 : decode cX11_both 23 = .ok (.iadd, 1) := by decide +kernel
theorem dX11_both_24 : decode cX11_both 24 = .ok (.invokestatic 273, 3) := by decide +kernel
theorem dX11_both_27 : decode cX11_both 27 = .ok (.ireturn, 1) := by decide +kernel
theorem dX11_layFewest_0 : decode cX11_layFewest 0 = .ok (.aload_n 0, 1) := by decide +kernel
theorem dX11_layFewest_1 : decode cX11_layFewest 1 = .ok (.invokevirtual 240, 3) := by decide +kernel
theorem dX11_layFewest_4 : decode cX11_layFewest 4 = .ok (.istore_n 2, 1) := by decide +kernel
theorem dX11_layFewest_5 : decode cX11_layFewest 5 = .ok (.iconst 2, 1) := by decide +kernel
theorem dX11_layFewest_6 : decode cX11_layFewest 6 = .ok (.iload_n 2, 1) := by decide +kernel
theorem dX11_layFewest_7 : decode cX11_layFewest 7 = .ok (.imul, 1) := by decide +kernel
theorem dX11_layFewest_8 : decode cX11_layFewest 8 = .ok (.iconst 1, 1) := by decide +kernel
theorem dX11_layFewest_9 : decode cX11_layFewest 9 = .ok (.isub, 1) := by decide +kernel
theorem dX11_layFewest_10 : decode cX11_layFewest 10 = .ok (.istore_n 3, 1) := by decide +kernel
theorem dX11_layFewest_11 : decode cX11_layFewest 11 = .ok (.iload_n 3, 1) := by decide +kernel
theorem dX11_layFewest_12 : decode cX11_layFewest 12 = .ok (.ifCond .le 141, 3) := by decide +kernel
theorem dX11_layFewest_15 : decode cX11_layFewest 15 = .ok (.iconst 0, 1) := by decide +kernel
theorem dX11_layFewest_16 : decode cX11_layFewest 16 = .ok (.istore 4, 2) := by decide +kernel
theorem dX11_layFewest_18 : decode cX11_layFewest 18 = .ok (.iload 4, 2) := by decide +kernel
theorem dX11_layFewest_20 : decode cX11_layFewest 20 = .ok (.bipush 6, 2) := by decide +kernel
theorem dX11_layFewest_22 : decode cX11_layFewest 22 = .ok (.if_icmp .ge 125, 3) := by decide +kernel
theorem dX11_layFewest_25 : decode cX11_layFewest 25 = .ok (.iload 4, 2) := by decide +kernel
theorem dX11_layFewest_27 : decode cX11_layFewest 27 = .ok (.invokestatic 322, 3) := by decide +kernel
theorem dX11_layFewest_30 : decode cX11_layFewest 30 = .ok (.istore 5, 2) := by decide +kernel
theorem dX11_layFewest_32 : decode cX11_layFewest 32 = .ok (.aload_n 0, 1) := by decide +kernel
theorem dX11_layFewest_33 : decode cX11_layFewest 33 = .ok (.iload_n 3, 1) := by decide +kernel
theorem dX11_layFewest_34 : decode cX11_layFewest 34 = .ok (.iload 5, 2) := by decide +kernel
theorem dX11_layFewest_36 : decode cX11_layFewest 36 = .ok (.iload_n 1, 1) := by decide +kernel
theorem dX11_layFewest_37 : decode cX11_layFewest 37 = .ok (.invokevirtual 325, 3) := by decide +kernel
theorem dX11_layFewest_40 : decode cX11_layFewest 40 = .ok (.ifCond .eq 7, 3) := by decide +kernel
theorem dX11_layFewest_43 : decode cX11_layFewest 43 = .ok (.iconst 0, 1) := by decide +kernel
theorem dX11_layFewest_44 : decode cX11_layFewest 44 = .ok (.goto 25, 3) := by decide +kernel
theorem dX11_layFewest_47 : decode cX11_layFewest 47 = .ok (.iload_n 3, 1) := by decide +kernel
theorem dX11_layFewest_48 : decode cX11_layFewest 48 = .ok (.iload_n 2, 1) := by decide +kernel
theorem dX11_layFewest_49 : decode cX11_layFewest 49 = .ok (.if_icmp .ge 17, 3) := by decide +kernel
theorem dX11_layFewest_52 : decode cX11_layFewest 52 = .ok (.aload_n 0, 1) := by decide +kernel
theorem dX11_layFewest_53 : decode cX11_layFewest 53 = .ok (.aload_n 0, 1) := by decide +kernel
theorem dX11_layFewest_54 : decode cX11_layFewest 54 = .ok (.getfield 39, 3) := by decide +kernel
theorem dX11_layFewest_57 : decode cX11_layFewest 57 = .ok (.iload_n 3, 1) := by decide +kernel
theorem dX11_layFewest_58 : decode cX11_layFewest 58 = .ok (.iload 5, 2) := by decide +kernel
theorem dX11_layFewest_60 : decode cX11_layFewest 60 = .ok (.invokevirtual 328, 3) := by decide +kernel
theorem dX11_layFewest_63 : decode cX11_layFewest 63 = .ok (.goto 6, 3) := by decide +kernel
theorem dX11_layFewest_66 : decode cX11_layFewest 66 = .ok (.ldc_w 321, 3) := by decide +kernel
theorem dX11_layFewest_69 : decode cX11_layFewest 69 = .ok (.istore 6, 2) := by decide +kernel
theorem dX11_layFewest_71 : decode cX11_layFewest 71 = .ok (.iconst 0, 1) := by decide +kernel
theorem dX11_layFewest_72 : decode cX11_layFewest 72 = .ok (.istore 7, 2) := by decide +kernel
theorem dX11_layFewest_74 : decode cX11_layFewest 74 = .ok (.iload 7, 2) := by decide +kernel
theorem dX11_layFewest_76 : decode cX11_layFewest 76 = .ok (.iconst 5, 1) := by decide +kernel
theorem dX11_layFewest_77 : decode cX11_layFewest 77 = .ok (.if_icmp .ge 50, 3) := by decide +kernel
theorem dX11_layFewest_80 : decode cX11_layFewest 80 = .ok (.iload 6, 2) := by decide +kernel
theorem dX11_layFewest_82 : decode cX11_layFewest 82 = .ok (.ifCond .le 45, 3) := by decide +kernel
theorem dX11_layFewest_85 : decode cX11_layFewest 85 = .ok (.iload 5, 2) := by decide +kernel
theorem dX11_layFewest_87 : decode cX11_layFewest 87 = .ok (.iload 7, 2) := by decide +kernel
theorem dX11_layFewest_89 : decode cX11_layFewest 89 = .ok (.invokestatic 332, 3) := by decide +kernel
theorem dX11_layFewest_92 : decode cX11_layFewest 92 = .ok (.ifCond .lt 29, 3) := by decide +kernel
theorem dX11_layFewest_95 : decode cX11_layFewest 95 = .ok (.iload 6, 2) := by decide +kernel
theorem dX11_layFewest_97 : decode cX11_layFewest 97 = .ok (.iconst 1, 1) := by decide +kernel
theorem dX11_layFewest_98 : decode cX11_layFewest 98 = .ok (.aload_n 0, 1) := by decide +kernel
theorem dX11_layFewest_99 : decode cX11_layFewest 99 = .ok (.getfield 39, 3) := by decide +kernel
theorem dX11_layFewest_102 : decode cX11_layFewest 102 = .ok (.bipush 6, 2) := by decide +kernel
theorem dX11_layFewest_104 : decode cX11_layFewest 104 = .ok (.iload_n 3, 1) := by decide +kernel
theorem dX11_layFewest_105 : decode cX11_layFewest 105 = .ok (.imul, 1) := by decide +kernel
theorem dX11_layFewest_106 : decode cX11_layFewest 106 = .ok (.iload 5, 2) := by decide +kernel
theorem dX11_layFewest_108 : decode cX11_layFewest 108 = .ok (.iload 7, 2) := by decide +kernel
theorem dX11_layFewest_110 : decode cX11_layFewest 110 = .ok (.invokestatic 332, 3) := by decide +kernel
theorem dX11_layFewest_113 : decode cX11_layFewest 113 = .ok (.iadd, 1) := by decide +kernel
theorem dX11_layFewest_114 : decode cX11_layFewest 114 = .ok (.iaload, 1) := by decide +kernel
theorem dX11_layFewest_115 : decode cX11_layFewest 115 = .ok (.iadd, 1) := by decide +kernel
theorem dX11_layFewest_116 : decode cX11_layFewest 116 = .ok (.invokestatic 273, 3) := by decide +kernel
theorem dX11_layFewest_119 : decode cX11_layFewest 119 = .ok (.istore 6, 2) := by decide +kernel
theorem dX11_layFewest_121 : decode cX11_layFewest 121 = .ok (.iinc 7 1, 3) := by decide +kernel
theorem dX11_layFewest_124 : decode cX11_layFewest 124 = .ok (.goto (-50), 3) := by decide +kernel
theorem dX11_layFewest_127 : decode cX11_layFewest 127 = .ok (.aload_n 0, 1) := by decide +kernel
theorem dX11_layFewest_128 : decode cX11_layFewest 128 = .ok (.getfield 39, 3) := by decide +kernel
theorem dX11_layFewest_131 : decode cX11_layFewest 131 = .ok (.bipush 6, 2) := by decide +kernel
theorem dX11_layFewest_133 : decode cX11_layFewest 133 = .ok (.iload_n 3, 1) := by decide +kernel
theorem dX11_layFewest_134 : decode cX11_layFewest 134 = .ok (.imul, 1) := by decide +kernel
theorem dX11_layFewest_135 : decode cX11_layFewest 135 = .ok (.iload 5, 2) := by decide +kernel
theorem dX11_layFewest_137 : decode cX11_layFewest 137 = .ok (.iadd, 1) := by decide +kernel
theorem dX11_layFewest_138 : decode cX11_layFewest 138 = .ok (.iload 6, 2) := by decide +kernel
theorem dX11_layFewest_140 : decode cX11_layFewest 140 = .ok (.iastore, 1) := by decide +kernel
theorem dX11_layFewest_141 : decode cX11_layFewest 141 = .ok (.iinc 4 1, 3) := by decide +kernel
theorem dX11_layFewest_144 : decode cX11_layFewest 144 = .ok (.goto (-126), 3) := by decide +kernel
theorem dX11_layFewest_147 : decode cX11_layFewest 147 = .ok (.iinc 3 (-1), 3) := by decide +kernel
theorem dX11_layFewest_150 : decode cX11_layFewest 150 = .ok (.goto (-139), 3) := by decide +kernel
theorem dX11_layFewest_153 : decode cX11_layFewest 153 = .ok (.return_, 1) := by decide +kernel
section G22_model1_lean_txt
variable {p : Program} {l : Launch} {e : Env} {s : State} {m : MethodId} {args : Array Value} {below : List Frame} {meth : Method} {c : Code} {H : Heap} {locs : List Loc} {ls : Array Slot} {E : Ge} {L : Lay} {fu d : Nat}
def fX11_store (fu : Nat) (a0 : Nat) (M : Mm) : Option (Int32 × Mm) :=
  lt ((1 - (M.1 a0 5))) fun x1_6 =>
  lt (wI M a0 8 (M.1 a0 7)) fun M_12 =>
  lt (wI M_12 a0 7 0) fun M_17 =>
  lt (wI M_17 a0 9 0) fun M_22 =>
  lt (wI M_22 a0 14 0) fun M_27 =>
  lt (wI M_27 a0 15 (-1)) fun M_32 =>
  lt (wI M_32 a0 19 0) fun M_37 =>
  lt (wI M_37 a0 20 0) fun M_42 =>
  bm (fX11_clearBank fu a0 x1_6 M_42) fun M_47 =>
  bm (fX11_readAll fu a0 x1_6 M_47) fun M_52 =>
  lt (wI M_52 a0 16 (M_52.1 a0 14)) fun M_60 =>
  lt (wI M_60 a0 17 (M_60.1 a0 15)) fun M_68 =>
  if (M_68.1 a0 16) ≤ 0 then
    lt (wI M_68 a0 5 x1_6) fun M_82 =>
    bm (fX11_startAnew fu a0 M_82) fun M_86 =>
    some ((M_86.1 (a0 + 1) (ix 1)), M_86)
  else
    some ((-1), M_68)
set_option maxRecDepth 100000 in
set_option maxHeartbeats 4000000 in
theorem mX11_store {l : Launch} {E : Ge} {L : Lay} (fu d : Nat) {a0 : Nat} {M : Mm} {r : Int32} {M' : Mm}  (h0 : At L a0 T11) (h : fX11_store fu a0 M = some (r, M')) : Ct l E L yX11_store cX11_store 2 (some .int) (d + 7) [.ref a0] M (some (.int r)) M' := by
  refine Ct.of (by decide) ?_
  intro p e s m below meth c hr hlk B hR
  have B : Bx p s m _ c cX11_store 2 RX11 E L := B
  have hx := B.1
  have hb := B.2.1
  have hl := lv_entry ([.ref a0]) (n := 2) (Nat.le_of_ble_eq_true rfl)
  rw [lg_entry_eq]
  generalize (lg_sl ([.ref a0]) ++ List.replicate (2 - (lg_sl ([.ref a0])).length) Slot.unset).toArray = ls at hl ⊢
  have hl : lv_has ls 2 [(0, .ref a0)] := hl
  unfold fX11_store at h
  refine lv_iconst (v := 1) hx hb dX11_store_0 (by decide) ?_
  refine lv_aload_n hx hb dX11_store_1 rfl (lv_at hl 0 rfl) ?_
  refine gf_X11_225 B hR (h0.at0 rfl) dX11_store_2 ?_
  refine lv_isub hx hb dX11_store_5 ?_
  obtain ⟨x1_6, ex1_6, h⟩ := lt_el h
  refine r_nmI ex1_6 ?_
  refine lv_istore_n (lv' := [(1, .int x1_6), (0, .ref a0)]) hx hb dX11_store_6 rfl hl (by decide) rfl (fun ls hl => ?_)
  refine lv_aload_n hx hb dX11_store_7 rfl (lv_at hl 1 rfl) ?_
  refine lv_aload_n hx hb dX11_store_8 rfl (lv_at hl 1 rfl) ?_
  refine gf_X11_111 B hR (h0.at0 rfl) dX11_store_9 ?_
  obtain ⟨M_12, eM_12, h⟩ := lt_el h
  refine pf_X11_114 B hR (h0.at0 rfl) dX11_store_12 (fun H locs hR => ?_)
  rw [← eM_12] at hR
  refine lv_aload_n hx hb dX11_store_15 rfl (lv_at hl 1 rfl) ?_
  refine lv_iconst (v := 0) hx hb dX11_store_16 (by decide) ?_
  obtain ⟨M_17, eM_17, h⟩ := lt_el h
  refine pf_X11_111 B hR (h0.at0 rfl) dX11_store_17 (fun H locs hR => ?_)
  rw [← eM_17] at hR
  refine lv_aload_n hx hb dX11_store_20 rfl (lv_at hl 1 rfl) ?_
  refine lv_iconst (v := 0) hx hb dX11_store_21 (by decide) ?_
  obtain ⟨M_22, eM_22, h⟩ := lt_el h
  refine pf_X11_117 B hR (h0.at0 rfl) dX11_store_22 (fun H locs hR => ?_)
  rw [← eM_22] at hR
  refine lv_aload_n hx hb dX11_store_25 rfl (lv_at hl 1 rfl) ?_
  refine lv_iconst (v := 0) hx hb dX11_store_26 (by decide) ?_
  obtain ⟨M_27, eM_27, h⟩ := lt_el h
  refine pf_X11_157 B hR (h0.at0 rfl) dX11_store_27 (fun H locs hR => ?_)
  rw [← eM_27] at hR
  refine lv_aload_n hx hb dX11_store_30 rfl (lv_at hl 1 rfl) ?_
  refine lv_iconst (v := (-1)) hx hb dX11_store_31 (by decide) ?_
  obtain ⟨M_32, eM_32, h⟩ := lt_el h
  refine pf_X11_160 B hR (h0.at0 rfl) dX11_store_32 (fun H locs hR => ?_)
  rw [← eM_32] at hR
  refine lv_aload_n hx hb dX11_store_35 rfl (lv_at hl 1 rfl) ?_
  refine lv_iconst (v := 0) hx hb dX11_store_36 (by decide) ?_
  obtain ⟨M_37, eM_37, h⟩ := lt_el h
  refine pf_X11_183 B hR (h0.at0 rfl) dX11_store_37 (fun H locs hR => ?_)
  rw [← eM_37] at hR
  refine lv_aload_n hx hb dX11_store_40 rfl (lv_at hl 1 rfl) ?_
  refine lv_iconst (v := 0) hx hb dX11_store_41 (by decide) ?_
  obtain ⟨M_42, eM_42, h⟩ := lt_el h
  refine pz_X11_186 B hR (h0.at0 rfl) (Or.inl rfl) dX11_store_42 (fun H locs hR => ?_)
  rw [← eM_42] at hR
  refine lv_aload_n hx hb dX11_store_45 rfl (lv_at hl 1 rfl) ?_
  refine lv_iload_n hx hb dX11_store_46 rfl (lv_at hl 0 rfl) ?_
  obtain ⟨M_47, hc_47, h⟩ := bm_el h
  refine iv_X11_104 B hR (h0.at0 rfl) hl.1 (mX11_clearBank fu _ h0 hc_47) (Nat.le_of_ble_eq_true rfl) dX11_store_47 (fun H locs hR => ?_)
  refine lv_aload_n hx hb dX11_store_50 rfl (lv_at hl 1 rfl) ?_
  refine lv_iload_n hx hb dX11_store_51 rfl (lv_at hl 0 rfl) ?_
  obtain ⟨M_52, hc_52, h⟩ := bm_el h
  refine iv_X11_228 B hR (h0.at0 rfl) hl.1 (mX11_readAll fu _ h0 hc_52) (Nat.le_of_ble_eq_true rfl) dX11_store_52 (fun H locs hR => ?_)
  refine lv_aload_n hx hb dX11_store_55 rfl (lv_at hl 1 rfl) ?_
  refine lv_aload_n hx hb dX11_store_56 rfl (lv_at hl 1 rfl) ?_
  refine gf_X11_157 B hR (h0.at0 rfl) dX11_store_57 ?_
  obtain ⟨M_60, eM_60, h⟩ := lt_el h
  refine pf_X11_231 B hR (h0.at0 rfl) dX11_store_60 (fun H locs hR => ?_)
  rw [← eM_60] at hR
  refine lv_aload_n hx hb dX11_store_63 rfl (lv_at hl 1 rfl) ?_
  refine lv_aload_n hx hb dX11_store_64 rfl (lv_at hl 1 rfl) ?_
  refine gf_X11_160 B hR (h0.at0 rfl) dX11_store_65 ?_
  obtain ⟨M_68, eM_68, h⟩ := lt_el h
  refine pf_X11_29 B hR (h0.at0 rfl) dX11_store_68 (fun H locs hR => ?_)
  rw [← eM_68] at hR
  refine lv_aload_n hx hb dX11_store_71 rfl (lv_at hl 1 rfl) ?_
  refine gf_X11_231 B hR (h0.at0 rfl) dX11_store_72 ?_
  refine lv_if_le (tgt := 80) hx hb dX11_store_75 (by decide) (fun c_75 => ?_) (fun c_75 => ?_)
  · rw [if_pos c_75] at h
    refine lv_aload_n hx hb dX11_store_80 rfl (lv_at hl 1 rfl) ?_
    refine lv_iload_n hx hb dX11_store_81 rfl (lv_at hl 0 rfl) ?_
    obtain ⟨M_82, eM_82, h⟩ := lt_el h
    refine pf_X11_225 B hR (h0.at0 rfl) dX11_store_82 (fun H locs hR => ?_)
    rw [← eM_82] at hR
    refine lv_aload_n hx hb dX11_store_85 rfl (lv_at hl 1 rfl) ?_
    obtain ⟨M_86, hc_86, h⟩ := bm_el h
    refine iv_X11_108 B hR (h0.at0 rfl) hl.1 (mX11_startAnew fu _ h0 hc_86) (Nat.le_of_ble_eq_true rfl) dX11_store_86 (fun H locs hR => ?_)
    refine lv_aload_n hx hb dX11_store_89 rfl (lv_at hl 1 rfl) ?_
    refine gf_X11_7 B hR (h0.at0 rfl) dX11_store_90 ?_
    refine lv_iconst (v := 1) hx hb dX11_store_93 (by decide) ?_
    refine r_iald B hR (h0.at 1 rfl) (by decide +kernel) dX11_store_94 ?_
    exact r_iretW B hR hr hlk h dX11_store_95
  · rw [if_neg c_75] at h
    refine lv_iconst (v := (-1)) hx hb dX11_store_78 (by decide) ?_
    exact r_iretW B hR hr hlk h dX11_store_79
def fX11_fault_j24 (fu : Nat) (t0 : Int32) (M : Mm) : Option Int32 :=
  some t0
set_option maxRecDepth 100000 in
set_option maxHeartbeats 4000000 in
theorem wX11_fault_j24 {r : Int32}   {t0 : Int32} {M : Mm} (B : Bx p s m args c cX11_fault 2 RX11 E L) (hr : meth.sig.returnType = (some .int)) (hlk : meth.locks = false)   (h : fX11_fault_j24 fu t0 M = some r) (hR : Rx s E L M H locs) (hl : lv_has ls 2 []) : W p l e (rmD (d + 0)) s m args below meth c H locs 0 0 (MQ below (QcM E L (some (.int r)) M) args s 0 0 E.2.2.2) (F0 m 24 ls [.int t0]) := by
  have hx := B.1
  have hb := B.2.1
  unfold fX11_fault_j24 at h
  exact r_iretP B hR hr hlk h dX11_fault_24
def fX11_fault (fu : Nat) (a0 : Nat) (x1 : Int32) (M : Mm) : Option Int32 :=
  if x1 = 0 then
    fX11_fault_j24 fu (M.1 a0 16) M
  else
    if x1 = 1 then
      fX11_fault_j24 fu (M.1 a0 17) M
    else
      fX11_fault_j24 fu (-1) M
set_option maxRecDepth 100000 in
set_option maxHeartbeats 4000000 in
theorem mX11_fault {l : Launch} {E : Ge} {L : Lay} (fu d : Nat) {a0 : Nat} {x1 : Int32} {M : Mm} {r : Int32}  (h0 : At L a0 T11) (h : fX11_fault fu a0 x1 M = some r) : Ct l E L yX11_fault cX11_fault 2 (some .int) (d + 0) [.ref a0, .int x1] M (some (.int r)) M := by
  refine Ct.of (by decide) ?_
  intro p e s m below meth c hr hlk B hR
  have B : Bx p s m _ c cX11_fault 2 RX11 E L := B
  have hx := B.1
  have hb := B.2.1
  have hl := lv_entry ([.ref a0, .int x1]) (n := 2) (Nat.le_of_ble_eq_true rfl)
  rw [lg_entry_eq]
  generalize (lg_sl ([.ref a0, .int x1]) ++ List.replicate (2 - (lg_sl ([.ref a0, .int x1])).length) Slot.unset).toArray = ls at hl ⊢
  have hl : lv_has ls 2 [(0, .ref a0), (1, .int x1)] := hl
  unfold fX11_fault at h
  refine lv_iload_n hx hb dX11_fault_0 rfl (lv_at hl 1 rfl) ?_
  refine lv_if_ne (tgt := 11) hx hb dX11_fault_1 (by decide) (fun c_1 => ?_) (fun c_1 => ?_)
  · rw [if_neg c_1] at h
    refine lv_iload_n hx hb dX11_fault_11 rfl (lv_at hl 1 rfl) ?_
    refine lv_iconst (v := 1) hx hb dX11_fault_12 (by decide) ?_
    refine lv_icmp_ne (tgt := 23) hx hb dX11_fault_13 (by decide) (fun c_13 => ?_) (fun c_13 => ?_)
    · rw [if_neg c_13] at h
      refine lv_iconst (v := (-1)) hx hb dX11_fault_23 (by decide) ?_
      exact wX11_fault_j24 B hr hlk  h hR (lv_sub hl [] rfl)
    · rw [if_pos c_13] at h
      refine lv_aload_n hx hb dX11_fault_16 rfl (lv_at hl 0 rfl) ?_
      refine gf_X11_29 B hR (h0.at0 rfl) dX11_fault_17 ?_
      refine lv_goto (tgt := 24) hx hb dX11_fault_20 (by decide) ?_
      exact wX11_fault_j24 B hr hlk  h hR (lv_sub hl [] rfl)
  · rw [if_pos c_1] at h
    refine lv_aload_n hx hb dX11_fault_4 rfl (lv_at hl 0 rfl) ?_
    refine gf_X11_231 B hR (h0.at0 rfl) dX11_fault_5 ?_
    refine lv_goto (tgt := 24) hx hb dX11_fault_8 (by decide) ?_
    exact wX11_fault_j24 B hr hlk  h hR (lv_sub hl [] rfl)
def fX11_addresses (fu : Nat) (a0 : Nat) (M : Mm) : Option Int32 :=
  if (M.1 a0 5) < 0 ∨ 2 ≤ ix (M.1 a0 5) then none else
  some (1 <<< ((M.1 (a0 + 2) (ix (M.1 a0 5))) &&& 31))
set_option maxRecDepth 100000 in
set_option maxHeartbeats 4000000 in
theorem mX11_addresses {l : Launch} {E : Ge} {L : Lay} (fu d : Nat) {a0 : Nat} {M : Mm} {r : Int32}  (h0 : At L a0 T11) (h : fX11_addresses fu a0 M = some r) : Ct l E L yX11_addresses cX11_addresses 1 (some .int) (d + 0) [.ref a0] M (some (.int r)) M := by
  refine Ct.of (by decide) ?_
  intro p e s m below meth c hr hlk B hR
  have B : Bx p s m _ c cX11_addresses 1 RX11 E L := B
  have hx := B.1
  have hb := B.2.1
  have hl := lv_entry ([.ref a0]) (n := 1) (Nat.le_of_ble_eq_true rfl)
  rw [lg_entry_eq]
  generalize (lg_sl ([.ref a0]) ++ List.replicate (1 - (lg_sl ([.ref a0])).length) Slot.unset).toArray = ls at hl ⊢
  have hl : lv_has ls 1 [(0, .ref a0)] := hl
  unfold fX11_addresses at h
  refine lv_iconst (v := 1) hx hb dX11_addresses_0 (by decide) ?_
  refine lv_aload_n hx hb dX11_addresses_1 rfl (lv_at hl 0 rfl) ?_
  refine gf_X11_13 B hR (h0.at0 rfl) dX11_addresses_2 ?_
  refine lv_aload_n hx hb dX11_addresses_5 rfl (lv_at hl 0 rfl) ?_
  refine gf_X11_225 B hR (h0.at0 rfl) dX11_addresses_6 ?_
  obtain ⟨hi_9, h⟩ := ifn_el h
  refine r_iald B hR (h0.at 2 rfl) hi_9 dX11_addresses_9 ?_
  refine lv_ishl hx hb dX11_addresses_10 ?_
  exact r_iretP B hR hr hlk h dX11_addresses_11
def fX11_pages (fu : Nat) (a0 : Nat) (M : Mm) : Option Int32 :=
  bi (fX11_addresses fu a0 M) fun r_1 =>
  some (r_1 / 16)
set_option maxRecDepth 100000 in
set_option maxHeartbeats 4000000 in
theorem mX11_pages {l : Launch} {E : Ge} {L : Lay} (fu d : Nat) {a0 : Nat} {M : Mm} {r : Int32}  (h0 : At L a0 T11) (h : fX11_pages fu a0 M = some r) : Ct l E L yX11_pages cX11_pages 1 (some .int) (d + 1) [.ref a0] M (some (.int r)) M := by
  refine Ct.of (by decide) ?_
  intro p e s m below meth c hr hlk B hR
  have B : Bx p s m _ c cX11_pages 1 RX11 E L := B
  have hx := B.1
  have hb := B.2.1
  have hl := lv_entry ([.ref a0]) (n := 1) (Nat.le_of_ble_eq_true rfl)
  rw [lg_entry_eq]
  generalize (lg_sl ([.ref a0]) ++ List.replicate (1 - (lg_sl ([.ref a0])).length) Slot.unset).toArray = ls at hl ⊢
  have hl : lv_has ls 1 [(0, .ref a0)] := hl
  unfold fX11_pages at h
  refine lv_aload_n hx hb dX11_pages_0 rfl (lv_at hl 0 rfl) ?_
  obtain ⟨r_1, hc_1, h⟩ := bi_el h
  refine iv_X11_240 B hR (h0.at0 rfl) hl.1 (mX11_addresses fu _ h0 hc_1) (Nat.le_of_ble_eq_true rfl) dX11_pages_1 (fun H locs hR => ?_)
  refine lv_bipush (v := 16) hx hb dX11_pages_4 (by decide) ?_
  refine lv_idiv hx hb dX11_pages_6 (by decide) ?_
  exact r_iretP B hR hr hlk h dX11_pages_7
def fX11_isAddress (fu : Nat) (a0 : Nat) (x1 : Int32) (M : Mm) : Option Int32 :=
  bi (fX11_addresses fu a0 M) fun r_3 =>
  bi (fX11_isIn fu x1 0 (r_3 - 1)) fun r_8 =>
  gd (r_8 = 0 ∨ r_8 = 1) <|
  some r_8
set_option maxRecDepth 100000 in
set_option maxHeartbeats 4000000 in
theorem mX11_isAddress {l : Launch} {E : Ge} {L : Lay} (fu d : Nat) {a0 : Nat} {x1 : Int32} {M : Mm} {r : Int32}  (h0 : At L a0 T11) (h : fX11_isAddress fu a0 x1 M = some r) : Ct l E L yX11_isAddress cX11_isAddress 2 (some .boolean) (d + 1) [.ref a0, .int x1] M (some (.int r)) M := by
  refine Ct.of (by decide) ?_
  intro p e s m below meth c hr hlk B hR
  have B : Bx p s m _ c cX11_isAddress 2 RX11 E L := B
  have hx := B.1
  have hb := B.2.1
  have hl := lv_entry ([.ref a0, .int x1]) (n := 2) (Nat.le_of_ble_eq_true rfl)
  rw [lg_entry_eq]
  generalize (lg_sl ([.ref a0, .int x1]) ++ List.replicate (2 - (lg_sl ([.ref a0, .int x1])).length) Slot.unset).toArray = ls at hl ⊢
  have hl : lv_has ls 2 [(0, .ref a0), (1, .int x1)] := hl
  unfold fX11_isAddress at h
  refine lv_iload_n hx hb dX11_isAddress_0 rfl (lv_at hl 1 rfl) ?_
  refine lv_iconst (v := 0) hx hb dX11_isAddress_1 (by decide) ?_
  refine lv_aload_n hx hb dX11_isAddress_2 rfl (lv_at hl 0 rfl) ?_
  obtain ⟨r_3, hc_3, h⟩ := bi_el h
  refine iv_X11_240 B hR (h0.at0 rfl) hl.1 (mX11_addresses fu _ h0 hc_3) (Nat.le_of_ble_eq_true rfl) dX11_isAddress_3 (fun H locs hR => ?_)
  refine lv_iconst (v := 1) hx hb dX11_isAddress_6 (by decide) ?_
  refine lv_isub hx hb dX11_isAddress_7 ?_
  obtain ⟨r_8, hc_8, h⟩ := bi_el h
  refine is_X11_163 B hR hl.1 (mX11_isIn fu _  hc_8) (Nat.le_of_ble_eq_true rfl) dX11_isAddress_8 (fun H locs hR => ?_)
  obtain ⟨hz_11, h⟩ := gd_el h
  exact r_zretP B hR hr hlk hz_11 h dX11_isAddress_11
def fX11_isKind (fu : Nat) (x0 : Int32) : Option Int32 :=
  bi (fX11_isIn fu x0 0 4) fun r_3 =>
  gd (r_3 = 0 ∨ r_3 = 1) <|
  some r_3
set_option maxRecDepth 100000 in
set_option maxHeartbeats 4000000 in
theorem mX11_isKind {l : Launch} {E : Ge} {L : Lay} (fu d : Nat) {x0 : Int32} {M : Mm} {r : Int32}   (h : fX11_isKind fu x0 = some r) : Ct l E L yX11_isKind cX11_isKind 1 (some .boolean) (d + 1) [.int x0] M (some (.int r)) M := by
  refine Ct.of (by decide) ?_
  intro p e s m below meth c hr hlk B hR
  have B : Bx p s m _ c cX11_isKind 1 RX11 E L := B
  have hx := B.1
  have hb := B.2.1
  have hl := lv_entry ([.int x0]) (n := 1) (Nat.le_of_ble_eq_true rfl)
  rw [lg_entry_eq]
  generalize (lg_sl ([.int x0]) ++ List.replicate (1 - (lg_sl ([.int x0])).length) Slot.unset).toArray = ls at hl ⊢
  have hl : lv_has ls 1 [(0, .int x0)] := hl
  unfold fX11_isKind at h
  refine lv_iload_n hx hb dX11_isKind_0 rfl (lv_at hl 0 rfl) ?_
  refine lv_iconst (v := 0) hx hb dX11_isKind_1 (by decide) ?_
  refine lv_iconst (v := 4) hx hb dX11_isKind_2 (by decide) ?_
  obtain ⟨r_3, hc_3, h⟩ := bi_el h
  refine is_X11_163 B hR hl.1 (mX11_isIn fu _  hc_3) (Nat.le_of_ble_eq_true rfl) dX11_isKind_3 (fun H locs hR => ?_)
  obtain ⟨hz_6, h⟩ := gd_el h
  exact r_zretP B hR hr hlk hz_6 h dX11_isKind_6
def fX11_registersNow (fu : Nat) (a0 : Nat) (M : Mm) : Option Int32 :=
  if (M.1 a0 5) < 0 ∨ 2 ≤ ix (M.1 a0 5) then none else
  some (M.1 (a0 + 3) (ix (M.1 a0 5)))
set_option maxRecDepth 100000 in
set_option maxHeartbeats 4000000 in
theorem mX11_registersNow {l : Launch} {E : Ge} {L : Lay} (fu d : Nat) {a0 : Nat} {M : Mm} {r : Int32}  (h0 : At L a0 T11) (h : fX11_registersNow fu a0 M = some r) : Ct l E L yX11_registersNow cX11_registersNow 1 (some .int) (d + 0) [.ref a0] M (some (.int r)) M := by
  refine Ct.of (by decide) ?_
  intro p e s m below meth c hr hlk B hR
  have B : Bx p s m _ c cX11_registersNow 1 RX11 E L := B
  have hx := B.1
  have hb := B.2.1
  have hl := lv_entry ([.ref a0]) (n := 1) (Nat.le_of_ble_eq_true rfl)
  rw [lg_entry_eq]
  generalize (lg_sl ([.ref a0]) ++ List.replicate (1 - (lg_sl ([.ref a0])).length) Slot.unset).toArray = ls at hl ⊢
  have hl : lv_has ls 1 [(0, .ref a0)] := hl
  unfold fX11_registersNow at h
  refine lv_aload_n hx hb dX11_registersNow_0 rfl (lv_at hl 0 rfl) ?_
  refine gf_X11_16 B hR (h0.at0 rfl) dX11_registersNow_1 ?_
  refine lv_aload_n hx hb dX11_registersNow_4 rfl (lv_at hl 0 rfl) ?_
  refine gf_X11_225 B hR (h0.at0 rfl) dX11_registersNow_5 ?_
  obtain ⟨hi_8, h⟩ := ifn_el h
  refine r_iald B hR (h0.at 3 rfl) hi_8 dX11_registersNow_8 ?_
  exact r_iretP B hR hr hlk h dX11_registersNow_9
def fX11_isRegister (fu : Nat) (a0 : Nat) (x1 : Int32) (M : Mm) : Option Int32 :=
  bi (fX11_registersNow fu a0 M) fun r_3 =>
  bi (fX11_isIn fu x1 0 (r_3 - 1)) fun r_8 =>
  gd (r_8 = 0 ∨ r_8 = 1) <|
  some r_8
set_option maxRecDepth 100000 in
set_option maxHeartbeats 4000000 in
theorem mX11_isRegister {l : Launch} {E : Ge} {L : Lay} (fu d : Nat) {a0 : Nat} {x1 : Int32} {M : Mm} {r : Int32}  (h0 : At L a0 T11) (h : fX11_isRegister fu a0 x1 M = some r) : Ct l E L yX11_isRegister cX11_isRegister 2 (some .boolean) (d + 1) [.ref a0, .int x1] M (some (.int r)) M := by
  refine Ct.of (by decide) ?_
  intro p e s m below meth c hr hlk B hR
  have B : Bx p s m _ c cX11_isRegister 2 RX11 E L := B
  have hx := B.1
  have hb := B.2.1
  have hl := lv_entry ([.ref a0, .int x1]) (n := 2) (Nat.le_of_ble_eq_true rfl)
  rw [lg_entry_eq]
  generalize (lg_sl ([.ref a0, .int x1]) ++ List.replicate (2 - (lg_sl ([.ref a0, .int x1])).length) Slot.unset).toArray = ls at hl ⊢
  have hl : lv_has ls 2 [(0, .ref a0), (1, .int x1)] := hl
  unfold fX11_isRegister at h
  refine lv_iload_n hx hb dX11_isRegister_0 rfl (lv_at hl 1 rfl) ?_
  refine lv_iconst (v := 0) hx hb dX11_isRegister_1 (by decide) ?_
  refine lv_aload_n hx hb dX11_isRegister_2 rfl (lv_at hl 0 rfl) ?_
  obtain ⟨r_3, hc_3, h⟩ := bi_el h
  refine iv_X11_243 B hR (h0.at0 rfl) hl.1 (mX11_registersNow fu _ h0 hc_3) (Nat.le_of_ble_eq_true rfl) dX11_isRegister_3 (fun H locs hR => ?_)
  refine lv_iconst (v := 1) hx hb dX11_isRegister_6 (by decide) ?_
  refine lv_isub hx hb dX11_isRegister_7 ?_
  obtain ⟨r_8, hc_8, h⟩ := bi_el h
  refine is_X11_163 B hR hl.1 (mX11_isIn fu _  hc_8) (Nat.le_of_ble_eq_true rfl) dX11_isRegister_8 (fun H locs hR => ?_)
  obtain ⟨hz_11, h⟩ := gd_el h
  exact r_zretP B hR hr hlk hz_11 h dX11_isRegister_11
def fX11_baseOf (fu : Nat) (a0 : Nat) (x1 : Int32) (M : Mm) : Option Int32 :=
  if (38 + (3 * x1)) < 0 ∨ 140 ≤ ix (38 + (3 * x1)) then none else
  some (M.1 (a0 + 1) (ix (38 + (3 * x1))))
set_option maxRecDepth 100000 in
set_option maxHeartbeats 4000000 in
theorem mX11_baseOf {l : Launch} {E : Ge} {L : Lay} (fu d : Nat) {a0 : Nat} {x1 : Int32} {M : Mm} {r : Int32}  (h0 : At L a0 T11) (h : fX11_baseOf fu a0 x1 M = some r) : Ct l E L yX11_baseOf cX11_baseOf 2 (some .int) (d + 0) [.ref a0, .int x1] M (some (.int r)) M := by
  refine Ct.of (by decide) ?_
  intro p e s m below meth c hr hlk B hR
  have B : Bx p s m _ c cX11_baseOf 2 RX11 E L := B
  have hx := B.1
  have hb := B.2.1
  have hl := lv_entry ([.ref a0, .int x1]) (n := 2) (Nat.le_of_ble_eq_true rfl)
  rw [lg_entry_eq]
  generalize (lg_sl ([.ref a0, .int x1]) ++ List.replicate (2 - (lg_sl ([.ref a0, .int x1])).length) Slot.unset).toArray = ls at hl ⊢
  have hl : lv_has ls 2 [(0, .ref a0), (1, .int x1)] := hl
  unfold fX11_baseOf at h
  refine lv_aload_n hx hb dX11_baseOf_0 rfl (lv_at hl 0 rfl) ?_
  refine gf_X11_7 B hR (h0.at0 rfl) dX11_baseOf_1 ?_
  refine lv_bipush (v := 38) hx hb dX11_baseOf_4 (by decide) ?_
  refine lv_iconst (v := 3) hx hb dX11_baseOf_6 (by decide) ?_
  refine lv_iload_n hx hb dX11_baseOf_7 rfl (lv_at hl 1 rfl) ?_
  refine lv_imul hx hb dX11_baseOf_8 ?_
  refine lv_iadd hx hb dX11_baseOf_9 ?_
  obtain ⟨hi_10, h⟩ := ifn_el h
  refine r_iald B hR (h0.at 1 rfl) hi_10 dX11_baseOf_10 ?_
  exact r_iretP B hR hr hlk h dX11_baseOf_11
def fX11_sizeOf (fu : Nat) (a0 : Nat) (x1 : Int32) (M : Mm) : Option Int32 :=
  if ((38 + (3 * x1)) + 1) < 0 ∨ 140 ≤ ix ((38 + (3 * x1)) + 1) then none else
  some (M.1 (a0 + 1) (ix ((38 + (3 * x1)) + 1)))
set_option maxRecDepth 100000 in
set_option maxHeartbeats 4000000 in
theorem mX11_sizeOf {l : Launch} {E : Ge} {L : Lay} (fu d : Nat) {a0 : Nat} {x1 : Int32} {M : Mm} {r : Int32}  (h0 : At L a0 T11) (h : fX11_sizeOf fu a0 x1 M = some r) : Ct l E L yX11_sizeOf cX11_sizeOf 2 (some .int) (d + 0) [.ref a0, .int x1] M (some (.int r)) M := by
  refine Ct.of (by decide) ?_
  intro p e s m below meth c hr hlk B hR
  have B : Bx p s m _ c cX11_sizeOf 2 RX11 E L := B
  have hx := B.1
  have hb := B.2.1
  have hl := lv_entry ([.ref a0, .int x1]) (n := 2) (Nat.le_of_ble_eq_true rfl)
  rw [lg_entry_eq]
  generalize (lg_sl ([.ref a0, .int x1]) ++ List.replicate (2 - (lg_sl ([.ref a0, .int x1])).length) Slot.unset).toArray = ls at hl ⊢
  have hl : lv_has ls 2 [(0, .ref a0), (1, .int x1)] := hl
  unfold fX11_sizeOf at h
  refine lv_aload_n hx hb dX11_sizeOf_0 rfl (lv_at hl 0 rfl) ?_
  refine gf_X11_7 B hR (h0.at0 rfl) dX11_sizeOf_1 ?_
  refine lv_bipush (v := 38) hx hb dX11_sizeOf_4 (by decide) ?_
  refine lv_iconst (v := 3) hx hb dX11_sizeOf_6 (by decide) ?_
  refine lv_iload_n hx hb dX11_sizeOf_7 rfl (lv_at hl 1 rfl) ?_
  refine lv_imul hx hb dX11_sizeOf_8 ?_
  refine lv_iadd hx hb dX11_sizeOf_9 ?_
  refine lv_iconst (v := 1) hx hb dX11_sizeOf_10 (by decide) ?_
  refine lv_iadd hx hb dX11_sizeOf_11 ?_
  obtain ⟨hi_12, h⟩ := ifn_el h
  refine r_iald B hR (h0.at 1 rfl) hi_12 dX11_sizeOf_12 ?_
  exact r_iretP B hR hr hlk h dX11_sizeOf_13
def fX11_kindOf (fu : Nat) (a0 : Nat) (x1 : Int32) (M : Mm) : Option Int32 :=
  if ((38 + (3 * x1)) + 2) < 0 ∨ 140 ≤ ix ((38 + (3 * x1)) + 2) then none else
  some (M.1 (a0 + 1) (ix ((38 + (3 * x1)) + 2)))
set_option maxRecDepth 100000 in
set_option maxHeartbeats 4000000 in
theorem mX11_kindOf {l : Launch} {E : Ge} {L : Lay} (fu d : Nat) {a0 : Nat} {x1 : Int32} {M : Mm} {r : Int32}  (h0 : At L a0 T11) (h : fX11_kindOf fu a0 x1 M = some r) : Ct l E L yX11_kindOf cX11_kindOf 2 (some .int) (d + 0) [.ref a0, .int x1] M (some (.int r)) M := by
  refine Ct.of (by decide) ?_
  intro p e s m below meth c hr hlk B hR
  have B : Bx p s m _ c cX11_kindOf 2 RX11 E L := B
  have hx := B.1
  have hb := B.2.1
  have hl := lv_entry ([.ref a0, .int x1]) (n := 2) (Nat.le_of_ble_eq_true rfl)
  rw [lg_entry_eq]
  generalize (lg_sl ([.ref a0, .int x1]) ++ List.replicate (2 - (lg_sl ([.ref a0, .int x1])).length) Slot.unset).toArray = ls at hl ⊢
  have hl : lv_has ls 2 [(0, .ref a0), (1, .int x1)] := hl
  unfold fX11_kindOf at h
  refine lv_aload_n hx hb dX11_kindOf_0 rfl (lv_at hl 0 rfl) ?_
  refine gf_X11_7 B hR (h0.at0 rfl) dX11_kindOf_1 ?_
  refine lv_bipush (v := 38) hx hb dX11_kindOf_4 (by decide) ?_
  refine lv_iconst (v := 3) hx hb dX11_kindOf_6 (by decide) ?_
  refine lv_iload_n hx hb dX11_kindOf_7 rfl (lv_at hl 1 rfl) ?_
  refine lv_imul hx hb dX11_kindOf_8 ?_
  refine lv_iadd hx hb dX11_kindOf_9 ?_
  refine lv_iconst (v := 2) hx hb dX11_kindOf_10 (by decide) ?_
  refine lv_iadd hx hb dX11_kindOf_11 ?_
  obtain ⟨hi_12, h⟩ := ifn_el h
  refine r_iald B hR (h0.at 1 rfl) hi_12 dX11_kindOf_12 ?_
  exact r_iretP B hR hr hlk h dX11_kindOf_13
def fX11_isSet_j21 (fu : Nat) (t0 : Int32) (M : Mm) : Option Int32 :=
  gd (t0 = 0 ∨ t0 = 1) <|
  some t0
set_option maxRecDepth 100000 in
set_option maxHeartbeats 4000000 in
theorem wX11_isSet_j21 {r : Int32}   {t0 : Int32} {M : Mm} (B : Bx p s m args c cX11_isSet 2 RX11 E L) (hr : meth.sig.returnType = (some .boolean)) (hlk : meth.locks = false)   (h : fX11_isSet_j21 fu t0 M = some r) (hR : Rx s E L M H locs) (hl : lv_has ls 2 []) : W p l e (rmD (d + 2)) s m args below meth c H locs 0 0 (MQ below (QcM E L (some (.int r)) M) args s 0 0 E.2.2.2) (F0 m 21 ls [.int t0]) := by
  have hx := B.1
  have hb := B.2.1
  unfold fX11_isSet_j21 at h
  obtain ⟨hz_21, h⟩ := gd_el h
  exact r_zretP B hR hr hlk hz_21 h dX11_isSet_21
def fX11_isSet_j20 (fu : Nat) (M : Mm) : Option Int32 :=
  fX11_isSet_j21 fu 0 M
set_option maxRecDepth 100000 in
set_option maxHeartbeats 4000000 in
theorem wX11_isSet_j20 {r : Int32}    {M : Mm} (B : Bx p s m args c cX11_isSet 2 RX11 E L) (hr : meth.sig.returnType = (some .boolean)) (hlk : meth.locks = false)   (h : fX11_isSet_j20 fu M = some r) (hR : Rx s E L M H locs) (hl : lv_has ls 2 []) : W p l e (rmD (d + 2)) s m args below meth c H locs 0 0 (MQ below (QcM E L (some (.int r)) M) args s 0 0 E.2.2.2) (F0 m 20 ls []) := by
  have hx := B.1
  have hb := B.2.1
  unfold fX11_isSet_j20 at h
  refine lv_iconst (v := 0) hx hb dX11_isSet_20 (by decide) ?_
  exact wX11_isSet_j21 B hr hlk  h hR hl
def fX11_isSet (fu : Nat) (a0 : Nat) (x1 : Int32) (M : Mm) : Option Int32 :=
  bi (fX11_isRegister fu a0 x1 M) fun r_2 =>
  if r_2 = 0 then
    fX11_isSet_j20 fu M
  else
    bi (fX11_sizeOf fu a0 x1 M) fun r_10 =>
    if r_10 ≤ 0 then
      fX11_isSet_j20 fu M
    else
      fX11_isSet_j21 fu 1 M
set_option maxRecDepth 100000 in
set_option maxHeartbeats 4000000 in
theorem mX11_isSet {l : Launch} {E : Ge} {L : Lay} (fu d : Nat) {a0 : Nat} {x1 : Int32} {M : Mm} {r : Int32}  (h0 : At L a0 T11) (h : fX11_isSet fu a0 x1 M = some r) : Ct l E L yX11_isSet cX11_isSet 2 (some .boolean) (d + 2) [.ref a0, .int x1] M (some (.int r)) M := by
  refine Ct.of (by decide) ?_
  intro p e s m below meth c hr hlk B hR
  have B : Bx p s m _ c cX11_isSet 2 RX11 E L := B
  have hx := B.1
  have hb := B.2.1
  have hl := lv_entry ([.ref a0, .int x1]) (n := 2) (Nat.le_of_ble_eq_true rfl)
  rw [lg_entry_eq]
  generalize (lg_sl ([.ref a0, .int x1]) ++ List.replicate (2 - (lg_sl ([.ref a0, .int x1])).length) Slot.unset).toArray = ls at hl ⊢
  have hl : lv_has ls 2 [(0, .ref a0), (1, .int x1)] := hl
  unfold fX11_isSet at h
  refine lv_aload_n hx hb dX11_isSet_0 rfl (lv_at hl 0 rfl) ?_
  refine lv_iload_n hx hb dX11_isSet_1 rfl (lv_at hl 1 rfl) ?_
  obtain ⟨r_2, hc_2, h⟩ := bi_el h
  refine iv_X11_246 B hR (h0.at0 rfl) hl.1 (mX11_isRegister fu _ h0 hc_2) (Nat.le_of_ble_eq_true rfl) dX11_isSet_2 (fun H locs hR => ?_)
  refine lv_if_eq (tgt := 20) hx hb dX11_isSet_5 (by decide) (fun c_5 => ?_) (fun c_5 => ?_)
  · rw [if_pos c_5] at h
    exact wX11_isSet_j20 B hr hlk  h hR (lv_sub hl [] rfl)
  · rw [if_neg c_5] at h
    refine lv_aload_n hx hb dX11_isSet_8 rfl (lv_at hl 0 rfl) ?_
    refine lv_iload_n hx hb dX11_isSet_9 rfl (lv_at hl 1 rfl) ?_
    obtain ⟨r_10, hc_10, h⟩ := bi_el h
    refine iv_X11_249 B hR (h0.at0 rfl) hl.1 (mX11_sizeOf fu _ h0 hc_10) (Nat.le_of_ble_eq_true rfl) dX11_isSet_10 (fun H locs hR => ?_)
    refine lv_if_le (tgt := 20) hx hb dX11_isSet_13 (by decide) (fun c_13 => ?_) (fun c_13 => ?_)
    · rw [if_pos c_13] at h
      exact wX11_isSet_j20 B hr hlk  h hR (lv_sub hl [] rfl)
    · rw [if_neg c_13] at h
      refine lv_iconst (v := 1) hx hb dX11_isSet_16 (by decide) ?_
      refine lv_goto (tgt := 21) hx hb dX11_isSet_17 (by decide) ?_
      exact wX11_isSet_j21 B hr hlk  h hR (lv_sub hl [] rfl)
def fX11_isFixed_j18 (fu : Nat) (t0 : Int32) (M : Mm) : Option Int32 :=
  gd (t0 = 0 ∨ t0 = 1) <|
  some t0
set_option maxRecDepth 100000 in
set_option maxHeartbeats 4000000 in
theorem wX11_isFixed_j18 {r : Int32}   {t0 : Int32} {M : Mm} (B : Bx p s m args c cX11_isFixed 2 RX11 E L) (hr : meth.sig.returnType = (some .boolean)) (hlk : meth.locks = false)   (h : fX11_isFixed_j18 fu t0 M = some r) (hR : Rx s E L M H locs) (hl : lv_has ls 2 []) : W p l e (rmD (d + 0)) s m args below meth c H locs 0 0 (MQ below (QcM E L (some (.int r)) M) args s 0 0 E.2.2.2) (F0 m 18 ls [.int t0]) := by
  have hx := B.1
  have hb := B.2.1
  unfold fX11_isFixed_j18 at h
  obtain ⟨hz_18, h⟩ := gd_el h
  exact r_zretP B hR hr hlk hz_18 h dX11_isFixed_18
def fX11_isFixed (fu : Nat) (a0 : Nat) (x1 : Int32) (M : Mm) : Option Int32 :=
  if (M.1 a0 5) < 0 ∨ 2 ≤ ix (M.1 a0 5) then none else
  if (M.1 (a0 + 4) (ix (M.1 a0 5))) ≤ x1 then
    fX11_isFixed_j18 fu 0 M
  else
    fX11_isFixed_j18 fu 1 M
set_option maxRecDepth 100000 in
set_option maxHeartbeats 4000000 in
theorem mX11_isFixed {l : Launch} {E : Ge} {L : Lay} (fu d : Nat) {a0 : Nat} {x1 : Int32} {M : Mm} {r : Int32}  (h0 : At L a0 T11) (h : fX11_isFixed fu a0 x1 M = some r) : Ct l E L yX11_isFixed cX11_isFixed 2 (some .boolean) (d + 0) [.ref a0, .int x1] M (some (.int r)) M := by
  refine Ct.of (by decide) ?_
  intro p e s m below meth c hr hlk B hR
  have B : Bx p s m _ c cX11_isFixed 2 RX11 E L := B
  have hx := B.1
  have hb := B.2.1
  have hl := lv_entry ([.ref a0, .int x1]) (n := 2) (Nat.le_of_ble_eq_true rfl)
  rw [lg_entry_eq]
  generalize (lg_sl ([.ref a0, .int x1]) ++ List.replicate (2 - (lg_sl ([.ref a0, .int x1])).length) Slot.unset).toArray = ls at hl ⊢
  have hl : lv_has ls 2 [(0, .ref a0), (1, .int x1)] := hl
  unfold fX11_isFixed at h
  refine lv_iload_n hx hb dX11_isFixed_0 rfl (lv_at hl 1 rfl) ?_
  refine lv_aload_n hx hb dX11_isFixed_1 rfl (lv_at hl 0 rfl) ?_
  refine gf_X11_19 B hR (h0.at0 rfl) dX11_isFixed_2 ?_
  refine lv_aload_n hx hb dX11_isFixed_5 rfl (lv_at hl 0 rfl) ?_
  refine gf_X11_225 B hR (h0.at0 rfl) dX11_isFixed_6 ?_
  obtain ⟨hi_9, h⟩ := ifn_el h
  refine r_iald B hR (h0.at 4 rfl) hi_9 dX11_isFixed_9 ?_
  refine lv_icmp_ge (tgt := 17) hx hb dX11_isFixed_10 (by decide) (fun c_10 => ?_) (fun c_10 => ?_)
  · rw [if_pos c_10] at h
    refine lv_iconst (v := 0) hx hb dX11_isFixed_17 (by decide) ?_
    exact wX11_isFixed_j18 B hr hlk  h hR (lv_sub hl [] rfl)
  · rw [if_neg c_10] at h
    refine lv_iconst (v := 1) hx hb dX11_isFixed_13 (by decide) ?_
    refine lv_goto (tgt := 18) hx hb dX11_isFixed_14 (by decide) ?_
    exact wX11_isFixed_j18 B hr hlk  h hR (lv_sub hl [] rfl)
def fX11_wantedAt_j67 (fu : Nat) (x2 : Int32) (M : Mm) : Option Int32 :=
  some x2
set_option maxRecDepth 100000 in
set_option maxHeartbeats 4000000 in
theorem wX11_wantedAt_j67 {r : Int32}   {x2 : Int32} {M : Mm} (B : Bx p s m args c cX11_wantedAt 4 RX11 E L) (hr : meth.sig.returnType = (some .int)) (hlk : meth.locks = false)   (h : fX11_wantedAt_j67 fu x2 M = some r) (hR : Rx s E L M H locs) (hl : lv_has ls 4 [(2, .int x2)]) : W p l e (rmD (d + 1)) s m args below meth c H locs 0 0 (MQ below (QcM E L (some (.int r)) M) args s 0 0 E.2.2.2) (F0 m 67 ls []) := by
  have hx := B.1
  have hb := B.2.1
  unfold fX11_wantedAt_j67 at h
  refine lv_iload_n hx hb dX11_wantedAt_67 rfl (lv_at hl 0 rfl) ?_
  exact r_iretP B hR hr hlk h dX11_wantedAt_68
def fX11_wantedAt_j61 (fu : Nat) (k9 : Int32 → Int32 → Option Int32) (a0 : Nat) (x1 : Int32) (x2 : Int32) (x3 : Int32) (M : Mm) : Option Int32 :=
  lt (x3 + 1) fun x3_61 =>
  k9 x2 x3_61
set_option maxRecDepth 100000 in
set_option maxHeartbeats 4000000 in
theorem wX11_wantedAt_j61 {r : Int32}  {k9 : Int32 → Int32 → Option Int32} {a0 : Nat} {x1 : Int32} {x2 : Int32} {x3 : Int32} {M : Mm} (B : Bx p s m args c cX11_wantedAt 4 RX11 E L) (hr : meth.sig.returnType = (some .int)) (hlk : meth.locks = false) (ih9 : ∀ (x2 : Int32) (x3 : Int32), k9 x2 x3 = some r → ∀ (H : Heap) (locs : List Loc) (ls : Array Slot), Rx s E L M H locs → lv_has ls 4 [(0, .ref a0), (1, .int x1), (2, .int x2), (3, .int x3)] → W p l e (rmD (d + 1)) s m args below meth c H locs 0 0 (MQ below (QcM E L (some (.int r)) M) args s 0 0 E.2.2.2) (F0 m 9 ls [])) (h0 : At L a0 T11) (h : fX11_wantedAt_j61 fu k9 a0 x1 x2 x3 M = some r) (hR : Rx s E L M H locs) (hl : lv_has ls 4 [(0, .ref a0), (1, .int x1), (2, .int x2), (3, .int x3)]) : W p l e (rmD (d + 1)) s m args below meth c H locs 0 0 (MQ below (QcM E L (some (.int r)) M) args s 0 0 E.2.2.2) (F0 m 61 ls []) := by
  have hx := B.1
  have hb := B.2.1
  unfold fX11_wantedAt_j61 at h
  obtain ⟨x3_61, ex3_61, h⟩ := lt_el h
  refine lv_iinc (v := x3_61) (lv' := [(3, .int x3_61), (0, .ref a0), (1, .int x1), (2, .int x2)]) hx hb dX11_wantedAt_61 hl (k := 3) rfl (by rw [ex3_61]; rfl) (by decide) rfl (fun ls hl => ?_)
  refine lv_goto (tgt := 9) hx hb dX11_wantedAt_64 (by decide) ?_
  exact ih9 x2 x3_61 h _ _ _ hR (lv_sub hl [1, 2, 3, 0] rfl)
def fX11_wantedAt_b9 (fu : Nat) (k9 : Int32 → Int32 → Option Int32) (a0 : Nat) (x1 : Int32) (x2 : Int32) (x3 : Int32) (M : Mm) : Option Int32 :=
  if (M.1 (a0 + 1) (ix 1)) ≤ x3 then
    fX11_wantedAt_j67 fu x2 M
  else
    if (2 + (3 * x3)) < 0 ∨ 140 ≤ ix (2 + (3 * x3)) then none else
    if ((2 + (3 * x3)) + 1) < 0 ∨ 140 ≤ ix ((2 + (3 * x3)) + 1) then none else
    bi (fX11_isIn fu x1 (M.1 (a0 + 1) (ix (2 + (3 * x3)))) (M.1 (a0 + 1) (ix ((2 + (3 * x3)) + 1)))) fun r_42 =>
    if r_42 = 0 then
      fX11_wantedAt_j61 fu k9 a0 x1 x2 x3 M
    else
      if ((2 + (3 * x3)) + 2) < 0 ∨ 140 ≤ ix ((2 + (3 * x3)) + 2) then none else
      lt ((M.1 (a0 + 1) (ix ((2 + (3 * x3)) + 2)))) fun x2_60 =>
      fX11_wantedAt_j61 fu k9 a0 x1 x2_60 x3 M
set_option maxRecDepth 100000 in
set_option maxHeartbeats 4000000 in
theorem wX11_wantedAt_b9 {r : Int32}   {k9 : Int32 → Int32 → Option Int32} {a0 : Nat} {x1 : Int32} {x2 : Int32} {x3 : Int32} {M : Mm} (B : Bx p s m args c cX11_wantedAt 4 RX11 E L) (hr : meth.sig.returnType = (some .int)) (hlk : meth.locks = false)  (ih9 : ∀ (x2 : Int32) (x3 : Int32), k9 x2 x3 = some r → ∀ (H : Heap) (locs : List Loc) (ls : Array Slot), Rx s E L M H locs → lv_has ls 4 [(0, .ref a0), (1, .int x1), (2, .int x2), (3, .int x3)] → W p l e (rmD (d + 1)) s m args below meth c H locs 0 0 (MQ below (QcM E L (some (.int r)) M) args s 0 0 E.2.2.2) (F0 m 9 ls [])) (h0 : At L a0 T11) (h : fX11_wantedAt_b9 fu k9 a0 x1 x2 x3 M = some r) (hR : Rx s E L M H locs) (hl : lv_has ls 4 [(0, .ref a0), (1, .int x1), (2, .int x2), (3, .int x3)]) : W p l e (rmD (d + 1)) s m args below meth c H locs 0 0 (MQ below (QcM E L (some (.int r)) M) args s 0 0 E.2.2.2) (F0 m 9 ls []) := by
  have hx := B.1
  have hb := B.2.1
  unfold fX11_wantedAt_b9 at h
  refine lv_iload_n hx hb dX11_wantedAt_9 rfl (lv_at hl 3 rfl) ?_
  refine lv_aload_n hx hb dX11_wantedAt_10 rfl (lv_at hl 0 rfl) ?_
  refine gf_X11_7 B hR (h0.at0 rfl) dX11_wantedAt_11 ?_
  refine lv_iconst (v := 1) hx hb dX11_wantedAt_14 (by decide) ?_
  refine r_iald B hR (h0.at 1 rfl) (by decide +kernel) dX11_wantedAt_15 ?_
  refine lv_icmp_ge (tgt := 67) hx hb dX11_wantedAt_16 (by decide) (fun c_16 => ?_) (fun c_16 => ?_)
  · rw [if_pos c_16] at h
    exact wX11_wantedAt_j67 B hr hlk  h hR (lv_sub hl [2] rfl)
  · rw [if_neg c_16] at h
    refine lv_iload_n hx hb dX11_wantedAt_19 rfl (lv_at hl 1 rfl) ?_
    refine lv_aload_n hx hb dX11_wantedAt_20 rfl (lv_at hl 0 rfl) ?_
    refine gf_X11_7 B hR (h0.at0 rfl) dX11_wantedAt_21 ?_
    refine lv_iconst (v := 2) hx hb dX11_wantedAt_24 (by decide) ?_
    refine lv_iconst (v := 3) hx hb dX11_wantedAt_25 (by decide) ?_
    refine lv_iload_n hx hb dX11_wantedAt_26 rfl (lv_at hl 3 rfl) ?_
    refine lv_imul hx hb dX11_wantedAt_27 ?_
    refine lv_iadd hx hb dX11_wantedAt_28 ?_
    obtain ⟨hi_29, h⟩ := ifn_el h
    refine r_iald B hR (h0.at 1 rfl) hi_29 dX11_wantedAt_29 ?_
    refine lv_aload_n hx hb dX11_wantedAt_30 rfl (lv_at hl 0 rfl) ?_
    refine gf_X11_7 B hR (h0.at0 rfl) dX11_wantedAt_31 ?_
    refine lv_iconst (v := 2) hx hb dX11_wantedAt_34 (by decide) ?_
    refine lv_iconst (v := 3) hx hb dX11_wantedAt_35 (by decide) ?_
    refine lv_iload_n hx hb dX11_wantedAt_36 rfl (lv_at hl 3 rfl) ?_
    refine lv_imul hx hb dX11_wantedAt_37 ?_
    refine lv_iadd hx hb dX11_wantedAt_38 ?_
    refine lv_iconst (v := 1) hx hb dX11_wantedAt_39 (by decide) ?_
    refine lv_iadd hx hb dX11_wantedAt_40 ?_
    obtain ⟨hi_41, h⟩ := ifn_el h
    refine r_iald B hR (h0.at 1 rfl) hi_41 dX11_wantedAt_41 ?_
    obtain ⟨r_42, hc_42, h⟩ := bi_el h
    refine is_X11_163 B hR hl.1 (mX11_isIn fu _  hc_42) (Nat.le_of_ble_eq_true rfl) dX11_wantedAt_42 (fun H locs hR => ?_)
    refine lv_if_eq (tgt := 61) hx hb dX11_wantedAt_45 (by decide) (fun c_45 => ?_) (fun c_45 => ?_)
    · rw [if_pos c_45] at h
      exact wX11_wantedAt_j61 B hr hlk ih9 h0 h hR hl
    · rw [if_neg c_45] at h
      refine lv_aload_n hx hb dX11_wantedAt_48 rfl (lv_at hl 0 rfl) ?_
      refine gf_X11_7 B hR (h0.at0 rfl) dX11_wantedAt_49 ?_
      refine lv_iconst (v := 2) hx hb dX11_wantedAt_52 (by decide) ?_
      refine lv_iconst (v := 3) hx hb dX11_wantedAt_53 (by decide) ?_
      refine lv_iload_n hx hb dX11_wantedAt_54 rfl (lv_at hl 3 rfl) ?_
      refine lv_imul hx hb dX11_wantedAt_55 ?_
      refine lv_iadd hx hb dX11_wantedAt_56 ?_
      refine lv_iconst (v := 2) hx hb dX11_wantedAt_57 (by decide) ?_
      refine lv_iadd hx hb dX11_wantedAt_58 ?_
      obtain ⟨hi_59, h⟩ := ifn_el h
      refine r_iald B hR (h0.at 1 rfl) hi_59 dX11_wantedAt_59 ?_
      obtain ⟨x2_60, ex2_60, h⟩ := lt_el h
      refine r_nmI ex2_60 ?_
      refine lv_istore_n (lv' := [(2, .int x2_60), (0, .ref a0), (1, .int x1), (3, .int x3)]) hx hb dX11_wantedAt_60 rfl hl (by decide) rfl (fun ls hl => ?_)
      exact wX11_wantedAt_j61 B hr hlk ih9 h0 h hR (lv_sub hl [1, 2, 0, 3] rfl)
def fX11_wantedAt_l9 (fu : Nat) (a0 : Nat) (x1 : Int32) (M : Mm) (x2 : Int32) (x3 : Int32) : Option Int32 := lp (fun (rec : (Int32 × Int32) → Option Int32) (s : Int32 × Int32) => fX11_wantedAt_b9 fu  (fun x2 x3 => rec (x2, x3)) a0 x1 s.1 s.2 M) fu (x2, x3)
set_option maxRecDepth 100000 in
set_option maxHeartbeats 4000000 in
theorem wX11_wantedAt_l9 {r : Int32}   {a0 : Nat} {x1 : Int32} {x2 : Int32} {x3 : Int32} {M : Mm} (B : Bx p s m args c cX11_wantedAt 4 RX11 E L) (hr : meth.sig.returnType = (some .int)) (hlk : meth.locks = false)  (h0 : At L a0 T11) (h : fX11_wantedAt_l9 fu a0 x1 M x2 x3 = some r) (hR : Rx s E L M H locs) (hl : lv_has ls 4 [(0, .ref a0), (1, .int x1), (2, .int x2), (3, .int x3)]) : W p l e (rmD (d + 1)) s m args below meth c H locs 0 0 (MQ below (QcM E L (some (.int r)) M) args s 0 0 E.2.2.2) (F0 m 9 ls []) := by
  refine lp_G (G := fun z : Int32 × Int32 => ∀ (H : Heap) (locs : List Loc) (ls : Array Slot), Rx s E L M H locs → lv_has ls 4 [(0, .ref a0), (1, .int x1), (2, .int z.1), (3, .int z.2)] → W p l e (rmD (d + 1)) s m args below meth c H locs 0 0 (MQ below (QcM E L (some (.int r)) M) args s 0 0 E.2.2.2) (F0 m 9 ls [])) (fun rec ih z h H locs ls hR hl => ?_) fu _ h H locs ls hR hl
  exact wX11_wantedAt_b9 B hr hlk  (fun x2 x3 h => ih (x2, x3) h) h0 h hR hl
def fX11_wantedAt (fu : Nat) (a0 : Nat) (x1 : Int32) (M : Mm) : Option Int32 :=
  lt ((M.1 (a0 + 1) (ix 0))) fun x2_6 =>
  fX11_wantedAt_l9 fu a0 x1 M x2_6 0
set_option maxRecDepth 100000 in
set_option maxHeartbeats 4000000 in
theorem mX11_wantedAt {l : Launch} {E : Ge} {L : Lay} (fu d : Nat) {a0 : Nat} {x1 : Int32} {M : Mm} {r : Int32}  (h0 : At L a0 T11) (h : fX11_wantedAt fu a0 x1 M = some r) : Ct l E L yX11_wantedAt cX11_wantedAt 4 (some .int) (d + 1) [.ref a0, .int x1] M (some (.int r)) M := by
  refine Ct.of (by decide) ?_
  intro p e s m below meth c hr hlk B hR
  have B : Bx p s m _ c cX11_wantedAt 4 RX11 E L := B
  have hx := B.1
  have hb := B.2.1
  have hl := lv_entry ([.ref a0, .int x1]) (n := 4) (Nat.le_of_ble_eq_true rfl)
  rw [lg_entry_eq]
  generalize (lg_sl ([.ref a0, .int x1]) ++ List.replicate (4 - (lg_sl ([.ref a0, .int x1])).length) Slot.unset).toArray = ls at hl ⊢
  have hl : lv_has ls 4 [(0, .ref a0), (1, .int x1)] := hl
  unfold fX11_wantedAt at h
  refine lv_aload_n hx hb dX11_wantedAt_0 rfl (lv_at hl 0 rfl) ?_
  refine gf_X11_7 B hR (h0.at0 rfl) dX11_wantedAt_1 ?_
  refine lv_iconst (v := 0) hx hb dX11_wantedAt_4 (by decide) ?_
  refine r_iald B hR (h0.at 1 rfl) (by decide +kernel) dX11_wantedAt_5 ?_
  obtain ⟨x2_6, ex2_6, h⟩ := lt_el h
  refine r_nmI ex2_6 ?_
  refine lv_istore_n (lv' := [(2, .int x2_6), (0, .ref a0), (1, .int x1)]) hx hb dX11_wantedAt_6 rfl hl (by decide) rfl (fun ls hl => ?_)
  refine lv_iconst (v := 0) hx hb dX11_wantedAt_7 (by decide) ?_
  refine lv_istore_n (lv' := [(3, .int 0), (2, .int x2_6), (0, .ref a0), (1, .int x1)]) hx hb dX11_wantedAt_8 rfl hl (by decide) rfl (fun ls hl => ?_)
  exact wX11_wantedAt_l9 B hr hlk h0 h hR (lv_sub hl [2, 3, 1, 0] rfl)
def fX11_together_j50 (fu : Nat) (M : Mm) : Option Int32 :=
  some 5
set_option maxRecDepth 100000 in
set_option maxHeartbeats 4000000 in
theorem wX11_together_j50 {r : Int32}    {M : Mm} (B : Bx p s m args c cX11_together 3 RX11 E L) (hr : meth.sig.returnType = (some .int)) (hlk : meth.locks = false)   (h : fX11_together_j50 fu M = some r) (hR : Rx s E L M H locs) (hl : lv_has ls 3 []) : W p l e (rmD (d + 0)) s m args below meth c H locs 0 0 (MQ below (QcM E L (some (.int r)) M) args s 0 0 E.2.2.2) (F0 m 50 ls []) := by
  have hx := B.1
  have hb := B.2.1
  unfold fX11_together_j50 at h
  refine lv_iconst (v := 5) hx hb dX11_together_50 (by decide) ?_
  exact r_iretP B hR hr hlk h dX11_together_51
def fX11_together_j42 (fu : Nat) (x2 : Int32) (M : Mm) : Option Int32 :=
  some x2
set_option maxRecDepth 100000 in
set_option maxHeartbeats 4000000 in
theorem wX11_together_j42 {r : Int32}   {x2 : Int32} {M : Mm} (B : Bx p s m args c cX11_together 3 RX11 E L) (hr : meth.sig.returnType = (some .int)) (hlk : meth.locks = false)   (h : fX11_together_j42 fu x2 M = some r) (hR : Rx s E L M H locs) (hl : lv_has ls 3 [(2, .int x2)]) : W p l e (rmD (d + 0)) s m args below meth c H locs 0 0 (MQ below (QcM E L (some (.int r)) M) args s 0 0 E.2.2.2) (F0 m 42 ls []) := by
  have hx := B.1
  have hb := B.2.1
  unfold fX11_together_j42 at h
  refine lv_iload_n hx hb dX11_together_42 rfl (lv_at hl 0 rfl) ?_
  exact r_iretP B hR hr hlk h dX11_together_43
def fX11_together_b30 (fu : Nat) (k30 : Int32 → Option Int32) (x1 : Int32) (x2 : Int32) (M : Mm) : Option Int32 :=
  if 5 ≤ x2 then
    fX11_together_j50 fu M
  else
    if x1 = (1 <<< (x2 &&& 31)) then
      fX11_together_j42 fu x2 M
    else
      lt (x2 + 1) fun x2_44 =>
      k30 x2_44
set_option maxRecDepth 100000 in
set_option maxHeartbeats 4000000 in
theorem wX11_together_b30 {r : Int32}   {k30 : Int32 → Option Int32} {x1 : Int32} {x2 : Int32} {M : Mm} (B : Bx p s m args c cX11_together 3 RX11 E L) (hr : meth.sig.returnType = (some .int)) (hlk : meth.locks = false)  (ih30 : ∀ (x2 : Int32), k30 x2 = some r → ∀ (H : Heap) (locs : List Loc) (ls : Array Slot), Rx s E L M H locs → lv_has ls 3 [(1, .int x1), (2, .int x2)] → W p l e (rmD (d + 0)) s m args below meth c H locs 0 0 (MQ below (QcM E L (some (.int r)) M) args s 0 0 E.2.2.2) (F0 m 30 ls []))  (h : fX11_together_b30 fu k30 x1 x2 M = some r) (hR : Rx s E L M H locs) (hl : lv_has ls 3 [(1, .int x1), (2, .int x2)]) : W p l e (rmD (d + 0)) s m args below meth c H locs 0 0 (MQ below (QcM E L (some (.int r)) M) args s 0 0 E.2.2.2) (F0 m 30 ls []) := by
  have hx := B.1
  have hb := B.2.1
  unfold fX11_together_b30 at h
  refine lv_iload_n hx hb dX11_together_30 rfl (lv_at hl 1 rfl) ?_
  refine lv_iconst (v := 5) hx hb dX11_together_31 (by decide) ?_
  refine lv_icmp_ge (tgt := 50) hx hb dX11_together_32 (by decide) (fun c_32 => ?_) (fun c_32 => ?_)
  · rw [if_pos c_32] at h
    exact wX11_together_j50 B hr hlk  h hR (lv_sub hl [] rfl)
  · rw [if_neg c_32] at h
    refine lv_iload_n hx hb dX11_together_35 rfl (lv_at hl 0 rfl) ?_
    refine lv_iconst (v := 1) hx hb dX11_together_36 (by decide) ?_
    refine lv_iload_n hx hb dX11_together_37 rfl (lv_at hl 1 rfl) ?_
    refine lv_ishl hx hb dX11_together_38 ?_
    refine lv_icmp_ne (tgt := 44) hx hb dX11_together_39 (by decide) (fun c_39 => ?_) (fun c_39 => ?_)
    · rw [if_neg c_39] at h
      obtain ⟨x2_44, ex2_44, h⟩ := lt_el h
      refine lv_iinc (v := x2_44) (lv' := [(2, .int x2_44), (1, .int x1)]) hx hb dX11_together_44 hl (k := 1) rfl (by rw [ex2_44]; rfl) (by decide) rfl (fun ls hl => ?_)
      refine lv_goto (tgt := 30) hx hb dX11_together_47 (by decide) ?_
      exact ih30 x2_44 h _ _ _ hR (lv_sub hl [1, 0] rfl)
    · rw [if_pos c_39] at h
      exact wX11_together_j42 B hr hlk  h hR (lv_sub hl [1] rfl)
def fX11_together_l30 (fu : Nat) (x1 : Int32) (M : Mm) (x2 : Int32) : Option Int32 := lp (fun (rec : Int32 → Option Int32) (s : Int32) => fX11_together_b30 fu  (fun x2 => rec (x2)) x1 s M) fu (x2)
set_option maxRecDepth 100000 in
set_option maxHeartbeats 4000000 in
theorem wX11_together_l30 {r : Int32}   {x1 : Int32} {x2 : Int32} {M : Mm} (B : Bx p s m args c cX11_together 3 RX11 E L) (hr : meth.sig.returnType = (some .int)) (hlk : meth.locks = false)   (h : fX11_together_l30 fu x1 M x2 = some r) (hR : Rx s E L M H locs) (hl : lv_has ls 3 [(1, .int x1), (2, .int x2)]) : W p l e (rmD (d + 0)) s m args below meth c H locs 0 0 (MQ below (QcM E L (some (.int r)) M) args s 0 0 E.2.2.2) (F0 m 30 ls []) := by
  refine lp_G (G := fun z : Int32 => ∀ (H : Heap) (locs : List Loc) (ls : Array Slot), Rx s E L M H locs → lv_has ls 3 [(1, .int x1), (2, .int z)] → W p l e (rmD (d + 0)) s m args below meth c H locs 0 0 (MQ below (QcM E L (some (.int r)) M) args s 0 0 E.2.2.2) (F0 m 30 ls [])) (fun rec ih z h H locs ls hR hl => ?_) fu _ h H locs ls hR hl
  exact wX11_together_b30 B hr hlk  (fun x2 h => ih (x2) h)  h hR hl
def fX11_together (fu : Nat) (a0 : Nat) (x1 : Int32) (M : Mm) : Option Int32 :=
  if x1 = 0 then
    some (M.1 (a0 + 1) (ix 0))
  else
    if (x1 &&& 1) = 1 then
      some 0
    else
      if x1 = 20 then
        some 2
      else
        fX11_together_l30 fu x1 M 1
set_option maxRecDepth 100000 in
set_option maxHeartbeats 4000000 in
theorem mX11_together {l : Launch} {E : Ge} {L : Lay} (fu d : Nat) {a0 : Nat} {x1 : Int32} {M : Mm} {r : Int32}  (h0 : At L a0 T11) (h : fX11_together fu a0 x1 M = some r) : Ct l E L yX11_together cX11_together 3 (some .int) (d + 0) [.ref a0, .int x1] M (some (.int r)) M := by
  refine Ct.of (by decide) ?_
  intro p e s m below meth c hr hlk B hR
  have B : Bx p s m _ c cX11_together 3 RX11 E L := B
  have hx := B.1
  have hb := B.2.1
  have hl := lv_entry ([.ref a0, .int x1]) (n := 3) (Nat.le_of_ble_eq_true rfl)
  rw [lg_entry_eq]
  generalize (lg_sl ([.ref a0, .int x1]) ++ List.replicate (3 - (lg_sl ([.ref a0, .int x1])).length) Slot.unset).toArray = ls at hl ⊢
  have hl : lv_has ls 3 [(0, .ref a0), (1, .int x1)] := hl
  unfold fX11_together at h
  refine lv_iload_n hx hb dX11_together_0 rfl (lv_at hl 1 rfl) ?_
  refine lv_if_ne (tgt := 11) hx hb dX11_together_1 (by decide) (fun c_1 => ?_) (fun c_1 => ?_)
  · rw [if_neg c_1] at h
    refine lv_iload_n hx hb dX11_together_11 rfl (lv_at hl 1 rfl) ?_
    refine lv_iconst (v := 1) hx hb dX11_together_12 (by decide) ?_
    refine lv_iand hx hb dX11_together_13 ?_
    refine lv_iconst (v := 1) hx hb dX11_together_14 (by decide) ?_
    refine lv_icmp_ne (tgt := 20) hx hb dX11_together_15 (by decide) (fun c_15 => ?_) (fun c_15 => ?_)
    · rw [if_neg c_15] at h
      refine lv_iload_n hx hb dX11_together_20 rfl (lv_at hl 1 rfl) ?_
      refine lv_bipush (v := 20) hx hb dX11_together_21 (by decide) ?_
      refine lv_icmp_ne (tgt := 28) hx hb dX11_together_23 (by decide) (fun c_23 => ?_) (fun c_23 => ?_)
      · rw [if_neg c_23] at h
        refine lv_iconst (v := 1) hx hb dX11_together_28 (by decide) ?_
        refine lv_istore_n (lv' := [(2, .int 1), (0, .ref a0), (1, .int x1)]) hx hb dX11_together_29 rfl hl (by decide) rfl (fun ls hl => ?_)
        exact wX11_together_l30 B hr hlk  h hR (lv_sub hl [2, 0] rfl)
      · rw [if_pos c_23] at h
        refine lv_iconst (v := 2) hx hb dX11_together_26 (by decide) ?_
        exact r_iretP B hR hr hlk h dX11_together_27
    · rw [if_pos c_15] at h
      refine lv_iconst (v := 0) hx hb dX11_together_18 (by decide) ?_
      exact r_iretP B hR hr hlk h dX11_together_19
  · rw [if_pos c_1] at h
    refine lv_aload_n hx hb dX11_together_4 rfl (lv_at hl 0 rfl) ?_
    refine gf_X11_7 B hR (h0.at0 rfl) dX11_together_5 ?_
    refine lv_iconst (v := 0) hx hb dX11_together_8 (by decide) ?_
    refine r_iald B hR (h0.at 1 rfl) (by decide +kernel) dX11_together_9 ?_
    exact r_iretP B hR hr hlk h dX11_together_10
def fX11_hasIt_j38 (fu : Nat) (t0 : Int32) (M : Mm) : Option Int32 :=
  gd (t0 = 0 ∨ t0 = 1) <|
  some t0
set_option maxRecDepth 100000 in
set_option maxHeartbeats 4000000 in
theorem wX11_hasIt_j38 {r : Int32}   {t0 : Int32} {M : Mm} (B : Bx p s m args c cX11_hasIt 3 RX11 E L) (hr : meth.sig.returnType = (some .boolean)) (hlk : meth.locks = false)   (h : fX11_hasIt_j38 fu t0 M = some r) (hR : Rx s E L M H locs) (hl : lv_has ls 3 []) : W p l e (rmD (d + 1)) s m args below meth c H locs 0 0 (MQ below (QcM E L (some (.int r)) M) args s 0 0 E.2.2.2) (F0 m 38 ls [.int t0]) := by
  have hx := B.1
  have hb := B.2.1
  unfold fX11_hasIt_j38 at h
  obtain ⟨hz_38, h⟩ := gd_el h
  exact r_zretP B hR hr hlk hz_38 h dX11_hasIt_38
def fX11_hasIt_j37 (fu : Nat) (M : Mm) : Option Int32 :=
  fX11_hasIt_j38 fu 0 M
set_option maxRecDepth 100000 in
set_option maxHeartbeats 4000000 in
theorem wX11_hasIt_j37 {r : Int32}    {M : Mm} (B : Bx p s m args c cX11_hasIt 3 RX11 E L) (hr : meth.sig.returnType = (some .boolean)) (hlk : meth.locks = false)   (h : fX11_hasIt_j37 fu M = some r) (hR : Rx s E L M H locs) (hl : lv_has ls 3 []) : W p l e (rmD (d + 1)) s m args below meth c H locs 0 0 (MQ below (QcM E L (some (.int r)) M) args s 0 0 E.2.2.2) (F0 m 37 ls []) := by
  have hx := B.1
  have hb := B.2.1
  unfold fX11_hasIt_j37 at h
  refine lv_iconst (v := 0) hx hb dX11_hasIt_37 (by decide) ?_
  exact wX11_hasIt_j38 B hr hlk  h hR hl
def fX11_hasIt (fu : Nat) (a0 : Nat) (x1 : Int32) (x2 : Int32) (M : Mm) : Option Int32 :=
  bi (fX11_sizeOf fu a0 x1 M) fun r_2 =>
  if r_2 ≤ 0 then
    fX11_hasIt_j37 fu M
  else
    bi (fX11_baseOf fu a0 x1 M) fun r_11 =>
    bi (fX11_baseOf fu a0 x1 M) fun r_16 =>
    bi (fX11_sizeOf fu a0 x1 M) fun r_21 =>
    bi (fX11_isIn fu x2 r_11 ((r_16 + r_21) - 1)) fun r_27 =>
    if r_27 = 0 then
      fX11_hasIt_j37 fu M
    else
      fX11_hasIt_j38 fu 1 M
set_option maxRecDepth 100000 in
set_option maxHeartbeats 4000000 in
theorem mX11_hasIt {l : Launch} {E : Ge} {L : Lay} (fu d : Nat) {a0 : Nat} {x1 : Int32} {x2 : Int32} {M : Mm} {r : Int32}  (h0 : At L a0 T11) (h : fX11_hasIt fu a0 x1 x2 M = some r) : Ct l E L yX11_hasIt cX11_hasIt 3 (some .boolean) (d + 1) [.ref a0, .int x1, .int x2] M (some (.int r)) M := by
  refine Ct.of (by decide) ?_
  intro p e s m below meth c hr hlk B hR
  have B : Bx p s m _ c cX11_hasIt 3 RX11 E L := B
  have hx := B.1
  have hb := B.2.1
  have hl := lv_entry ([.ref a0, .int x1, .int x2]) (n := 3) (Nat.le_of_ble_eq_true rfl)
  rw [lg_entry_eq]
  generalize (lg_sl ([.ref a0, .int x1, .int x2]) ++ List.replicate (3 - (lg_sl ([.ref a0, .int x1, .int x2])).length) Slot.unset).toArray = ls at hl ⊢
  have hl : lv_has ls 3 [(0, .ref a0), (1, .int x1), (2, .int x2)] := hl
  unfold fX11_hasIt at h
  refine lv_aload_n hx hb dX11_hasIt_0 rfl (lv_at hl 0 rfl) ?_
  refine lv_iload_n hx hb dX11_hasIt_1 rfl (lv_at hl 1 rfl) ?_
  obtain ⟨r_2, hc_2, h⟩ := bi_el h
  refine iv_X11_249 B hR (h0.at0 rfl) hl.1 (mX11_sizeOf fu _ h0 hc_2) (Nat.le_of_ble_eq_true rfl) dX11_hasIt_2 (fun H locs hR => ?_)
  refine lv_if_le (tgt := 37) hx hb dX11_hasIt_5 (by decide) (fun c_5 => ?_) (fun c_5 => ?_)
  · rw [if_pos c_5] at h
    exact wX11_hasIt_j37 B hr hlk  h hR (lv_sub hl [] rfl)
  · rw [if_neg c_5] at h
    refine lv_iload_n hx hb dX11_hasIt_8 rfl (lv_at hl 2 rfl) ?_
    refine lv_aload_n hx hb dX11_hasIt_9 rfl (lv_at hl 0 rfl) ?_
    refine lv_iload_n hx hb dX11_hasIt_10 rfl (lv_at hl 1 rfl) ?_
    obtain ⟨r_11, hc_11, h⟩ := bi_el h
    refine iv_X11_252 B hR (h0.at0 rfl) hl.1 (mX11_baseOf fu _ h0 hc_11) (Nat.le_of_ble_eq_true rfl) dX11_hasIt_11 (fun H locs hR => ?_)
    refine lv_aload_n hx hb dX11_hasIt_14 rfl (lv_at hl 0 rfl) ?_
    refine lv_iload_n hx hb dX11_hasIt_15 rfl (lv_at hl 1 rfl) ?_
    obtain ⟨r_16, hc_16, h⟩ := bi_el h
    refine iv_X11_252 B hR (h0.at0 rfl) hl.1 (mX11_baseOf fu _ h0 hc_16) (Nat.le_of_ble_eq_true rfl) dX11_hasIt_16 (fun H locs hR => ?_)
    refine lv_aload_n hx hb dX11_hasIt_19 rfl (lv_at hl 0 rfl) ?_
    refine lv_iload_n hx hb dX11_hasIt_20 rfl (lv_at hl 1 rfl) ?_
    obtain ⟨r_21, hc_21, h⟩ := bi_el h
    refine iv_X11_249 B hR (h0.at0 rfl) hl.1 (mX11_sizeOf fu _ h0 hc_21) (Nat.le_of_ble_eq_true rfl) dX11_hasIt_21 (fun H locs hR => ?_)
    refine lv_iadd hx hb dX11_hasIt_24 ?_
    refine lv_iconst (v := 1) hx hb dX11_hasIt_25 (by decide) ?_
    refine lv_isub hx hb dX11_hasIt_26 ?_
    obtain ⟨r_27, hc_27, h⟩ := bi_el h
    refine is_X11_163 B hR hl.1 (mX11_isIn fu _  hc_27) (Nat.le_of_ble_eq_true rfl) dX11_hasIt_27 (fun H locs hR => ?_)
    refine lv_if_eq (tgt := 37) hx hb dX11_hasIt_30 (by decide) (fun c_30 => ?_) (fun c_30 => ?_)
    · rw [if_pos c_30] at h
      exact wX11_hasIt_j37 B hr hlk  h hR (lv_sub hl [] rfl)
    · rw [if_neg c_30] at h
      refine lv_iconst (v := 1) hx hb dX11_hasIt_33 (by decide) ?_
      refine lv_goto (tgt := 38) hx hb dX11_hasIt_34 (by decide) ?_
      exact wX11_hasIt_j38 B hr hlk  h hR (lv_sub hl [] rfl)
def fX11_setAt_j47 (fu : Nat) (x3 : Int32) (M : Mm) : Option Int32 :=
  some x3
set_option maxRecDepth 100000 in
set_option maxHeartbeats 4000000 in
theorem wX11_setAt_j47 {r : Int32}   {x3 : Int32} {M : Mm} (B : Bx p s m args c cX11_setAt 5 RX11 E L) (hr : meth.sig.returnType = (some .int)) (hlk : meth.locks = false)   (h : fX11_setAt_j47 fu x3 M = some r) (hR : Rx s E L M H locs) (hl : lv_has ls 5 [(3, .int x3)]) : W p l e (rmD (d + 2)) s m args below meth c H locs 0 0 (MQ below (QcM E L (some (.int r)) M) args s 0 0 E.2.2.2) (F0 m 47 ls []) := by
  have hx := B.1
  have hb := B.2.1
  unfold fX11_setAt_j47 at h
  refine lv_iload_n hx hb dX11_setAt_47 rfl (lv_at hl 0 rfl) ?_
  exact r_iretP B hR hr hlk h dX11_setAt_48
def fX11_setAt_j41 (fu : Nat) (k5 : Int32 → Int32 → Option Int32) (a0 : Nat) (x1 : Int32) (x2 : Int32) (x3 : Int32) (x4 : Int32) (M : Mm) : Option Int32 :=
  lt (x4 + 1) fun x4_41 =>
  k5 x3 x4_41
set_option maxRecDepth 100000 in
set_option maxHeartbeats 4000000 in
theorem wX11_setAt_j41 {r : Int32}  {k5 : Int32 → Int32 → Option Int32} {a0 : Nat} {x1 : Int32} {x2 : Int32} {x3 : Int32} {x4 : Int32} {M : Mm} (B : Bx p s m args c cX11_setAt 5 RX11 E L) (hr : meth.sig.returnType = (some .int)) (hlk : meth.locks = false) (ih5 : ∀ (x3 : Int32) (x4 : Int32), k5 x3 x4 = some r → ∀ (H : Heap) (locs : List Loc) (ls : Array Slot), Rx s E L M H locs → lv_has ls 5 [(0, .ref a0), (1, .int x1), (2, .int x2), (3, .int x3), (4, .int x4)] → W p l e (rmD (d + 2)) s m args below meth c H locs 0 0 (MQ below (QcM E L (some (.int r)) M) args s 0 0 E.2.2.2) (F0 m 5 ls [])) (h0 : At L a0 T11) (h : fX11_setAt_j41 fu k5 a0 x1 x2 x3 x4 M = some r) (hR : Rx s E L M H locs) (hl : lv_has ls 5 [(0, .ref a0), (1, .int x1), (2, .int x2), (3, .int x3), (4, .int x4)]) : W p l e (rmD (d + 2)) s m args below meth c H locs 0 0 (MQ below (QcM E L (some (.int r)) M) args s 0 0 E.2.2.2) (F0 m 41 ls []) := by
  have hx := B.1
  have hb := B.2.1
  unfold fX11_setAt_j41 at h
  obtain ⟨x4_41, ex4_41, h⟩ := lt_el h
  refine lv_iinc (v := x4_41) (lv' := [(4, .int x4_41), (0, .ref a0), (1, .int x1), (2, .int x2), (3, .int x3)]) hx hb dX11_setAt_41 hl (k := 4) rfl (by rw [ex4_41]; rfl) (by decide) rfl (fun ls hl => ?_)
  refine lv_goto (tgt := 5) hx hb dX11_setAt_44 (by decide) ?_
  exact ih5 x3 x4_41 h _ _ _ hR (lv_sub hl [1, 2, 3, 4, 0] rfl)
def fX11_setAt_b5 (fu : Nat) (k5 : Int32 → Int32 → Option Int32) (a0 : Nat) (x1 : Int32) (x2 : Int32) (x3 : Int32) (x4 : Int32) (M : Mm) : Option Int32 :=
  bi (fX11_registersNow fu a0 M) fun r_8 =>
  if r_8 ≤ x4 then
    fX11_setAt_j47 fu x3 M
  else
    if x4 = x2 then
      fX11_setAt_j41 fu k5 a0 x1 x2 x3 x4 M
    else
      bi (fX11_hasIt fu a0 x4 x1 M) fun r_24 =>
      if r_24 = 0 then
        fX11_setAt_j41 fu k5 a0 x1 x2 x3 x4 M
      else
        bi (fX11_kindOf fu a0 x4 M) fun r_35 =>
        lt ((x3 ||| (1 <<< (r_35 &&& 31)))) fun x3_40 =>
        fX11_setAt_j41 fu k5 a0 x1 x2 x3_40 x4 M
set_option maxRecDepth 100000 in
set_option maxHeartbeats 4000000 in
theorem wX11_setAt_b5 {r : Int32}   {k5 : Int32 → Int32 → Option Int32} {a0 : Nat} {x1 : Int32} {x2 : Int32} {x3 : Int32} {x4 : Int32} {M : Mm} (B : Bx p s m args c cX11_setAt 5 RX11 E L) (hr : meth.sig.returnType = (some .int)) (hlk : meth.locks = false)  (ih5 : ∀ (x3 : Int32) (x4 : Int32), k5 x3 x4 = some r → ∀ (H : Heap) (locs : List Loc) (ls : Array Slot), Rx s E L M H locs → lv_has ls 5 [(0, .ref a0), (1, .int x1), (2, .int x2), (3, .int x3), (4, .int x4)] → W p l e (rmD (d + 2)) s m args below meth c H locs 0 0 (MQ below (QcM E L (some (.int r)) M) args s 0 0 E.2.2.2) (F0 m 5 ls [])) (h0 : At L a0 T11) (h : fX11_setAt_b5 fu k5 a0 x1 x2 x3 x4 M = some r) (hR : Rx s E L M H locs) (hl : lv_has ls 5 [(0, .ref a0), (1, .int x1), (2, .int x2), (3, .int x3), (4, .int x4)]) : W p l e (rmD (d + 2)) s m args below meth c H locs 0 0 (MQ below (QcM E L (some (.int r)) M) args s 0 0 E.2.2.2) (F0 m 5 ls []) := by
  have hx := B.1
  have hb := B.2.1
  unfold fX11_setAt_b5 at h
  refine lv_iload hx hb dX11_setAt_5 (lv_at hl 4 rfl) ?_
  refine lv_aload_n hx hb dX11_setAt_7 rfl (lv_at hl 0 rfl) ?_
  obtain ⟨r_8, hc_8, h⟩ := bi_el h
  refine iv_X11_243 B hR (h0.at0 rfl) hl.1 (mX11_registersNow fu _ h0 hc_8) (Nat.le_of_ble_eq_true rfl) dX11_setAt_8 (fun H locs hR => ?_)
  refine lv_icmp_ge (tgt := 47) hx hb dX11_setAt_11 (by decide) (fun c_11 => ?_) (fun c_11 => ?_)
  · rw [if_pos c_11] at h
    exact wX11_setAt_j47 B hr hlk  h hR (lv_sub hl [3] rfl)
  · rw [if_neg c_11] at h
    refine lv_iload hx hb dX11_setAt_14 (lv_at hl 4 rfl) ?_
    refine lv_iload_n hx hb dX11_setAt_16 rfl (lv_at hl 2 rfl) ?_
    refine lv_icmp_eq (tgt := 41) hx hb dX11_setAt_17 (by decide) (fun c_17 => ?_) (fun c_17 => ?_)
    · rw [if_pos c_17] at h
      exact wX11_setAt_j41 B hr hlk ih5 h0 h hR hl
    · rw [if_neg c_17] at h
      refine lv_aload_n hx hb dX11_setAt_20 rfl (lv_at hl 0 rfl) ?_
      refine lv_iload hx hb dX11_setAt_21 (lv_at hl 4 rfl) ?_
      refine lv_iload_n hx hb dX11_setAt_23 rfl (lv_at hl 1 rfl) ?_
      obtain ⟨r_24, hc_24, h⟩ := bi_el h
      refine iv_X11_264 B hR (h0.at0 rfl) hl.1 (mX11_hasIt fu _ h0 hc_24) (Nat.le_of_ble_eq_true rfl) dX11_setAt_24 (fun H locs hR => ?_)
      refine lv_if_eq (tgt := 41) hx hb dX11_setAt_27 (by decide) (fun c_27 => ?_) (fun c_27 => ?_)
      · rw [if_pos c_27] at h
        exact wX11_setAt_j41 B hr hlk ih5 h0 h hR hl
      · rw [if_neg c_27] at h
        refine lv_iload_n hx hb dX11_setAt_30 rfl (lv_at hl 3 rfl) ?_
        refine lv_iconst (v := 1) hx hb dX11_setAt_31 (by decide) ?_
        refine lv_aload_n hx hb dX11_setAt_32 rfl (lv_at hl 0 rfl) ?_
        refine lv_iload hx hb dX11_setAt_33 (lv_at hl 4 rfl) ?_
        obtain ⟨r_35, hc_35, h⟩ := bi_el h
        refine iv_X11_267 B hR (h0.at0 rfl) hl.1 (mX11_kindOf fu _ h0 hc_35) (Nat.le_of_ble_eq_true rfl) dX11_setAt_35 (fun H locs hR => ?_)
        refine lv_ishl hx hb dX11_setAt_38 ?_
        refine lv_ior hx hb dX11_setAt_39 ?_
        obtain ⟨x3_40, ex3_40, h⟩ := lt_el h
        refine r_nmI ex3_40 ?_
        refine lv_istore_n (lv' := [(3, .int x3_40), (0, .ref a0), (1, .int x1), (2, .int x2), (4, .int x4)]) hx hb dX11_setAt_40 rfl hl (by decide) rfl (fun ls hl => ?_)
        exact wX11_setAt_j41 B hr hlk ih5 h0 h hR (lv_sub hl [1, 2, 3, 0, 4] rfl)
def fX11_setAt_l5 (fu : Nat) (a0 : Nat) (x1 : Int32) (x2 : Int32) (M : Mm) (x3 : Int32) (x4 : Int32) : Option Int32 := lp (fun (rec : (Int32 × Int32) → Option Int32) (s : Int32 × Int32) => fX11_setAt_b5 fu  (fun x3 x4 => rec (x3, x4)) a0 x1 x2 s.1 s.2 M) fu (x3, x4)
set_option maxRecDepth 100000 in
set_option maxHeartbeats 4000000 in
theorem wX11_setAt_l5 {r : Int32}   {a0 : Nat} {x1 : Int32} {x2 : Int32} {x3 : Int32} {x4 : Int32} {M : Mm} (B : Bx p s m args c cX11_setAt 5 RX11 E L) (hr : meth.sig.returnType = (some .int)) (hlk : meth.locks = false)  (h0 : At L a0 T11) (h : fX11_setAt_l5 fu a0 x1 x2 M x3 x4 = some r) (hR : Rx s E L M H locs) (hl : lv_has ls 5 [(0, .ref a0), (1, .int x1), (2, .int x2), (3, .int x3), (4, .int x4)]) : W p l e (rmD (d + 2)) s m args below meth c H locs 0 0 (MQ below (QcM E L (some (.int r)) M) args s 0 0 E.2.2.2) (F0 m 5 ls []) := by
  refine lp_G (G := fun z : Int32 × Int32 => ∀ (H : Heap) (locs : List Loc) (ls : Array Slot), Rx s E L M H locs → lv_has ls 5 [(0, .ref a0), (1, .int x1), (2, .int x2), (3, .int z.1), (4, .int z.2)] → W p l e (rmD (d + 2)) s m args below meth c H locs 0 0 (MQ below (QcM E L (some (.int r)) M) args s 0 0 E.2.2.2) (F0 m 5 ls [])) (fun rec ih z h H locs ls hR hl => ?_) fu _ h H locs ls hR hl
  exact wX11_setAt_b5 B hr hlk  (fun x3 x4 h => ih (x3, x4) h) h0 h hR hl
def fX11_setAt (fu : Nat) (a0 : Nat) (x1 : Int32) (x2 : Int32) (M : Mm) : Option Int32 :=
  fX11_setAt_l5 fu a0 x1 x2 M 0 0
set_option maxRecDepth 100000 in
set_option maxHeartbeats 4000000 in
theorem mX11_setAt {l : Launch} {E : Ge} {L : Lay} (fu d : Nat) {a0 : Nat} {x1 : Int32} {x2 : Int32} {M : Mm} {r : Int32}  (h0 : At L a0 T11) (h : fX11_setAt fu a0 x1 x2 M = some r) : Ct l E L yX11_setAt cX11_setAt 5 (some .int) (d + 2) [.ref a0, .int x1, .int x2] M (some (.int r)) M := by
  refine Ct.of (by decide) ?_
  intro p e s m below meth c hr hlk B hR
  have B : Bx p s m _ c cX11_setAt 5 RX11 E L := B
  have hx := B.1
  have hb := B.2.1
  have hl := lv_entry ([.ref a0, .int x1, .int x2]) (n := 5) (Nat.le_of_ble_eq_true rfl)
  rw [lg_entry_eq]
  generalize (lg_sl ([.ref a0, .int x1, .int x2]) ++ List.replicate (5 - (lg_sl ([.ref a0, .int x1, .int x2])).length) Slot.unset).toArray = ls at hl ⊢
  have hl : lv_has ls 5 [(0, .ref a0), (1, .int x1), (2, .int x2)] := hl
  unfold fX11_setAt at h
  refine lv_iconst (v := 0) hx hb dX11_setAt_0 (by decide) ?_
  refine lv_istore_n (lv' := [(3, .int 0), (0, .ref a0), (1, .int x1), (2, .int x2)]) hx hb dX11_setAt_1 rfl hl (by decide) rfl (fun ls hl => ?_)
  refine lv_iconst (v := 0) hx hb dX11_setAt_2 (by decide) ?_
  refine lv_istore (lv' := [(4, .int 0), (3, .int 0), (0, .ref a0), (1, .int x1), (2, .int x2)]) hx hb dX11_setAt_3 hl (by decide) rfl (fun ls hl => ?_)
  exact wX11_setAt_l5 B hr hlk h0 h hR (lv_sub hl [2, 3, 4, 1, 0] rfl)
def fX11_kindWithout (fu : Nat) (a0 : Nat) (x1 : Int32) (x2 : Int32) (M : Mm) : Option Int32 :=
  bi (fX11_isFixed fu a0 x1 M) fun r_2 =>
  if r_2 = 0 then
    bi (fX11_setAt fu a0 x1 x2 M) fun r_35 =>
    bi (fX11_together fu a0 r_35 M) fun r_38 =>
    some r_38
  else
    if (M.1 a0 5) < 0 ∨ 2 ≤ ix (M.1 a0 5) then none else
    if ((M.1 (a0 + 4) (ix (M.1 a0 5))) / 8) = 0 then none else
    if (68 + (x1 / ((M.1 (a0 + 4) (ix (M.1 a0 5))) / 8))) < 0 ∨ 140 ≤ ix (68 + (x1 / ((M.1 (a0 + 4) (ix (M.1 a0 5))) / 8))) then none else
    some (M.1 (a0 + 1) (ix (68 + (x1 / ((M.1 (a0 + 4) (ix (M.1 a0 5))) / 8)))))
set_option maxRecDepth 100000 in
set_option maxHeartbeats 4000000 in
theorem mX11_kindWithout {l : Launch} {E : Ge} {L : Lay} (fu d : Nat) {a0 : Nat} {x1 : Int32} {x2 : Int32} {M : Mm} {r : Int32}  (h0 : At L a0 T11) (h : fX11_kindWithout fu a0 x1 x2 M = some r) : Ct l E L yX11_kindWithout cX11_kindWithout 3 (some .int) (d + 3) [.ref a0, .int x1, .int x2] M (some (.int r)) M := by
  refine Ct.of (by decide) ?_
  intro p e s m below meth c hr hlk B hR
  have B : Bx p s m _ c cX11_kindWithout 3 RX11 E L := B
  have hx := B.1
  have hb := B.2.1
  have hl := lv_entry ([.ref a0, .int x1, .int x2]) (n := 3) (Nat.le_of_ble_eq_true rfl)
  rw [lg_entry_eq]
  generalize (lg_sl ([.ref a0, .int x1, .int x2]) ++ List.replicate (3 - (lg_sl ([.ref a0, .int x1, .int x2])).length) Slot.unset).toArray = ls at hl ⊢
  have hl : lv_has ls 3 [(0, .ref a0), (1, .int x1), (2, .int x2)] := hl
  unfold fX11_kindWithout at h
  refine lv_aload_n hx hb dX11_kindWithout_0 rfl (lv_at hl 0 rfl) ?_
  refine lv_iload_n hx hb dX11_kindWithout_1 rfl (lv_at hl 1 rfl) ?_
  obtain ⟨r_2, hc_2, h⟩ := bi_el h
  refine iv_X11_255 B hR (h0.at0 rfl) hl.1 (mX11_isFixed fu _ h0 hc_2) (Nat.le_of_ble_eq_true rfl) dX11_kindWithout_2 (fun H locs hR => ?_)
  refine lv_if_eq (tgt := 31) hx hb dX11_kindWithout_5 (by decide) (fun c_5 => ?_) (fun c_5 => ?_)
  · rw [if_pos c_5] at h
    refine lv_aload_n hx hb dX11_kindWithout_31 rfl (lv_at hl 0 rfl) ?_
    refine lv_aload_n hx hb dX11_kindWithout_32 rfl (lv_at hl 0 rfl) ?_
    refine lv_iload_n hx hb dX11_kindWithout_33 rfl (lv_at hl 1 rfl) ?_
    refine lv_iload_n hx hb dX11_kindWithout_34 rfl (lv_at hl 2 rfl) ?_
    obtain ⟨r_35, hc_35, h⟩ := bi_el h
    refine iv_X11_258 B hR (h0.at0 rfl) hl.1 (mX11_setAt fu _ h0 hc_35) (Nat.le_of_ble_eq_true rfl) dX11_kindWithout_35 (fun H locs hR => ?_)
    obtain ⟨r_38, hc_38, h⟩ := bi_el h
    refine iv_X11_261 B hR (h0.at0 rfl) hl.1 (mX11_together fu _ h0 hc_38) (Nat.le_of_ble_eq_true rfl) dX11_kindWithout_38 (fun H locs hR => ?_)
    exact r_iretP B hR hr hlk h dX11_kindWithout_41
  · rw [if_neg c_5] at h
    refine lv_aload_n hx hb dX11_kindWithout_8 rfl (lv_at hl 0 rfl) ?_
    refine gf_X11_7 B hR (h0.at0 rfl) dX11_kindWithout_9 ?_
    refine lv_bipush (v := 68) hx hb dX11_kindWithout_12 (by decide) ?_
    refine lv_iload_n hx hb dX11_kindWithout_14 rfl (lv_at hl 1 rfl) ?_
    refine lv_aload_n hx hb dX11_kindWithout_15 rfl (lv_at hl 0 rfl) ?_
    refine gf_X11_19 B hR (h0.at0 rfl) dX11_kindWithout_16 ?_
    refine lv_aload_n hx hb dX11_kindWithout_19 rfl (lv_at hl 0 rfl) ?_
    refine gf_X11_225 B hR (h0.at0 rfl) dX11_kindWithout_20 ?_
    obtain ⟨hi_23, h⟩ := ifn_el h
    refine r_iald B hR (h0.at 4 rfl) hi_23 dX11_kindWithout_23 ?_
    refine lv_bipush (v := 8) hx hb dX11_kindWithout_24 (by decide) ?_
    refine lv_idiv hx hb dX11_kindWithout_26 (by decide) ?_
    obtain ⟨hz_27, h⟩ := ifn_el h
    refine lv_idiv hx hb dX11_kindWithout_27 hz_27 ?_
    refine lv_iadd hx hb dX11_kindWithout_28 ?_
    obtain ⟨hi_29, h⟩ := ifn_el h
    refine r_iald B hR (h0.at 1 rfl) hi_29 dX11_kindWithout_29 ?_
    exact r_iretP B hR hr hlk h dX11_kindWithout_30
def fX11_kindAt (fu : Nat) (a0 : Nat) (x1 : Int32) (M : Mm) : Option Int32 :=
  bi (fX11_kindWithout fu a0 x1 (-1) M) fun r_3 =>
  some r_3
set_option maxRecDepth 100000 in
set_option maxHeartbeats 4000000 in
theorem mX11_kindAt {l : Launch} {E : Ge} {L : Lay} (fu d : Nat) {a0 : Nat} {x1 : Int32} {M : Mm} {r : Int32}  (h0 : At L a0 T11) (h : fX11_kindAt fu a0 x1 M = some r) : Ct l E L yX11_kindAt cX11_kindAt 2 (some .int) (d + 4) [.ref a0, .int x1] M (some (.int r)) M := by
  refine Ct.of (by decide) ?_
  intro p e s m below meth c hr hlk B hR
  have B : Bx p s m _ c cX11_kindAt 2 RX11 E L := B
  have hx := B.1
  have hb := B.2.1
  have hl := lv_entry ([.ref a0, .int x1]) (n := 2) (Nat.le_of_ble_eq_true rfl)
  rw [lg_entry_eq]
  generalize (lg_sl ([.ref a0, .int x1]) ++ List.replicate (2 - (lg_sl ([.ref a0, .int x1])).length) Slot.unset).toArray = ls at hl ⊢
  have hl : lv_has ls 2 [(0, .ref a0), (1, .int x1)] := hl
  unfold fX11_kindAt at h
  refine lv_aload_n hx hb dX11_kindAt_0 rfl (lv_at hl 0 rfl) ?_
  refine lv_iload_n hx hb dX11_kindAt_1 rfl (lv_at hl 1 rfl) ?_
  refine lv_iconst (v := (-1)) hx hb dX11_kindAt_2 (by decide) ?_
  obtain ⟨r_3, hc_3, h⟩ := bi_el h
  refine iv_X11_270 B hR (h0.at0 rfl) hl.1 (mX11_kindWithout fu _ h0 hc_3) (Nat.le_of_ble_eq_true rfl) dX11_kindAt_3 (fun H locs hR => ?_)
  exact r_iretP B hR hr hlk h dX11_kindAt_6
def fX11_seenAs_j43 (fu : Nat) (t0 : Int32) : Option Int32 :=
  some t0
set_option maxRecDepth 100000 in
set_option maxHeartbeats 4000000 in
theorem wX11_seenAs_j43 {r : Int32}   {t0 : Int32} {M : Mm} (B : Bx p s m args c cX11_seenAs 2 RX11 E L) (hr : meth.sig.returnType = (some .int)) (hlk : meth.locks = false)   (h : fX11_seenAs_j43 fu t0 = some r) (hR : Rx s E L M H locs) (hl : lv_has ls 2 []) : W p l e (rmD (d + 1)) s m args below meth c H locs 0 0 (MQ below (QcM E L (some (.int r)) M) args s 0 0 E.2.2.2) (F0 m 43 ls [.int t0]) := by
  have hx := B.1
  have hb := B.2.1
  unfold fX11_seenAs_j43 at h
  exact r_iretP B hR hr hlk h dX11_seenAs_43
def fX11_seenAs_j38 (fu : Nat) (x0 : Int32) (x1 : Int32) : Option Int32 :=
  bi (fX11_less fu x0 x1) fun r_40 =>
  fX11_seenAs_j43 fu r_40
set_option maxRecDepth 100000 in
set_option maxHeartbeats 4000000 in
theorem wX11_seenAs_j38 {r : Int32}   {x0 : Int32} {x1 : Int32} {M : Mm} (B : Bx p s m args c cX11_seenAs 2 RX11 E L) (hr : meth.sig.returnType = (some .int)) (hlk : meth.locks = false)   (h : fX11_seenAs_j38 fu x0 x1 = some r) (hR : Rx s E L M H locs) (hl : lv_has ls 2 [(0, .int x0), (1, .int x1)]) : W p l e (rmD (d + 1)) s m args below meth c H locs 0 0 (MQ below (QcM E L (some (.int r)) M) args s 0 0 E.2.2.2) (F0 m 38 ls []) := by
  have hx := B.1
  have hb := B.2.1
  unfold fX11_seenAs_j38 at h
  refine lv_iload_n hx hb dX11_seenAs_38 rfl (lv_at hl 0 rfl) ?_
  refine lv_iload_n hx hb dX11_seenAs_39 rfl (lv_at hl 1 rfl) ?_
  obtain ⟨r_40, hc_40, h⟩ := bi_el h
  refine is_X11_273 B hR hl.1 (mX11_less fu _  hc_40) (Nat.le_of_ble_eq_true rfl) dX11_seenAs_40 (fun H locs hR => ?_)
  exact wX11_seenAs_j43 B hr hlk  h hR (lv_sub hl [] rfl)
def fX11_seenAs_j34 (fu : Nat)  : Option Int32 :=
  fX11_seenAs_j43 fu 0
set_option maxRecDepth 100000 in
set_option maxHeartbeats 4000000 in
theorem wX11_seenAs_j34 {r : Int32}    {M : Mm} (B : Bx p s m args c cX11_seenAs 2 RX11 E L) (hr : meth.sig.returnType = (some .int)) (hlk : meth.locks = false)   (h : fX11_seenAs_j34 fu  = some r) (hR : Rx s E L M H locs) (hl : lv_has ls 2 []) : W p l e (rmD (d + 1)) s m args below meth c H locs 0 0 (MQ below (QcM E L (some (.int r)) M) args s 0 0 E.2.2.2) (F0 m 34 ls []) := by
  have hx := B.1
  have hb := B.2.1
  unfold fX11_seenAs_j34 at h
  refine lv_iconst (v := 0) hx hb dX11_seenAs_34 (by decide) ?_
  refine lv_goto (tgt := 43) hx hb dX11_seenAs_35 (by decide) ?_
  exact wX11_seenAs_j43 B hr hlk  h hR hl
def fX11_seenAs_j24 (fu : Nat) (x0 : Int32) (x1 : Int32) : Option Int32 :=
  if x0 = 3 then
    if x1 = 2 then
      fX11_seenAs_j34 fu 
    else
      fX11_seenAs_j38 fu x0 x1
  else
    fX11_seenAs_j38 fu x0 x1
set_option maxRecDepth 100000 in
set_option maxHeartbeats 4000000 in
theorem wX11_seenAs_j24 {r : Int32}   {x0 : Int32} {x1 : Int32} {M : Mm} (B : Bx p s m args c cX11_seenAs 2 RX11 E L) (hr : meth.sig.returnType = (some .int)) (hlk : meth.locks = false)   (h : fX11_seenAs_j24 fu x0 x1 = some r) (hR : Rx s E L M H locs) (hl : lv_has ls 2 [(0, .int x0), (1, .int x1)]) : W p l e (rmD (d + 1)) s m args below meth c H locs 0 0 (MQ below (QcM E L (some (.int r)) M) args s 0 0 E.2.2.2) (F0 m 24 ls []) := by
  have hx := B.1
  have hb := B.2.1
  unfold fX11_seenAs_j24 at h
  refine lv_iload_n hx hb dX11_seenAs_24 rfl (lv_at hl 0 rfl) ?_
  refine lv_iconst (v := 3) hx hb dX11_seenAs_25 (by decide) ?_
  refine lv_icmp_ne (tgt := 38) hx hb dX11_seenAs_26 (by decide) (fun c_26 => ?_) (fun c_26 => ?_)
  · rw [if_neg c_26] at h
    exact wX11_seenAs_j38 B hr hlk  h hR hl
  · rw [if_pos c_26] at h
    refine lv_iload_n hx hb dX11_seenAs_29 rfl (lv_at hl 1 rfl) ?_
    refine lv_iconst (v := 2) hx hb dX11_seenAs_30 (by decide) ?_
    refine lv_icmp_ne (tgt := 38) hx hb dX11_seenAs_31 (by decide) (fun c_31 => ?_) (fun c_31 => ?_)
    · rw [if_neg c_31] at h
      exact wX11_seenAs_j38 B hr hlk  h hR hl
    · rw [if_pos c_31] at h
      exact wX11_seenAs_j34 B hr hlk  h hR (lv_sub hl [] rfl)
def fX11_seenAs (fu : Nat) (x0 : Int32) (x1 : Int32) : Option Int32 :=
  if x0 = 5 then
    some x1
  else
    if x1 = 5 then
      some 5
    else
      if x0 = 2 then
        if x1 = 3 then
          fX11_seenAs_j34 fu 
        else
          fX11_seenAs_j24 fu x0 x1
      else
        fX11_seenAs_j24 fu x0 x1
set_option maxRecDepth 100000 in
set_option maxHeartbeats 4000000 in
theorem mX11_seenAs {l : Launch} {E : Ge} {L : Lay} (fu d : Nat) {x0 : Int32} {x1 : Int32} {M : Mm} {r : Int32}   (h : fX11_seenAs fu x0 x1 = some r) : Ct l E L yX11_seenAs cX11_seenAs 2 (some .int) (d + 1) [.int x0, .int x1] M (some (.int r)) M := by
  refine Ct.of (by decide) ?_
  intro p e s m below meth c hr hlk B hR
  have B : Bx p s m _ c cX11_seenAs 2 RX11 E L := B
  have hx := B.1
  have hb := B.2.1
  have hl := lv_entry ([.int x0, .int x1]) (n := 2) (Nat.le_of_ble_eq_true rfl)
  rw [lg_entry_eq]
  generalize (lg_sl ([.int x0, .int x1]) ++ List.replicate (2 - (lg_sl ([.int x0, .int x1])).length) Slot.unset).toArray = ls at hl ⊢
  have hl : lv_has ls 2 [(0, .int x0), (1, .int x1)] := hl
  unfold fX11_seenAs at h
  refine lv_iload_n hx hb dX11_seenAs_0 rfl (lv_at hl 0 rfl) ?_
  refine lv_iconst (v := 5) hx hb dX11_seenAs_1 (by decide) ?_
  refine lv_icmp_ne (tgt := 7) hx hb dX11_seenAs_2 (by decide) (fun c_2 => ?_) (fun c_2 => ?_)
  · rw [if_neg c_2] at h
    refine lv_iload_n hx hb dX11_seenAs_7 rfl (lv_at hl 1 rfl) ?_
    refine lv_iconst (v := 5) hx hb dX11_seenAs_8 (by decide) ?_
    refine lv_icmp_ne (tgt := 14) hx hb dX11_seenAs_9 (by decide) (fun c_9 => ?_) (fun c_9 => ?_)
    · rw [if_neg c_9] at h
      refine lv_iload_n hx hb dX11_seenAs_14 rfl (lv_at hl 0 rfl) ?_
      refine lv_iconst (v := 2) hx hb dX11_seenAs_15 (by decide) ?_
      refine lv_icmp_ne (tgt := 24) hx hb dX11_seenAs_16 (by decide) (fun c_16 => ?_) (fun c_16 => ?_)
      · rw [if_neg c_16] at h
        exact wX11_seenAs_j24 B hr hlk  h hR hl
      · rw [if_pos c_16] at h
        refine lv_iload_n hx hb dX11_seenAs_19 rfl (lv_at hl 1 rfl) ?_
        refine lv_iconst (v := 3) hx hb dX11_seenAs_20 (by decide) ?_
        refine lv_icmp_eq (tgt := 34) hx hb dX11_seenAs_21 (by decide) (fun c_21 => ?_) (fun c_21 => ?_)
        · rw [if_pos c_21] at h
          exact wX11_seenAs_j34 B hr hlk  h hR (lv_sub hl [] rfl)
        · rw [if_neg c_21] at h
          exact wX11_seenAs_j24 B hr hlk  h hR hl
    · rw [if_pos c_9] at h
      refine lv_iconst (v := 5) hx hb dX11_seenAs_12 (by decide) ?_
      exact r_iretP B hR hr hlk h dX11_seenAs_13
  · rw [if_pos c_2] at h
    refine lv_iload_n hx hb dX11_seenAs_5 rfl (lv_at hl 1 rfl) ?_
    exact r_iretP B hR hr hlk h dX11_seenAs_6
def fX11_seenAt (fu : Nat) (a0 : Nat) (x1 : Int32) (M : Mm) : Option Int32 :=
  if (76 + (x1 / 16)) < 0 ∨ 140 ≤ ix (76 + (x1 / 16)) then none else
  bi (fX11_kindAt fu a0 x1 M) fun r_14 =>
  bi (fX11_seenAs fu (M.1 (a0 + 1) (ix (76 + (x1 / 16)))) r_14) fun r_17 =>
  some r_17
set_option maxRecDepth 100000 in
set_option maxHeartbeats 4000000 in
theorem mX11_seenAt {l : Launch} {E : Ge} {L : Lay} (fu d : Nat) {a0 : Nat} {x1 : Int32} {M : Mm} {r : Int32}  (h0 : At L a0 T11) (h : fX11_seenAt fu a0 x1 M = some r) : Ct l E L yX11_seenAt cX11_seenAt 2 (some .int) (d + 5) [.ref a0, .int x1] M (some (.int r)) M := by
  refine Ct.of (by decide) ?_
  intro p e s m below meth c hr hlk B hR
  have B : Bx p s m _ c cX11_seenAt 2 RX11 E L := B
  have hx := B.1
  have hb := B.2.1
  have hl := lv_entry ([.ref a0, .int x1]) (n := 2) (Nat.le_of_ble_eq_true rfl)
  rw [lg_entry_eq]
  generalize (lg_sl ([.ref a0, .int x1]) ++ List.replicate (2 - (lg_sl ([.ref a0, .int x1])).length) Slot.unset).toArray = ls at hl ⊢
  have hl : lv_has ls 2 [(0, .ref a0), (1, .int x1)] := hl
  unfold fX11_seenAt at h
  refine lv_aload_n hx hb dX11_seenAt_0 rfl (lv_at hl 0 rfl) ?_
  refine gf_X11_7 B hR (h0.at0 rfl) dX11_seenAt_1 ?_
  refine lv_bipush (v := 76) hx hb dX11_seenAt_4 (by decide) ?_
  refine lv_iload_n hx hb dX11_seenAt_6 rfl (lv_at hl 1 rfl) ?_
  refine lv_bipush (v := 16) hx hb dX11_seenAt_7 (by decide) ?_
  refine lv_idiv hx hb dX11_seenAt_9 (by decide) ?_
  refine lv_iadd hx hb dX11_seenAt_10 ?_
  obtain ⟨hi_11, h⟩ := ifn_el h
  refine r_iald B hR (h0.at 1 rfl) hi_11 dX11_seenAt_11 ?_
  refine lv_aload_n hx hb dX11_seenAt_12 rfl (lv_at hl 0 rfl) ?_
  refine lv_iload_n hx hb dX11_seenAt_13 rfl (lv_at hl 1 rfl) ?_
  obtain ⟨r_14, hc_14, h⟩ := bi_el h
  refine iv_X11_276 B hR (h0.at0 rfl) hl.1 (mX11_kindAt fu _ h0 hc_14) (Nat.le_of_ble_eq_true rfl) dX11_seenAt_14 (fun H locs hR => ?_)
  obtain ⟨r_17, hc_17, h⟩ := bi_el h
  refine is_X11_279 B hR hl.1 (mX11_seenAs fu _  hc_17) (Nat.le_of_ble_eq_true rfl) dX11_seenAt_17 (fun H locs hR => ?_)
  exact r_iretP B hR hr hlk h dX11_seenAt_20
def fX11_wanted_j17 (fu : Nat) (t0 : Int32) (M : Mm) : Option Int32 :=
  some t0
set_option maxRecDepth 100000 in
set_option maxHeartbeats 4000000 in
theorem wX11_wanted_j17 {r : Int32}   {t0 : Int32} {M : Mm} (B : Bx p s m args c cX11_wanted 2 RX11 E L) (hr : meth.sig.returnType = (some .int)) (hlk : meth.locks = false)   (h : fX11_wanted_j17 fu t0 M = some r) (hR : Rx s E L M H locs) (hl : lv_has ls 2 []) : W p l e (rmD (d + 2)) s m args below meth c H locs 0 0 (MQ below (QcM E L (some (.int r)) M) args s 0 0 E.2.2.2) (F0 m 17 ls [.int t0]) := by
  have hx := B.1
  have hb := B.2.1
  unfold fX11_wanted_j17 at h
  exact r_iretP B hR hr hlk h dX11_wanted_17
def fX11_wanted (fu : Nat) (a0 : Nat) (x1 : Int32) (M : Mm) : Option Int32 :=
  bi (fX11_isAddress fu a0 x1 M) fun r_2 =>
  if r_2 = 0 then
    fX11_wanted_j17 fu (-1) M
  else
    bi (fX11_wantedAt fu a0 x1 M) fun r_10 =>
    fX11_wanted_j17 fu r_10 M
set_option maxRecDepth 100000 in
set_option maxHeartbeats 4000000 in
theorem mX11_wanted {l : Launch} {E : Ge} {L : Lay} (fu d : Nat) {a0 : Nat} {x1 : Int32} {M : Mm} {r : Int32}  (h0 : At L a0 T11) (h : fX11_wanted fu a0 x1 M = some r) : Ct l E L yX11_wanted cX11_wanted 2 (some .int) (d + 2) [.ref a0, .int x1] M (some (.int r)) M := by
  refine Ct.of (by decide) ?_
  intro p e s m below meth c hr hlk B hR
  have B : Bx p s m _ c cX11_wanted 2 RX11 E L := B
  have hx := B.1
  have hb := B.2.1
  have hl := lv_entry ([.ref a0, .int x1]) (n := 2) (Nat.le_of_ble_eq_true rfl)
  rw [lg_entry_eq]
  generalize (lg_sl ([.ref a0, .int x1]) ++ List.replicate (2 - (lg_sl ([.ref a0, .int x1])).length) Slot.unset).toArray = ls at hl ⊢
  have hl : lv_has ls 2 [(0, .ref a0), (1, .int x1)] := hl
  unfold fX11_wanted at h
  refine lv_aload_n hx hb dX11_wanted_0 rfl (lv_at hl 0 rfl) ?_
  refine lv_iload_n hx hb dX11_wanted_1 rfl (lv_at hl 1 rfl) ?_
  obtain ⟨r_2, hc_2, h⟩ := bi_el h
  refine iv_X11_282 B hR (h0.at0 rfl) hl.1 (mX11_isAddress fu _ h0 hc_2) (Nat.le_of_ble_eq_true rfl) dX11_wanted_2 (fun H locs hR => ?_)
  refine lv_if_eq (tgt := 16) hx hb dX11_wanted_5 (by decide) (fun c_5 => ?_) (fun c_5 => ?_)
  · rw [if_pos c_5] at h
    refine lv_iconst (v := (-1)) hx hb dX11_wanted_16 (by decide) ?_
    exact wX11_wanted_j17 B hr hlk  h hR (lv_sub hl [] rfl)
  · rw [if_neg c_5] at h
    refine lv_aload_n hx hb dX11_wanted_8 rfl (lv_at hl 0 rfl) ?_
    refine lv_iload_n hx hb dX11_wanted_9 rfl (lv_at hl 1 rfl) ?_
    obtain ⟨r_10, hc_10, h⟩ := bi_el h
    refine iv_X11_285 B hR (h0.at0 rfl) hl.1 (mX11_wantedAt fu _ h0 hc_10) (Nat.le_of_ble_eq_true rfl) dX11_wanted_10 (fun H locs hR => ?_)
    refine lv_goto (tgt := 17) hx hb dX11_wanted_13 (by decide) ?_
    exact wX11_wanted_j17 B hr hlk  h hR (lv_sub hl [] rfl)
def fX11_kind_j17 (fu : Nat) (t0 : Int32) (M : Mm) : Option Int32 :=
  some t0
set_option maxRecDepth 100000 in
set_option maxHeartbeats 4000000 in
theorem wX11_kind_j17 {r : Int32}   {t0 : Int32} {M : Mm} (B : Bx p s m args c cX11_kind 2 RX11 E L) (hr : meth.sig.returnType = (some .int)) (hlk : meth.locks = false)   (h : fX11_kind_j17 fu t0 M = some r) (hR : Rx s E L M H locs) (hl : lv_has ls 2 []) : W p l e (rmD (d + 5)) s m args below meth c H locs 0 0 (MQ below (QcM E L (some (.int r)) M) args s 0 0 E.2.2.2) (F0 m 17 ls [.int t0]) := by
  have hx := B.1
  have hb := B.2.1
  unfold fX11_kind_j17 at h
  exact r_iretP B hR hr hlk h dX11_kind_17
def fX11_kind (fu : Nat) (a0 : Nat) (x1 : Int32) (M : Mm) : Option Int32 :=
  bi (fX11_isAddress fu a0 x1 M) fun r_2 =>
  if r_2 = 0 then
    fX11_kind_j17 fu (-1) M
  else
    bi (fX11_kindAt fu a0 x1 M) fun r_10 =>
    fX11_kind_j17 fu r_10 M
set_option maxRecDepth 100000 in
set_option maxHeartbeats 4000000 in
theorem mX11_kind {l : Launch} {E : Ge} {L : Lay} (fu d : Nat) {a0 : Nat} {x1 : Int32} {M : Mm} {r : Int32}  (h0 : At L a0 T11) (h : fX11_kind fu a0 x1 M = some r) : Ct l E L yX11_kind cX11_kind 2 (some .int) (d + 5) [.ref a0, .int x1] M (some (.int r)) M := by
  refine Ct.of (by decide) ?_
  intro p e s m below meth c hr hlk B hR
  have B : Bx p s m _ c cX11_kind 2 RX11 E L := B
  have hx := B.1
  have hb := B.2.1
  have hl := lv_entry ([.ref a0, .int x1]) (n := 2) (Nat.le_of_ble_eq_true rfl)
  rw [lg_entry_eq]
  generalize (lg_sl ([.ref a0, .int x1]) ++ List.replicate (2 - (lg_sl ([.ref a0, .int x1])).length) Slot.unset).toArray = ls at hl ⊢
  have hl : lv_has ls 2 [(0, .ref a0), (1, .int x1)] := hl
  unfold fX11_kind at h
  refine lv_aload_n hx hb dX11_kind_0 rfl (lv_at hl 0 rfl) ?_
  refine lv_iload_n hx hb dX11_kind_1 rfl (lv_at hl 1 rfl) ?_
  obtain ⟨r_2, hc_2, h⟩ := bi_el h
  refine iv_X11_282 B hR (h0.at0 rfl) hl.1 (mX11_isAddress fu _ h0 hc_2) (Nat.le_of_ble_eq_true rfl) dX11_kind_2 (fun H locs hR => ?_)
  refine lv_if_eq (tgt := 16) hx hb dX11_kind_5 (by decide) (fun c_5 => ?_) (fun c_5 => ?_)
  · rw [if_pos c_5] at h
    refine lv_iconst (v := (-1)) hx hb dX11_kind_16 (by decide) ?_
    exact wX11_kind_j17 B hr hlk  h hR (lv_sub hl [] rfl)
  · rw [if_neg c_5] at h
    refine lv_aload_n hx hb dX11_kind_8 rfl (lv_at hl 0 rfl) ?_
    refine lv_iload_n hx hb dX11_kind_9 rfl (lv_at hl 1 rfl) ?_
    obtain ⟨r_10, hc_10, h⟩ := bi_el h
    refine iv_X11_276 B hR (h0.at0 rfl) hl.1 (mX11_kindAt fu _ h0 hc_10) (Nat.le_of_ble_eq_true rfl) dX11_kind_10 (fun H locs hR => ?_)
    refine lv_goto (tgt := 17) hx hb dX11_kind_13 (by decide) ?_
    exact wX11_kind_j17 B hr hlk  h hR (lv_sub hl [] rfl)
def fX11_seen_j17 (fu : Nat) (t0 : Int32) (M : Mm) : Option Int32 :=
  some t0
set_option maxRecDepth 100000 in
set_option maxHeartbeats 4000000 in
theorem wX11_seen_j17 {r : Int32}   {t0 : Int32} {M : Mm} (B : Bx p s m args c cX11_seen 2 RX11 E L) (hr : meth.sig.returnType = (some .int)) (hlk : meth.locks = false)   (h : fX11_seen_j17 fu t0 M = some r) (hR : Rx s E L M H locs) (hl : lv_has ls 2 []) : W p l e (rmD (d + 6)) s m args below meth c H locs 0 0 (MQ below (QcM E L (some (.int r)) M) args s 0 0 E.2.2.2) (F0 m 17 ls [.int t0]) := by
  have hx := B.1
  have hb := B.2.1
  unfold fX11_seen_j17 at h
  exact r_iretP B hR hr hlk h dX11_seen_17
def fX11_seen (fu : Nat) (a0 : Nat) (x1 : Int32) (M : Mm) : Option Int32 :=
  bi (fX11_isAddress fu a0 x1 M) fun r_2 =>
  if r_2 = 0 then
    fX11_seen_j17 fu (-1) M
  else
    bi (fX11_seenAt fu a0 x1 M) fun r_10 =>
    fX11_seen_j17 fu r_10 M
set_option maxRecDepth 100000 in
set_option maxHeartbeats 4000000 in
theorem mX11_seen {l : Launch} {E : Ge} {L : Lay} (fu d : Nat) {a0 : Nat} {x1 : Int32} {M : Mm} {r : Int32}  (h0 : At L a0 T11) (h : fX11_seen fu a0 x1 M = some r) : Ct l E L yX11_seen cX11_seen 2 (some .int) (d + 6) [.ref a0, .int x1] M (some (.int r)) M := by
  refine Ct.of (by decide) ?_
  intro p e s m below meth c hr hlk B hR
  have B : Bx p s m _ c cX11_seen 2 RX11 E L := B
  have hx := B.1
  have hb := B.2.1
  have hl := lv_entry ([.ref a0, .int x1]) (n := 2) (Nat.le_of_ble_eq_true rfl)
  rw [lg_entry_eq]
  generalize (lg_sl ([.ref a0, .int x1]) ++ List.replicate (2 - (lg_sl ([.ref a0, .int x1])).length) Slot.unset).toArray = ls at hl ⊢
  have hl : lv_has ls 2 [(0, .ref a0), (1, .int x1)] := hl
  unfold fX11_seen at h
  refine lv_aload_n hx hb dX11_seen_0 rfl (lv_at hl 0 rfl) ?_
  refine lv_iload_n hx hb dX11_seen_1 rfl (lv_at hl 1 rfl) ?_
  obtain ⟨r_2, hc_2, h⟩ := bi_el h
  refine iv_X11_282 B hR (h0.at0 rfl) hl.1 (mX11_isAddress fu _ h0 hc_2) (Nat.le_of_ble_eq_true rfl) dX11_seen_2 (fun H locs hR => ?_)
  refine lv_if_eq (tgt := 16) hx hb dX11_seen_5 (by decide) (fun c_5 => ?_) (fun c_5 => ?_)
  · rw [if_pos c_5] at h
    refine lv_iconst (v := (-1)) hx hb dX11_seen_16 (by decide) ?_
    exact wX11_seen_j17 B hr hlk  h hR (lv_sub hl [] rfl)
  · rw [if_neg c_5] at h
    refine lv_aload_n hx hb dX11_seen_8 rfl (lv_at hl 0 rfl) ?_
    refine lv_iload_n hx hb dX11_seen_9 rfl (lv_at hl 1 rfl) ?_
    obtain ⟨r_10, hc_10, h⟩ := bi_el h
    refine iv_X11_288 B hR (h0.at0 rfl) hl.1 (mX11_seenAt fu _ h0 hc_10) (Nat.le_of_ble_eq_true rfl) dX11_seen_10 (fun H locs hR => ?_)
    refine lv_goto (tgt := 17) hx hb dX11_seen_13 (by decide) ?_
    exact wX11_seen_j17 B hr hlk  h hR (lv_sub hl [] rfl)
def fX11_paged_j27 (fu : Nat) (t0 : Int32) (M : Mm) : Option Int32 :=
  some t0
set_option maxRecDepth 100000 in
set_option maxHeartbeats 4000000 in
theorem wX11_paged_j27 {r : Int32}   {t0 : Int32} {M : Mm} (B : Bx p s m args c cX11_paged 2 RX11 E L) (hr : meth.sig.returnType = (some .int)) (hlk : meth.locks = false)   (h : fX11_paged_j27 fu t0 M = some r) (hR : Rx s E L M H locs) (hl : lv_has ls 2 []) : W p l e (rmD (d + 2)) s m args below meth c H locs 0 0 (MQ below (QcM E L (some (.int r)) M) args s 0 0 E.2.2.2) (F0 m 27 ls [.int t0]) := by
  have hx := B.1
  have hb := B.2.1
  unfold fX11_paged_j27 at h
  exact r_iretP B hR hr hlk h dX11_paged_27
def fX11_paged (fu : Nat) (a0 : Nat) (x1 : Int32) (M : Mm) : Option Int32 :=
  bi (fX11_pages fu a0 M) fun r_3 =>
  bi (fX11_isIn fu x1 0 (r_3 - 1)) fun r_8 =>
  if r_8 = 0 then
    fX11_paged_j27 fu (-1) M
  else
    if (76 + x1) < 0 ∨ 140 ≤ ix (76 + x1) then none else
    fX11_paged_j27 fu (M.1 (a0 + 1) (ix (76 + x1))) M
set_option maxRecDepth 100000 in
set_option maxHeartbeats 4000000 in
theorem mX11_paged {l : Launch} {E : Ge} {L : Lay} (fu d : Nat) {a0 : Nat} {x1 : Int32} {M : Mm} {r : Int32}  (h0 : At L a0 T11) (h : fX11_paged fu a0 x1 M = some r) : Ct l E L yX11_paged cX11_paged 2 (some .int) (d + 2) [.ref a0, .int x1] M (some (.int r)) M := by
  refine Ct.of (by decide) ?_
  intro p e s m below meth c hr hlk B hR
  have B : Bx p s m _ c cX11_paged 2 RX11 E L := B
  have hx := B.1
  have hb := B.2.1
  have hl := lv_entry ([.ref a0, .int x1]) (n := 2) (Nat.le_of_ble_eq_true rfl)
  rw [lg_entry_eq]
  generalize (lg_sl ([.ref a0, .int x1]) ++ List.replicate (2 - (lg_sl ([.ref a0, .int x1])).length) Slot.unset).toArray = ls at hl ⊢
  have hl : lv_has ls 2 [(0, .ref a0), (1, .int x1)] := hl
  unfold fX11_paged at h
  refine lv_iload_n hx hb dX11_paged_0 rfl (lv_at hl 1 rfl) ?_
  refine lv_iconst (v := 0) hx hb dX11_paged_1 (by decide) ?_
  refine lv_aload_n hx hb dX11_paged_2 rfl (lv_at hl 0 rfl) ?_
  obtain ⟨r_3, hc_3, h⟩ := bi_el h
  refine iv_X11_291 B hR (h0.at0 rfl) hl.1 (mX11_pages fu _ h0 hc_3) (Nat.le_of_ble_eq_true rfl) dX11_paged_3 (fun H locs hR => ?_)
  refine lv_iconst (v := 1) hx hb dX11_paged_6 (by decide) ?_
  refine lv_isub hx hb dX11_paged_7 ?_
  obtain ⟨r_8, hc_8, h⟩ := bi_el h
  refine is_X11_163 B hR hl.1 (mX11_isIn fu _  hc_8) (Nat.le_of_ble_eq_true rfl) dX11_paged_8 (fun H locs hR => ?_)
  refine lv_if_eq (tgt := 26) hx hb dX11_paged_11 (by decide) (fun c_11 => ?_) (fun c_11 => ?_)
  · rw [if_pos c_11] at h
    refine lv_iconst (v := (-1)) hx hb dX11_paged_26 (by decide) ?_
    exact wX11_paged_j27 B hr hlk  h hR (lv_sub hl [] rfl)
  · rw [if_neg c_11] at h
    refine lv_aload_n hx hb dX11_paged_14 rfl (lv_at hl 0 rfl) ?_
    refine gf_X11_7 B hR (h0.at0 rfl) dX11_paged_15 ?_
    refine lv_bipush (v := 76) hx hb dX11_paged_18 (by decide) ?_
    refine lv_iload_n hx hb dX11_paged_20 rfl (lv_at hl 1 rfl) ?_
    refine lv_iadd hx hb dX11_paged_21 ?_
    obtain ⟨hi_22, h⟩ := ifn_el h
    refine r_iald B hR (h0.at 1 rfl) hi_22 dX11_paged_22 ?_
    refine lv_goto (tgt := 27) hx hb dX11_paged_23 (by decide) ?_
    exact wX11_paged_j27 B hr hlk  h hR (lv_sub hl [] rfl)
def fX11_part_j35 (fu : Nat) (t0 : Int32) (M : Mm) : Option Int32 :=
  some t0
set_option maxRecDepth 100000 in
set_option maxHeartbeats 4000000 in
theorem wX11_part_j35 {r : Int32}   {t0 : Int32} {M : Mm} (B : Bx p s m args c cX11_part 2 RX11 E L) (hr : meth.sig.returnType = (some .int)) (hlk : meth.locks = false)   (h : fX11_part_j35 fu t0 M = some r) (hR : Rx s E L M H locs) (hl : lv_has ls 2 []) : W p l e (rmD (d + 1)) s m args below meth c H locs 0 0 (MQ below (QcM E L (some (.int r)) M) args s 0 0 E.2.2.2) (F0 m 35 ls [.int t0]) := by
  have hx := B.1
  have hb := B.2.1
  unfold fX11_part_j35 at h
  exact r_iretP B hR hr hlk h dX11_part_35
def fX11_part_j34 (fu : Nat) (M : Mm) : Option Int32 :=
  fX11_part_j35 fu (-1) M
set_option maxRecDepth 100000 in
set_option maxHeartbeats 4000000 in
theorem wX11_part_j34 {r : Int32}    {M : Mm} (B : Bx p s m args c cX11_part 2 RX11 E L) (hr : meth.sig.returnType = (some .int)) (hlk : meth.locks = false)   (h : fX11_part_j34 fu M = some r) (hR : Rx s E L M H locs) (hl : lv_has ls 2 []) : W p l e (rmD (d + 1)) s m args below meth c H locs 0 0 (MQ below (QcM E L (some (.int r)) M) args s 0 0 E.2.2.2) (F0 m 34 ls []) := by
  have hx := B.1
  have hb := B.2.1
  unfold fX11_part_j34 at h
  refine lv_iconst (v := (-1)) hx hb dX11_part_34 (by decide) ?_
  exact wX11_part_j35 B hr hlk  h hR hl
def fX11_part (fu : Nat) (a0 : Nat) (x1 : Int32) (M : Mm) : Option Int32 :=
  if (M.1 a0 5) < 0 ∨ 2 ≤ ix (M.1 a0 5) then none else
  if (M.1 (a0 + 4) (ix (M.1 a0 5))) ≤ 0 then
    fX11_part_j34 fu M
  else
    bi (fX11_isIn fu x1 0 7) fun r_16 =>
    if r_16 = 0 then
      fX11_part_j34 fu M
    else
      if (68 + x1) < 0 ∨ 140 ≤ ix (68 + x1) then none else
      fX11_part_j35 fu (M.1 (a0 + 1) (ix (68 + x1))) M
set_option maxRecDepth 100000 in
set_option maxHeartbeats 4000000 in
theorem mX11_part {l : Launch} {E : Ge} {L : Lay} (fu d : Nat) {a0 : Nat} {x1 : Int32} {M : Mm} {r : Int32}  (h0 : At L a0 T11) (h : fX11_part fu a0 x1 M = some r) : Ct l E L yX11_part cX11_part 2 (some .int) (d + 1) [.ref a0, .int x1] M (some (.int r)) M := by
  refine Ct.of (by decide) ?_
  intro p e s m below meth c hr hlk B hR
  have B : Bx p s m _ c cX11_part 2 RX11 E L := B
  have hx := B.1
  have hb := B.2.1
  have hl := lv_entry ([.ref a0, .int x1]) (n := 2) (Nat.le_of_ble_eq_true rfl)
  rw [lg_entry_eq]
  generalize (lg_sl ([.ref a0, .int x1]) ++ List.replicate (2 - (lg_sl ([.ref a0, .int x1])).length) Slot.unset).toArray = ls at hl ⊢
  have hl : lv_has ls 2 [(0, .ref a0), (1, .int x1)] := hl
  unfold fX11_part at h
  refine lv_aload_n hx hb dX11_part_0 rfl (lv_at hl 0 rfl) ?_
  refine gf_X11_19 B hR (h0.at0 rfl) dX11_part_1 ?_
  refine lv_aload_n hx hb dX11_part_4 rfl (lv_at hl 0 rfl) ?_
  refine gf_X11_225 B hR (h0.at0 rfl) dX11_part_5 ?_
  obtain ⟨hi_8, h⟩ := ifn_el h
  refine r_iald B hR (h0.at 4 rfl) hi_8 dX11_part_8 ?_
  refine lv_if_le (tgt := 34) hx hb dX11_part_9 (by decide) (fun c_9 => ?_) (fun c_9 => ?_)
  · rw [if_pos c_9] at h
    exact wX11_part_j34 B hr hlk  h hR (lv_sub hl [] rfl)
  · rw [if_neg c_9] at h
    refine lv_iload_n hx hb dX11_part_12 rfl (lv_at hl 1 rfl) ?_
    refine lv_iconst (v := 0) hx hb dX11_part_13 (by decide) ?_
    refine lv_bipush (v := 7) hx hb dX11_part_14 (by decide) ?_
    obtain ⟨r_16, hc_16, h⟩ := bi_el h
    refine is_X11_163 B hR hl.1 (mX11_isIn fu _  hc_16) (Nat.le_of_ble_eq_true rfl) dX11_part_16 (fun H locs hR => ?_)
    refine lv_if_eq (tgt := 34) hx hb dX11_part_19 (by decide) (fun c_19 => ?_) (fun c_19 => ?_)
    · rw [if_pos c_19] at h
      exact wX11_part_j34 B hr hlk  h hR (lv_sub hl [] rfl)
    · rw [if_neg c_19] at h
      refine lv_aload_n hx hb dX11_part_22 rfl (lv_at hl 0 rfl) ?_
      refine gf_X11_7 B hR (h0.at0 rfl) dX11_part_23 ?_
      refine lv_bipush (v := 68) hx hb dX11_part_26 (by decide) ?_
      refine lv_iload_n hx hb dX11_part_28 rfl (lv_at hl 1 rfl) ?_
      refine lv_iadd hx hb dX11_part_29 ?_
      obtain ⟨hi_30, h⟩ := ifn_el h
      refine r_iald B hR (h0.at 1 rfl) hi_30 dX11_part_30 ?_
      refine lv_goto (tgt := 35) hx hb dX11_part_31 (by decide) ?_
      exact wX11_part_j35 B hr hlk  h hR (lv_sub hl [] rfl)
def fX11_told_j41 (fu : Nat) (t0 : Int32) (M : Mm) : Option Int32 :=
  some t0
set_option maxRecDepth 100000 in
set_option maxHeartbeats 4000000 in
theorem wX11_told_j41 {r : Int32}   {t0 : Int32} {M : Mm} (B : Bx p s m args c cX11_told 3 RX11 E L) (hr : meth.sig.returnType = (some .int)) (hlk : meth.locks = false)   (h : fX11_told_j41 fu t0 M = some r) (hR : Rx s E L M H locs) (hl : lv_has ls 3 []) : W p l e (rmD (d + 1)) s m args below meth c H locs 0 0 (MQ below (QcM E L (some (.int r)) M) args s 0 0 E.2.2.2) (F0 m 41 ls [.int t0]) := by
  have hx := B.1
  have hb := B.2.1
  unfold fX11_told_j41 at h
  exact r_iretP B hR hr hlk h dX11_told_41
def fX11_told_j40 (fu : Nat) (M : Mm) : Option Int32 :=
  fX11_told_j41 fu (-1) M
set_option maxRecDepth 100000 in
set_option maxHeartbeats 4000000 in
theorem wX11_told_j40 {r : Int32}    {M : Mm} (B : Bx p s m args c cX11_told 3 RX11 E L) (hr : meth.sig.returnType = (some .int)) (hlk : meth.locks = false)   (h : fX11_told_j40 fu M = some r) (hR : Rx s E L M H locs) (hl : lv_has ls 3 []) : W p l e (rmD (d + 1)) s m args below meth c H locs 0 0 (MQ below (QcM E L (some (.int r)) M) args s 0 0 E.2.2.2) (F0 m 40 ls []) := by
  have hx := B.1
  have hb := B.2.1
  unfold fX11_told_j40 at h
  refine lv_iconst (v := (-1)) hx hb dX11_told_40 (by decide) ?_
  exact wX11_told_j41 B hr hlk  h hR hl
def fX11_told (fu : Nat) (a0 : Nat) (x1 : Int32) (x2 : Int32) (M : Mm) : Option Int32 :=
  bi (fX11_isIn fu x1 0 ((M.1 (a0 + 1) (ix 1)) - 1)) fun r_10 =>
  if r_10 = 0 then
    fX11_told_j40 fu M
  else
    bi (fX11_isIn fu x2 0 2) fun r_19 =>
    if r_19 = 0 then
      fX11_told_j40 fu M
    else
      if ((2 + (3 * x1)) + x2) < 0 ∨ 140 ≤ ix ((2 + (3 * x1)) + x2) then none else
      fX11_told_j41 fu (M.1 (a0 + 1) (ix ((2 + (3 * x1)) + x2))) M
set_option maxRecDepth 100000 in
set_option maxHeartbeats 4000000 in
theorem mX11_told {l : Launch} {E : Ge} {L : Lay} (fu d : Nat) {a0 : Nat} {x1 : Int32} {x2 : Int32} {M : Mm} {r : Int32}  (h0 : At L a0 T11) (h : fX11_told fu a0 x1 x2 M = some r) : Ct l E L yX11_told cX11_told 3 (some .int) (d + 1) [.ref a0, .int x1, .int x2] M (some (.int r)) M := by
  refine Ct.of (by decide) ?_
  intro p e s m below meth c hr hlk B hR
  have B : Bx p s m _ c cX11_told 3 RX11 E L := B
  have hx := B.1
  have hb := B.2.1
  have hl := lv_entry ([.ref a0, .int x1, .int x2]) (n := 3) (Nat.le_of_ble_eq_true rfl)
  rw [lg_entry_eq]
  generalize (lg_sl ([.ref a0, .int x1, .int x2]) ++ List.replicate (3 - (lg_sl ([.ref a0, .int x1, .int x2])).length) Slot.unset).toArray = ls at hl ⊢
  have hl : lv_has ls 3 [(0, .ref a0), (1, .int x1), (2, .int x2)] := hl
  unfold fX11_told at h
  refine lv_iload_n hx hb dX11_told_0 rfl (lv_at hl 1 rfl) ?_
  refine lv_iconst (v := 0) hx hb dX11_told_1 (by decide) ?_
  refine lv_aload_n hx hb dX11_told_2 rfl (lv_at hl 0 rfl) ?_
  refine gf_X11_7 B hR (h0.at0 rfl) dX11_told_3 ?_
  refine lv_iconst (v := 1) hx hb dX11_told_6 (by decide) ?_
  refine r_iald B hR (h0.at 1 rfl) (by decide +kernel) dX11_told_7 ?_
  refine lv_iconst (v := 1) hx hb dX11_told_8 (by decide) ?_
  refine lv_isub hx hb dX11_told_9 ?_
  obtain ⟨r_10, hc_10, h⟩ := bi_el h
  refine is_X11_163 B hR hl.1 (mX11_isIn fu _  hc_10) (Nat.le_of_ble_eq_true rfl) dX11_told_10 (fun H locs hR => ?_)
  refine lv_if_eq (tgt := 40) hx hb dX11_told_13 (by decide) (fun c_13 => ?_) (fun c_13 => ?_)
  · rw [if_pos c_13] at h
    exact wX11_told_j40 B hr hlk  h hR (lv_sub hl [] rfl)
  · rw [if_neg c_13] at h
    refine lv_iload_n hx hb dX11_told_16 rfl (lv_at hl 2 rfl) ?_
    refine lv_iconst (v := 0) hx hb dX11_told_17 (by decide) ?_
    refine lv_iconst (v := 2) hx hb dX11_told_18 (by decide) ?_
    obtain ⟨r_19, hc_19, h⟩ := bi_el h
    refine is_X11_163 B hR hl.1 (mX11_isIn fu _  hc_19) (Nat.le_of_ble_eq_true rfl) dX11_told_19 (fun H locs hR => ?_)
    refine lv_if_eq (tgt := 40) hx hb dX11_told_22 (by decide) (fun c_22 => ?_) (fun c_22 => ?_)
    · rw [if_pos c_22] at h
      exact wX11_told_j40 B hr hlk  h hR (lv_sub hl [] rfl)
    · rw [if_neg c_22] at h
      refine lv_aload_n hx hb dX11_told_25 rfl (lv_at hl 0 rfl) ?_
      refine gf_X11_7 B hR (h0.at0 rfl) dX11_told_26 ?_
      refine lv_iconst (v := 2) hx hb dX11_told_29 (by decide) ?_
      refine lv_iconst (v := 3) hx hb dX11_told_30 (by decide) ?_
      refine lv_iload_n hx hb dX11_told_31 rfl (lv_at hl 1 rfl) ?_
      refine lv_imul hx hb dX11_told_32 ?_
      refine lv_iadd hx hb dX11_told_33 ?_
      refine lv_iload_n hx hb dX11_told_34 rfl (lv_at hl 2 rfl) ?_
      refine lv_iadd hx hb dX11_told_35 ?_
      obtain ⟨hi_36, h⟩ := ifn_el h
      refine r_iald B hR (h0.at 1 rfl) hi_36 dX11_told_36 ?_
      refine lv_goto (tgt := 41) hx hb dX11_told_37 (by decide) ?_
      exact wX11_told_j41 B hr hlk  h hR (lv_sub hl [] rfl)
def fX11_register_j34 (fu : Nat) (t0 : Int32) (M : Mm) : Option Int32 :=
  some t0
set_option maxRecDepth 100000 in
set_option maxHeartbeats 4000000 in
theorem wX11_register_j34 {r : Int32}   {t0 : Int32} {M : Mm} (B : Bx p s m args c cX11_register 3 RX11 E L) (hr : meth.sig.returnType = (some .int)) (hlk : meth.locks = false)   (h : fX11_register_j34 fu t0 M = some r) (hR : Rx s E L M H locs) (hl : lv_has ls 3 []) : W p l e (rmD (d + 3)) s m args below meth c H locs 0 0 (MQ below (QcM E L (some (.int r)) M) args s 0 0 E.2.2.2) (F0 m 34 ls [.int t0]) := by
  have hx := B.1
  have hb := B.2.1
  unfold fX11_register_j34 at h
  exact r_iretP B hR hr hlk h dX11_register_34
def fX11_register_j33 (fu : Nat) (M : Mm) : Option Int32 :=
  fX11_register_j34 fu (-1) M
set_option maxRecDepth 100000 in
set_option maxHeartbeats 4000000 in
theorem wX11_register_j33 {r : Int32}    {M : Mm} (B : Bx p s m args c cX11_register 3 RX11 E L) (hr : meth.sig.returnType = (some .int)) (hlk : meth.locks = false)   (h : fX11_register_j33 fu M = some r) (hR : Rx s E L M H locs) (hl : lv_has ls 3 []) : W p l e (rmD (d + 3)) s m args below meth c H locs 0 0 (MQ below (QcM E L (some (.int r)) M) args s 0 0 E.2.2.2) (F0 m 33 ls []) := by
  have hx := B.1
  have hb := B.2.1
  unfold fX11_register_j33 at h
  refine lv_iconst (v := (-1)) hx hb dX11_register_33 (by decide) ?_
  exact wX11_register_j34 B hr hlk  h hR hl
def fX11_register (fu : Nat) (a0 : Nat) (x1 : Int32) (x2 : Int32) (M : Mm) : Option Int32 :=
  bi (fX11_isSet fu a0 x1 M) fun r_2 =>
  if r_2 = 0 then
    fX11_register_j33 fu M
  else
    bi (fX11_isIn fu x2 0 2) fun r_11 =>
    if r_11 = 0 then
      fX11_register_j33 fu M
    else
      if ((38 + (3 * x1)) + x2) < 0 ∨ 140 ≤ ix ((38 + (3 * x1)) + x2) then none else
      fX11_register_j34 fu (M.1 (a0 + 1) (ix ((38 + (3 * x1)) + x2))) M
set_option maxRecDepth 100000 in
set_option maxHeartbeats 4000000 in
theorem mX11_register {l : Launch} {E : Ge} {L : Lay} (fu d : Nat) {a0 : Nat} {x1 : Int32} {x2 : Int32} {M : Mm} {r : Int32}  (h0 : At L a0 T11) (h : fX11_register fu a0 x1 x2 M = some r) : Ct l E L yX11_register cX11_register 3 (some .int) (d + 3) [.ref a0, .int x1, .int x2] M (some (.int r)) M := by
  refine Ct.of (by decide) ?_
  intro p e s m below meth c hr hlk B hR
  have B : Bx p s m _ c cX11_register 3 RX11 E L := B
  have hx := B.1
  have hb := B.2.1
  have hl := lv_entry ([.ref a0, .int x1, .int x2]) (n := 3) (Nat.le_of_ble_eq_true rfl)
  rw [lg_entry_eq]
  generalize (lg_sl ([.ref a0, .int x1, .int x2]) ++ List.replicate (3 - (lg_sl ([.ref a0, .int x1, .int x2])).length) Slot.unset).toArray = ls at hl ⊢
  have hl : lv_has ls 3 [(0, .ref a0), (1, .int x1), (2, .int x2)] := hl
  unfold fX11_register at h
  refine lv_aload_n hx hb dX11_register_0 rfl (lv_at hl 0 rfl) ?_
  refine lv_iload_n hx hb dX11_register_1 rfl (lv_at hl 1 rfl) ?_
  obtain ⟨r_2, hc_2, h⟩ := bi_el h
  refine iv_X11_294 B hR (h0.at0 rfl) hl.1 (mX11_isSet fu _ h0 hc_2) (Nat.le_of_ble_eq_true rfl) dX11_register_2 (fun H locs hR => ?_)
  refine lv_if_eq (tgt := 33) hx hb dX11_register_5 (by decide) (fun c_5 => ?_) (fun c_5 => ?_)
  · rw [if_pos c_5] at h
    exact wX11_register_j33 B hr hlk  h hR (lv_sub hl [] rfl)
  · rw [if_neg c_5] at h
    refine lv_iload_n hx hb dX11_register_8 rfl (lv_at hl 2 rfl) ?_
    refine lv_iconst (v := 0) hx hb dX11_register_9 (by decide) ?_
    refine lv_iconst (v := 2) hx hb dX11_register_10 (by decide) ?_
    obtain ⟨r_11, hc_11, h⟩ := bi_el h
    refine is_X11_163 B hR hl.1 (mX11_isIn fu _  hc_11) (Nat.le_of_ble_eq_true rfl) dX11_register_11 (fun H locs hR => ?_)
    refine lv_if_eq (tgt := 33) hx hb dX11_register_14 (by decide) (fun c_14 => ?_) (fun c_14 => ?_)
    · rw [if_pos c_14] at h
      exact wX11_register_j33 B hr hlk  h hR (lv_sub hl [] rfl)
    · rw [if_neg c_14] at h
      refine lv_aload_n hx hb dX11_register_17 rfl (lv_at hl 0 rfl) ?_
      refine gf_X11_7 B hR (h0.at0 rfl) dX11_register_18 ?_
      refine lv_bipush (v := 38) hx hb dX11_register_21 (by decide) ?_
      refine lv_iconst (v := 3) hx hb dX11_register_23 (by decide) ?_
      refine lv_iload_n hx hb dX11_register_24 rfl (lv_at hl 1 rfl) ?_
      refine lv_imul hx hb dX11_register_25 ?_
      refine lv_iadd hx hb dX11_register_26 ?_
      refine lv_iload_n hx hb dX11_register_27 rfl (lv_at hl 2 rfl) ?_
      refine lv_iadd hx hb dX11_register_28 ?_
      obtain ⟨hi_29, h⟩ := ifn_el h
      refine r_iald B hR (h0.at 1 rfl) hi_29 dX11_register_29 ?_
      refine lv_goto (tgt := 34) hx hb dX11_register_30 (by decide) ?_
      exact wX11_register_j34 B hr hlk  h hR (lv_sub hl [] rfl)
def fX11_runMany_j45 (fu : Nat) (x1 : Int32) (M : Mm) : Option Int32 :=
  some x1
set_option maxRecDepth 100000 in
set_option maxHeartbeats 4000000 in
theorem wX11_runMany_j45 {r : Int32}   {x1 : Int32} {M : Mm} (B : Bx p s m args c cX11_runMany 3 RX11 E L) (hr : meth.sig.returnType = (some .int)) (hlk : meth.locks = false)   (h : fX11_runMany_j45 fu x1 M = some r) (hR : Rx s E L M H locs) (hl : lv_has ls 3 [(1, .int x1)]) : W p l e (rmD (d + 2)) s m args below meth c H locs 0 0 (MQ below (QcM E L (some (.int r)) M) args s 0 0 E.2.2.2) (F0 m 45 ls []) := by
  have hx := B.1
  have hb := B.2.1
  unfold fX11_runMany_j45 at h
  refine lv_iload_n hx hb dX11_runMany_45 rfl (lv_at hl 0 rfl) ?_
  exact r_iretP B hR hr hlk h dX11_runMany_46
def fX11_runMany_j37 (fu : Nat) (k4 : Int32 → Int32 → Option Int32) (a0 : Nat) (x2 : Int32) (t0 : Int32) (t1 : Int32) (M : Mm) : Option Int32 :=
  lt ((t0 + t1)) fun x1_38 =>
  lt (x2 + 1) fun x2_39 =>
  k4 x1_38 x2_39
set_option maxRecDepth 100000 in
set_option maxHeartbeats 4000000 in
theorem wX11_runMany_j37 {r : Int32}  {k4 : Int32 → Int32 → Option Int32} {a0 : Nat} {x2 : Int32} {t0 : Int32} {t1 : Int32} {M : Mm} (B : Bx p s m args c cX11_runMany 3 RX11 E L) (hr : meth.sig.returnType = (some .int)) (hlk : meth.locks = false) (ih4 : ∀ (x1 : Int32) (x2 : Int32), k4 x1 x2 = some r → ∀ (H : Heap) (locs : List Loc) (ls : Array Slot), Rx s E L M H locs → lv_has ls 3 [(0, .ref a0), (1, .int x1), (2, .int x2)] → W p l e (rmD (d + 2)) s m args below meth c H locs 0 0 (MQ below (QcM E L (some (.int r)) M) args s 0 0 E.2.2.2) (F0 m 4 ls [])) (h0 : At L a0 T11) (h : fX11_runMany_j37 fu k4 a0 x2 t0 t1 M = some r) (hR : Rx s E L M H locs) (hl : lv_has ls 3 [(0, .ref a0), (2, .int x2)]) : W p l e (rmD (d + 2)) s m args below meth c H locs 0 0 (MQ below (QcM E L (some (.int r)) M) args s 0 0 E.2.2.2) (F0 m 37 ls [.int t1, .int t0]) := by
  have hx := B.1
  have hb := B.2.1
  unfold fX11_runMany_j37 at h
  refine lv_iadd hx hb dX11_runMany_37 ?_
  obtain ⟨x1_38, ex1_38, h⟩ := lt_el h
  refine r_nmI ex1_38 ?_
  refine lv_istore_n (lv' := [(1, .int x1_38), (0, .ref a0), (2, .int x2)]) hx hb dX11_runMany_38 rfl hl (by decide) rfl (fun ls hl => ?_)
  obtain ⟨x2_39, ex2_39, h⟩ := lt_el h
  refine lv_iinc (v := x2_39) (lv' := [(2, .int x2_39), (1, .int x1_38), (0, .ref a0)]) hx hb dX11_runMany_39 hl (k := 2) rfl (by rw [ex2_39]; rfl) (by decide) rfl (fun ls hl => ?_)
  refine lv_goto (tgt := 4) hx hb dX11_runMany_42 (by decide) ?_
  exact ih4 x1_38 x2_39 h _ _ _ hR (lv_sub hl [2, 1, 0] rfl)
def fX11_runMany_j32 (fu : Nat) (k4 : Int32 → Int32 → Option Int32) (a0 : Nat) (x2 : Int32) (t0 : Int32) (M : Mm) : Option Int32 :=
  fX11_runMany_j37 fu k4 a0 x2 t0 1 M
set_option maxRecDepth 100000 in
set_option maxHeartbeats 4000000 in
theorem wX11_runMany_j32 {r : Int32}  {k4 : Int32 → Int32 → Option Int32} {a0 : Nat} {x2 : Int32} {t0 : Int32} {M : Mm} (B : Bx p s m args c cX11_runMany 3 RX11 E L) (hr : meth.sig.returnType = (some .int)) (hlk : meth.locks = false) (ih4 : ∀ (x1 : Int32) (x2 : Int32), k4 x1 x2 = some r → ∀ (H : Heap) (locs : List Loc) (ls : Array Slot), Rx s E L M H locs → lv_has ls 3 [(0, .ref a0), (1, .int x1), (2, .int x2)] → W p l e (rmD (d + 2)) s m args below meth c H locs 0 0 (MQ below (QcM E L (some (.int r)) M) args s 0 0 E.2.2.2) (F0 m 4 ls [])) (h0 : At L a0 T11) (h : fX11_runMany_j32 fu k4 a0 x2 t0 M = some r) (hR : Rx s E L M H locs) (hl : lv_has ls 3 [(0, .ref a0), (2, .int x2)]) : W p l e (rmD (d + 2)) s m args below meth c H locs 0 0 (MQ below (QcM E L (some (.int r)) M) args s 0 0 E.2.2.2) (F0 m 32 ls [.int t0]) := by
  have hx := B.1
  have hb := B.2.1
  unfold fX11_runMany_j32 at h
  refine lv_iconst (v := 1) hx hb dX11_runMany_32 (by decide) ?_
  refine lv_goto (tgt := 37) hx hb dX11_runMany_33 (by decide) ?_
  exact wX11_runMany_j37 B hr hlk ih4 h0 h hR hl
def fX11_runMany_b4 (fu : Nat) (k4 : Int32 → Int32 → Option Int32) (a0 : Nat) (x1 : Int32) (x2 : Int32) (M : Mm) : Option Int32 :=
  bi (fX11_addresses fu a0 M) fun r_6 =>
  if r_6 ≤ x2 then
    fX11_runMany_j45 fu x1 M
  else
    if x2 = 0 then
      fX11_runMany_j32 fu k4 a0 x2 x1 M
    else
      bi (fX11_wantedAt fu a0 x2 M) fun r_19 =>
      bi (fX11_wantedAt fu a0 (x2 - 1) M) fun r_26 =>
      if r_19 = r_26 then
        fX11_runMany_j37 fu k4 a0 x2 x1 0 M
      else
        fX11_runMany_j32 fu k4 a0 x2 x1 M
set_option maxRecDepth 100000 in
set_option maxHeartbeats 4000000 in
theorem wX11_runMany_b4 {r : Int32}   {k4 : Int32 → Int32 → Option Int32} {a0 : Nat} {x1 : Int32} {x2 : Int32} {M : Mm} (B : Bx p s m args c cX11_runMany 3 RX11 E L) (hr : meth.sig.returnType = (some .int)) (hlk : meth.locks = false)  (ih4 : ∀ (x1 : Int32) (x2 : Int32), k4 x1 x2 = some r → ∀ (H : Heap) (locs : List Loc) (ls : Array Slot), Rx s E L M H locs → lv_has ls 3 [(0, .ref a0), (1, .int x1), (2, .int x2)] → W p l e (rmD (d + 2)) s m args below meth c H locs 0 0 (MQ below (QcM E L (some (.int r)) M) args s 0 0 E.2.2.2) (F0 m 4 ls [])) (h0 : At L a0 T11) (h : fX11_runMany_b4 fu k4 a0 x1 x2 M = some r) (hR : Rx s E L M H locs) (hl : lv_has ls 3 [(0, .ref a0), (1, .int x1), (2, .int x2)]) : W p l e (rmD (d + 2)) s m args below meth c H locs 0 0 (MQ below (QcM E L (some (.int r)) M) args s 0 0 E.2.2.2) (F0 m 4 ls []) := by
  have hx := B.1
  have hb := B.2.1
  unfold fX11_runMany_b4 at h
  refine lv_iload_n hx hb dX11_runMany_4 rfl (lv_at hl 2 rfl) ?_
  refine lv_aload_n hx hb dX11_runMany_5 rfl (lv_at hl 0 rfl) ?_
  obtain ⟨r_6, hc_6, h⟩ := bi_el h
  refine iv_X11_240 B hR (h0.at0 rfl) hl.1 (mX11_addresses fu _ h0 hc_6) (Nat.le_of_ble_eq_true rfl) dX11_runMany_6 (fun H locs hR => ?_)
  refine lv_icmp_ge (tgt := 45) hx hb dX11_runMany_9 (by decide) (fun c_9 => ?_) (fun c_9 => ?_)
  · rw [if_pos c_9] at h
    exact wX11_runMany_j45 B hr hlk  h hR (lv_sub hl [1] rfl)
  · rw [if_neg c_9] at h
    refine lv_iload_n hx hb dX11_runMany_12 rfl (lv_at hl 1 rfl) ?_
    refine lv_iload_n hx hb dX11_runMany_13 rfl (lv_at hl 2 rfl) ?_
    refine lv_if_eq (tgt := 32) hx hb dX11_runMany_14 (by decide) (fun c_14 => ?_) (fun c_14 => ?_)
    · rw [if_pos c_14] at h
      exact wX11_runMany_j32 B hr hlk ih4 h0 h hR (lv_sub hl [0, 2] rfl)
    · rw [if_neg c_14] at h
      refine lv_aload_n hx hb dX11_runMany_17 rfl (lv_at hl 0 rfl) ?_
      refine lv_iload_n hx hb dX11_runMany_18 rfl (lv_at hl 2 rfl) ?_
      obtain ⟨r_19, hc_19, h⟩ := bi_el h
      refine iv_X11_285 B hR (h0.at0 rfl) hl.1 (mX11_wantedAt fu _ h0 hc_19) (Nat.le_of_ble_eq_true rfl) dX11_runMany_19 (fun H locs hR => ?_)
      refine lv_aload_n hx hb dX11_runMany_22 rfl (lv_at hl 0 rfl) ?_
      refine lv_iload_n hx hb dX11_runMany_23 rfl (lv_at hl 2 rfl) ?_
      refine lv_iconst (v := 1) hx hb dX11_runMany_24 (by decide) ?_
      refine lv_isub hx hb dX11_runMany_25 ?_
      obtain ⟨r_26, hc_26, h⟩ := bi_el h
      refine iv_X11_285 B hR (h0.at0 rfl) hl.1 (mX11_wantedAt fu _ h0 hc_26) (Nat.le_of_ble_eq_true rfl) dX11_runMany_26 (fun H locs hR => ?_)
      refine lv_icmp_eq (tgt := 36) hx hb dX11_runMany_29 (by decide) (fun c_29 => ?_) (fun c_29 => ?_)
      · rw [if_pos c_29] at h
        refine lv_iconst (v := 0) hx hb dX11_runMany_36 (by decide) ?_
        exact wX11_runMany_j37 B hr hlk ih4 h0 h hR (lv_sub hl [0, 2] rfl)
      · rw [if_neg c_29] at h
        exact wX11_runMany_j32 B hr hlk ih4 h0 h hR (lv_sub hl [0, 2] rfl)
def fX11_runMany_l4 (fu : Nat) (a0 : Nat) (M : Mm) (x1 : Int32) (x2 : Int32) : Option Int32 := lp (fun (rec : (Int32 × Int32) → Option Int32) (s : Int32 × Int32) => fX11_runMany_b4 fu  (fun x1 x2 => rec (x1, x2)) a0 s.1 s.2 M) fu (x1, x2)
set_option maxRecDepth 100000 in
set_option maxHeartbeats 4000000 in
theorem wX11_runMany_l4 {r : Int32}   {a0 : Nat} {x1 : Int32} {x2 : Int32} {M : Mm} (B : Bx p s m args c cX11_runMany 3 RX11 E L) (hr : meth.sig.returnType = (some .int)) (hlk : meth.locks = false)  (h0 : At L a0 T11) (h : fX11_runMany_l4 fu a0 M x1 x2 = some r) (hR : Rx s E L M H locs) (hl : lv_has ls 3 [(0, .ref a0), (1, .int x1), (2, .int x2)]) : W p l e (rmD (d + 2)) s m args below meth c H locs 0 0 (MQ below (QcM E L (some (.int r)) M) args s 0 0 E.2.2.2) (F0 m 4 ls []) := by
  refine lp_G (G := fun z : Int32 × Int32 => ∀ (H : Heap) (locs : List Loc) (ls : Array Slot), Rx s E L M H locs → lv_has ls 3 [(0, .ref a0), (1, .int z.1), (2, .int z.2)] → W p l e (rmD (d + 2)) s m args below meth c H locs 0 0 (MQ below (QcM E L (some (.int r)) M) args s 0 0 E.2.2.2) (F0 m 4 ls [])) (fun rec ih z h H locs ls hR hl => ?_) fu _ h H locs ls hR hl
  exact wX11_runMany_b4 B hr hlk  (fun x1 x2 h => ih (x1, x2) h) h0 h hR hl
def fX11_runMany (fu : Nat) (a0 : Nat) (M : Mm) : Option Int32 :=
  fX11_runMany_l4 fu a0 M 0 0
set_option maxRecDepth 100000 in
set_option maxHeartbeats 4000000 in
theorem mX11_runMany {l : Launch} {E : Ge} {L : Lay} (fu d : Nat) {a0 : Nat} {M : Mm} {r : Int32}  (h0 : At L a0 T11) (h : fX11_runMany fu a0 M = some r) : Ct l E L yX11_runMany cX11_runMany 3 (some .int) (d + 2) [.ref a0] M (some (.int r)) M := by
  refine Ct.of (by decide) ?_
  intro p e s m below meth c hr hlk B hR
  have B : Bx p s m _ c cX11_runMany 3 RX11 E L := B
  have hx := B.1
  have hb := B.2.1
  have hl := lv_entry ([.ref a0]) (n := 3) (Nat.le_of_ble_eq_true rfl)
  rw [lg_entry_eq]
  generalize (lg_sl ([.ref a0]) ++ List.replicate (3 - (lg_sl ([.ref a0])).length) Slot.unset).toArray = ls at hl ⊢
  have hl : lv_has ls 3 [(0, .ref a0)] := hl
  unfold fX11_runMany at h
  refine lv_iconst (v := 0) hx hb dX11_runMany_0 (by decide) ?_
  refine lv_istore_n (lv' := [(1, .int 0), (0, .ref a0)]) hx hb dX11_runMany_1 rfl hl (by decide) rfl (fun ls hl => ?_)
  refine lv_iconst (v := 0) hx hb dX11_runMany_2 (by decide) ?_
  refine lv_istore_n (lv' := [(2, .int 0), (1, .int 0), (0, .ref a0)]) hx hb dX11_runMany_3 rfl hl (by decide) rfl (fun ls hl => ?_)
  exact wX11_runMany_l4 B hr hlk h0 h hR (lv_sub hl [2, 1, 0] rfl)
def fX11_runEnd_j33 (fu : Nat) (x2 : Int32) (M : Mm) : Option Int32 :=
  some x2
set_option maxRecDepth 100000 in
set_option maxHeartbeats 4000000 in
theorem wX11_runEnd_j33 {r : Int32}   {x2 : Int32} {M : Mm} (B : Bx p s m args c cX11_runEnd 3 RX11 E L) (hr : meth.sig.returnType = (some .int)) (hlk : meth.locks = false)   (h : fX11_runEnd_j33 fu x2 M = some r) (hR : Rx s E L M H locs) (hl : lv_has ls 3 [(2, .int x2)]) : W p l e (rmD (d + 2)) s m args below meth c H locs 0 0 (MQ below (QcM E L (some (.int r)) M) args s 0 0 E.2.2.2) (F0 m 33 ls []) := by
  have hx := B.1
  have hb := B.2.1
  unfold fX11_runEnd_j33 at h
  refine lv_iload_n hx hb dX11_runEnd_33 rfl (lv_at hl 0 rfl) ?_
  exact r_iretP B hR hr hlk h dX11_runEnd_34
def fX11_runEnd_b2 (fu : Nat) (k2 : Int32 → Option Int32) (a0 : Nat) (x1 : Int32) (x2 : Int32) (M : Mm) : Option Int32 :=
  bi (fX11_addresses fu a0 M) fun r_6 =>
  if r_6 ≤ (x2 + 1) then
    fX11_runEnd_j33 fu x2 M
  else
    bi (fX11_wantedAt fu a0 (x2 + 1) M) fun r_16 =>
    bi (fX11_wantedAt fu a0 x1 M) fun r_21 =>
    if r_16 = r_21 then
      lt (x2 + 1) fun x2_27 =>
      k2 x2_27
    else
      fX11_runEnd_j33 fu x2 M
set_option maxRecDepth 100000 in
set_option maxHeartbeats 4000000 in
theorem wX11_runEnd_b2 {r : Int32}   {k2 : Int32 → Option Int32} {a0 : Nat} {x1 : Int32} {x2 : Int32} {M : Mm} (B : Bx p s m args c cX11_runEnd 3 RX11 E L) (hr : meth.sig.returnType = (some .int)) (hlk : meth.locks = false)  (ih2 : ∀ (x2 : Int32), k2 x2 = some r → ∀ (H : Heap) (locs : List Loc) (ls : Array Slot), Rx s E L M H locs → lv_has ls 3 [(0, .ref a0), (1, .int x1), (2, .int x2)] → W p l e (rmD (d + 2)) s m args below meth c H locs 0 0 (MQ below (QcM E L (some (.int r)) M) args s 0 0 E.2.2.2) (F0 m 2 ls [])) (h0 : At L a0 T11) (h : fX11_runEnd_b2 fu k2 a0 x1 x2 M = some r) (hR : Rx s E L M H locs) (hl : lv_has ls 3 [(0, .ref a0), (1, .int x1), (2, .int x2)]) : W p l e (rmD (d + 2)) s m args below meth c H locs 0 0 (MQ below (QcM E L (some (.int r)) M) args s 0 0 E.2.2.2) (F0 m 2 ls []) := by
  have hx := B.1
  have hb := B.2.1
  unfold fX11_runEnd_b2 at h
  refine lv_iload_n hx hb dX11_runEnd_2 rfl (lv_at hl 2 rfl) ?_
  refine lv_iconst (v := 1) hx hb dX11_runEnd_3 (by decide) ?_
  refine lv_iadd hx hb dX11_runEnd_4 ?_
  refine lv_aload_n hx hb dX11_runEnd_5 rfl (lv_at hl 0 rfl) ?_
  obtain ⟨r_6, hc_6, h⟩ := bi_el h
  refine iv_X11_240 B hR (h0.at0 rfl) hl.1 (mX11_addresses fu _ h0 hc_6) (Nat.le_of_ble_eq_true rfl) dX11_runEnd_6 (fun H locs hR => ?_)
  refine lv_icmp_ge (tgt := 33) hx hb dX11_runEnd_9 (by decide) (fun c_9 => ?_) (fun c_9 => ?_)
  · rw [if_pos c_9] at h
    exact wX11_runEnd_j33 B hr hlk  h hR (lv_sub hl [2] rfl)
  · rw [if_neg c_9] at h
    refine lv_aload_n hx hb dX11_runEnd_12 rfl (lv_at hl 0 rfl) ?_
    refine lv_iload_n hx hb dX11_runEnd_13 rfl (lv_at hl 2 rfl) ?_
    refine lv_iconst (v := 1) hx hb dX11_runEnd_14 (by decide) ?_
    refine lv_iadd hx hb dX11_runEnd_15 ?_
    obtain ⟨r_16, hc_16, h⟩ := bi_el h
    refine iv_X11_285 B hR (h0.at0 rfl) hl.1 (mX11_wantedAt fu _ h0 hc_16) (Nat.le_of_ble_eq_true rfl) dX11_runEnd_16 (fun H locs hR => ?_)
    refine lv_aload_n hx hb dX11_runEnd_19 rfl (lv_at hl 0 rfl) ?_
    refine lv_iload_n hx hb dX11_runEnd_20 rfl (lv_at hl 1 rfl) ?_
    obtain ⟨r_21, hc_21, h⟩ := bi_el h
    refine iv_X11_285 B hR (h0.at0 rfl) hl.1 (mX11_wantedAt fu _ h0 hc_21) (Nat.le_of_ble_eq_true rfl) dX11_runEnd_21 (fun H locs hR => ?_)
    refine lv_icmp_ne (tgt := 33) hx hb dX11_runEnd_24 (by decide) (fun c_24 => ?_) (fun c_24 => ?_)
    · rw [if_neg c_24] at h
      exact wX11_runEnd_j33 B hr hlk  h hR (lv_sub hl [2] rfl)
    · rw [if_pos c_24] at h
      obtain ⟨x2_27, ex2_27, h⟩ := lt_el h
      refine lv_iinc (v := x2_27) (lv' := [(2, .int x2_27), (0, .ref a0), (1, .int x1)]) hx hb dX11_runEnd_27 hl (k := 2) rfl (by rw [ex2_27]; rfl) (by decide) rfl (fun ls hl => ?_)
      refine lv_goto (tgt := 2) hx hb dX11_runEnd_30 (by decide) ?_
      exact ih2 x2_27 h _ _ _ hR (lv_sub hl [1, 2, 0] rfl)
def fX11_runEnd_l2 (fu : Nat) (a0 : Nat) (x1 : Int32) (M : Mm) (x2 : Int32) : Option Int32 := lp (fun (rec : Int32 → Option Int32) (s : Int32) => fX11_runEnd_b2 fu  (fun x2 => rec (x2)) a0 x1 s M) fu (x2)
set_option maxRecDepth 100000 in
set_option maxHeartbeats 4000000 in
theorem wX11_runEnd_l2 {r : Int32}   {a0 : Nat} {x1 : Int32} {x2 : Int32} {M : Mm} (B : Bx p s m args c cX11_runEnd 3 RX11 E L) (hr : meth.sig.returnType = (some .int)) (hlk : meth.locks = false)  (h0 : At L a0 T11) (h : fX11_runEnd_l2 fu a0 x1 M x2 = some r) (hR : Rx s E L M H locs) (hl : lv_has ls 3 [(0, .ref a0), (1, .int x1), (2, .int x2)]) : W p l e (rmD (d + 2)) s m args below meth c H locs 0 0 (MQ below (QcM E L (some (.int r)) M) args s 0 0 E.2.2.2) (F0 m 2 ls []) := by
  refine lp_G (G := fun z : Int32 => ∀ (H : Heap) (locs : List Loc) (ls : Array Slot), Rx s E L M H locs → lv_has ls 3 [(0, .ref a0), (1, .int x1), (2, .int z)] → W p l e (rmD (d + 2)) s m args below meth c H locs 0 0 (MQ below (QcM E L (some (.int r)) M) args s 0 0 E.2.2.2) (F0 m 2 ls [])) (fun rec ih z h H locs ls hR hl => ?_) fu _ h H locs ls hR hl
  exact wX11_runEnd_b2 B hr hlk  (fun x2 h => ih (x2) h) h0 h hR hl
def fX11_runEnd (fu : Nat) (a0 : Nat) (x1 : Int32) (M : Mm) : Option Int32 :=
  fX11_runEnd_l2 fu a0 x1 M x1
set_option maxRecDepth 100000 in
set_option maxHeartbeats 4000000 in
theorem mX11_runEnd {l : Launch} {E : Ge} {L : Lay} (fu d : Nat) {a0 : Nat} {x1 : Int32} {M : Mm} {r : Int32}  (h0 : At L a0 T11) (h : fX11_runEnd fu a0 x1 M = some r) : Ct l E L yX11_runEnd cX11_runEnd 3 (some .int) (d + 2) [.ref a0, .int x1] M (some (.int r)) M := by
  refine Ct.of (by decide) ?_
  intro p e s m below meth c hr hlk B hR
  have B : Bx p s m _ c cX11_runEnd 3 RX11 E L := B
  have hx := B.1
  have hb := B.2.1
  have hl := lv_entry ([.ref a0, .int x1]) (n := 3) (Nat.le_of_ble_eq_true rfl)
  rw [lg_entry_eq]
  generalize (lg_sl ([.ref a0, .int x1]) ++ List.replicate (3 - (lg_sl ([.ref a0, .int x1])).length) Slot.unset).toArray = ls at hl ⊢
  have hl : lv_has ls 3 [(0, .ref a0), (1, .int x1)] := hl
  unfold fX11_runEnd at h
  refine lv_iload_n hx hb dX11_runEnd_0 rfl (lv_at hl 1 rfl) ?_
  refine lv_istore_n (lv' := [(2, .int x1), (0, .ref a0), (1, .int x1)]) hx hb dX11_runEnd_1 rfl hl (by decide) rfl (fun ls hl => ?_)
  exact wX11_runEnd_l2 B hr hlk h0 h hR (lv_sub hl [1, 2, 0] rfl)
def fX11_run_j33 (fu : Nat) (M : Mm) : Option Int32 :=
  some (-1)
set_option maxRecDepth 100000 in
set_option maxHeartbeats 4000000 in
theorem wX11_run_j33 {r : Int32}    {M : Mm} (B : Bx p s m args c cX11_run 5 RX11 E L) (hr : meth.sig.returnType = (some .int)) (hlk : meth.locks = false)   (h : fX11_run_j33 fu M = some r) (hR : Rx s E L M H locs) (hl : lv_has ls 5 []) : W p l e (rmD (d + 3)) s m args below meth c H locs 0 0 (MQ below (QcM E L (some (.int r)) M) args s 0 0 E.2.2.2) (F0 m 33 ls []) := by
  have hx := B.1
  have hb := B.2.1
  unfold fX11_run_j33 at h
  refine lv_iconst (v := (-1)) hx hb dX11_run_33 (by decide) ?_
  exact r_iretP B hR hr hlk h dX11_run_34
def fX11_run_j85 (fu : Nat) (t0 : Int32) (M : Mm) : Option Int32 :=
  some t0
set_option maxRecDepth 100000 in
set_option maxHeartbeats 4000000 in
theorem wX11_run_j85 {r : Int32}   {t0 : Int32} {M : Mm} (B : Bx p s m args c cX11_run 5 RX11 E L) (hr : meth.sig.returnType = (some .int)) (hlk : meth.locks = false)   (h : fX11_run_j85 fu t0 M = some r) (hR : Rx s E L M H locs) (hl : lv_has ls 5 []) : W p l e (rmD (d + 3)) s m args below meth c H locs 0 0 (MQ below (QcM E L (some (.int r)) M) args s 0 0 E.2.2.2) (F0 m 85 ls [.int t0]) := by
  have hx := B.1
  have hb := B.2.1
  unfold fX11_run_j85 at h
  exact r_iretP B hR hr hlk h dX11_run_85
def fX11_run_j59 (fu : Nat) (a0 : Nat) (x2 : Int32) (x3 : Int32) (M : Mm) : Option Int32 :=
  if x2 = 0 then
    fX11_run_j85 fu x3 M
  else
    if x2 = 1 then
      bi (fX11_runEnd fu a0 x3 M) fun r_74 =>
      fX11_run_j85 fu r_74 M
    else
      bi (fX11_wantedAt fu a0 x3 M) fun r_82 =>
      fX11_run_j85 fu r_82 M
set_option maxRecDepth 100000 in
set_option maxHeartbeats 4000000 in
theorem wX11_run_j59 {r : Int32}   {a0 : Nat} {x2 : Int32} {x3 : Int32} {M : Mm} (B : Bx p s m args c cX11_run 5 RX11 E L) (hr : meth.sig.returnType = (some .int)) (hlk : meth.locks = false)  (h0 : At L a0 T11) (h : fX11_run_j59 fu a0 x2 x3 M = some r) (hR : Rx s E L M H locs) (hl : lv_has ls 5 [(0, .ref a0), (2, .int x2), (3, .int x3)]) : W p l e (rmD (d + 3)) s m args below meth c H locs 0 0 (MQ below (QcM E L (some (.int r)) M) args s 0 0 E.2.2.2) (F0 m 59 ls []) := by
  have hx := B.1
  have hb := B.2.1
  unfold fX11_run_j59 at h
  refine lv_iload_n hx hb dX11_run_59 rfl (lv_at hl 1 rfl) ?_
  refine lv_if_ne (tgt := 67) hx hb dX11_run_60 (by decide) (fun c_60 => ?_) (fun c_60 => ?_)
  · rw [if_neg c_60] at h
    refine lv_iload_n hx hb dX11_run_67 rfl (lv_at hl 1 rfl) ?_
    refine lv_iconst (v := 1) hx hb dX11_run_68 (by decide) ?_
    refine lv_icmp_ne (tgt := 80) hx hb dX11_run_69 (by decide) (fun c_69 => ?_) (fun c_69 => ?_)
    · rw [if_neg c_69] at h
      refine lv_aload_n hx hb dX11_run_80 rfl (lv_at hl 0 rfl) ?_
      refine lv_iload_n hx hb dX11_run_81 rfl (lv_at hl 2 rfl) ?_
      obtain ⟨r_82, hc_82, h⟩ := bi_el h
      refine iv_X11_285 B hR (h0.at0 rfl) hl.1 (mX11_wantedAt fu _ h0 hc_82) (Nat.le_of_ble_eq_true rfl) dX11_run_82 (fun H locs hR => ?_)
      exact wX11_run_j85 B hr hlk  h hR (lv_sub hl [] rfl)
    · rw [if_pos c_69] at h
      refine lv_aload_n hx hb dX11_run_72 rfl (lv_at hl 0 rfl) ?_
      refine lv_iload_n hx hb dX11_run_73 rfl (lv_at hl 2 rfl) ?_
      obtain ⟨r_74, hc_74, h⟩ := bi_el h
      refine iv_X11_300 B hR (h0.at0 rfl) hl.1 (mX11_runEnd fu _ h0 hc_74) (Nat.le_of_ble_eq_true rfl) dX11_run_74 (fun H locs hR => ?_)
      refine lv_goto (tgt := 85) hx hb dX11_run_77 (by decide) ?_
      exact wX11_run_j85 B hr hlk  h hR (lv_sub hl [] rfl)
  · rw [if_pos c_60] at h
    refine lv_iload_n hx hb dX11_run_63 rfl (lv_at hl 2 rfl) ?_
    refine lv_goto (tgt := 85) hx hb dX11_run_64 (by decide) ?_
    exact wX11_run_j85 B hr hlk  h hR (lv_sub hl [] rfl)
def fX11_run_b40 (fu : Nat) (k40 : Int32 → Int32 → Option Int32) (a0 : Nat) (x2 : Int32) (x3 : Int32) (x4 : Int32) (M : Mm) : Option Int32 :=
  if x4 ≤ 0 then
    fX11_run_j59 fu a0 x2 x3 M
  else
    bi (fX11_runEnd fu a0 x3 M) fun r_47 =>
    lt ((r_47 + 1)) fun x3_52 =>
    lt (x4 + (-1)) fun x4_53 =>
    k40 x3_52 x4_53
set_option maxRecDepth 100000 in
set_option maxHeartbeats 4000000 in
theorem wX11_run_b40 {r : Int32}   {k40 : Int32 → Int32 → Option Int32} {a0 : Nat} {x2 : Int32} {x3 : Int32} {x4 : Int32} {M : Mm} (B : Bx p s m args c cX11_run 5 RX11 E L) (hr : meth.sig.returnType = (some .int)) (hlk : meth.locks = false)  (ih40 : ∀ (x3 : Int32) (x4 : Int32), k40 x3 x4 = some r → ∀ (H : Heap) (locs : List Loc) (ls : Array Slot), Rx s E L M H locs → lv_has ls 5 [(0, .ref a0), (2, .int x2), (3, .int x3), (4, .int x4)] → W p l e (rmD (d + 3)) s m args below meth c H locs 0 0 (MQ below (QcM E L (some (.int r)) M) args s 0 0 E.2.2.2) (F0 m 40 ls [])) (h0 : At L a0 T11) (h : fX11_run_b40 fu k40 a0 x2 x3 x4 M = some r) (hR : Rx s E L M H locs) (hl : lv_has ls 5 [(0, .ref a0), (2, .int x2), (3, .int x3), (4, .int x4)]) : W p l e (rmD (d + 3)) s m args below meth c H locs 0 0 (MQ below (QcM E L (some (.int r)) M) args s 0 0 E.2.2.2) (F0 m 40 ls []) := by
  have hx := B.1
  have hb := B.2.1
  unfold fX11_run_b40 at h
  refine lv_iload hx hb dX11_run_40 (lv_at hl 3 rfl) ?_
  refine lv_if_le (tgt := 59) hx hb dX11_run_42 (by decide) (fun c_42 => ?_) (fun c_42 => ?_)
  · rw [if_pos c_42] at h
    exact wX11_run_j59 B hr hlk h0 h hR (lv_sub hl [0, 1, 2] rfl)
  · rw [if_neg c_42] at h
    refine lv_aload_n hx hb dX11_run_45 rfl (lv_at hl 0 rfl) ?_
    refine lv_iload_n hx hb dX11_run_46 rfl (lv_at hl 2 rfl) ?_
    obtain ⟨r_47, hc_47, h⟩ := bi_el h
    refine iv_X11_300 B hR (h0.at0 rfl) hl.1 (mX11_runEnd fu _ h0 hc_47) (Nat.le_of_ble_eq_true rfl) dX11_run_47 (fun H locs hR => ?_)
    refine lv_iconst (v := 1) hx hb dX11_run_50 (by decide) ?_
    refine lv_iadd hx hb dX11_run_51 ?_
    obtain ⟨x3_52, ex3_52, h⟩ := lt_el h
    refine r_nmI ex3_52 ?_
    refine lv_istore_n (lv' := [(3, .int x3_52), (0, .ref a0), (2, .int x2), (4, .int x4)]) hx hb dX11_run_52 rfl hl (by decide) rfl (fun ls hl => ?_)
    obtain ⟨x4_53, ex4_53, h⟩ := lt_el h
    refine lv_iinc (v := x4_53) (lv' := [(4, .int x4_53), (3, .int x3_52), (0, .ref a0), (2, .int x2)]) hx hb dX11_run_53 hl (k := 3) rfl (by rw [ex4_53]; rfl) (by decide) rfl (fun ls hl => ?_)
    refine lv_goto (tgt := 40) hx hb dX11_run_56 (by decide) ?_
    exact ih40 x3_52 x4_53 h _ _ _ hR (lv_sub hl [2, 3, 1, 0] rfl)
def fX11_run_l40 (fu : Nat) (a0 : Nat) (x2 : Int32) (M : Mm) (x3 : Int32) (x4 : Int32) : Option Int32 := lp (fun (rec : (Int32 × Int32) → Option Int32) (s : Int32 × Int32) => fX11_run_b40 fu  (fun x3 x4 => rec (x3, x4)) a0 x2 s.1 s.2 M) fu (x3, x4)
set_option maxRecDepth 100000 in
set_option maxHeartbeats 4000000 in
theorem wX11_run_l40 {r : Int32}   {a0 : Nat} {x2 : Int32} {x3 : Int32} {x4 : Int32} {M : Mm} (B : Bx p s m args c cX11_run 5 RX11 E L) (hr : meth.sig.returnType = (some .int)) (hlk : meth.locks = false)  (h0 : At L a0 T11) (h : fX11_run_l40 fu a0 x2 M x3 x4 = some r) (hR : Rx s E L M H locs) (hl : lv_has ls 5 [(0, .ref a0), (2, .int x2), (3, .int x3), (4, .int x4)]) : W p l e (rmD (d + 3)) s m args below meth c H locs 0 0 (MQ below (QcM E L (some (.int r)) M) args s 0 0 E.2.2.2) (F0 m 40 ls []) := by
  refine lp_G (G := fun z : Int32 × Int32 => ∀ (H : Heap) (locs : List Loc) (ls : Array Slot), Rx s E L M H locs → lv_has ls 5 [(0, .ref a0), (2, .int x2), (3, .int z.1), (4, .int z.2)] → W p l e (rmD (d + 3)) s m args below meth c H locs 0 0 (MQ below (QcM E L (some (.int r)) M) args s 0 0 E.2.2.2) (F0 m 40 ls [])) (fun rec ih z h H locs ls hR hl => ?_) fu _ h H locs ls hR hl
  exact wX11_run_b40 B hr hlk  (fun x3 x4 h => ih (x3, x4) h) h0 h hR hl
def fX11_run (fu : Nat) (a0 : Nat) (x1 : Int32) (x2 : Int32) (M : Mm) : Option Int32 :=
  if x1 = (-1) then
    bi (fX11_runMany fu a0 M) fun r_6 =>
    some r_6
  else
    bi (fX11_runMany fu a0 M) fun r_13 =>
    bi (fX11_isIn fu x1 0 (r_13 - 1)) fun r_18 =>
    if r_18 = 0 then
      fX11_run_j33 fu M
    else
      bi (fX11_isIn fu x2 0 2) fun r_27 =>
      if r_27 = 0 then
        fX11_run_j33 fu M
      else
        fX11_run_l40 fu a0 x2 M 0 x1
set_option maxRecDepth 100000 in
set_option maxHeartbeats 4000000 in
theorem mX11_run {l : Launch} {E : Ge} {L : Lay} (fu d : Nat) {a0 : Nat} {x1 : Int32} {x2 : Int32} {M : Mm} {r : Int32}  (h0 : At L a0 T11) (h : fX11_run fu a0 x1 x2 M = some r) : Ct l E L yX11_run cX11_run 5 (some .int) (d + 3) [.ref a0, .int x1, .int x2] M (some (.int r)) M := by
  refine Ct.of (by decide) ?_
  intro p e s m below meth c hr hlk B hR
  have B : Bx p s m _ c cX11_run 5 RX11 E L := B
  have hx := B.1
  have hb := B.2.1
  have hl := lv_entry ([.ref a0, .int x1, .int x2]) (n := 5) (Nat.le_of_ble_eq_true rfl)
  rw [lg_entry_eq]
  generalize (lg_sl ([.ref a0, .int x1, .int x2]) ++ List.replicate (5 - (lg_sl ([.ref a0, .int x1, .int x2])).length) Slot.unset).toArray = ls at hl ⊢
  have hl : lv_has ls 5 [(0, .ref a0), (1, .int x1), (2, .int x2)] := hl
  unfold fX11_run at h
  refine lv_iload_n hx hb dX11_run_0 rfl (lv_at hl 1 rfl) ?_
  refine lv_iconst (v := (-1)) hx hb dX11_run_1 (by decide) ?_
  refine lv_icmp_ne (tgt := 10) hx hb dX11_run_2 (by decide) (fun c_2 => ?_) (fun c_2 => ?_)
  · rw [if_neg c_2] at h
    refine lv_iload_n hx hb dX11_run_10 rfl (lv_at hl 1 rfl) ?_
    refine lv_iconst (v := 0) hx hb dX11_run_11 (by decide) ?_
    refine lv_aload_n hx hb dX11_run_12 rfl (lv_at hl 0 rfl) ?_
    obtain ⟨r_13, hc_13, h⟩ := bi_el h
    refine iv_X11_297 B hR (h0.at0 rfl) hl.1 (mX11_runMany fu _ h0 hc_13) (Nat.le_of_ble_eq_true rfl) dX11_run_13 (fun H locs hR => ?_)
    refine lv_iconst (v := 1) hx hb dX11_run_16 (by decide) ?_
    refine lv_isub hx hb dX11_run_17 ?_
    obtain ⟨r_18, hc_18, h⟩ := bi_el h
    refine is_X11_163 B hR hl.1 (mX11_isIn fu _  hc_18) (Nat.le_of_ble_eq_true rfl) dX11_run_18 (fun H locs hR => ?_)
    refine lv_if_eq (tgt := 33) hx hb dX11_run_21 (by decide) (fun c_21 => ?_) (fun c_21 => ?_)
    · rw [if_pos c_21] at h
      exact wX11_run_j33 B hr hlk  h hR (lv_sub hl [] rfl)
    · rw [if_neg c_21] at h
      refine lv_iload_n hx hb dX11_run_24 rfl (lv_at hl 2 rfl) ?_
      refine lv_iconst (v := 0) hx hb dX11_run_25 (by decide) ?_
      refine lv_iconst (v := 2) hx hb dX11_run_26 (by decide) ?_
      obtain ⟨r_27, hc_27, h⟩ := bi_el h
      refine is_X11_163 B hR hl.1 (mX11_isIn fu _  hc_27) (Nat.le_of_ble_eq_true rfl) dX11_run_27 (fun H locs hR => ?_)
      refine lv_if_ne (tgt := 35) hx hb dX11_run_30 (by decide) (fun c_30 => ?_) (fun c_30 => ?_)
      · rw [if_neg c_30] at h
        refine lv_iconst (v := 0) hx hb dX11_run_35 (by decide) ?_
        refine lv_istore_n (lv' := [(3, .int 0), (0, .ref a0), (1, .int x1), (2, .int x2)]) hx hb dX11_run_36 rfl hl (by decide) rfl (fun ls hl => ?_)
        refine lv_iload_n hx hb dX11_run_37 rfl (lv_at hl 2 rfl) ?_
        refine lv_istore (lv' := [(4, .int x1), (3, .int 0), (0, .ref a0), (1, .int x1), (2, .int x2)]) hx hb dX11_run_38 hl (by decide) rfl (fun ls hl => ?_)
        exact wX11_run_l40 B hr hlk h0 h hR (lv_sub hl [2, 4, 1, 0] rfl)
      · rw [if_pos c_30] at h
        exact wX11_run_j33 B hr hlk  h hR (lv_sub hl [] rfl)
  · rw [if_pos c_2] at h
    refine lv_aload_n hx hb dX11_run_5 rfl (lv_at hl 0 rfl) ?_
    obtain ⟨r_6, hc_6, h⟩ := bi_el h
    refine iv_X11_297 B hR (h0.at0 rfl) hl.1 (mX11_runMany fu _ h0 hc_6) (Nat.le_of_ble_eq_true rfl) dX11_run_6 (fun H locs hR => ?_)
    exact r_iretP B hR hr hlk h dX11_run_9
def fX11_strange_j74 (fu : Nat) (t0 : Int32) (M : Mm) : Option Int32 :=
  some t0
set_option maxRecDepth 100000 in
set_option maxHeartbeats 4000000 in
theorem wX11_strange_j74 {r : Int32}   {t0 : Int32} {M : Mm} (B : Bx p s m args c cX11_strange 5 RX11 E L) (hr : meth.sig.returnType = (some .int)) (hlk : meth.locks = false)   (h : fX11_strange_j74 fu t0 M = some r) (hR : Rx s E L M H locs) (hl : lv_has ls 5 []) : W p l e (rmD (d + 6)) s m args below meth c H locs 0 0 (MQ below (QcM E L (some (.int r)) M) args s 0 0 E.2.2.2) (F0 m 74 ls [.int t0]) := by
  have hx := B.1
  have hb := B.2.1
  unfold fX11_strange_j74 at h
  exact r_iretP B hR hr hlk h dX11_strange_74
def fX11_strange_j65 (fu : Nat) (x1 : Int32) (x2 : Int32) (x3 : Int32) (M : Mm) : Option Int32 :=
  if x1 = 0 then
    fX11_strange_j74 fu x2 M
  else
    fX11_strange_j74 fu x3 M
set_option maxRecDepth 100000 in
set_option maxHeartbeats 4000000 in
theorem wX11_strange_j65 {r : Int32}   {x1 : Int32} {x2 : Int32} {x3 : Int32} {M : Mm} (B : Bx p s m args c cX11_strange 5 RX11 E L) (hr : meth.sig.returnType = (some .int)) (hlk : meth.locks = false)   (h : fX11_strange_j65 fu x1 x2 x3 M = some r) (hR : Rx s E L M H locs) (hl : lv_has ls 5 [(1, .int x1), (2, .int x2), (3, .int x3)]) : W p l e (rmD (d + 6)) s m args below meth c H locs 0 0 (MQ below (QcM E L (some (.int r)) M) args s 0 0 E.2.2.2) (F0 m 65 ls []) := by
  have hx := B.1
  have hb := B.2.1
  unfold fX11_strange_j65 at h
  refine lv_iload_n hx hb dX11_strange_65 rfl (lv_at hl 0 rfl) ?_
  refine lv_if_ne (tgt := 73) hx hb dX11_strange_66 (by decide) (fun c_66 => ?_) (fun c_66 => ?_)
  · rw [if_neg c_66] at h
    refine lv_iload_n hx hb dX11_strange_73 rfl (lv_at hl 2 rfl) ?_
    exact wX11_strange_j74 B hr hlk  h hR (lv_sub hl [] rfl)
  · rw [if_pos c_66] at h
    refine lv_iload_n hx hb dX11_strange_69 rfl (lv_at hl 1 rfl) ?_
    refine lv_goto (tgt := 74) hx hb dX11_strange_70 (by decide) ?_
    exact wX11_strange_j74 B hr hlk  h hR (lv_sub hl [] rfl)
def fX11_strange_j59 (fu : Nat) (k18 : Int32 → Int32 → Int32 → Option Int32) (a0 : Nat) (x1 : Int32) (x2 : Int32) (x3 : Int32) (x4 : Int32) (M : Mm) : Option Int32 :=
  lt (x4 + 1) fun x4_59 =>
  k18 x2 x3 x4_59
set_option maxRecDepth 100000 in
set_option maxHeartbeats 4000000 in
theorem wX11_strange_j59 {r : Int32}  {k18 : Int32 → Int32 → Int32 → Option Int32} {a0 : Nat} {x1 : Int32} {x2 : Int32} {x3 : Int32} {x4 : Int32} {M : Mm} (B : Bx p s m args c cX11_strange 5 RX11 E L) (hr : meth.sig.returnType = (some .int)) (hlk : meth.locks = false) (ih18 : ∀ (x2 : Int32) (x3 : Int32) (x4 : Int32), k18 x2 x3 x4 = some r → ∀ (H : Heap) (locs : List Loc) (ls : Array Slot), Rx s E L M H locs → lv_has ls 5 [(0, .ref a0), (1, .int x1), (2, .int x2), (3, .int x3), (4, .int x4)] → W p l e (rmD (d + 6)) s m args below meth c H locs 0 0 (MQ below (QcM E L (some (.int r)) M) args s 0 0 E.2.2.2) (F0 m 18 ls [])) (h0 : At L a0 T11) (h : fX11_strange_j59 fu k18 a0 x1 x2 x3 x4 M = some r) (hR : Rx s E L M H locs) (hl : lv_has ls 5 [(0, .ref a0), (1, .int x1), (2, .int x2), (3, .int x3), (4, .int x4)]) : W p l e (rmD (d + 6)) s m args below meth c H locs 0 0 (MQ below (QcM E L (some (.int r)) M) args s 0 0 E.2.2.2) (F0 m 59 ls []) := by
  have hx := B.1
  have hb := B.2.1
  unfold fX11_strange_j59 at h
  obtain ⟨x4_59, ex4_59, h⟩ := lt_el h
  refine lv_iinc (v := x4_59) (lv' := [(4, .int x4_59), (0, .ref a0), (1, .int x1), (2, .int x2), (3, .int x3)]) hx hb dX11_strange_59 hl (k := 4) rfl (by rw [ex4_59]; rfl) (by decide) rfl (fun ls hl => ?_)
  refine lv_goto (tgt := 18) hx hb dX11_strange_62 (by decide) ?_
  exact ih18 x2 x3 x4_59 h _ _ _ hR (lv_sub hl [1, 2, 3, 4, 0] rfl)
def fX11_strange_j55 (fu : Nat) (k18 : Int32 → Int32 → Int32 → Option Int32) (a0 : Nat) (x1 : Int32) (x2 : Int32) (x4 : Int32) (t0 : Int32) (M : Mm) : Option Int32 :=
  lt (x2 + 1) fun x2_56 =>
  fX11_strange_j59 fu k18 a0 x1 x2_56 t0 x4 M
set_option maxRecDepth 100000 in
set_option maxHeartbeats 4000000 in
theorem wX11_strange_j55 {r : Int32}  {k18 : Int32 → Int32 → Int32 → Option Int32} {a0 : Nat} {x1 : Int32} {x2 : Int32} {x4 : Int32} {t0 : Int32} {M : Mm} (B : Bx p s m args c cX11_strange 5 RX11 E L) (hr : meth.sig.returnType = (some .int)) (hlk : meth.locks = false) (ih18 : ∀ (x2 : Int32) (x3 : Int32) (x4 : Int32), k18 x2 x3 x4 = some r → ∀ (H : Heap) (locs : List Loc) (ls : Array Slot), Rx s E L M H locs → lv_has ls 5 [(0, .ref a0), (1, .int x1), (2, .int x2), (3, .int x3), (4, .int x4)] → W p l e (rmD (d + 6)) s m args below meth c H locs 0 0 (MQ below (QcM E L (some (.int r)) M) args s 0 0 E.2.2.2) (F0 m 18 ls [])) (h0 : At L a0 T11) (h : fX11_strange_j55 fu k18 a0 x1 x2 x4 t0 M = some r) (hR : Rx s E L M H locs) (hl : lv_has ls 5 [(0, .ref a0), (1, .int x1), (2, .int x2), (4, .int x4)]) : W p l e (rmD (d + 6)) s m args below meth c H locs 0 0 (MQ below (QcM E L (some (.int r)) M) args s 0 0 E.2.2.2) (F0 m 55 ls [.int t0]) := by
  have hx := B.1
  have hb := B.2.1
  unfold fX11_strange_j55 at h
  refine lv_istore_n (lv' := [(3, .int t0), (0, .ref a0), (1, .int x1), (2, .int x2), (4, .int x4)]) hx hb dX11_strange_55 rfl hl (by decide) rfl (fun ls hl => ?_)
  obtain ⟨x2_56, ex2_56, h⟩ := lt_el h
  refine lv_iinc (v := x2_56) (lv' := [(2, .int x2_56), (3, .int t0), (0, .ref a0), (1, .int x1), (4, .int x4)]) hx hb dX11_strange_56 hl (k := 3) rfl (by rw [ex2_56]; rfl) (by decide) rfl (fun ls hl => ?_)
  exact wX11_strange_j59 B hr hlk ih18 h0 h hR (lv_sub hl [2, 3, 0, 1, 4] rfl)
def fX11_strange_b18 (fu : Nat) (k18 : Int32 → Int32 → Int32 → Option Int32) (a0 : Nat) (x1 : Int32) (x2 : Int32) (x3 : Int32) (x4 : Int32) (M : Mm) : Option Int32 :=
  bi (fX11_addresses fu a0 M) fun r_21 =>
  if r_21 ≤ x4 then
    fX11_strange_j65 fu x1 x2 x3 M
  else
    bi (fX11_seenAt fu a0 x4 M) fun r_30 =>
    bi (fX11_wantedAt fu a0 x4 M) fun r_36 =>
    if r_30 = r_36 then
      fX11_strange_j59 fu k18 a0 x1 x2 x3 x4 M
    else
      if 0 ≤ x3 then
        fX11_strange_j55 fu k18 a0 x1 x2 x4 x3 M
      else
        fX11_strange_j55 fu k18 a0 x1 x2 x4 x4 M
set_option maxRecDepth 100000 in
set_option maxHeartbeats 4000000 in
theorem wX11_strange_b18 {r : Int32}   {k18 : Int32 → Int32 → Int32 → Option Int32} {a0 : Nat} {x1 : Int32} {x2 : Int32} {x3 : Int32} {x4 : Int32} {M : Mm} (B : Bx p s m args c cX11_strange 5 RX11 E L) (hr : meth.sig.returnType = (some .int)) (hlk : meth.locks = false)  (ih18 : ∀ (x2 : Int32) (x3 : Int32) (x4 : Int32), k18 x2 x3 x4 = some r → ∀ (H : Heap) (locs : List Loc) (ls : Array Slot), Rx s E L M H locs → lv_has ls 5 [(0, .ref a0), (1, .int x1), (2, .int x2), (3, .int x3), (4, .int x4)] → W p l e (rmD (d + 6)) s m args below meth c H locs 0 0 (MQ below (QcM E L (some (.int r)) M) args s 0 0 E.2.2.2) (F0 m 18 ls [])) (h0 : At L a0 T11) (h : fX11_strange_b18 fu k18 a0 x1 x2 x3 x4 M = some r) (hR : Rx s E L M H locs) (hl : lv_has ls 5 [(0, .ref a0), (1, .int x1), (2, .int x2), (3, .int x3), (4, .int x4)]) : W p l e (rmD (d + 6)) s m args below meth c H locs 0 0 (MQ below (QcM E L (some (.int r)) M) args s 0 0 E.2.2.2) (F0 m 18 ls []) := by
  have hx := B.1
  have hb := B.2.1
  unfold fX11_strange_b18 at h
  refine lv_iload hx hb dX11_strange_18 (lv_at hl 4 rfl) ?_
  refine lv_aload_n hx hb dX11_strange_20 rfl (lv_at hl 0 rfl) ?_
  obtain ⟨r_21, hc_21, h⟩ := bi_el h
  refine iv_X11_240 B hR (h0.at0 rfl) hl.1 (mX11_addresses fu _ h0 hc_21) (Nat.le_of_ble_eq_true rfl) dX11_strange_21 (fun H locs hR => ?_)
  refine lv_icmp_ge (tgt := 65) hx hb dX11_strange_24 (by decide) (fun c_24 => ?_) (fun c_24 => ?_)
  · rw [if_pos c_24] at h
    exact wX11_strange_j65 B hr hlk  h hR (lv_sub hl [1, 2, 3] rfl)
  · rw [if_neg c_24] at h
    refine lv_aload_n hx hb dX11_strange_27 rfl (lv_at hl 0 rfl) ?_
    refine lv_iload hx hb dX11_strange_28 (lv_at hl 4 rfl) ?_
    obtain ⟨r_30, hc_30, h⟩ := bi_el h
    refine iv_X11_288 B hR (h0.at0 rfl) hl.1 (mX11_seenAt fu _ h0 hc_30) (Nat.le_of_ble_eq_true rfl) dX11_strange_30 (fun H locs hR => ?_)
    refine lv_aload_n hx hb dX11_strange_33 rfl (lv_at hl 0 rfl) ?_
    refine lv_iload hx hb dX11_strange_34 (lv_at hl 4 rfl) ?_
    obtain ⟨r_36, hc_36, h⟩ := bi_el h
    refine iv_X11_285 B hR (h0.at0 rfl) hl.1 (mX11_wantedAt fu _ h0 hc_36) (Nat.le_of_ble_eq_true rfl) dX11_strange_36 (fun H locs hR => ?_)
    refine lv_icmp_ne (tgt := 45) hx hb dX11_strange_39 (by decide) (fun c_39 => ?_) (fun c_39 => ?_)
    · rw [if_neg c_39] at h
      refine lv_iload_n hx hb dX11_strange_45 rfl (lv_at hl 3 rfl) ?_
      refine lv_if_ge (tgt := 54) hx hb dX11_strange_46 (by decide) (fun c_46 => ?_) (fun c_46 => ?_)
      · rw [if_pos c_46] at h
        refine lv_iload_n hx hb dX11_strange_54 rfl (lv_at hl 3 rfl) ?_
        exact wX11_strange_j55 B hr hlk ih18 h0 h hR (lv_sub hl [0, 1, 2, 4] rfl)
      · rw [if_neg c_46] at h
        refine lv_iload hx hb dX11_strange_49 (lv_at hl 4 rfl) ?_
        refine lv_goto (tgt := 55) hx hb dX11_strange_51 (by decide) ?_
        exact wX11_strange_j55 B hr hlk ih18 h0 h hR (lv_sub hl [0, 1, 2, 4] rfl)
    · rw [if_pos c_39] at h
      refine lv_goto (tgt := 59) hx hb dX11_strange_42 (by decide) ?_
      exact wX11_strange_j59 B hr hlk ih18 h0 h hR hl
def fX11_strange_l18 (fu : Nat) (a0 : Nat) (x1 : Int32) (M : Mm) (x2 : Int32) (x3 : Int32) (x4 : Int32) : Option Int32 := lp (fun (rec : (Int32 × Int32 × Int32) → Option Int32) (s : Int32 × Int32 × Int32) => fX11_strange_b18 fu  (fun x2 x3 x4 => rec (x2, x3, x4)) a0 x1 s.1 s.2.1 s.2.2 M) fu (x2, x3, x4)
set_option maxRecDepth 100000 in
set_option maxHeartbeats 4000000 in
theorem wX11_strange_l18 {r : Int32}   {a0 : Nat} {x1 : Int32} {x2 : Int32} {x3 : Int32} {x4 : Int32} {M : Mm} (B : Bx p s m args c cX11_strange 5 RX11 E L) (hr : meth.sig.returnType = (some .int)) (hlk : meth.locks = false)  (h0 : At L a0 T11) (h : fX11_strange_l18 fu a0 x1 M x2 x3 x4 = some r) (hR : Rx s E L M H locs) (hl : lv_has ls 5 [(0, .ref a0), (1, .int x1), (2, .int x2), (3, .int x3), (4, .int x4)]) : W p l e (rmD (d + 6)) s m args below meth c H locs 0 0 (MQ below (QcM E L (some (.int r)) M) args s 0 0 E.2.2.2) (F0 m 18 ls []) := by
  refine lp_G (G := fun z : Int32 × Int32 × Int32 => ∀ (H : Heap) (locs : List Loc) (ls : Array Slot), Rx s E L M H locs → lv_has ls 5 [(0, .ref a0), (1, .int x1), (2, .int z.1), (3, .int z.2.1), (4, .int z.2.2)] → W p l e (rmD (d + 6)) s m args below meth c H locs 0 0 (MQ below (QcM E L (some (.int r)) M) args s 0 0 E.2.2.2) (F0 m 18 ls [])) (fun rec ih z h H locs ls hR hl => ?_) fu _ h H locs ls hR hl
  exact wX11_strange_b18 B hr hlk  (fun x2 x3 x4 h => ih (x2, x3, x4) h) h0 h hR hl
def fX11_strange (fu : Nat) (a0 : Nat) (x1 : Int32) (M : Mm) : Option Int32 :=
  bi (fX11_isIn fu x1 0 1) fun r_3 =>
  if r_3 = 0 then
    some (-1)
  else
    fX11_strange_l18 fu a0 x1 M 0 (-1) 0
set_option maxRecDepth 100000 in
set_option maxHeartbeats 4000000 in
theorem mX11_strange {l : Launch} {E : Ge} {L : Lay} (fu d : Nat) {a0 : Nat} {x1 : Int32} {M : Mm} {r : Int32}  (h0 : At L a0 T11) (h : fX11_strange fu a0 x1 M = some r) : Ct l E L yX11_strange cX11_strange 5 (some .int) (d + 6) [.ref a0, .int x1] M (some (.int r)) M := by
  refine Ct.of (by decide) ?_
  intro p e s m below meth c hr hlk B hR
  have B : Bx p s m _ c cX11_strange 5 RX11 E L := B
  have hx := B.1
  have hb := B.2.1
  have hl := lv_entry ([.ref a0, .int x1]) (n := 5) (Nat.le_of_ble_eq_true rfl)
  rw [lg_entry_eq]
  generalize (lg_sl ([.ref a0, .int x1]) ++ List.replicate (5 - (lg_sl ([.ref a0, .int x1])).length) Slot.unset).toArray = ls at hl ⊢
  have hl : lv_has ls 5 [(0, .ref a0), (1, .int x1)] := hl
  unfold fX11_strange at h
  refine lv_iload_n hx hb dX11_strange_0 rfl (lv_at hl 1 rfl) ?_
  refine lv_iconst (v := 0) hx hb dX11_strange_1 (by decide) ?_
  refine lv_iconst (v := 1) hx hb dX11_strange_2 (by decide) ?_
  obtain ⟨r_3, hc_3, h⟩ := bi_el h
  refine is_X11_163 B hR hl.1 (mX11_isIn fu _  hc_3) (Nat.le_of_ble_eq_true rfl) dX11_strange_3 (fun H locs hR => ?_)
  refine lv_if_ne (tgt := 11) hx hb dX11_strange_6 (by decide) (fun c_6 => ?_) (fun c_6 => ?_)
  · rw [if_neg c_6] at h
    refine lv_iconst (v := 0) hx hb dX11_strange_11 (by decide) ?_
    refine lv_istore_n (lv' := [(2, .int 0), (0, .ref a0), (1, .int x1)]) hx hb dX11_strange_12 rfl hl (by decide) rfl (fun ls hl => ?_)
    refine lv_iconst (v := (-1)) hx hb dX11_strange_13 (by decide) ?_
    refine lv_istore_n (lv' := [(3, .int (-1)), (2, .int 0), (0, .ref a0), (1, .int x1)]) hx hb dX11_strange_14 rfl hl (by decide) rfl (fun ls hl => ?_)
    refine lv_iconst (v := 0) hx hb dX11_strange_15 (by decide) ?_
    refine lv_istore (lv' := [(4, .int 0), (3, .int (-1)), (2, .int 0), (0, .ref a0), (1, .int x1)]) hx hb dX11_strange_16 hl (by decide) rfl (fun ls hl => ?_)
    exact wX11_strange_l18 B hr hlk h0 h hR (lv_sub hl [3, 4, 2, 1, 0] rfl)
  · rw [if_pos c_6] at h
    refine lv_iconst (v := (-1)) hx hb dX11_strange_9 (by decide) ?_
    exact r_iretP B hR hr hlk h dX11_strange_10
def fX11_wrong_j162 (fu : Nat) (t0 : Int32) (M : Mm) : Option Int32 :=
  some t0
set_option maxRecDepth 100000 in
set_option maxHeartbeats 4000000 in
theorem wX11_wrong_j162 {r : Int32}   {t0 : Int32} {M : Mm} (B : Bx p s m args c cX11_wrong 7 RX11 E L) (hr : meth.sig.returnType = (some .int)) (hlk : meth.locks = false)   (h : fX11_wrong_j162 fu t0 M = some r) (hR : Rx s E L M H locs) (hl : lv_has ls 7 []) : W p l e (rmD (d + 5)) s m args below meth c H locs 0 0 (MQ below (QcM E L (some (.int r)) M) args s 0 0 E.2.2.2) (F0 m 162 ls [.int t0]) := by
  have hx := B.1
  have hb := B.2.1
  unfold fX11_wrong_j162 at h
  exact r_iretP B hR hr hlk h dX11_wrong_162
def fX11_wrong_j133 (fu : Nat) (x1 : Int32) (x2 : Int32) (x3 : Int32) (x4 : Int32) (x5 : Int32) (M : Mm) : Option Int32 :=
  if x1 = 0 then
    fX11_wrong_j162 fu x2 M
  else
    if x1 = 1 then
      fX11_wrong_j162 fu x3 M
    else
      if x1 = 2 then
        fX11_wrong_j162 fu x4 M
      else
        fX11_wrong_j162 fu x5 M
set_option maxRecDepth 100000 in
set_option maxHeartbeats 4000000 in
theorem wX11_wrong_j133 {r : Int32}   {x1 : Int32} {x2 : Int32} {x3 : Int32} {x4 : Int32} {x5 : Int32} {M : Mm} (B : Bx p s m args c cX11_wrong 7 RX11 E L) (hr : meth.sig.returnType = (some .int)) (hlk : meth.locks = false)   (h : fX11_wrong_j133 fu x1 x2 x3 x4 x5 M = some r) (hR : Rx s E L M H locs) (hl : lv_has ls 7 [(1, .int x1), (2, .int x2), (3, .int x3), (4, .int x4), (5, .int x5)]) : W p l e (rmD (d + 5)) s m args below meth c H locs 0 0 (MQ below (QcM E L (some (.int r)) M) args s 0 0 E.2.2.2) (F0 m 133 ls []) := by
  have hx := B.1
  have hb := B.2.1
  unfold fX11_wrong_j133 at h
  refine lv_iload_n hx hb dX11_wrong_133 rfl (lv_at hl 0 rfl) ?_
  refine lv_if_ne (tgt := 141) hx hb dX11_wrong_134 (by decide) (fun c_134 => ?_) (fun c_134 => ?_)
  · rw [if_neg c_134] at h
    refine lv_iload_n hx hb dX11_wrong_141 rfl (lv_at hl 0 rfl) ?_
    refine lv_iconst (v := 1) hx hb dX11_wrong_142 (by decide) ?_
    refine lv_icmp_ne (tgt := 150) hx hb dX11_wrong_143 (by decide) (fun c_143 => ?_) (fun c_143 => ?_)
    · rw [if_neg c_143] at h
      refine lv_iload_n hx hb dX11_wrong_150 rfl (lv_at hl 0 rfl) ?_
      refine lv_iconst (v := 2) hx hb dX11_wrong_151 (by decide) ?_
      refine lv_icmp_ne (tgt := 160) hx hb dX11_wrong_152 (by decide) (fun c_152 => ?_) (fun c_152 => ?_)
      · rw [if_neg c_152] at h
        refine lv_iload hx hb dX11_wrong_160 (lv_at hl 4 rfl) ?_
        exact wX11_wrong_j162 B hr hlk  h hR (lv_sub hl [] rfl)
      · rw [if_pos c_152] at h
        refine lv_iload hx hb dX11_wrong_155 (lv_at hl 3 rfl) ?_
        refine lv_goto (tgt := 162) hx hb dX11_wrong_157 (by decide) ?_
        exact wX11_wrong_j162 B hr hlk  h hR (lv_sub hl [] rfl)
    · rw [if_pos c_143] at h
      refine lv_iload_n hx hb dX11_wrong_146 rfl (lv_at hl 2 rfl) ?_
      refine lv_goto (tgt := 162) hx hb dX11_wrong_147 (by decide) ?_
      exact wX11_wrong_j162 B hr hlk  h hR (lv_sub hl [] rfl)
  · rw [if_pos c_134] at h
    refine lv_iload_n hx hb dX11_wrong_137 rfl (lv_at hl 1 rfl) ?_
    refine lv_goto (tgt := 162) hx hb dX11_wrong_138 (by decide) ?_
    exact wX11_wrong_j162 B hr hlk  h hR (lv_sub hl [] rfl)
def fX11_wrong_j127 (fu : Nat) (k24 : Int32 → Int32 → Int32 → Int32 → Int32 → Option Int32) (a0 : Nat) (x1 : Int32) (x2 : Int32) (x3 : Int32) (x4 : Int32) (x5 : Int32) (x6 : Int32) (M : Mm) : Option Int32 :=
  lt (x6 + 1) fun x6_127 =>
  k24 x2 x3 x4 x5 x6_127
set_option maxRecDepth 100000 in
set_option maxHeartbeats 4000000 in
theorem wX11_wrong_j127 {r : Int32}  {k24 : Int32 → Int32 → Int32 → Int32 → Int32 → Option Int32} {a0 : Nat} {x1 : Int32} {x2 : Int32} {x3 : Int32} {x4 : Int32} {x5 : Int32} {x6 : Int32} {M : Mm} (B : Bx p s m args c cX11_wrong 7 RX11 E L) (hr : meth.sig.returnType = (some .int)) (hlk : meth.locks = false) (ih24 : ∀ (x2 : Int32) (x3 : Int32) (x4 : Int32) (x5 : Int32) (x6 : Int32), k24 x2 x3 x4 x5 x6 = some r → ∀ (H : Heap) (locs : List Loc) (ls : Array Slot), Rx s E L M H locs → lv_has ls 7 [(0, .ref a0), (1, .int x1), (2, .int x2), (3, .int x3), (4, .int x4), (5, .int x5), (6, .int x6)] → W p l e (rmD (d + 5)) s m args below meth c H locs 0 0 (MQ below (QcM E L (some (.int r)) M) args s 0 0 E.2.2.2) (F0 m 24 ls [])) (h0 : At L a0 T11) (h : fX11_wrong_j127 fu k24 a0 x1 x2 x3 x4 x5 x6 M = some r) (hR : Rx s E L M H locs) (hl : lv_has ls 7 [(0, .ref a0), (1, .int x1), (2, .int x2), (3, .int x3), (4, .int x4), (5, .int x5), (6, .int x6)]) : W p l e (rmD (d + 5)) s m args below meth c H locs 0 0 (MQ below (QcM E L (some (.int r)) M) args s 0 0 E.2.2.2) (F0 m 127 ls []) := by
  have hx := B.1
  have hb := B.2.1
  unfold fX11_wrong_j127 at h
  obtain ⟨x6_127, ex6_127, h⟩ := lt_el h
  refine lv_iinc (v := x6_127) (lv' := [(6, .int x6_127), (0, .ref a0), (1, .int x1), (2, .int x2), (3, .int x3), (4, .int x4), (5, .int x5)]) hx hb dX11_wrong_127 hl (k := 6) rfl (by rw [ex6_127]; rfl) (by decide) rfl (fun ls hl => ?_)
  refine lv_goto (tgt := 24) hx hb dX11_wrong_130 (by decide) ?_
  exact ih24 x2 x3 x4 x5 x6_127 h _ _ _ hR (lv_sub hl [1, 2, 3, 4, 5, 6, 0] rfl)
def fX11_wrong_j126 (fu : Nat) (k24 : Int32 → Int32 → Int32 → Int32 → Int32 → Option Int32) (a0 : Nat) (x1 : Int32) (x2 : Int32) (x4 : Int32) (x5 : Int32) (x6 : Int32) (t0 : Int32) (M : Mm) : Option Int32 :=
  fX11_wrong_j127 fu k24 a0 x1 x2 t0 x4 x5 x6 M
set_option maxRecDepth 100000 in
set_option maxHeartbeats 4000000 in
theorem wX11_wrong_j126 {r : Int32}  {k24 : Int32 → Int32 → Int32 → Int32 → Int32 → Option Int32} {a0 : Nat} {x1 : Int32} {x2 : Int32} {x4 : Int32} {x5 : Int32} {x6 : Int32} {t0 : Int32} {M : Mm} (B : Bx p s m args c cX11_wrong 7 RX11 E L) (hr : meth.sig.returnType = (some .int)) (hlk : meth.locks = false) (ih24 : ∀ (x2 : Int32) (x3 : Int32) (x4 : Int32) (x5 : Int32) (x6 : Int32), k24 x2 x3 x4 x5 x6 = some r → ∀ (H : Heap) (locs : List Loc) (ls : Array Slot), Rx s E L M H locs → lv_has ls 7 [(0, .ref a0), (1, .int x1), (2, .int x2), (3, .int x3), (4, .int x4), (5, .int x5), (6, .int x6)] → W p l e (rmD (d + 5)) s m args below meth c H locs 0 0 (MQ below (QcM E L (some (.int r)) M) args s 0 0 E.2.2.2) (F0 m 24 ls [])) (h0 : At L a0 T11) (h : fX11_wrong_j126 fu k24 a0 x1 x2 x4 x5 x6 t0 M = some r) (hR : Rx s E L M H locs) (hl : lv_has ls 7 [(0, .ref a0), (1, .int x1), (2, .int x2), (4, .int x4), (5, .int x5), (6, .int x6)]) : W p l e (rmD (d + 5)) s m args below meth c H locs 0 0 (MQ below (QcM E L (some (.int r)) M) args s 0 0 E.2.2.2) (F0 m 126 ls [.int t0]) := by
  have hx := B.1
  have hb := B.2.1
  unfold fX11_wrong_j126 at h
  refine lv_istore_n (lv' := [(3, .int t0), (0, .ref a0), (1, .int x1), (2, .int x2), (4, .int x4), (5, .int x5), (6, .int x6)]) hx hb dX11_wrong_126 rfl hl (by decide) rfl (fun ls hl => ?_)
  exact wX11_wrong_j127 B hr hlk ih24 h0 h hR (lv_sub hl [1, 2, 3, 0, 4, 5, 6] rfl)
def fX11_wrong_j125 (fu : Nat) (k24 : Int32 → Int32 → Int32 → Int32 → Int32 → Option Int32) (a0 : Nat) (x1 : Int32) (x2 : Int32) (x3 : Int32) (x4 : Int32) (x5 : Int32) (x6 : Int32) (M : Mm) : Option Int32 :=
  fX11_wrong_j126 fu k24 a0 x1 x2 x4 x5 x6 x3 M
set_option maxRecDepth 100000 in
set_option maxHeartbeats 4000000 in
theorem wX11_wrong_j125 {r : Int32}  {k24 : Int32 → Int32 → Int32 → Int32 → Int32 → Option Int32} {a0 : Nat} {x1 : Int32} {x2 : Int32} {x3 : Int32} {x4 : Int32} {x5 : Int32} {x6 : Int32} {M : Mm} (B : Bx p s m args c cX11_wrong 7 RX11 E L) (hr : meth.sig.returnType = (some .int)) (hlk : meth.locks = false) (ih24 : ∀ (x2 : Int32) (x3 : Int32) (x4 : Int32) (x5 : Int32) (x6 : Int32), k24 x2 x3 x4 x5 x6 = some r → ∀ (H : Heap) (locs : List Loc) (ls : Array Slot), Rx s E L M H locs → lv_has ls 7 [(0, .ref a0), (1, .int x1), (2, .int x2), (3, .int x3), (4, .int x4), (5, .int x5), (6, .int x6)] → W p l e (rmD (d + 5)) s m args below meth c H locs 0 0 (MQ below (QcM E L (some (.int r)) M) args s 0 0 E.2.2.2) (F0 m 24 ls [])) (h0 : At L a0 T11) (h : fX11_wrong_j125 fu k24 a0 x1 x2 x3 x4 x5 x6 M = some r) (hR : Rx s E L M H locs) (hl : lv_has ls 7 [(0, .ref a0), (1, .int x1), (2, .int x2), (3, .int x3), (4, .int x4), (5, .int x5), (6, .int x6)]) : W p l e (rmD (d + 5)) s m args below meth c H locs 0 0 (MQ below (QcM E L (some (.int r)) M) args s 0 0 E.2.2.2) (F0 m 125 ls []) := by
  have hx := B.1
  have hb := B.2.1
  unfold fX11_wrong_j125 at h
  refine lv_iload_n hx hb dX11_wrong_125 rfl (lv_at hl 3 rfl) ?_
  exact wX11_wrong_j126 B hr hlk ih24 h0 h hR (lv_sub hl [0, 1, 2, 4, 5, 6] rfl)
def fX11_wrong_j105 (fu : Nat) (k24 : Int32 → Int32 → Int32 → Int32 → Int32 → Option Int32) (a0 : Nat) (x1 : Int32) (x3 : Int32) (x4 : Int32) (x5 : Int32) (x6 : Int32) (t0 : Int32) (t1 : Int32) (M : Mm) : Option Int32 :=
  lt ((t0 + t1)) fun x2_106 =>
  if 0 ≤ x3 then
    fX11_wrong_j125 fu k24 a0 x1 x2_106 x3 x4 x5 x6 M
  else
    bi (fX11_isFixed fu a0 x6 M) fun r_114 =>
    if r_114 = 0 then
      fX11_wrong_j126 fu k24 a0 x1 x2_106 x4 x5 x6 x6 M
    else
      fX11_wrong_j125 fu k24 a0 x1 x2_106 x3 x4 x5 x6 M
set_option maxRecDepth 100000 in
set_option maxHeartbeats 4000000 in
theorem wX11_wrong_j105 {r : Int32}  {k24 : Int32 → Int32 → Int32 → Int32 → Int32 → Option Int32} {a0 : Nat} {x1 : Int32} {x3 : Int32} {x4 : Int32} {x5 : Int32} {x6 : Int32} {t0 : Int32} {t1 : Int32} {M : Mm} (B : Bx p s m args c cX11_wrong 7 RX11 E L) (hr : meth.sig.returnType = (some .int)) (hlk : meth.locks = false) (ih24 : ∀ (x2 : Int32) (x3 : Int32) (x4 : Int32) (x5 : Int32) (x6 : Int32), k24 x2 x3 x4 x5 x6 = some r → ∀ (H : Heap) (locs : List Loc) (ls : Array Slot), Rx s E L M H locs → lv_has ls 7 [(0, .ref a0), (1, .int x1), (2, .int x2), (3, .int x3), (4, .int x4), (5, .int x5), (6, .int x6)] → W p l e (rmD (d + 5)) s m args below meth c H locs 0 0 (MQ below (QcM E L (some (.int r)) M) args s 0 0 E.2.2.2) (F0 m 24 ls [])) (h0 : At L a0 T11) (h : fX11_wrong_j105 fu k24 a0 x1 x3 x4 x5 x6 t0 t1 M = some r) (hR : Rx s E L M H locs) (hl : lv_has ls 7 [(0, .ref a0), (1, .int x1), (3, .int x3), (4, .int x4), (5, .int x5), (6, .int x6)]) : W p l e (rmD (d + 5)) s m args below meth c H locs 0 0 (MQ below (QcM E L (some (.int r)) M) args s 0 0 E.2.2.2) (F0 m 105 ls [.int t1, .int t0]) := by
  have hx := B.1
  have hb := B.2.1
  unfold fX11_wrong_j105 at h
  refine lv_iadd hx hb dX11_wrong_105 ?_
  obtain ⟨x2_106, ex2_106, h⟩ := lt_el h
  refine r_nmI ex2_106 ?_
  refine lv_istore_n (lv' := [(2, .int x2_106), (0, .ref a0), (1, .int x1), (3, .int x3), (4, .int x4), (5, .int x5), (6, .int x6)]) hx hb dX11_wrong_106 rfl hl (by decide) rfl (fun ls hl => ?_)
  refine lv_iload_n hx hb dX11_wrong_107 rfl (lv_at hl 3 rfl) ?_
  refine lv_if_ge (tgt := 125) hx hb dX11_wrong_108 (by decide) (fun c_108 => ?_) (fun c_108 => ?_)
  · rw [if_pos c_108] at h
    exact wX11_wrong_j125 B hr hlk ih24 h0 h hR (lv_sub hl [1, 2, 0, 3, 4, 5, 6] rfl)
  · rw [if_neg c_108] at h
    refine lv_aload_n hx hb dX11_wrong_111 rfl (lv_at hl 1 rfl) ?_
    refine lv_iload hx hb dX11_wrong_112 (lv_at hl 6 rfl) ?_
    obtain ⟨r_114, hc_114, h⟩ := bi_el h
    refine iv_X11_255 B hR (h0.at0 rfl) hl.1 (mX11_isFixed fu _ h0 hc_114) (Nat.le_of_ble_eq_true rfl) dX11_wrong_114 (fun H locs hR => ?_)
    refine lv_if_ne (tgt := 125) hx hb dX11_wrong_117 (by decide) (fun c_117 => ?_) (fun c_117 => ?_)
    · rw [if_neg c_117] at h
      exact wX11_wrong_j125 B hr hlk ih24 h0 h hR (lv_sub hl [1, 2, 0, 3, 4, 5, 6] rfl)
    · rw [if_pos c_117] at h
      refine lv_iload hx hb dX11_wrong_120 (lv_at hl 6 rfl) ?_
      refine lv_goto (tgt := 126) hx hb dX11_wrong_122 (by decide) ?_
      exact wX11_wrong_j126 B hr hlk ih24 h0 h hR (lv_sub hl [1, 2, 0, 4, 5, 6] rfl)
def fX11_wrong_j87 (fu : Nat) (k24 : Int32 → Int32 → Int32 → Int32 → Int32 → Option Int32) (a0 : Nat) (x1 : Int32) (x2 : Int32) (x3 : Int32) (x4 : Int32) (x6 : Int32) (t0 : Int32) (t1 : Int32) (M : Mm) : Option Int32 :=
  lt ((t0 + t1)) fun x5_88 =>
  bi (fX11_isFixed fu a0 x6 M) fun r_94 =>
  if r_94 = 0 then
    fX11_wrong_j105 fu k24 a0 x1 x3 x4 x5_88 x6 x2 1 M
  else
    fX11_wrong_j105 fu k24 a0 x1 x3 x4 x5_88 x6 x2 0 M
set_option maxRecDepth 100000 in
set_option maxHeartbeats 4000000 in
theorem wX11_wrong_j87 {r : Int32}  {k24 : Int32 → Int32 → Int32 → Int32 → Int32 → Option Int32} {a0 : Nat} {x1 : Int32} {x2 : Int32} {x3 : Int32} {x4 : Int32} {x6 : Int32} {t0 : Int32} {t1 : Int32} {M : Mm} (B : Bx p s m args c cX11_wrong 7 RX11 E L) (hr : meth.sig.returnType = (some .int)) (hlk : meth.locks = false) (ih24 : ∀ (x2 : Int32) (x3 : Int32) (x4 : Int32) (x5 : Int32) (x6 : Int32), k24 x2 x3 x4 x5 x6 = some r → ∀ (H : Heap) (locs : List Loc) (ls : Array Slot), Rx s E L M H locs → lv_has ls 7 [(0, .ref a0), (1, .int x1), (2, .int x2), (3, .int x3), (4, .int x4), (5, .int x5), (6, .int x6)] → W p l e (rmD (d + 5)) s m args below meth c H locs 0 0 (MQ below (QcM E L (some (.int r)) M) args s 0 0 E.2.2.2) (F0 m 24 ls [])) (h0 : At L a0 T11) (h : fX11_wrong_j87 fu k24 a0 x1 x2 x3 x4 x6 t0 t1 M = some r) (hR : Rx s E L M H locs) (hl : lv_has ls 7 [(0, .ref a0), (1, .int x1), (2, .int x2), (3, .int x3), (4, .int x4), (6, .int x6)]) : W p l e (rmD (d + 5)) s m args below meth c H locs 0 0 (MQ below (QcM E L (some (.int r)) M) args s 0 0 E.2.2.2) (F0 m 87 ls [.int t1, .int t0]) := by
  have hx := B.1
  have hb := B.2.1
  unfold fX11_wrong_j87 at h
  refine lv_iadd hx hb dX11_wrong_87 ?_
  obtain ⟨x5_88, ex5_88, h⟩ := lt_el h
  refine r_nmI ex5_88 ?_
  refine lv_istore (lv' := [(5, .int x5_88), (0, .ref a0), (1, .int x1), (2, .int x2), (3, .int x3), (4, .int x4), (6, .int x6)]) hx hb dX11_wrong_88 hl (by decide) rfl (fun ls hl => ?_)
  refine lv_iload_n hx hb dX11_wrong_90 rfl (lv_at hl 3 rfl) ?_
  refine lv_aload_n hx hb dX11_wrong_91 rfl (lv_at hl 1 rfl) ?_
  refine lv_iload hx hb dX11_wrong_92 (lv_at hl 6 rfl) ?_
  obtain ⟨r_94, hc_94, h⟩ := bi_el h
  refine iv_X11_255 B hR (h0.at0 rfl) hl.1 (mX11_isFixed fu _ h0 hc_94) (Nat.le_of_ble_eq_true rfl) dX11_wrong_94 (fun H locs hR => ?_)
  refine lv_if_eq (tgt := 104) hx hb dX11_wrong_97 (by decide) (fun c_97 => ?_) (fun c_97 => ?_)
  · rw [if_pos c_97] at h
    refine lv_iconst (v := 1) hx hb dX11_wrong_104 (by decide) ?_
    exact wX11_wrong_j105 B hr hlk ih24 h0 h hR (lv_sub hl [1, 2, 4, 5, 0, 6] rfl)
  · rw [if_neg c_97] at h
    refine lv_iconst (v := 0) hx hb dX11_wrong_100 (by decide) ?_
    refine lv_goto (tgt := 105) hx hb dX11_wrong_101 (by decide) ?_
    exact wX11_wrong_j105 B hr hlk ih24 h0 h hR (lv_sub hl [1, 2, 4, 5, 0, 6] rfl)
def fX11_wrong_j50 (fu : Nat) (k24 : Int32 → Int32 → Int32 → Int32 → Int32 → Option Int32) (a0 : Nat) (x1 : Int32) (x2 : Int32) (x3 : Int32) (x5 : Int32) (x6 : Int32) (t0 : Int32) (t1 : Int32) (M : Mm) : Option Int32 :=
  lt ((t0 + t1)) fun x4_51 =>
  bi (fX11_kindAt fu a0 x6 M) fun r_56 =>
  bi (fX11_wantedAt fu a0 x6 M) fun r_62 =>
  if r_56 = r_62 then
    fX11_wrong_j127 fu k24 a0 x1 x2 x3 x4_51 x5 x6 M
  else
    bi (fX11_isFixed fu a0 x6 M) fun r_76 =>
    if r_76 = 0 then
      fX11_wrong_j87 fu k24 a0 x1 x2 x3 x4_51 x6 x5 0 M
    else
      fX11_wrong_j87 fu k24 a0 x1 x2 x3 x4_51 x6 x5 1 M
set_option maxRecDepth 100000 in
set_option maxHeartbeats 4000000 in
theorem wX11_wrong_j50 {r : Int32}  {k24 : Int32 → Int32 → Int32 → Int32 → Int32 → Option Int32} {a0 : Nat} {x1 : Int32} {x2 : Int32} {x3 : Int32} {x5 : Int32} {x6 : Int32} {t0 : Int32} {t1 : Int32} {M : Mm} (B : Bx p s m args c cX11_wrong 7 RX11 E L) (hr : meth.sig.returnType = (some .int)) (hlk : meth.locks = false) (ih24 : ∀ (x2 : Int32) (x3 : Int32) (x4 : Int32) (x5 : Int32) (x6 : Int32), k24 x2 x3 x4 x5 x6 = some r → ∀ (H : Heap) (locs : List Loc) (ls : Array Slot), Rx s E L M H locs → lv_has ls 7 [(0, .ref a0), (1, .int x1), (2, .int x2), (3, .int x3), (4, .int x4), (5, .int x5), (6, .int x6)] → W p l e (rmD (d + 5)) s m args below meth c H locs 0 0 (MQ below (QcM E L (some (.int r)) M) args s 0 0 E.2.2.2) (F0 m 24 ls [])) (h0 : At L a0 T11) (h : fX11_wrong_j50 fu k24 a0 x1 x2 x3 x5 x6 t0 t1 M = some r) (hR : Rx s E L M H locs) (hl : lv_has ls 7 [(0, .ref a0), (1, .int x1), (2, .int x2), (3, .int x3), (5, .int x5), (6, .int x6)]) : W p l e (rmD (d + 5)) s m args below meth c H locs 0 0 (MQ below (QcM E L (some (.int r)) M) args s 0 0 E.2.2.2) (F0 m 50 ls [.int t1, .int t0]) := by
  have hx := B.1
  have hb := B.2.1
  unfold fX11_wrong_j50 at h
  refine lv_iadd hx hb dX11_wrong_50 ?_
  obtain ⟨x4_51, ex4_51, h⟩ := lt_el h
  refine r_nmI ex4_51 ?_
  refine lv_istore (lv' := [(4, .int x4_51), (0, .ref a0), (1, .int x1), (2, .int x2), (3, .int x3), (5, .int x5), (6, .int x6)]) hx hb dX11_wrong_51 hl (by decide) rfl (fun ls hl => ?_)
  refine lv_aload_n hx hb dX11_wrong_53 rfl (lv_at hl 1 rfl) ?_
  refine lv_iload hx hb dX11_wrong_54 (lv_at hl 6 rfl) ?_
  obtain ⟨r_56, hc_56, h⟩ := bi_el h
  refine iv_X11_276 B hR (h0.at0 rfl) hl.1 (mX11_kindAt fu _ h0 hc_56) (Nat.le_of_ble_eq_true rfl) dX11_wrong_56 (fun H locs hR => ?_)
  refine lv_aload_n hx hb dX11_wrong_59 rfl (lv_at hl 1 rfl) ?_
  refine lv_iload hx hb dX11_wrong_60 (lv_at hl 6 rfl) ?_
  obtain ⟨r_62, hc_62, h⟩ := bi_el h
  refine iv_X11_285 B hR (h0.at0 rfl) hl.1 (mX11_wantedAt fu _ h0 hc_62) (Nat.le_of_ble_eq_true rfl) dX11_wrong_62 (fun H locs hR => ?_)
  refine lv_icmp_ne (tgt := 71) hx hb dX11_wrong_65 (by decide) (fun c_65 => ?_) (fun c_65 => ?_)
  · rw [if_neg c_65] at h
    refine lv_iload hx hb dX11_wrong_71 (lv_at hl 5 rfl) ?_
    refine lv_aload_n hx hb dX11_wrong_73 rfl (lv_at hl 1 rfl) ?_
    refine lv_iload hx hb dX11_wrong_74 (lv_at hl 6 rfl) ?_
    obtain ⟨r_76, hc_76, h⟩ := bi_el h
    refine iv_X11_255 B hR (h0.at0 rfl) hl.1 (mX11_isFixed fu _ h0 hc_76) (Nat.le_of_ble_eq_true rfl) dX11_wrong_76 (fun H locs hR => ?_)
    refine lv_if_eq (tgt := 86) hx hb dX11_wrong_79 (by decide) (fun c_79 => ?_) (fun c_79 => ?_)
    · rw [if_pos c_79] at h
      refine lv_iconst (v := 0) hx hb dX11_wrong_86 (by decide) ?_
      exact wX11_wrong_j87 B hr hlk ih24 h0 h hR (lv_sub hl [1, 2, 3, 4, 0, 6] rfl)
    · rw [if_neg c_79] at h
      refine lv_iconst (v := 1) hx hb dX11_wrong_82 (by decide) ?_
      refine lv_goto (tgt := 87) hx hb dX11_wrong_83 (by decide) ?_
      exact wX11_wrong_j87 B hr hlk ih24 h0 h hR (lv_sub hl [1, 2, 3, 4, 0, 6] rfl)
  · rw [if_pos c_65] at h
    refine lv_goto (tgt := 127) hx hb dX11_wrong_68 (by decide) ?_
    exact wX11_wrong_j127 B hr hlk ih24 h0 h hR (lv_sub hl [1, 2, 3, 4, 0, 5, 6] rfl)
def fX11_wrong_b24 (fu : Nat) (k24 : Int32 → Int32 → Int32 → Int32 → Int32 → Option Int32) (a0 : Nat) (x1 : Int32) (x2 : Int32) (x3 : Int32) (x4 : Int32) (x5 : Int32) (x6 : Int32) (M : Mm) : Option Int32 :=
  bi (fX11_addresses fu a0 M) fun r_27 =>
  if r_27 ≤ x6 then
    fX11_wrong_j133 fu x1 x2 x3 x4 x5 M
  else
    bi (fX11_kindAt fu a0 x6 M) fun r_38 =>
    if r_38 = 5 then
      fX11_wrong_j50 fu k24 a0 x1 x2 x3 x5 x6 x4 1 M
    else
      fX11_wrong_j50 fu k24 a0 x1 x2 x3 x5 x6 x4 0 M
set_option maxRecDepth 100000 in
set_option maxHeartbeats 4000000 in
theorem wX11_wrong_b24 {r : Int32}   {k24 : Int32 → Int32 → Int32 → Int32 → Int32 → Option Int32} {a0 : Nat} {x1 : Int32} {x2 : Int32} {x3 : Int32} {x4 : Int32} {x5 : Int32} {x6 : Int32} {M : Mm} (B : Bx p s m args c cX11_wrong 7 RX11 E L) (hr : meth.sig.returnType = (some .int)) (hlk : meth.locks = false)  (ih24 : ∀ (x2 : Int32) (x3 : Int32) (x4 : Int32) (x5 : Int32) (x6 : Int32), k24 x2 x3 x4 x5 x6 = some r → ∀ (H : Heap) (locs : List Loc) (ls : Array Slot), Rx s E L M H locs → lv_has ls 7 [(0, .ref a0), (1, .int x1), (2, .int x2), (3, .int x3), (4, .int x4), (5, .int x5), (6, .int x6)] → W p l e (rmD (d + 5)) s m args below meth c H locs 0 0 (MQ below (QcM E L (some (.int r)) M) args s 0 0 E.2.2.2) (F0 m 24 ls [])) (h0 : At L a0 T11) (h : fX11_wrong_b24 fu k24 a0 x1 x2 x3 x4 x5 x6 M = some r) (hR : Rx s E L M H locs) (hl : lv_has ls 7 [(0, .ref a0), (1, .int x1), (2, .int x2), (3, .int x3), (4, .int x4), (5, .int x5), (6, .int x6)]) : W p l e (rmD (d + 5)) s m args below meth c H locs 0 0 (MQ below (QcM E L (some (.int r)) M) args s 0 0 E.2.2.2) (F0 m 24 ls []) := by
  have hx := B.1
  have hb := B.2.1
  unfold fX11_wrong_b24 at h
  refine lv_iload hx hb dX11_wrong_24 (lv_at hl 6 rfl) ?_
  refine lv_aload_n hx hb dX11_wrong_26 rfl (lv_at hl 0 rfl) ?_
  obtain ⟨r_27, hc_27, h⟩ := bi_el h
  refine iv_X11_240 B hR (h0.at0 rfl) hl.1 (mX11_addresses fu _ h0 hc_27) (Nat.le_of_ble_eq_true rfl) dX11_wrong_27 (fun H locs hR => ?_)
  refine lv_icmp_ge (tgt := 133) hx hb dX11_wrong_30 (by decide) (fun c_30 => ?_) (fun c_30 => ?_)
  · rw [if_pos c_30] at h
    exact wX11_wrong_j133 B hr hlk  h hR (lv_sub hl [1, 2, 3, 4, 5] rfl)
  · rw [if_neg c_30] at h
    refine lv_iload hx hb dX11_wrong_33 (lv_at hl 4 rfl) ?_
    refine lv_aload_n hx hb dX11_wrong_35 rfl (lv_at hl 0 rfl) ?_
    refine lv_iload hx hb dX11_wrong_36 (lv_at hl 6 rfl) ?_
    obtain ⟨r_38, hc_38, h⟩ := bi_el h
    refine iv_X11_276 B hR (h0.at0 rfl) hl.1 (mX11_kindAt fu _ h0 hc_38) (Nat.le_of_ble_eq_true rfl) dX11_wrong_38 (fun H locs hR => ?_)
    refine lv_iconst (v := 5) hx hb dX11_wrong_41 (by decide) ?_
    refine lv_icmp_ne (tgt := 49) hx hb dX11_wrong_42 (by decide) (fun c_42 => ?_) (fun c_42 => ?_)
    · rw [if_neg c_42] at h
      refine lv_iconst (v := 0) hx hb dX11_wrong_49 (by decide) ?_
      exact wX11_wrong_j50 B hr hlk ih24 h0 h hR (lv_sub hl [0, 1, 2, 3, 5, 6] rfl)
    · rw [if_pos c_42] at h
      refine lv_iconst (v := 1) hx hb dX11_wrong_45 (by decide) ?_
      refine lv_goto (tgt := 50) hx hb dX11_wrong_46 (by decide) ?_
      exact wX11_wrong_j50 B hr hlk ih24 h0 h hR (lv_sub hl [0, 1, 2, 3, 5, 6] rfl)
def fX11_wrong_l24 (fu : Nat) (a0 : Nat) (x1 : Int32) (M : Mm) (x2 : Int32) (x3 : Int32) (x4 : Int32) (x5 : Int32) (x6 : Int32) : Option Int32 := lp (fun (rec : (Int32 × Int32 × Int32 × Int32 × Int32) → Option Int32) (s : Int32 × Int32 × Int32 × Int32 × Int32) => fX11_wrong_b24 fu  (fun x2 x3 x4 x5 x6 => rec (x2, x3, x4, x5, x6)) a0 x1 s.1 s.2.1 s.2.2.1 s.2.2.2.1 s.2.2.2.2 M) fu (x2, x3, x4, x5, x6)
set_option maxRecDepth 100000 in
set_option maxHeartbeats 4000000 in
theorem wX11_wrong_l24 {r : Int32}   {a0 : Nat} {x1 : Int32} {x2 : Int32} {x3 : Int32} {x4 : Int32} {x5 : Int32} {x6 : Int32} {M : Mm} (B : Bx p s m args c cX11_wrong 7 RX11 E L) (hr : meth.sig.returnType = (some .int)) (hlk : meth.locks = false)  (h0 : At L a0 T11) (h : fX11_wrong_l24 fu a0 x1 M x2 x3 x4 x5 x6 = some r) (hR : Rx s E L M H locs) (hl : lv_has ls 7 [(0, .ref a0), (1, .int x1), (2, .int x2), (3, .int x3), (4, .int x4), (5, .int x5), (6, .int x6)]) : W p l e (rmD (d + 5)) s m args below meth c H locs 0 0 (MQ below (QcM E L (some (.int r)) M) args s 0 0 E.2.2.2) (F0 m 24 ls []) := by
  refine lp_G (G := fun z : Int32 × Int32 × Int32 × Int32 × Int32 => ∀ (H : Heap) (locs : List Loc) (ls : Array Slot), Rx s E L M H locs → lv_has ls 7 [(0, .ref a0), (1, .int x1), (2, .int z.1), (3, .int z.2.1), (4, .int z.2.2.1), (5, .int z.2.2.2.1), (6, .int z.2.2.2.2)] → W p l e (rmD (d + 5)) s m args below meth c H locs 0 0 (MQ below (QcM E L (some (.int r)) M) args s 0 0 E.2.2.2) (F0 m 24 ls [])) (fun rec ih z h H locs ls hR hl => ?_) fu _ h H locs ls hR hl
  exact wX11_wrong_b24 B hr hlk  (fun x2 x3 x4 x5 x6 h => ih (x2, x3, x4, x5, x6) h) h0 h hR hl
def fX11_wrong (fu : Nat) (a0 : Nat) (x1 : Int32) (M : Mm) : Option Int32 :=
  bi (fX11_isIn fu x1 0 3) fun r_3 =>
  if r_3 = 0 then
    some (-1)
  else
    fX11_wrong_l24 fu a0 x1 M 0 (-1) 0 0 0
set_option maxRecDepth 100000 in
set_option maxHeartbeats 4000000 in
theorem mX11_wrong {l : Launch} {E : Ge} {L : Lay} (fu d : Nat) {a0 : Nat} {x1 : Int32} {M : Mm} {r : Int32}  (h0 : At L a0 T11) (h : fX11_wrong fu a0 x1 M = some r) : Ct l E L yX11_wrong cX11_wrong 7 (some .int) (d + 5) [.ref a0, .int x1] M (some (.int r)) M := by
  refine Ct.of (by decide) ?_
  intro p e s m below meth c hr hlk B hR
  have B : Bx p s m _ c cX11_wrong 7 RX11 E L := B
  have hx := B.1
  have hb := B.2.1
  have hl := lv_entry ([.ref a0, .int x1]) (n := 7) (Nat.le_of_ble_eq_true rfl)
  rw [lg_entry_eq]
  generalize (lg_sl ([.ref a0, .int x1]) ++ List.replicate (7 - (lg_sl ([.ref a0, .int x1])).length) Slot.unset).toArray = ls at hl ⊢
  have hl : lv_has ls 7 [(0, .ref a0), (1, .int x1)] := hl
  unfold fX11_wrong at h
  refine lv_iload_n hx hb dX11_wrong_0 rfl (lv_at hl 1 rfl) ?_
  refine lv_iconst (v := 0) hx hb dX11_wrong_1 (by decide) ?_
  refine lv_iconst (v := 3) hx hb dX11_wrong_2 (by decide) ?_
  obtain ⟨r_3, hc_3, h⟩ := bi_el h
  refine is_X11_163 B hR hl.1 (mX11_isIn fu _  hc_3) (Nat.le_of_ble_eq_true rfl) dX11_wrong_3 (fun H locs hR => ?_)
  refine lv_if_ne (tgt := 11) hx hb dX11_wrong_6 (by decide) (fun c_6 => ?_) (fun c_6 => ?_)
  · rw [if_neg c_6] at h
    refine lv_iconst (v := 0) hx hb dX11_wrong_11 (by decide) ?_
    refine lv_istore_n (lv' := [(2, .int 0), (0, .ref a0), (1, .int x1)]) hx hb dX11_wrong_12 rfl hl (by decide) rfl (fun ls hl => ?_)
    refine lv_iconst (v := (-1)) hx hb dX11_wrong_13 (by decide) ?_
    refine lv_istore_n (lv' := [(3, .int (-1)), (2, .int 0), (0, .ref a0), (1, .int x1)]) hx hb dX11_wrong_14 rfl hl (by decide) rfl (fun ls hl => ?_)
    refine lv_iconst (v := 0) hx hb dX11_wrong_15 (by decide) ?_
    refine lv_istore (lv' := [(4, .int 0), (3, .int (-1)), (2, .int 0), (0, .ref a0), (1, .int x1)]) hx hb dX11_wrong_16 hl (by decide) rfl (fun ls hl => ?_)
    refine lv_iconst (v := 0) hx hb dX11_wrong_18 (by decide) ?_
    refine lv_istore (lv' := [(5, .int 0), (4, .int 0), (3, .int (-1)), (2, .int 0), (0, .ref a0), (1, .int x1)]) hx hb dX11_wrong_19 hl (by decide) rfl (fun ls hl => ?_)
    refine lv_iconst (v := 0) hx hb dX11_wrong_21 (by decide) ?_
    refine lv_istore (lv' := [(6, .int 0), (5, .int 0), (4, .int 0), (3, .int (-1)), (2, .int 0), (0, .ref a0), (1, .int x1)]) hx hb dX11_wrong_22 hl (by decide) rfl (fun ls hl => ?_)
    exact wX11_wrong_l24 B hr hlk h0 h hR (lv_sub hl [5, 6, 4, 3, 2, 1, 0] rfl)
  · rw [if_pos c_6] at h
    refine lv_iconst (v := (-1)) hx hb dX11_wrong_9 (by decide) ?_
    exact r_iretP B hR hr hlk h dX11_wrong_10
def fX11_isMended_j49 (fu : Nat) (M : Mm) : Option Int32 :=
  some 1
set_option maxRecDepth 100000 in
set_option maxHeartbeats 4000000 in
theorem wX11_isMended_j49 {r : Int32}    {M : Mm} (B : Bx p s m args c cX11_isMended 4 RX11 E L) (hr : meth.sig.returnType = (some .boolean)) (hlk : meth.locks = false)   (h : fX11_isMended_j49 fu M = some r) (hR : Rx s E L M H locs) (hl : lv_has ls 4 []) : W p l e (rmD (d + 5)) s m args below meth c H locs 0 0 (MQ below (QcM E L (some (.int r)) M) args s 0 0 E.2.2.2) (F0 m 49 ls []) := by
  have hx := B.1
  have hb := B.2.1
  unfold fX11_isMended_j49 at h
  refine lv_iconst (v := 1) hx hb dX11_isMended_49 (by decide) ?_
  exact r_zretP B hR hr hlk (Or.inr rfl) h dX11_isMended_50
def fX11_isMended_j43 (fu : Nat) (k5 : Int32 → Option Int32) (a0 : Nat) (x1 : Int32) (x2 : Int32) (x3 : Int32) (M : Mm) : Option Int32 :=
  lt (x3 + 1) fun x3_43 =>
  k5 x3_43
set_option maxRecDepth 100000 in
set_option maxHeartbeats 4000000 in
theorem wX11_isMended_j43 {r : Int32}  {k5 : Int32 → Option Int32} {a0 : Nat} {x1 : Int32} {x2 : Int32} {x3 : Int32} {M : Mm} (B : Bx p s m args c cX11_isMended 4 RX11 E L) (hr : meth.sig.returnType = (some .boolean)) (hlk : meth.locks = false) (ih5 : ∀ (x3 : Int32), k5 x3 = some r → ∀ (H : Heap) (locs : List Loc) (ls : Array Slot), Rx s E L M H locs → lv_has ls 4 [(0, .ref a0), (1, .int x1), (2, .int x2), (3, .int x3)] → W p l e (rmD (d + 5)) s m args below meth c H locs 0 0 (MQ below (QcM E L (some (.int r)) M) args s 0 0 E.2.2.2) (F0 m 5 ls [])) (h0 : At L a0 T11) (h : fX11_isMended_j43 fu k5 a0 x1 x2 x3 M = some r) (hR : Rx s E L M H locs) (hl : lv_has ls 4 [(0, .ref a0), (1, .int x1), (2, .int x2), (3, .int x3)]) : W p l e (rmD (d + 5)) s m args below meth c H locs 0 0 (MQ below (QcM E L (some (.int r)) M) args s 0 0 E.2.2.2) (F0 m 43 ls []) := by
  have hx := B.1
  have hb := B.2.1
  unfold fX11_isMended_j43 at h
  obtain ⟨x3_43, ex3_43, h⟩ := lt_el h
  refine lv_iinc (v := x3_43) (lv' := [(3, .int x3_43), (0, .ref a0), (1, .int x1), (2, .int x2)]) hx hb dX11_isMended_43 hl (k := 3) rfl (by rw [ex3_43]; rfl) (by decide) rfl (fun ls hl => ?_)
  refine lv_goto (tgt := 5) hx hb dX11_isMended_46 (by decide) ?_
  exact ih5 x3_43 h _ _ _ hR (lv_sub hl [1, 2, 3, 0] rfl)
def fX11_isMended_j41 (fu : Nat) (M : Mm) : Option Int32 :=
  some 0
set_option maxRecDepth 100000 in
set_option maxHeartbeats 4000000 in
theorem wX11_isMended_j41 {r : Int32}    {M : Mm} (B : Bx p s m args c cX11_isMended 4 RX11 E L) (hr : meth.sig.returnType = (some .boolean)) (hlk : meth.locks = false)   (h : fX11_isMended_j41 fu M = some r) (hR : Rx s E L M H locs) (hl : lv_has ls 4 []) : W p l e (rmD (d + 5)) s m args below meth c H locs 0 0 (MQ below (QcM E L (some (.int r)) M) args s 0 0 E.2.2.2) (F0 m 41 ls []) := by
  have hx := B.1
  have hb := B.2.1
  unfold fX11_isMended_j41 at h
  refine lv_iconst (v := 0) hx hb dX11_isMended_41 (by decide) ?_
  exact r_zretP B hR hr hlk (Or.inl rfl) h dX11_isMended_42
def fX11_isMended_b5 (fu : Nat) (k5 : Int32 → Option Int32) (a0 : Nat) (x1 : Int32) (x2 : Int32) (x3 : Int32) (M : Mm) : Option Int32 :=
  if ((16 * x1) + 16) ≤ x3 then
    fX11_isMended_j49 fu M
  else
    bi (fX11_isFixed fu a0 x3 M) fun r_18 =>
    if r_18 = 0 then
      bi (fX11_kindAt fu a0 x3 M) fun r_27 =>
      bi (fX11_seenAs fu x2 r_27) fun r_30 =>
      bi (fX11_wantedAt fu a0 x3 M) fun r_35 =>
      if r_30 = r_35 then
        fX11_isMended_j43 fu k5 a0 x1 x2 x3 M
      else
        fX11_isMended_j41 fu M
    else
      fX11_isMended_j43 fu k5 a0 x1 x2 x3 M
set_option maxRecDepth 100000 in
set_option maxHeartbeats 4000000 in
theorem wX11_isMended_b5 {r : Int32}   {k5 : Int32 → Option Int32} {a0 : Nat} {x1 : Int32} {x2 : Int32} {x3 : Int32} {M : Mm} (B : Bx p s m args c cX11_isMended 4 RX11 E L) (hr : meth.sig.returnType = (some .boolean)) (hlk : meth.locks = false)  (ih5 : ∀ (x3 : Int32), k5 x3 = some r → ∀ (H : Heap) (locs : List Loc) (ls : Array Slot), Rx s E L M H locs → lv_has ls 4 [(0, .ref a0), (1, .int x1), (2, .int x2), (3, .int x3)] → W p l e (rmD (d + 5)) s m args below meth c H locs 0 0 (MQ below (QcM E L (some (.int r)) M) args s 0 0 E.2.2.2) (F0 m 5 ls [])) (h0 : At L a0 T11) (h : fX11_isMended_b5 fu k5 a0 x1 x2 x3 M = some r) (hR : Rx s E L M H locs) (hl : lv_has ls 4 [(0, .ref a0), (1, .int x1), (2, .int x2), (3, .int x3)]) : W p l e (rmD (d + 5)) s m args below meth c H locs 0 0 (MQ below (QcM E L (some (.int r)) M) args s 0 0 E.2.2.2) (F0 m 5 ls []) := by
  have hx := B.1
  have hb := B.2.1
  unfold fX11_isMended_b5 at h
  refine lv_iload_n hx hb dX11_isMended_5 rfl (lv_at hl 3 rfl) ?_
  refine lv_bipush (v := 16) hx hb dX11_isMended_6 (by decide) ?_
  refine lv_iload_n hx hb dX11_isMended_8 rfl (lv_at hl 1 rfl) ?_
  refine lv_imul hx hb dX11_isMended_9 ?_
  refine lv_bipush (v := 16) hx hb dX11_isMended_10 (by decide) ?_
  refine lv_iadd hx hb dX11_isMended_12 ?_
  refine lv_icmp_ge (tgt := 49) hx hb dX11_isMended_13 (by decide) (fun c_13 => ?_) (fun c_13 => ?_)
  · rw [if_pos c_13] at h
    exact wX11_isMended_j49 B hr hlk  h hR (lv_sub hl [] rfl)
  · rw [if_neg c_13] at h
    refine lv_aload_n hx hb dX11_isMended_16 rfl (lv_at hl 0 rfl) ?_
    refine lv_iload_n hx hb dX11_isMended_17 rfl (lv_at hl 3 rfl) ?_
    obtain ⟨r_18, hc_18, h⟩ := bi_el h
    refine iv_X11_255 B hR (h0.at0 rfl) hl.1 (mX11_isFixed fu _ h0 hc_18) (Nat.le_of_ble_eq_true rfl) dX11_isMended_18 (fun H locs hR => ?_)
    refine lv_if_ne (tgt := 43) hx hb dX11_isMended_21 (by decide) (fun c_21 => ?_) (fun c_21 => ?_)
    · rw [if_neg c_21] at h
      exact wX11_isMended_j43 B hr hlk ih5 h0 h hR hl
    · rw [if_pos c_21] at h
      refine lv_iload_n hx hb dX11_isMended_24 rfl (lv_at hl 2 rfl) ?_
      refine lv_aload_n hx hb dX11_isMended_25 rfl (lv_at hl 0 rfl) ?_
      refine lv_iload_n hx hb dX11_isMended_26 rfl (lv_at hl 3 rfl) ?_
      obtain ⟨r_27, hc_27, h⟩ := bi_el h
      refine iv_X11_276 B hR (h0.at0 rfl) hl.1 (mX11_kindAt fu _ h0 hc_27) (Nat.le_of_ble_eq_true rfl) dX11_isMended_27 (fun H locs hR => ?_)
      obtain ⟨r_30, hc_30, h⟩ := bi_el h
      refine is_X11_279 B hR hl.1 (mX11_seenAs fu _  hc_30) (Nat.le_of_ble_eq_true rfl) dX11_isMended_30 (fun H locs hR => ?_)
      refine lv_aload_n hx hb dX11_isMended_33 rfl (lv_at hl 0 rfl) ?_
      refine lv_iload_n hx hb dX11_isMended_34 rfl (lv_at hl 3 rfl) ?_
      obtain ⟨r_35, hc_35, h⟩ := bi_el h
      refine iv_X11_285 B hR (h0.at0 rfl) hl.1 (mX11_wantedAt fu _ h0 hc_35) (Nat.le_of_ble_eq_true rfl) dX11_isMended_35 (fun H locs hR => ?_)
      refine lv_icmp_eq (tgt := 43) hx hb dX11_isMended_38 (by decide) (fun c_38 => ?_) (fun c_38 => ?_)
      · rw [if_pos c_38] at h
        exact wX11_isMended_j43 B hr hlk ih5 h0 h hR hl
      · rw [if_neg c_38] at h
        exact wX11_isMended_j41 B hr hlk  h hR (lv_sub hl [] rfl)
def fX11_isMended_l5 (fu : Nat) (a0 : Nat) (x1 : Int32) (x2 : Int32) (M : Mm) (x3 : Int32) : Option Int32 := lp (fun (rec : Int32 → Option Int32) (s : Int32) => fX11_isMended_b5 fu  (fun x3 => rec (x3)) a0 x1 x2 s M) fu (x3)
set_option maxRecDepth 100000 in
set_option maxHeartbeats 4000000 in
theorem wX11_isMended_l5 {r : Int32}   {a0 : Nat} {x1 : Int32} {x2 : Int32} {x3 : Int32} {M : Mm} (B : Bx p s m args c cX11_isMended 4 RX11 E L) (hr : meth.sig.returnType = (some .boolean)) (hlk : meth.locks = false)  (h0 : At L a0 T11) (h : fX11_isMended_l5 fu a0 x1 x2 M x3 = some r) (hR : Rx s E L M H locs) (hl : lv_has ls 4 [(0, .ref a0), (1, .int x1), (2, .int x2), (3, .int x3)]) : W p l e (rmD (d + 5)) s m args below meth c H locs 0 0 (MQ below (QcM E L (some (.int r)) M) args s 0 0 E.2.2.2) (F0 m 5 ls []) := by
  refine lp_G (G := fun z : Int32 => ∀ (H : Heap) (locs : List Loc) (ls : Array Slot), Rx s E L M H locs → lv_has ls 4 [(0, .ref a0), (1, .int x1), (2, .int x2), (3, .int z)] → W p l e (rmD (d + 5)) s m args below meth c H locs 0 0 (MQ below (QcM E L (some (.int r)) M) args s 0 0 E.2.2.2) (F0 m 5 ls [])) (fun rec ih z h H locs ls hR hl => ?_) fu _ h H locs ls hR hl
  exact wX11_isMended_b5 B hr hlk  (fun x3 h => ih (x3) h) h0 h hR hl
def fX11_isMended (fu : Nat) (a0 : Nat) (x1 : Int32) (x2 : Int32) (M : Mm) : Option Int32 :=
  lt ((16 * x1)) fun x3_4 =>
  fX11_isMended_l5 fu a0 x1 x2 M x3_4
set_option maxRecDepth 100000 in
set_option maxHeartbeats 4000000 in
theorem mX11_isMended {l : Launch} {E : Ge} {L : Lay} (fu d : Nat) {a0 : Nat} {x1 : Int32} {x2 : Int32} {M : Mm} {r : Int32}  (h0 : At L a0 T11) (h : fX11_isMended fu a0 x1 x2 M = some r) : Ct l E L yX11_isMended cX11_isMended 4 (some .boolean) (d + 5) [.ref a0, .int x1, .int x2] M (some (.int r)) M := by
  refine Ct.of (by decide) ?_
  intro p e s m below meth c hr hlk B hR
  have B : Bx p s m _ c cX11_isMended 4 RX11 E L := B
  have hx := B.1
  have hb := B.2.1
  have hl := lv_entry ([.ref a0, .int x1, .int x2]) (n := 4) (Nat.le_of_ble_eq_true rfl)
  rw [lg_entry_eq]
  generalize (lg_sl ([.ref a0, .int x1, .int x2]) ++ List.replicate (4 - (lg_sl ([.ref a0, .int x1, .int x2])).length) Slot.unset).toArray = ls at hl ⊢
  have hl : lv_has ls 4 [(0, .ref a0), (1, .int x1), (2, .int x2)] := hl
  unfold fX11_isMended at h
  refine lv_bipush (v := 16) hx hb dX11_isMended_0 (by decide) ?_
  refine lv_iload_n hx hb dX11_isMended_2 rfl (lv_at hl 1 rfl) ?_
  refine lv_imul hx hb dX11_isMended_3 ?_
  obtain ⟨x3_4, ex3_4, h⟩ := lt_el h
  refine r_nmI ex3_4 ?_
  refine lv_istore_n (lv' := [(3, .int x3_4), (0, .ref a0), (1, .int x1), (2, .int x2)]) hx hb dX11_isMended_4 rfl hl (by decide) rfl (fun ls hl => ?_)
  exact wX11_isMended_l5 B hr hlk h0 h hR (lv_sub hl [1, 2, 3, 0] rfl)
def fX11_mendable_j61 (fu : Nat) (M : Mm) : Option Int32 :=
  some (-1)
set_option maxRecDepth 100000 in
set_option maxHeartbeats 4000000 in
theorem wX11_mendable_j61 {r : Int32}    {M : Mm} (B : Bx p s m args c cX11_mendable 3 RX11 E L) (hr : meth.sig.returnType = (some .int)) (hlk : meth.locks = false)   (h : fX11_mendable_j61 fu M = some r) (hR : Rx s E L M H locs) (hl : lv_has ls 3 []) : W p l e (rmD (d + 6)) s m args below meth c H locs 0 0 (MQ below (QcM E L (some (.int r)) M) args s 0 0 E.2.2.2) (F0 m 61 ls []) := by
  have hx := B.1
  have hb := B.2.1
  unfold fX11_mendable_j61 at h
  refine lv_iconst (v := (-1)) hx hb dX11_mendable_61 (by decide) ?_
  exact r_iretP B hR hr hlk h dX11_mendable_62
def fX11_mendable_j54 (fu : Nat) (t0 : Int32) (M : Mm) : Option Int32 :=
  some t0
set_option maxRecDepth 100000 in
set_option maxHeartbeats 4000000 in
theorem wX11_mendable_j54 {r : Int32}   {t0 : Int32} {M : Mm} (B : Bx p s m args c cX11_mendable 3 RX11 E L) (hr : meth.sig.returnType = (some .int)) (hlk : meth.locks = false)   (h : fX11_mendable_j54 fu t0 M = some r) (hR : Rx s E L M H locs) (hl : lv_has ls 3 []) : W p l e (rmD (d + 6)) s m args below meth c H locs 0 0 (MQ below (QcM E L (some (.int r)) M) args s 0 0 E.2.2.2) (F0 m 54 ls [.int t0]) := by
  have hx := B.1
  have hb := B.2.1
  unfold fX11_mendable_j54 at h
  exact r_iretP B hR hr hlk h dX11_mendable_54
def fX11_mendable_j43 (fu : Nat) (x2 : Int32) (M : Mm) : Option Int32 :=
  if x2 = 0 then
    fX11_mendable_j54 fu 5 M
  else
    fX11_mendable_j54 fu (x2 - 1) M
set_option maxRecDepth 100000 in
set_option maxHeartbeats 4000000 in
theorem wX11_mendable_j43 {r : Int32}   {x2 : Int32} {M : Mm} (B : Bx p s m args c cX11_mendable 3 RX11 E L) (hr : meth.sig.returnType = (some .int)) (hlk : meth.locks = false)   (h : fX11_mendable_j43 fu x2 M = some r) (hR : Rx s E L M H locs) (hl : lv_has ls 3 [(2, .int x2)]) : W p l e (rmD (d + 6)) s m args below meth c H locs 0 0 (MQ below (QcM E L (some (.int r)) M) args s 0 0 E.2.2.2) (F0 m 43 ls []) := by
  have hx := B.1
  have hb := B.2.1
  unfold fX11_mendable_j43 at h
  refine lv_iload_n hx hb dX11_mendable_43 rfl (lv_at hl 0 rfl) ?_
  refine lv_if_ne (tgt := 51) hx hb dX11_mendable_44 (by decide) (fun c_44 => ?_) (fun c_44 => ?_)
  · rw [if_neg c_44] at h
    refine lv_iload_n hx hb dX11_mendable_51 rfl (lv_at hl 0 rfl) ?_
    refine lv_iconst (v := 1) hx hb dX11_mendable_52 (by decide) ?_
    refine lv_isub hx hb dX11_mendable_53 ?_
    exact wX11_mendable_j54 B hr hlk  h hR (lv_sub hl [] rfl)
  · rw [if_pos c_44] at h
    refine lv_iconst (v := 5) hx hb dX11_mendable_47 (by decide) ?_
    refine lv_goto (tgt := 54) hx hb dX11_mendable_48 (by decide) ?_
    exact wX11_mendable_j54 B hr hlk  h hR (lv_sub hl [] rfl)
def fX11_mendable_j37 (fu : Nat) (k18 : Int32 → Option Int32) (a0 : Nat) (x1 : Int32) (x2 : Int32) (b0 : Nat) (t1 : Int32) (t2 : Int32) (M : Mm) : Option Int32 :=
  bi (fX11_isMended fu b0 t1 t2 M) fun r_37 =>
  if r_37 = 0 then
    lt (x2 + 1) fun x2_55 =>
    k18 x2_55
  else
    fX11_mendable_j43 fu x2 M
set_option maxRecDepth 100000 in
set_option maxHeartbeats 4000000 in
theorem wX11_mendable_j37 {r : Int32}  {k18 : Int32 → Option Int32} {a0 : Nat} {x1 : Int32} {x2 : Int32} {b0 : Nat} {t1 : Int32} {t2 : Int32} {M : Mm} (B : Bx p s m args c cX11_mendable 3 RX11 E L) (hr : meth.sig.returnType = (some .int)) (hlk : meth.locks = false) (ih18 : ∀ (x2 : Int32), k18 x2 = some r → ∀ (H : Heap) (locs : List Loc) (ls : Array Slot), Rx s E L M H locs → lv_has ls 3 [(0, .ref a0), (1, .int x1), (2, .int x2)] → W p l e (rmD (d + 6)) s m args below meth c H locs 0 0 (MQ below (QcM E L (some (.int r)) M) args s 0 0 E.2.2.2) (F0 m 18 ls [])) (h0 : At L a0 T11) (g0 : At L b0 T11) (h : fX11_mendable_j37 fu k18 a0 x1 x2 b0 t1 t2 M = some r) (hR : Rx s E L M H locs) (hl : lv_has ls 3 [(0, .ref a0), (1, .int x1), (2, .int x2)]) : W p l e (rmD (d + 6)) s m args below meth c H locs 0 0 (MQ below (QcM E L (some (.int r)) M) args s 0 0 E.2.2.2) (F0 m 37 ls [.int t2, .int t1, .ref b0]) := by
  have hx := B.1
  have hb := B.2.1
  unfold fX11_mendable_j37 at h
  obtain ⟨r_37, hc_37, h⟩ := bi_el h
  refine iv_X11_303 B hR (g0.at0 rfl) hl.1 (mX11_isMended fu _ g0 hc_37) (Nat.le_of_ble_eq_true rfl) dX11_mendable_37 (fun H locs hR => ?_)
  refine lv_if_eq (tgt := 55) hx hb dX11_mendable_40 (by decide) (fun c_40 => ?_) (fun c_40 => ?_)
  · rw [if_pos c_40] at h
    obtain ⟨x2_55, ex2_55, h⟩ := lt_el h
    refine lv_iinc (v := x2_55) (lv' := [(2, .int x2_55), (0, .ref a0), (1, .int x1)]) hx hb dX11_mendable_55 hl (k := 2) rfl (by rw [ex2_55]; rfl) (by decide) rfl (fun ls hl => ?_)
    refine lv_goto (tgt := 18) hx hb dX11_mendable_58 (by decide) ?_
    exact ih18 x2_55 h _ _ _ hR (lv_sub hl [1, 2, 0] rfl)
  · rw [if_neg c_40] at h
    exact wX11_mendable_j43 B hr hlk  h hR (lv_sub hl [2] rfl)
def fX11_mendable_b18 (fu : Nat) (k18 : Int32 → Option Int32) (a0 : Nat) (x1 : Int32) (x2 : Int32) (M : Mm) : Option Int32 :=
  if 6 ≤ x2 then
    fX11_mendable_j61 fu M
  else
    if x2 = 0 then
      fX11_mendable_j37 fu k18 a0 x1 x2 a0 x1 5 M
    else
      fX11_mendable_j37 fu k18 a0 x1 x2 a0 x1 (x2 - 1) M
set_option maxRecDepth 100000 in
set_option maxHeartbeats 4000000 in
theorem wX11_mendable_b18 {r : Int32}   {k18 : Int32 → Option Int32} {a0 : Nat} {x1 : Int32} {x2 : Int32} {M : Mm} (B : Bx p s m args c cX11_mendable 3 RX11 E L) (hr : meth.sig.returnType = (some .int)) (hlk : meth.locks = false)  (ih18 : ∀ (x2 : Int32), k18 x2 = some r → ∀ (H : Heap) (locs : List Loc) (ls : Array Slot), Rx s E L M H locs → lv_has ls 3 [(0, .ref a0), (1, .int x1), (2, .int x2)] → W p l e (rmD (d + 6)) s m args below meth c H locs 0 0 (MQ below (QcM E L (some (.int r)) M) args s 0 0 E.2.2.2) (F0 m 18 ls [])) (h0 : At L a0 T11) (h : fX11_mendable_b18 fu k18 a0 x1 x2 M = some r) (hR : Rx s E L M H locs) (hl : lv_has ls 3 [(0, .ref a0), (1, .int x1), (2, .int x2)]) : W p l e (rmD (d + 6)) s m args below meth c H locs 0 0 (MQ below (QcM E L (some (.int r)) M) args s 0 0 E.2.2.2) (F0 m 18 ls []) := by
  have hx := B.1
  have hb := B.2.1
  unfold fX11_mendable_b18 at h
  refine lv_iload_n hx hb dX11_mendable_18 rfl (lv_at hl 2 rfl) ?_
  refine lv_bipush (v := 6) hx hb dX11_mendable_19 (by decide) ?_
  refine lv_icmp_ge (tgt := 61) hx hb dX11_mendable_21 (by decide) (fun c_21 => ?_) (fun c_21 => ?_)
  · rw [if_pos c_21] at h
    exact wX11_mendable_j61 B hr hlk  h hR (lv_sub hl [] rfl)
  · rw [if_neg c_21] at h
    refine lv_aload_n hx hb dX11_mendable_24 rfl (lv_at hl 0 rfl) ?_
    refine lv_iload_n hx hb dX11_mendable_25 rfl (lv_at hl 1 rfl) ?_
    refine lv_iload_n hx hb dX11_mendable_26 rfl (lv_at hl 2 rfl) ?_
    refine lv_if_ne (tgt := 34) hx hb dX11_mendable_27 (by decide) (fun c_27 => ?_) (fun c_27 => ?_)
    · rw [if_neg c_27] at h
      refine lv_iload_n hx hb dX11_mendable_34 rfl (lv_at hl 2 rfl) ?_
      refine lv_iconst (v := 1) hx hb dX11_mendable_35 (by decide) ?_
      refine lv_isub hx hb dX11_mendable_36 ?_
      exact wX11_mendable_j37 B hr hlk ih18 h0 h0 h hR hl
    · rw [if_pos c_27] at h
      refine lv_iconst (v := 5) hx hb dX11_mendable_30 (by decide) ?_
      refine lv_goto (tgt := 37) hx hb dX11_mendable_31 (by decide) ?_
      exact wX11_mendable_j37 B hr hlk ih18 h0 h0 h hR hl
def fX11_mendable_l18 (fu : Nat) (a0 : Nat) (x1 : Int32) (M : Mm) (x2 : Int32) : Option Int32 := lp (fun (rec : Int32 → Option Int32) (s : Int32) => fX11_mendable_b18 fu  (fun x2 => rec (x2)) a0 x1 s M) fu (x2)
set_option maxRecDepth 100000 in
set_option maxHeartbeats 4000000 in
theorem wX11_mendable_l18 {r : Int32}   {a0 : Nat} {x1 : Int32} {x2 : Int32} {M : Mm} (B : Bx p s m args c cX11_mendable 3 RX11 E L) (hr : meth.sig.returnType = (some .int)) (hlk : meth.locks = false)  (h0 : At L a0 T11) (h : fX11_mendable_l18 fu a0 x1 M x2 = some r) (hR : Rx s E L M H locs) (hl : lv_has ls 3 [(0, .ref a0), (1, .int x1), (2, .int x2)]) : W p l e (rmD (d + 6)) s m args below meth c H locs 0 0 (MQ below (QcM E L (some (.int r)) M) args s 0 0 E.2.2.2) (F0 m 18 ls []) := by
  refine lp_G (G := fun z : Int32 => ∀ (H : Heap) (locs : List Loc) (ls : Array Slot), Rx s E L M H locs → lv_has ls 3 [(0, .ref a0), (1, .int x1), (2, .int z)] → W p l e (rmD (d + 6)) s m args below meth c H locs 0 0 (MQ below (QcM E L (some (.int r)) M) args s 0 0 E.2.2.2) (F0 m 18 ls [])) (fun rec ih z h H locs ls hR hl => ?_) fu _ h H locs ls hR hl
  exact wX11_mendable_b18 B hr hlk  (fun x2 h => ih (x2) h) h0 h hR hl
def fX11_mendable (fu : Nat) (a0 : Nat) (x1 : Int32) (M : Mm) : Option Int32 :=
  bi (fX11_pages fu a0 M) fun r_3 =>
  bi (fX11_isIn fu x1 0 (r_3 - 1)) fun r_8 =>
  if r_8 = 0 then
    some (-1)
  else
    fX11_mendable_l18 fu a0 x1 M 0
set_option maxRecDepth 100000 in
set_option maxHeartbeats 4000000 in
theorem mX11_mendable {l : Launch} {E : Ge} {L : Lay} (fu d : Nat) {a0 : Nat} {x1 : Int32} {M : Mm} {r : Int32}  (h0 : At L a0 T11) (h : fX11_mendable fu a0 x1 M = some r) : Ct l E L yX11_mendable cX11_mendable 3 (some .int) (d + 6) [.ref a0, .int x1] M (some (.int r)) M := by
  refine Ct.of (by decide) ?_
  intro p e s m below meth c hr hlk B hR
  have B : Bx p s m _ c cX11_mendable 3 RX11 E L := B
  have hx := B.1
  have hb := B.2.1
  have hl := lv_entry ([.ref a0, .int x1]) (n := 3) (Nat.le_of_ble_eq_true rfl)
  rw [lg_entry_eq]
  generalize (lg_sl ([.ref a0, .int x1]) ++ List.replicate (3 - (lg_sl ([.ref a0, .int x1])).length) Slot.unset).toArray = ls at hl ⊢
  have hl : lv_has ls 3 [(0, .ref a0), (1, .int x1)] := hl
  unfold fX11_mendable at h
  refine lv_iload_n hx hb dX11_mendable_0 rfl (lv_at hl 1 rfl) ?_
  refine lv_iconst (v := 0) hx hb dX11_mendable_1 (by decide) ?_
  refine lv_aload_n hx hb dX11_mendable_2 rfl (lv_at hl 0 rfl) ?_
  obtain ⟨r_3, hc_3, h⟩ := bi_el h
  refine iv_X11_291 B hR (h0.at0 rfl) hl.1 (mX11_pages fu _ h0 hc_3) (Nat.le_of_ble_eq_true rfl) dX11_mendable_3 (fun H locs hR => ?_)
  refine lv_iconst (v := 1) hx hb dX11_mendable_6 (by decide) ?_
  refine lv_isub hx hb dX11_mendable_7 ?_
  obtain ⟨r_8, hc_8, h⟩ := bi_el h
  refine is_X11_163 B hR hl.1 (mX11_isIn fu _  hc_8) (Nat.le_of_ble_eq_true rfl) dX11_mendable_8 (fun H locs hR => ?_)
  refine lv_if_ne (tgt := 16) hx hb dX11_mendable_11 (by decide) (fun c_11 => ?_) (fun c_11 => ?_)
  · rw [if_neg c_11] at h
    refine lv_iconst (v := 0) hx hb dX11_mendable_16 (by decide) ?_
    refine lv_istore_n (lv' := [(2, .int 0), (0, .ref a0), (1, .int x1)]) hx hb dX11_mendable_17 rfl hl (by decide) rfl (fun ls hl => ?_)
    exact wX11_mendable_l18 B hr hlk h0 h hR (lv_sub hl [1, 2, 0] rfl)
  · rw [if_pos c_11] at h
    refine lv_iconst (v := (-1)) hx hb dX11_mendable_14 (by decide) ?_
    exact r_iretP B hR hr hlk h dX11_mendable_15
def fX11_isAll_j29 (fu : Nat) (M : Mm) : Option Int32 :=
  some 1
set_option maxRecDepth 100000 in
set_option maxHeartbeats 4000000 in
theorem wX11_isAll_j29 {r : Int32}    {M : Mm} (B : Bx p s m args c cX11_isAll 5 RX11 E L) (hr : meth.sig.returnType = (some .boolean)) (hlk : meth.locks = false)   (h : fX11_isAll_j29 fu M = some r) (hR : Rx s E L M H locs) (hl : lv_has ls 5 []) : W p l e (rmD (d + 2)) s m args below meth c H locs 0 0 (MQ below (QcM E L (some (.int r)) M) args s 0 0 E.2.2.2) (F0 m 29 ls []) := by
  have hx := B.1
  have hb := B.2.1
  unfold fX11_isAll_j29 at h
  refine lv_iconst (v := 1) hx hb dX11_isAll_29 (by decide) ?_
  exact r_zretP B hR hr hlk (Or.inr rfl) h dX11_isAll_30
def fX11_isAll_j21 (fu : Nat) (M : Mm) : Option Int32 :=
  some 0
set_option maxRecDepth 100000 in
set_option maxHeartbeats 4000000 in
theorem wX11_isAll_j21 {r : Int32}    {M : Mm} (B : Bx p s m args c cX11_isAll 5 RX11 E L) (hr : meth.sig.returnType = (some .boolean)) (hlk : meth.locks = false)   (h : fX11_isAll_j21 fu M = some r) (hR : Rx s E L M H locs) (hl : lv_has ls 5 []) : W p l e (rmD (d + 2)) s m args below meth c H locs 0 0 (MQ below (QcM E L (some (.int r)) M) args s 0 0 E.2.2.2) (F0 m 21 ls []) := by
  have hx := B.1
  have hb := B.2.1
  unfold fX11_isAll_j21 at h
  refine lv_iconst (v := 0) hx hb dX11_isAll_21 (by decide) ?_
  exact r_zretP B hR hr hlk (Or.inl rfl) h dX11_isAll_22
def fX11_isAll_b3 (fu : Nat) (k3 : Int32 → Option Int32) (a0 : Nat) (x1 : Int32) (x2 : Int32) (x3 : Int32) (x4 : Int32) (M : Mm) : Option Int32 :=
  if (x2 + x3) ≤ x4 then
    fX11_isAll_j29 fu M
  else
    bi (fX11_wantedAt fu a0 x4 M) fun r_14 =>
    if r_14 = x1 then
      lt (x4 + 1) fun x4_23 =>
      k3 x4_23
    else
      fX11_isAll_j21 fu M
set_option maxRecDepth 100000 in
set_option maxHeartbeats 4000000 in
theorem wX11_isAll_b3 {r : Int32}   {k3 : Int32 → Option Int32} {a0 : Nat} {x1 : Int32} {x2 : Int32} {x3 : Int32} {x4 : Int32} {M : Mm} (B : Bx p s m args c cX11_isAll 5 RX11 E L) (hr : meth.sig.returnType = (some .boolean)) (hlk : meth.locks = false)  (ih3 : ∀ (x4 : Int32), k3 x4 = some r → ∀ (H : Heap) (locs : List Loc) (ls : Array Slot), Rx s E L M H locs → lv_has ls 5 [(0, .ref a0), (1, .int x1), (2, .int x2), (3, .int x3), (4, .int x4)] → W p l e (rmD (d + 2)) s m args below meth c H locs 0 0 (MQ below (QcM E L (some (.int r)) M) args s 0 0 E.2.2.2) (F0 m 3 ls [])) (h0 : At L a0 T11) (h : fX11_isAll_b3 fu k3 a0 x1 x2 x3 x4 M = some r) (hR : Rx s E L M H locs) (hl : lv_has ls 5 [(0, .ref a0), (1, .int x1), (2, .int x2), (3, .int x3), (4, .int x4)]) : W p l e (rmD (d + 2)) s m args below meth c H locs 0 0 (MQ below (QcM E L (some (.int r)) M) args s 0 0 E.2.2.2) (F0 m 3 ls []) := by
  have hx := B.1
  have hb := B.2.1
  unfold fX11_isAll_b3 at h
  refine lv_iload hx hb dX11_isAll_3 (lv_at hl 4 rfl) ?_
  refine lv_iload_n hx hb dX11_isAll_5 rfl (lv_at hl 2 rfl) ?_
  refine lv_iload_n hx hb dX11_isAll_6 rfl (lv_at hl 3 rfl) ?_
  refine lv_iadd hx hb dX11_isAll_7 ?_
  refine lv_icmp_ge (tgt := 29) hx hb dX11_isAll_8 (by decide) (fun c_8 => ?_) (fun c_8 => ?_)
  · rw [if_pos c_8] at h
    exact wX11_isAll_j29 B hr hlk  h hR (lv_sub hl [] rfl)
  · rw [if_neg c_8] at h
    refine lv_aload_n hx hb dX11_isAll_11 rfl (lv_at hl 0 rfl) ?_
    refine lv_iload hx hb dX11_isAll_12 (lv_at hl 4 rfl) ?_
    obtain ⟨r_14, hc_14, h⟩ := bi_el h
    refine iv_X11_285 B hR (h0.at0 rfl) hl.1 (mX11_wantedAt fu _ h0 hc_14) (Nat.le_of_ble_eq_true rfl) dX11_isAll_14 (fun H locs hR => ?_)
    refine lv_iload_n hx hb dX11_isAll_17 rfl (lv_at hl 1 rfl) ?_
    refine lv_icmp_eq (tgt := 23) hx hb dX11_isAll_18 (by decide) (fun c_18 => ?_) (fun c_18 => ?_)
    · rw [if_pos c_18] at h
      obtain ⟨x4_23, ex4_23, h⟩ := lt_el h
      refine lv_iinc (v := x4_23) (lv' := [(4, .int x4_23), (0, .ref a0), (1, .int x1), (2, .int x2), (3, .int x3)]) hx hb dX11_isAll_23 hl (k := 4) rfl (by rw [ex4_23]; rfl) (by decide) rfl (fun ls hl => ?_)
      refine lv_goto (tgt := 3) hx hb dX11_isAll_26 (by decide) ?_
      exact ih3 x4_23 h _ _ _ hR (lv_sub hl [1, 2, 3, 4, 0] rfl)
    · rw [if_neg c_18] at h
      exact wX11_isAll_j21 B hr hlk  h hR (lv_sub hl [] rfl)
def fX11_isAll_l3 (fu : Nat) (a0 : Nat) (x1 : Int32) (x2 : Int32) (x3 : Int32) (M : Mm) (x4 : Int32) : Option Int32 := lp (fun (rec : Int32 → Option Int32) (s : Int32) => fX11_isAll_b3 fu  (fun x4 => rec (x4)) a0 x1 x2 x3 s M) fu (x4)
set_option maxRecDepth 100000 in
set_option maxHeartbeats 4000000 in
theorem wX11_isAll_l3 {r : Int32}   {a0 : Nat} {x1 : Int32} {x2 : Int32} {x3 : Int32} {x4 : Int32} {M : Mm} (B : Bx p s m args c cX11_isAll 5 RX11 E L) (hr : meth.sig.returnType = (some .boolean)) (hlk : meth.locks = false)  (h0 : At L a0 T11) (h : fX11_isAll_l3 fu a0 x1 x2 x3 M x4 = some r) (hR : Rx s E L M H locs) (hl : lv_has ls 5 [(0, .ref a0), (1, .int x1), (2, .int x2), (3, .int x3), (4, .int x4)]) : W p l e (rmD (d + 2)) s m args below meth c H locs 0 0 (MQ below (QcM E L (some (.int r)) M) args s 0 0 E.2.2.2) (F0 m 3 ls []) := by
  refine lp_G (G := fun z : Int32 => ∀ (H : Heap) (locs : List Loc) (ls : Array Slot), Rx s E L M H locs → lv_has ls 5 [(0, .ref a0), (1, .int x1), (2, .int x2), (3, .int x3), (4, .int z)] → W p l e (rmD (d + 2)) s m args below meth c H locs 0 0 (MQ below (QcM E L (some (.int r)) M) args s 0 0 E.2.2.2) (F0 m 3 ls [])) (fun rec ih z h H locs ls hR hl => ?_) fu _ h H locs ls hR hl
  exact wX11_isAll_b3 B hr hlk  (fun x4 h => ih (x4) h) h0 h hR hl
def fX11_isAll (fu : Nat) (a0 : Nat) (x1 : Int32) (x2 : Int32) (x3 : Int32) (M : Mm) : Option Int32 :=
  fX11_isAll_l3 fu a0 x1 x2 x3 M x2
set_option maxRecDepth 100000 in
set_option maxHeartbeats 4000000 in
theorem mX11_isAll {l : Launch} {E : Ge} {L : Lay} (fu d : Nat) {a0 : Nat} {x1 : Int32} {x2 : Int32} {x3 : Int32} {M : Mm} {r : Int32}  (h0 : At L a0 T11) (h : fX11_isAll fu a0 x1 x2 x3 M = some r) : Ct l E L yX11_isAll cX11_isAll 5 (some .boolean) (d + 2) [.ref a0, .int x1, .int x2, .int x3] M (some (.int r)) M := by
  refine Ct.of (by decide) ?_
  intro p e s m below meth c hr hlk B hR
  have B : Bx p s m _ c cX11_isAll 5 RX11 E L := B
  have hx := B.1
  have hb := B.2.1
  have hl := lv_entry ([.ref a0, .int x1, .int x2, .int x3]) (n := 5) (Nat.le_of_ble_eq_true rfl)
  rw [lg_entry_eq]
  generalize (lg_sl ([.ref a0, .int x1, .int x2, .int x3]) ++ List.replicate (5 - (lg_sl ([.ref a0, .int x1, .int x2, .int x3])).length) Slot.unset).toArray = ls at hl ⊢
  have hl : lv_has ls 5 [(0, .ref a0), (1, .int x1), (2, .int x2), (3, .int x3)] := hl
  unfold fX11_isAll at h
  refine lv_iload_n hx hb dX11_isAll_0 rfl (lv_at hl 2 rfl) ?_
  refine lv_istore (lv' := [(4, .int x2), (0, .ref a0), (1, .int x1), (2, .int x2), (3, .int x3)]) hx hb dX11_isAll_1 hl (by decide) rfl (fun ls hl => ?_)
  exact wX11_isAll_l3 B hr hlk h0 h hR (lv_sub hl [1, 2, 3, 4, 0] rfl)
def fX11_block_j16 (fu : Nat) (M : Mm) : Option Int32 :=
  some (-1)
set_option maxRecDepth 100000 in
set_option maxHeartbeats 4000000 in
theorem wX11_block_j16 {r : Int32}    {M : Mm} (B : Bx p s m args c cX11_block 5 RX11 E L) (hr : meth.sig.returnType = (some .int)) (hlk : meth.locks = false)   (h : fX11_block_j16 fu M = some r) (hR : Rx s E L M H locs) (hl : lv_has ls 5 []) : W p l e (rmD (d + 3)) s m args below meth c H locs 0 0 (MQ below (QcM E L (some (.int r)) M) args s 0 0 E.2.2.2) (F0 m 16 ls []) := by
  have hx := B.1
  have hb := B.2.1
  unfold fX11_block_j16 at h
  refine lv_iconst (v := (-1)) hx hb dX11_block_16 (by decide) ?_
  exact r_iretP B hR hr hlk h dX11_block_17
def fX11_block_j80 (fu : Nat) (M : Mm) : Option Int32 :=
  some (-1)
set_option maxRecDepth 100000 in
set_option maxHeartbeats 4000000 in
theorem wX11_block_j80 {r : Int32}    {M : Mm} (B : Bx p s m args c cX11_block 5 RX11 E L) (hr : meth.sig.returnType = (some .int)) (hlk : meth.locks = false)   (h : fX11_block_j80 fu M = some r) (hR : Rx s E L M H locs) (hl : lv_has ls 5 []) : W p l e (rmD (d + 3)) s m args below meth c H locs 0 0 (MQ below (QcM E L (some (.int r)) M) args s 0 0 E.2.2.2) (F0 m 80 ls []) := by
  have hx := B.1
  have hb := B.2.1
  unfold fX11_block_j80 at h
  refine lv_iconst (v := (-1)) hx hb dX11_block_80 (by decide) ?_
  exact r_iretP B hR hr hlk h dX11_block_81
def fX11_block_j73 (fu : Nat) (k23 : Int32 → Option Int32) (a0 : Nat) (x1 : Int32) (x2 : Int32) (x3 : Int32) (M : Mm) : Option Int32 :=
  lt ((x3 / 2)) fun x3_76 =>
  k23 x3_76
set_option maxRecDepth 100000 in
set_option maxHeartbeats 4000000 in
theorem wX11_block_j73 {r : Int32}  {k23 : Int32 → Option Int32} {a0 : Nat} {x1 : Int32} {x2 : Int32} {x3 : Int32} {M : Mm} (B : Bx p s m args c cX11_block 5 RX11 E L) (hr : meth.sig.returnType = (some .int)) (hlk : meth.locks = false) (ih23 : ∀ (x3 : Int32), k23 x3 = some r → ∀ (H : Heap) (locs : List Loc) (ls : Array Slot), Rx s E L M H locs → lv_has ls 5 [(0, .ref a0), (1, .int x1), (2, .int x2), (3, .int x3)] → W p l e (rmD (d + 3)) s m args below meth c H locs 0 0 (MQ below (QcM E L (some (.int r)) M) args s 0 0 E.2.2.2) (F0 m 23 ls [])) (h0 : At L a0 T11) (h : fX11_block_j73 fu k23 a0 x1 x2 x3 M = some r) (hR : Rx s E L M H locs) (hl : lv_has ls 5 [(0, .ref a0), (1, .int x1), (2, .int x2), (3, .int x3)]) : W p l e (rmD (d + 3)) s m args below meth c H locs 0 0 (MQ below (QcM E L (some (.int r)) M) args s 0 0 E.2.2.2) (F0 m 73 ls []) := by
  have hx := B.1
  have hb := B.2.1
  unfold fX11_block_j73 at h
  refine lv_iload_n hx hb dX11_block_73 rfl (lv_at hl 3 rfl) ?_
  refine lv_iconst (v := 2) hx hb dX11_block_74 (by decide) ?_
  refine lv_idiv hx hb dX11_block_75 (by decide) ?_
  obtain ⟨x3_76, ex3_76, h⟩ := lt_el h
  refine r_nmI ex3_76 ?_
  refine lv_istore_n (lv' := [(3, .int x3_76), (0, .ref a0), (1, .int x1), (2, .int x2)]) hx hb dX11_block_76 rfl hl (by decide) rfl (fun ls hl => ?_)
  refine lv_goto (tgt := 23) hx hb dX11_block_77 (by decide) ?_
  exact ih23 x3_76 h _ _ _ hR (lv_sub hl [1, 2, 3, 0] rfl)
def fX11_block_j63 (fu : Nat) (t0 : Int32) (M : Mm) : Option Int32 :=
  some t0
set_option maxRecDepth 100000 in
set_option maxHeartbeats 4000000 in
theorem wX11_block_j63 {r : Int32}   {t0 : Int32} {M : Mm} (B : Bx p s m args c cX11_block 5 RX11 E L) (hr : meth.sig.returnType = (some .int)) (hlk : meth.locks = false)   (h : fX11_block_j63 fu t0 M = some r) (hR : Rx s E L M H locs) (hl : lv_has ls 5 []) : W p l e (rmD (d + 3)) s m args below meth c H locs 0 0 (MQ below (QcM E L (some (.int r)) M) args s 0 0 E.2.2.2) (F0 m 63 ls [.int t0]) := by
  have hx := B.1
  have hb := B.2.1
  unfold fX11_block_j63 at h
  exact r_iretP B hR hr hlk h dX11_block_63
def fX11_block_j53 (fu : Nat) (x2 : Int32) (x3 : Int32) (x4 : Int32) (M : Mm) : Option Int32 :=
  if x2 = 0 then
    fX11_block_j63 fu x3 M
  else
    fX11_block_j63 fu x4 M
set_option maxRecDepth 100000 in
set_option maxHeartbeats 4000000 in
theorem wX11_block_j53 {r : Int32}   {x2 : Int32} {x3 : Int32} {x4 : Int32} {M : Mm} (B : Bx p s m args c cX11_block 5 RX11 E L) (hr : meth.sig.returnType = (some .int)) (hlk : meth.locks = false)   (h : fX11_block_j53 fu x2 x3 x4 M = some r) (hR : Rx s E L M H locs) (hl : lv_has ls 5 [(2, .int x2), (3, .int x3), (4, .int x4)]) : W p l e (rmD (d + 3)) s m args below meth c H locs 0 0 (MQ below (QcM E L (some (.int r)) M) args s 0 0 E.2.2.2) (F0 m 53 ls []) := by
  have hx := B.1
  have hb := B.2.1
  unfold fX11_block_j53 at h
  refine lv_iload_n hx hb dX11_block_53 rfl (lv_at hl 0 rfl) ?_
  refine lv_if_ne (tgt := 61) hx hb dX11_block_54 (by decide) (fun c_54 => ?_) (fun c_54 => ?_)
  · rw [if_neg c_54] at h
    refine lv_iload hx hb dX11_block_61 (lv_at hl 2 rfl) ?_
    exact wX11_block_j63 B hr hlk  h hR (lv_sub hl [] rfl)
  · rw [if_pos c_54] at h
    refine lv_iload_n hx hb dX11_block_57 rfl (lv_at hl 1 rfl) ?_
    refine lv_goto (tgt := 63) hx hb dX11_block_58 (by decide) ?_
    exact wX11_block_j63 B hr hlk  h hR (lv_sub hl [] rfl)
def fX11_block_b30 (fu : Nat) (k23 : Int32 → Option Int32) (k30 : Int32 → Option Int32) (a0 : Nat) (x1 : Int32) (x2 : Int32) (x3 : Int32) (x4 : Int32) (M : Mm) : Option Int32 :=
  bi (fX11_addresses fu a0 M) fun r_33 =>
  if r_33 ≤ x4 then
    fX11_block_j73 fu k23 a0 x1 x2 x3 M
  else
    bi (fX11_isAll fu a0 x1 x4 x3 M) fun r_44 =>
    if r_44 = 0 then
      lt ((x4 + x3)) fun x4_68 =>
      k30 x4_68
    else
      fX11_block_j53 fu x2 x3 x4 M
set_option maxRecDepth 100000 in
set_option maxHeartbeats 4000000 in
theorem wX11_block_b30 {r : Int32}  {k23 : Int32 → Option Int32} {k30 : Int32 → Option Int32} {a0 : Nat} {x1 : Int32} {x2 : Int32} {x3 : Int32} {x4 : Int32} {M : Mm} (B : Bx p s m args c cX11_block 5 RX11 E L) (hr : meth.sig.returnType = (some .int)) (hlk : meth.locks = false) (ih23 : ∀ (x3 : Int32), k23 x3 = some r → ∀ (H : Heap) (locs : List Loc) (ls : Array Slot), Rx s E L M H locs → lv_has ls 5 [(0, .ref a0), (1, .int x1), (2, .int x2), (3, .int x3)] → W p l e (rmD (d + 3)) s m args below meth c H locs 0 0 (MQ below (QcM E L (some (.int r)) M) args s 0 0 E.2.2.2) (F0 m 23 ls [])) (ih30 : ∀ (x4 : Int32), k30 x4 = some r → ∀ (H : Heap) (locs : List Loc) (ls : Array Slot), Rx s E L M H locs → lv_has ls 5 [(0, .ref a0), (1, .int x1), (2, .int x2), (3, .int x3), (4, .int x4)] → W p l e (rmD (d + 3)) s m args below meth c H locs 0 0 (MQ below (QcM E L (some (.int r)) M) args s 0 0 E.2.2.2) (F0 m 30 ls [])) (h0 : At L a0 T11) (h : fX11_block_b30 fu k23 k30 a0 x1 x2 x3 x4 M = some r) (hR : Rx s E L M H locs) (hl : lv_has ls 5 [(0, .ref a0), (1, .int x1), (2, .int x2), (3, .int x3), (4, .int x4)]) : W p l e (rmD (d + 3)) s m args below meth c H locs 0 0 (MQ below (QcM E L (some (.int r)) M) args s 0 0 E.2.2.2) (F0 m 30 ls []) := by
  have hx := B.1
  have hb := B.2.1
  unfold fX11_block_b30 at h
  refine lv_iload hx hb dX11_block_30 (lv_at hl 4 rfl) ?_
  refine lv_aload_n hx hb dX11_block_32 rfl (lv_at hl 0 rfl) ?_
  obtain ⟨r_33, hc_33, h⟩ := bi_el h
  refine iv_X11_240 B hR (h0.at0 rfl) hl.1 (mX11_addresses fu _ h0 hc_33) (Nat.le_of_ble_eq_true rfl) dX11_block_33 (fun H locs hR => ?_)
  refine lv_icmp_ge (tgt := 73) hx hb dX11_block_36 (by decide) (fun c_36 => ?_) (fun c_36 => ?_)
  · rw [if_pos c_36] at h
    exact wX11_block_j73 B hr hlk ih23 h0 h hR (lv_sub hl [0, 1, 2, 3] rfl)
  · rw [if_neg c_36] at h
    refine lv_aload_n hx hb dX11_block_39 rfl (lv_at hl 0 rfl) ?_
    refine lv_iload_n hx hb dX11_block_40 rfl (lv_at hl 1 rfl) ?_
    refine lv_iload hx hb dX11_block_41 (lv_at hl 4 rfl) ?_
    refine lv_iload_n hx hb dX11_block_43 rfl (lv_at hl 3 rfl) ?_
    obtain ⟨r_44, hc_44, h⟩ := bi_el h
    refine iv_X11_309 B hR (h0.at0 rfl) hl.1 (mX11_isAll fu _ h0 hc_44) (Nat.le_of_ble_eq_true rfl) dX11_block_44 (fun H locs hR => ?_)
    refine lv_if_ne (tgt := 53) hx hb dX11_block_47 (by decide) (fun c_47 => ?_) (fun c_47 => ?_)
    · rw [if_neg c_47] at h
      exact wX11_block_j53 B hr hlk  h hR (lv_sub hl [2, 3, 4] rfl)
    · rw [if_pos c_47] at h
      refine lv_goto (tgt := 64) hx hb dX11_block_50 (by decide) ?_
      refine lv_iload hx hb dX11_block_64 (lv_at hl 4 rfl) ?_
      refine lv_iload_n hx hb dX11_block_66 rfl (lv_at hl 3 rfl) ?_
      refine lv_iadd hx hb dX11_block_67 ?_
      obtain ⟨x4_68, ex4_68, h⟩ := lt_el h
      refine r_nmI ex4_68 ?_
      refine lv_istore (lv' := [(4, .int x4_68), (0, .ref a0), (1, .int x1), (2, .int x2), (3, .int x3)]) hx hb dX11_block_68 hl (by decide) rfl (fun ls hl => ?_)
      refine lv_goto (tgt := 30) hx hb dX11_block_70 (by decide) ?_
      exact ih30 x4_68 h _ _ _ hR (lv_sub hl [1, 2, 3, 4, 0] rfl)
def fX11_block_l30 (fu : Nat) (k23 : Int32 → Option Int32) (a0 : Nat) (x1 : Int32) (x2 : Int32) (x3 : Int32) (M : Mm) (x4 : Int32) : Option Int32 := lp (fun (rec : Int32 → Option Int32) (s : Int32) => fX11_block_b30 fu k23 (fun x4 => rec (x4)) a0 x1 x2 x3 s M) fu (x4)
set_option maxRecDepth 100000 in
set_option maxHeartbeats 4000000 in
theorem wX11_block_l30 {r : Int32}  {k23 : Int32 → Option Int32} {a0 : Nat} {x1 : Int32} {x2 : Int32} {x3 : Int32} {x4 : Int32} {M : Mm} (B : Bx p s m args c cX11_block 5 RX11 E L) (hr : meth.sig.returnType = (some .int)) (hlk : meth.locks = false) (ih23 : ∀ (x3 : Int32), k23 x3 = some r → ∀ (H : Heap) (locs : List Loc) (ls : Array Slot), Rx s E L M H locs → lv_has ls 5 [(0, .ref a0), (1, .int x1), (2, .int x2), (3, .int x3)] → W p l e (rmD (d + 3)) s m args below meth c H locs 0 0 (MQ below (QcM E L (some (.int r)) M) args s 0 0 E.2.2.2) (F0 m 23 ls [])) (h0 : At L a0 T11) (h : fX11_block_l30 fu k23 a0 x1 x2 x3 M x4 = some r) (hR : Rx s E L M H locs) (hl : lv_has ls 5 [(0, .ref a0), (1, .int x1), (2, .int x2), (3, .int x3), (4, .int x4)]) : W p l e (rmD (d + 3)) s m args below meth c H locs 0 0 (MQ below (QcM E L (some (.int r)) M) args s 0 0 E.2.2.2) (F0 m 30 ls []) := by
  refine lp_G (G := fun z : Int32 => ∀ (H : Heap) (locs : List Loc) (ls : Array Slot), Rx s E L M H locs → lv_has ls 5 [(0, .ref a0), (1, .int x1), (2, .int x2), (3, .int x3), (4, .int z)] → W p l e (rmD (d + 3)) s m args below meth c H locs 0 0 (MQ below (QcM E L (some (.int r)) M) args s 0 0 E.2.2.2) (F0 m 30 ls [])) (fun rec ih z h H locs ls hR hl => ?_) fu _ h H locs ls hR hl
  exact wX11_block_b30 B hr hlk ih23 (fun x4 h => ih (x4) h) h0 h hR hl
def fX11_block_b23 (fu : Nat) (k23 : Int32 → Option Int32) (a0 : Nat) (x1 : Int32) (x2 : Int32) (x3 : Int32) (M : Mm) : Option Int32 :=
  if x3 ≤ 0 then
    fX11_block_j80 fu M
  else
    fX11_block_l30 fu k23 a0 x1 x2 x3 M 0
set_option maxRecDepth 100000 in
set_option maxHeartbeats 4000000 in
theorem wX11_block_b23 {r : Int32}   {k23 : Int32 → Option Int32} {a0 : Nat} {x1 : Int32} {x2 : Int32} {x3 : Int32} {M : Mm} (B : Bx p s m args c cX11_block 5 RX11 E L) (hr : meth.sig.returnType = (some .int)) (hlk : meth.locks = false)  (ih23 : ∀ (x3 : Int32), k23 x3 = some r → ∀ (H : Heap) (locs : List Loc) (ls : Array Slot), Rx s E L M H locs → lv_has ls 5 [(0, .ref a0), (1, .int x1), (2, .int x2), (3, .int x3)] → W p l e (rmD (d + 3)) s m args below meth c H locs 0 0 (MQ below (QcM E L (some (.int r)) M) args s 0 0 E.2.2.2) (F0 m 23 ls [])) (h0 : At L a0 T11) (h : fX11_block_b23 fu k23 a0 x1 x2 x3 M = some r) (hR : Rx s E L M H locs) (hl : lv_has ls 5 [(0, .ref a0), (1, .int x1), (2, .int x2), (3, .int x3)]) : W p l e (rmD (d + 3)) s m args below meth c H locs 0 0 (MQ below (QcM E L (some (.int r)) M) args s 0 0 E.2.2.2) (F0 m 23 ls []) := by
  have hx := B.1
  have hb := B.2.1
  unfold fX11_block_b23 at h
  refine lv_iload_n hx hb dX11_block_23 rfl (lv_at hl 3 rfl) ?_
  refine lv_if_le (tgt := 80) hx hb dX11_block_24 (by decide) (fun c_24 => ?_) (fun c_24 => ?_)
  · rw [if_pos c_24] at h
    exact wX11_block_j80 B hr hlk  h hR (lv_sub hl [] rfl)
  · rw [if_neg c_24] at h
    refine lv_iconst (v := 0) hx hb dX11_block_27 (by decide) ?_
    refine lv_istore (lv' := [(4, .int 0), (0, .ref a0), (1, .int x1), (2, .int x2), (3, .int x3)]) hx hb dX11_block_28 hl (by decide) rfl (fun ls hl => ?_)
    exact wX11_block_l30 B hr hlk ih23 h0 h hR (lv_sub hl [1, 2, 3, 4, 0] rfl)
def fX11_block_l23 (fu : Nat) (a0 : Nat) (x1 : Int32) (x2 : Int32) (M : Mm) (x3 : Int32) : Option Int32 := lp (fun (rec : Int32 → Option Int32) (s : Int32) => fX11_block_b23 fu  (fun x3 => rec (x3)) a0 x1 x2 s M) fu (x3)
set_option maxRecDepth 100000 in
set_option maxHeartbeats 4000000 in
theorem wX11_block_l23 {r : Int32}   {a0 : Nat} {x1 : Int32} {x2 : Int32} {x3 : Int32} {M : Mm} (B : Bx p s m args c cX11_block 5 RX11 E L) (hr : meth.sig.returnType = (some .int)) (hlk : meth.locks = false)  (h0 : At L a0 T11) (h : fX11_block_l23 fu a0 x1 x2 M x3 = some r) (hR : Rx s E L M H locs) (hl : lv_has ls 5 [(0, .ref a0), (1, .int x1), (2, .int x2), (3, .int x3)]) : W p l e (rmD (d + 3)) s m args below meth c H locs 0 0 (MQ below (QcM E L (some (.int r)) M) args s 0 0 E.2.2.2) (F0 m 23 ls []) := by
  refine lp_G (G := fun z : Int32 => ∀ (H : Heap) (locs : List Loc) (ls : Array Slot), Rx s E L M H locs → lv_has ls 5 [(0, .ref a0), (1, .int x1), (2, .int x2), (3, .int z)] → W p l e (rmD (d + 3)) s m args below meth c H locs 0 0 (MQ below (QcM E L (some (.int r)) M) args s 0 0 E.2.2.2) (F0 m 23 ls [])) (fun rec ih z h H locs ls hR hl => ?_) fu _ h H locs ls hR hl
  exact wX11_block_b23 B hr hlk  (fun x3 h => ih (x3) h) h0 h hR hl
def fX11_block (fu : Nat) (a0 : Nat) (x1 : Int32) (x2 : Int32) (M : Mm) : Option Int32 :=
  bi (fX11_isKind fu x1) fun r_1 =>
  if r_1 = 0 then
    fX11_block_j16 fu M
  else
    bi (fX11_isIn fu x2 0 1) fun r_10 =>
    if r_10 = 0 then
      fX11_block_j16 fu M
    else
      bi (fX11_addresses fu a0 M) fun r_19 =>
      fX11_block_l23 fu a0 x1 x2 M r_19
set_option maxRecDepth 100000 in
set_option maxHeartbeats 4000000 in
theorem mX11_block {l : Launch} {E : Ge} {L : Lay} (fu d : Nat) {a0 : Nat} {x1 : Int32} {x2 : Int32} {M : Mm} {r : Int32}  (h0 : At L a0 T11) (h : fX11_block fu a0 x1 x2 M = some r) : Ct l E L yX11_block cX11_block 5 (some .int) (d + 3) [.ref a0, .int x1, .int x2] M (some (.int r)) M := by
  refine Ct.of (by decide) ?_
  intro p e s m below meth c hr hlk B hR
  have B : Bx p s m _ c cX11_block 5 RX11 E L := B
  have hx := B.1
  have hb := B.2.1
  have hl := lv_entry ([.ref a0, .int x1, .int x2]) (n := 5) (Nat.le_of_ble_eq_true rfl)
  rw [lg_entry_eq]
  generalize (lg_sl ([.ref a0, .int x1, .int x2]) ++ List.replicate (5 - (lg_sl ([.ref a0, .int x1, .int x2])).length) Slot.unset).toArray = ls at hl ⊢
  have hl : lv_has ls 5 [(0, .ref a0), (1, .int x1), (2, .int x2)] := hl
  unfold fX11_block at h
  refine lv_iload_n hx hb dX11_block_0 rfl (lv_at hl 1 rfl) ?_
  obtain ⟨r_1, hc_1, h⟩ := bi_el h
  refine is_X11_306 B hR hl.1 (mX11_isKind fu _  hc_1) (Nat.le_of_ble_eq_true rfl) dX11_block_1 (fun H locs hR => ?_)
  refine lv_if_eq (tgt := 16) hx hb dX11_block_4 (by decide) (fun c_4 => ?_) (fun c_4 => ?_)
  · rw [if_pos c_4] at h
    exact wX11_block_j16 B hr hlk  h hR (lv_sub hl [] rfl)
  · rw [if_neg c_4] at h
    refine lv_iload_n hx hb dX11_block_7 rfl (lv_at hl 2 rfl) ?_
    refine lv_iconst (v := 0) hx hb dX11_block_8 (by decide) ?_
    refine lv_iconst (v := 1) hx hb dX11_block_9 (by decide) ?_
    obtain ⟨r_10, hc_10, h⟩ := bi_el h
    refine is_X11_163 B hR hl.1 (mX11_isIn fu _  hc_10) (Nat.le_of_ble_eq_true rfl) dX11_block_10 (fun H locs hR => ?_)
    refine lv_if_ne (tgt := 18) hx hb dX11_block_13 (by decide) (fun c_13 => ?_) (fun c_13 => ?_)
    · rw [if_neg c_13] at h
      refine lv_aload_n hx hb dX11_block_18 rfl (lv_at hl 0 rfl) ?_
      obtain ⟨r_19, hc_19, h⟩ := bi_el h
      refine iv_X11_240 B hR (h0.at0 rfl) hl.1 (mX11_addresses fu _ h0 hc_19) (Nat.le_of_ble_eq_true rfl) dX11_block_19 (fun H locs hR => ?_)
      refine lv_istore_n (lv' := [(3, .int r_19), (0, .ref a0), (1, .int x1), (2, .int x2)]) hx hb dX11_block_22 rfl hl (by decide) rfl (fun ls hl => ?_)
      exact wX11_block_l23 B hr hlk h0 h hR (lv_sub hl [1, 2, 3, 0] rfl)
    · rw [if_pos c_13] at h
      exact wX11_block_j16 B hr hlk  h hR (lv_sub hl [] rfl)
def fX11_bits_j63 (fu : Nat) (x2 : Int32) (M : Mm) : Option Int32 :=
  some x2
set_option maxRecDepth 100000 in
set_option maxHeartbeats 4000000 in
theorem wX11_bits_j63 {r : Int32}   {x2 : Int32} {M : Mm} (B : Bx p s m args c cX11_bits 5 RX11 E L) (hr : meth.sig.returnType = (some .int)) (hlk : meth.locks = false)   (h : fX11_bits_j63 fu x2 M = some r) (hR : Rx s E L M H locs) (hl : lv_has ls 5 [(2, .int x2)]) : W p l e (rmD (d + 5)) s m args below meth c H locs 0 0 (MQ below (QcM E L (some (.int r)) M) args s 0 0 E.2.2.2) (F0 m 63 ls []) := by
  have hx := B.1
  have hb := B.2.1
  unfold fX11_bits_j63 at h
  refine lv_iload_n hx hb dX11_bits_63 rfl (lv_at hl 0 rfl) ?_
  exact r_iretP B hR hr hlk h dX11_bits_64
def fX11_bits_j57 (fu : Nat) (k15 : Int32 → Int32 → Option Int32) (a0 : Nat) (x1 : Int32) (x2 : Int32) (x3 : Int32) (M : Mm) : Option Int32 :=
  lt (x3 + 1) fun x3_57 =>
  k15 x2 x3_57
set_option maxRecDepth 100000 in
set_option maxHeartbeats 4000000 in
theorem wX11_bits_j57 {r : Int32}  {k15 : Int32 → Int32 → Option Int32} {a0 : Nat} {x1 : Int32} {x2 : Int32} {x3 : Int32} {M : Mm} (B : Bx p s m args c cX11_bits 5 RX11 E L) (hr : meth.sig.returnType = (some .int)) (hlk : meth.locks = false) (ih15 : ∀ (x2 : Int32) (x3 : Int32), k15 x2 x3 = some r → ∀ (H : Heap) (locs : List Loc) (ls : Array Slot), Rx s E L M H locs → lv_has ls 5 [(0, .ref a0), (1, .int x1), (2, .int x2), (3, .int x3)] → W p l e (rmD (d + 5)) s m args below meth c H locs 0 0 (MQ below (QcM E L (some (.int r)) M) args s 0 0 E.2.2.2) (F0 m 15 ls [])) (h0 : At L a0 T11) (h : fX11_bits_j57 fu k15 a0 x1 x2 x3 M = some r) (hR : Rx s E L M H locs) (hl : lv_has ls 5 [(0, .ref a0), (1, .int x1), (2, .int x2), (3, .int x3)]) : W p l e (rmD (d + 5)) s m args below meth c H locs 0 0 (MQ below (QcM E L (some (.int r)) M) args s 0 0 E.2.2.2) (F0 m 57 ls []) := by
  have hx := B.1
  have hb := B.2.1
  unfold fX11_bits_j57 at h
  obtain ⟨x3_57, ex3_57, h⟩ := lt_el h
  refine lv_iinc (v := x3_57) (lv' := [(3, .int x3_57), (0, .ref a0), (1, .int x1), (2, .int x2)]) hx hb dX11_bits_57 hl (k := 3) rfl (by rw [ex3_57]; rfl) (by decide) rfl (fun ls hl => ?_)
  refine lv_goto (tgt := 15) hx hb dX11_bits_60 (by decide) ?_
  exact ih15 x2 x3_57 h _ _ _ hR (lv_sub hl [1, 2, 3, 0] rfl)
def fX11_bits_b26 (fu : Nat) (k15 : Int32 → Int32 → Option Int32) (k26 : Int32 → Int32 → Option Int32) (a0 : Nat) (x1 : Int32) (x2 : Int32) (x3 : Int32) (x4 : Int32) (M : Mm) : Option Int32 :=
  if 10 ≤ x4 then
    fX11_bits_j57 fu k15 a0 x1 x2 x3 M
  else
    bi (fX11_kindAt fu a0 x3 M) fun r_35 =>
    if r_35 = x1 then
      lt ((x2 + ((x3 >>> (x4 &&& 31)) &&& 1))) fun x2_50 =>
      lt (x4 + 1) fun x4_51 =>
      k26 x2_50 x4_51
    else
      fX11_bits_j57 fu k15 a0 x1 x2 x3 M
set_option maxRecDepth 100000 in
set_option maxHeartbeats 4000000 in
theorem wX11_bits_b26 {r : Int32}  {k15 : Int32 → Int32 → Option Int32} {k26 : Int32 → Int32 → Option Int32} {a0 : Nat} {x1 : Int32} {x2 : Int32} {x3 : Int32} {x4 : Int32} {M : Mm} (B : Bx p s m args c cX11_bits 5 RX11 E L) (hr : meth.sig.returnType = (some .int)) (hlk : meth.locks = false) (ih15 : ∀ (x2 : Int32) (x3 : Int32), k15 x2 x3 = some r → ∀ (H : Heap) (locs : List Loc) (ls : Array Slot), Rx s E L M H locs → lv_has ls 5 [(0, .ref a0), (1, .int x1), (2, .int x2), (3, .int x3)] → W p l e (rmD (d + 5)) s m args below meth c H locs 0 0 (MQ below (QcM E L (some (.int r)) M) args s 0 0 E.2.2.2) (F0 m 15 ls [])) (ih26 : ∀ (x2 : Int32) (x4 : Int32), k26 x2 x4 = some r → ∀ (H : Heap) (locs : List Loc) (ls : Array Slot), Rx s E L M H locs → lv_has ls 5 [(0, .ref a0), (1, .int x1), (2, .int x2), (3, .int x3), (4, .int x4)] → W p l e (rmD (d + 5)) s m args below meth c H locs 0 0 (MQ below (QcM E L (some (.int r)) M) args s 0 0 E.2.2.2) (F0 m 26 ls [])) (h0 : At L a0 T11) (h : fX11_bits_b26 fu k15 k26 a0 x1 x2 x3 x4 M = some r) (hR : Rx s E L M H locs) (hl : lv_has ls 5 [(0, .ref a0), (1, .int x1), (2, .int x2), (3, .int x3), (4, .int x4)]) : W p l e (rmD (d + 5)) s m args below meth c H locs 0 0 (MQ below (QcM E L (some (.int r)) M) args s 0 0 E.2.2.2) (F0 m 26 ls []) := by
  have hx := B.1
  have hb := B.2.1
  unfold fX11_bits_b26 at h
  refine lv_iload hx hb dX11_bits_26 (lv_at hl 4 rfl) ?_
  refine lv_bipush (v := 10) hx hb dX11_bits_28 (by decide) ?_
  refine lv_icmp_ge (tgt := 57) hx hb dX11_bits_30 (by decide) (fun c_30 => ?_) (fun c_30 => ?_)
  · rw [if_pos c_30] at h
    exact wX11_bits_j57 B hr hlk ih15 h0 h hR (lv_sub hl [0, 1, 2, 3] rfl)
  · rw [if_neg c_30] at h
    refine lv_aload_n hx hb dX11_bits_33 rfl (lv_at hl 0 rfl) ?_
    refine lv_iload_n hx hb dX11_bits_34 rfl (lv_at hl 3 rfl) ?_
    obtain ⟨r_35, hc_35, h⟩ := bi_el h
    refine iv_X11_276 B hR (h0.at0 rfl) hl.1 (mX11_kindAt fu _ h0 hc_35) (Nat.le_of_ble_eq_true rfl) dX11_bits_35 (fun H locs hR => ?_)
    refine lv_iload_n hx hb dX11_bits_38 rfl (lv_at hl 1 rfl) ?_
    refine lv_icmp_ne (tgt := 57) hx hb dX11_bits_39 (by decide) (fun c_39 => ?_) (fun c_39 => ?_)
    · rw [if_neg c_39] at h
      exact wX11_bits_j57 B hr hlk ih15 h0 h hR (lv_sub hl [0, 1, 2, 3] rfl)
    · rw [if_pos c_39] at h
      refine lv_iload_n hx hb dX11_bits_42 rfl (lv_at hl 2 rfl) ?_
      refine lv_iload_n hx hb dX11_bits_43 rfl (lv_at hl 3 rfl) ?_
      refine lv_iload hx hb dX11_bits_44 (lv_at hl 4 rfl) ?_
      refine lv_ishr hx hb dX11_bits_46 ?_
      refine lv_iconst (v := 1) hx hb dX11_bits_47 (by decide) ?_
      refine lv_iand hx hb dX11_bits_48 ?_
      refine lv_iadd hx hb dX11_bits_49 ?_
      obtain ⟨x2_50, ex2_50, h⟩ := lt_el h
      refine r_nmI ex2_50 ?_
      refine lv_istore_n (lv' := [(2, .int x2_50), (0, .ref a0), (1, .int x1), (3, .int x3), (4, .int x4)]) hx hb dX11_bits_50 rfl hl (by decide) rfl (fun ls hl => ?_)
      obtain ⟨x4_51, ex4_51, h⟩ := lt_el h
      refine lv_iinc (v := x4_51) (lv' := [(4, .int x4_51), (2, .int x2_50), (0, .ref a0), (1, .int x1), (3, .int x3)]) hx hb dX11_bits_51 hl (k := 4) rfl (by rw [ex4_51]; rfl) (by decide) rfl (fun ls hl => ?_)
      refine lv_goto (tgt := 26) hx hb dX11_bits_54 (by decide) ?_
      exact ih26 x2_50 x4_51 h _ _ _ hR (lv_sub hl [2, 3, 1, 4, 0] rfl)
def fX11_bits_l26 (fu : Nat) (k15 : Int32 → Int32 → Option Int32) (a0 : Nat) (x1 : Int32) (x3 : Int32) (M : Mm) (x2 : Int32) (x4 : Int32) : Option Int32 := lp (fun (rec : (Int32 × Int32) → Option Int32) (s : Int32 × Int32) => fX11_bits_b26 fu k15 (fun x2 x4 => rec (x2, x4)) a0 x1 s.1 x3 s.2 M) fu (x2, x4)
set_option maxRecDepth 100000 in
set_option maxHeartbeats 4000000 in
theorem wX11_bits_l26 {r : Int32}  {k15 : Int32 → Int32 → Option Int32} {a0 : Nat} {x1 : Int32} {x2 : Int32} {x3 : Int32} {x4 : Int32} {M : Mm} (B : Bx p s m args c cX11_bits 5 RX11 E L) (hr : meth.sig.returnType = (some .int)) (hlk : meth.locks = false) (ih15 : ∀ (x2 : Int32) (x3 : Int32), k15 x2 x3 = some r → ∀ (H : Heap) (locs : List Loc) (ls : Array Slot), Rx s E L M H locs → lv_has ls 5 [(0, .ref a0), (1, .int x1), (2, .int x2), (3, .int x3)] → W p l e (rmD (d + 5)) s m args below meth c H locs 0 0 (MQ below (QcM E L (some (.int r)) M) args s 0 0 E.2.2.2) (F0 m 15 ls [])) (h0 : At L a0 T11) (h : fX11_bits_l26 fu k15 a0 x1 x3 M x2 x4 = some r) (hR : Rx s E L M H locs) (hl : lv_has ls 5 [(0, .ref a0), (1, .int x1), (2, .int x2), (3, .int x3), (4, .int x4)]) : W p l e (rmD (d + 5)) s m args below meth c H locs 0 0 (MQ below (QcM E L (some (.int r)) M) args s 0 0 E.2.2.2) (F0 m 26 ls []) := by
  refine lp_G (G := fun z : Int32 × Int32 => ∀ (H : Heap) (locs : List Loc) (ls : Array Slot), Rx s E L M H locs → lv_has ls 5 [(0, .ref a0), (1, .int x1), (2, .int z.1), (3, .int x3), (4, .int z.2)] → W p l e (rmD (d + 5)) s m args below meth c H locs 0 0 (MQ below (QcM E L (some (.int r)) M) args s 0 0 E.2.2.2) (F0 m 26 ls [])) (fun rec ih z h H locs ls hR hl => ?_) fu _ h H locs ls hR hl
  exact wX11_bits_b26 B hr hlk ih15 (fun x2 x4 h => ih (x2, x4) h) h0 h hR hl
def fX11_bits_b15 (fu : Nat) (k15 : Int32 → Int32 → Option Int32) (a0 : Nat) (x1 : Int32) (x2 : Int32) (x3 : Int32) (M : Mm) : Option Int32 :=
  bi (fX11_addresses fu a0 M) fun r_17 =>
  if r_17 ≤ x3 then
    fX11_bits_j63 fu x2 M
  else
    fX11_bits_l26 fu k15 a0 x1 x3 M x2 0
set_option maxRecDepth 100000 in
set_option maxHeartbeats 4000000 in
theorem wX11_bits_b15 {r : Int32}   {k15 : Int32 → Int32 → Option Int32} {a0 : Nat} {x1 : Int32} {x2 : Int32} {x3 : Int32} {M : Mm} (B : Bx p s m args c cX11_bits 5 RX11 E L) (hr : meth.sig.returnType = (some .int)) (hlk : meth.locks = false)  (ih15 : ∀ (x2 : Int32) (x3 : Int32), k15 x2 x3 = some r → ∀ (H : Heap) (locs : List Loc) (ls : Array Slot), Rx s E L M H locs → lv_has ls 5 [(0, .ref a0), (1, .int x1), (2, .int x2), (3, .int x3)] → W p l e (rmD (d + 5)) s m args below meth c H locs 0 0 (MQ below (QcM E L (some (.int r)) M) args s 0 0 E.2.2.2) (F0 m 15 ls [])) (h0 : At L a0 T11) (h : fX11_bits_b15 fu k15 a0 x1 x2 x3 M = some r) (hR : Rx s E L M H locs) (hl : lv_has ls 5 [(0, .ref a0), (1, .int x1), (2, .int x2), (3, .int x3)]) : W p l e (rmD (d + 5)) s m args below meth c H locs 0 0 (MQ below (QcM E L (some (.int r)) M) args s 0 0 E.2.2.2) (F0 m 15 ls []) := by
  have hx := B.1
  have hb := B.2.1
  unfold fX11_bits_b15 at h
  refine lv_iload_n hx hb dX11_bits_15 rfl (lv_at hl 3 rfl) ?_
  refine lv_aload_n hx hb dX11_bits_16 rfl (lv_at hl 0 rfl) ?_
  obtain ⟨r_17, hc_17, h⟩ := bi_el h
  refine iv_X11_240 B hR (h0.at0 rfl) hl.1 (mX11_addresses fu _ h0 hc_17) (Nat.le_of_ble_eq_true rfl) dX11_bits_17 (fun H locs hR => ?_)
  refine lv_icmp_ge (tgt := 63) hx hb dX11_bits_20 (by decide) (fun c_20 => ?_) (fun c_20 => ?_)
  · rw [if_pos c_20] at h
    exact wX11_bits_j63 B hr hlk  h hR (lv_sub hl [2] rfl)
  · rw [if_neg c_20] at h
    refine lv_iconst (v := 0) hx hb dX11_bits_23 (by decide) ?_
    refine lv_istore (lv' := [(4, .int 0), (0, .ref a0), (1, .int x1), (2, .int x2), (3, .int x3)]) hx hb dX11_bits_24 hl (by decide) rfl (fun ls hl => ?_)
    exact wX11_bits_l26 B hr hlk ih15 h0 h hR (lv_sub hl [1, 2, 3, 4, 0] rfl)
def fX11_bits_l15 (fu : Nat) (a0 : Nat) (x1 : Int32) (M : Mm) (x2 : Int32) (x3 : Int32) : Option Int32 := lp (fun (rec : (Int32 × Int32) → Option Int32) (s : Int32 × Int32) => fX11_bits_b15 fu  (fun x2 x3 => rec (x2, x3)) a0 x1 s.1 s.2 M) fu (x2, x3)
set_option maxRecDepth 100000 in
set_option maxHeartbeats 4000000 in
theorem wX11_bits_l15 {r : Int32}   {a0 : Nat} {x1 : Int32} {x2 : Int32} {x3 : Int32} {M : Mm} (B : Bx p s m args c cX11_bits 5 RX11 E L) (hr : meth.sig.returnType = (some .int)) (hlk : meth.locks = false)  (h0 : At L a0 T11) (h : fX11_bits_l15 fu a0 x1 M x2 x3 = some r) (hR : Rx s E L M H locs) (hl : lv_has ls 5 [(0, .ref a0), (1, .int x1), (2, .int x2), (3, .int x3)]) : W p l e (rmD (d + 5)) s m args below meth c H locs 0 0 (MQ below (QcM E L (some (.int r)) M) args s 0 0 E.2.2.2) (F0 m 15 ls []) := by
  refine lp_G (G := fun z : Int32 × Int32 => ∀ (H : Heap) (locs : List Loc) (ls : Array Slot), Rx s E L M H locs → lv_has ls 5 [(0, .ref a0), (1, .int x1), (2, .int z.1), (3, .int z.2)] → W p l e (rmD (d + 5)) s m args below meth c H locs 0 0 (MQ below (QcM E L (some (.int r)) M) args s 0 0 E.2.2.2) (F0 m 15 ls [])) (fun rec ih z h H locs ls hR hl => ?_) fu _ h H locs ls hR hl
  exact wX11_bits_b15 B hr hlk  (fun x2 x3 h => ih (x2, x3) h) h0 h hR hl
def fX11_bits (fu : Nat) (a0 : Nat) (x1 : Int32) (M : Mm) : Option Int32 :=
  bi (fX11_isIn fu x1 0 5) fun r_3 =>
  if r_3 = 0 then
    some (-1)
  else
    fX11_bits_l15 fu a0 x1 M 0 0
set_option maxRecDepth 100000 in
set_option maxHeartbeats 4000000 in
theorem mX11_bits {l : Launch} {E : Ge} {L : Lay} (fu d : Nat) {a0 : Nat} {x1 : Int32} {M : Mm} {r : Int32}  (h0 : At L a0 T11) (h : fX11_bits fu a0 x1 M = some r) : Ct l E L yX11_bits cX11_bits 5 (some .int) (d + 5) [.ref a0, .int x1] M (some (.int r)) M := by
  refine Ct.of (by decide) ?_
  intro p e s m below meth c hr hlk B hR
  have B : Bx p s m _ c cX11_bits 5 RX11 E L := B
  have hx := B.1
  have hb := B.2.1
  have hl := lv_entry ([.ref a0, .int x1]) (n := 5) (Nat.le_of_ble_eq_true rfl)
  rw [lg_entry_eq]
  generalize (lg_sl ([.ref a0, .int x1]) ++ List.replicate (5 - (lg_sl ([.ref a0, .int x1])).length) Slot.unset).toArray = ls at hl ⊢
  have hl : lv_has ls 5 [(0, .ref a0), (1, .int x1)] := hl
  unfold fX11_bits at h
  refine lv_iload_n hx hb dX11_bits_0 rfl (lv_at hl 1 rfl) ?_
  refine lv_iconst (v := 0) hx hb dX11_bits_1 (by decide) ?_
  refine lv_iconst (v := 5) hx hb dX11_bits_2 (by decide) ?_
  obtain ⟨r_3, hc_3, h⟩ := bi_el h
  refine is_X11_163 B hR hl.1 (mX11_isIn fu _  hc_3) (Nat.le_of_ble_eq_true rfl) dX11_bits_3 (fun H locs hR => ?_)
  refine lv_if_ne (tgt := 11) hx hb dX11_bits_6 (by decide) (fun c_6 => ?_) (fun c_6 => ?_)
  · rw [if_neg c_6] at h
    refine lv_iconst (v := 0) hx hb dX11_bits_11 (by decide) ?_
    refine lv_istore_n (lv' := [(2, .int 0), (0, .ref a0), (1, .int x1)]) hx hb dX11_bits_12 rfl hl (by decide) rfl (fun ls hl => ?_)
    refine lv_iconst (v := 0) hx hb dX11_bits_13 (by decide) ?_
    refine lv_istore_n (lv' := [(3, .int 0), (2, .int 0), (0, .ref a0), (1, .int x1)]) hx hb dX11_bits_14 rfl hl (by decide) rfl (fun ls hl => ?_)
    exact wX11_bits_l15 B hr hlk h0 h hR (lv_sub hl [2, 3, 1, 0] rfl)
  · rw [if_pos c_6] at h
    refine lv_iconst (v := (-1)) hx hb dX11_bits_9 (by decide) ?_
    exact r_iretP B hR hr hlk h dX11_bits_10
def fX11_sizeAt_j23 (fu : Nat) (x2 : Int32) (M : Mm) : Option Int32 :=
  some x2
set_option maxRecDepth 100000 in
set_option maxHeartbeats 4000000 in
theorem wX11_sizeAt_j23 {r : Int32}   {x2 : Int32} {M : Mm} (B : Bx p s m args c cX11_sizeAt 4 RX11 E L) (hr : meth.sig.returnType = (some .int)) (hlk : meth.locks = false)   (h : fX11_sizeAt_j23 fu x2 M = some r) (hR : Rx s E L M H locs) (hl : lv_has ls 4 [(2, .int x2)]) : W p l e (rmD (d + 1)) s m args below meth c H locs 0 0 (MQ below (QcM E L (some (.int r)) M) args s 0 0 E.2.2.2) (F0 m 23 ls []) := by
  have hx := B.1
  have hb := B.2.1
  unfold fX11_sizeAt_j23 at h
  refine lv_iload_n hx hb dX11_sizeAt_23 rfl (lv_at hl 0 rfl) ?_
  exact r_iretP B hR hr hlk h dX11_sizeAt_24
def fX11_sizeAt_b7 (fu : Nat) (k7 : Int32 → Int32 → Option Int32) (x2 : Int32) (x3 : Int32) (M : Mm) : Option Int32 :=
  if x3 ≤ 1 then
    fX11_sizeAt_j23 fu x2 M
  else
    lt ((x2 / 2)) fun x2_15 =>
    lt ((x3 / 2)) fun x3_19 =>
    k7 x2_15 x3_19
set_option maxRecDepth 100000 in
set_option maxHeartbeats 4000000 in
theorem wX11_sizeAt_b7 {r : Int32}   {k7 : Int32 → Int32 → Option Int32} {x2 : Int32} {x3 : Int32} {M : Mm} (B : Bx p s m args c cX11_sizeAt 4 RX11 E L) (hr : meth.sig.returnType = (some .int)) (hlk : meth.locks = false)  (ih7 : ∀ (x2 : Int32) (x3 : Int32), k7 x2 x3 = some r → ∀ (H : Heap) (locs : List Loc) (ls : Array Slot), Rx s E L M H locs → lv_has ls 4 [(2, .int x2), (3, .int x3)] → W p l e (rmD (d + 1)) s m args below meth c H locs 0 0 (MQ below (QcM E L (some (.int r)) M) args s 0 0 E.2.2.2) (F0 m 7 ls []))  (h : fX11_sizeAt_b7 fu k7 x2 x3 M = some r) (hR : Rx s E L M H locs) (hl : lv_has ls 4 [(2, .int x2), (3, .int x3)]) : W p l e (rmD (d + 1)) s m args below meth c H locs 0 0 (MQ below (QcM E L (some (.int r)) M) args s 0 0 E.2.2.2) (F0 m 7 ls []) := by
  have hx := B.1
  have hb := B.2.1
  unfold fX11_sizeAt_b7 at h
  refine lv_iload_n hx hb dX11_sizeAt_7 rfl (lv_at hl 1 rfl) ?_
  refine lv_iconst (v := 1) hx hb dX11_sizeAt_8 (by decide) ?_
  refine lv_icmp_le (tgt := 23) hx hb dX11_sizeAt_9 (by decide) (fun c_9 => ?_) (fun c_9 => ?_)
  · rw [if_pos c_9] at h
    exact wX11_sizeAt_j23 B hr hlk  h hR (lv_sub hl [0] rfl)
  · rw [if_neg c_9] at h
    refine lv_iload_n hx hb dX11_sizeAt_12 rfl (lv_at hl 0 rfl) ?_
    refine lv_iconst (v := 2) hx hb dX11_sizeAt_13 (by decide) ?_
    refine lv_idiv hx hb dX11_sizeAt_14 (by decide) ?_
    obtain ⟨x2_15, ex2_15, h⟩ := lt_el h
    refine r_nmI ex2_15 ?_
    refine lv_istore_n (lv' := [(2, .int x2_15), (3, .int x3)]) hx hb dX11_sizeAt_15 rfl hl (by decide) rfl (fun ls hl => ?_)
    refine lv_iload_n hx hb dX11_sizeAt_16 rfl (lv_at hl 1 rfl) ?_
    refine lv_iconst (v := 2) hx hb dX11_sizeAt_17 (by decide) ?_
    refine lv_idiv hx hb dX11_sizeAt_18 (by decide) ?_
    obtain ⟨x3_19, ex3_19, h⟩ := lt_el h
    refine r_nmI ex3_19 ?_
    refine lv_istore_n (lv' := [(3, .int x3_19), (2, .int x2_15)]) hx hb dX11_sizeAt_19 rfl hl (by decide) rfl (fun ls hl => ?_)
    refine lv_goto (tgt := 7) hx hb dX11_sizeAt_20 (by decide) ?_
    exact ih7 x2_15 x3_19 h _ _ _ hR (lv_sub hl [1, 0] rfl)
def fX11_sizeAt_l7 (fu : Nat) (M : Mm) (x2 : Int32) (x3 : Int32) : Option Int32 := lp (fun (rec : (Int32 × Int32) → Option Int32) (s : Int32 × Int32) => fX11_sizeAt_b7 fu  (fun x2 x3 => rec (x2, x3)) s.1 s.2 M) fu (x2, x3)
set_option maxRecDepth 100000 in
set_option maxHeartbeats 4000000 in
theorem wX11_sizeAt_l7 {r : Int32}   {x2 : Int32} {x3 : Int32} {M : Mm} (B : Bx p s m args c cX11_sizeAt 4 RX11 E L) (hr : meth.sig.returnType = (some .int)) (hlk : meth.locks = false)   (h : fX11_sizeAt_l7 fu M x2 x3 = some r) (hR : Rx s E L M H locs) (hl : lv_has ls 4 [(2, .int x2), (3, .int x3)]) : W p l e (rmD (d + 1)) s m args below meth c H locs 0 0 (MQ below (QcM E L (some (.int r)) M) args s 0 0 E.2.2.2) (F0 m 7 ls []) := by
  refine lp_G (G := fun z : Int32 × Int32 => ∀ (H : Heap) (locs : List Loc) (ls : Array Slot), Rx s E L M H locs → lv_has ls 4 [(2, .int z.1), (3, .int z.2)] → W p l e (rmD (d + 1)) s m args below meth c H locs 0 0 (MQ below (QcM E L (some (.int r)) M) args s 0 0 E.2.2.2) (F0 m 7 ls [])) (fun rec ih z h H locs ls hR hl => ?_) fu _ h H locs ls hR hl
  exact wX11_sizeAt_b7 B hr hlk  (fun x2 x3 h => ih (x2, x3) h)  h hR hl
def fX11_sizeAt (fu : Nat) (a0 : Nat) (x1 : Int32) (M : Mm) : Option Int32 :=
  bi (fX11_addresses fu a0 M) fun r_1 =>
  fX11_sizeAt_l7 fu M r_1 x1
set_option maxRecDepth 100000 in
set_option maxHeartbeats 4000000 in
theorem mX11_sizeAt {l : Launch} {E : Ge} {L : Lay} (fu d : Nat) {a0 : Nat} {x1 : Int32} {M : Mm} {r : Int32}  (h0 : At L a0 T11) (h : fX11_sizeAt fu a0 x1 M = some r) : Ct l E L yX11_sizeAt cX11_sizeAt 4 (some .int) (d + 1) [.ref a0, .int x1] M (some (.int r)) M := by
  refine Ct.of (by decide) ?_
  intro p e s m below meth c hr hlk B hR
  have B : Bx p s m _ c cX11_sizeAt 4 RX11 E L := B
  have hx := B.1
  have hb := B.2.1
  have hl := lv_entry ([.ref a0, .int x1]) (n := 4) (Nat.le_of_ble_eq_true rfl)
  rw [lg_entry_eq]
  generalize (lg_sl ([.ref a0, .int x1]) ++ List.replicate (4 - (lg_sl ([.ref a0, .int x1])).length) Slot.unset).toArray = ls at hl ⊢
  have hl : lv_has ls 4 [(0, .ref a0), (1, .int x1)] := hl
  unfold fX11_sizeAt at h
  refine lv_aload_n hx hb dX11_sizeAt_0 rfl (lv_at hl 0 rfl) ?_
  obtain ⟨r_1, hc_1, h⟩ := bi_el h
  refine iv_X11_240 B hR (h0.at0 rfl) hl.1 (mX11_addresses fu _ h0 hc_1) (Nat.le_of_ble_eq_true rfl) dX11_sizeAt_1 (fun H locs hR => ?_)
  refine lv_istore_n (lv' := [(2, .int r_1), (0, .ref a0), (1, .int x1)]) hx hb dX11_sizeAt_4 rfl hl (by decide) rfl (fun ls hl => ?_)
  refine lv_iload_n hx hb dX11_sizeAt_5 rfl (lv_at hl 2 rfl) ?_
  refine lv_istore_n (lv' := [(3, .int x1), (2, .int r_1), (0, .ref a0), (1, .int x1)]) hx hb dX11_sizeAt_6 rfl hl (by decide) rfl (fun ls hl => ?_)
  exact wX11_sizeAt_l7 B hr hlk  h hR (lv_sub hl [1, 0] rfl)
def fX11_baseAt (fu : Nat) (a0 : Nat) (x1 : Int32) (M : Mm) : Option Int32 :=
  bi (fX11_sizeAt fu a0 x1 M) fun r_2 =>
  bi (fX11_addresses fu a0 M) fun r_8 =>
  if r_2 = 0 then none else
  some ((x1 - (r_8 / r_2)) * r_2)
set_option maxRecDepth 100000 in
set_option maxHeartbeats 4000000 in
theorem mX11_baseAt {l : Launch} {E : Ge} {L : Lay} (fu d : Nat) {a0 : Nat} {x1 : Int32} {M : Mm} {r : Int32}  (h0 : At L a0 T11) (h : fX11_baseAt fu a0 x1 M = some r) : Ct l E L yX11_baseAt cX11_baseAt 3 (some .int) (d + 2) [.ref a0, .int x1] M (some (.int r)) M := by
  refine Ct.of (by decide) ?_
  intro p e s m below meth c hr hlk B hR
  have B : Bx p s m _ c cX11_baseAt 3 RX11 E L := B
  have hx := B.1
  have hb := B.2.1
  have hl := lv_entry ([.ref a0, .int x1]) (n := 3) (Nat.le_of_ble_eq_true rfl)
  rw [lg_entry_eq]
  generalize (lg_sl ([.ref a0, .int x1]) ++ List.replicate (3 - (lg_sl ([.ref a0, .int x1])).length) Slot.unset).toArray = ls at hl ⊢
  have hl : lv_has ls 3 [(0, .ref a0), (1, .int x1)] := hl
  unfold fX11_baseAt at h
  refine lv_aload_n hx hb dX11_baseAt_0 rfl (lv_at hl 0 rfl) ?_
  refine lv_iload_n hx hb dX11_baseAt_1 rfl (lv_at hl 1 rfl) ?_
  obtain ⟨r_2, hc_2, h⟩ := bi_el h
  refine iv_X11_312 B hR (h0.at0 rfl) hl.1 (mX11_sizeAt fu _ h0 hc_2) (Nat.le_of_ble_eq_true rfl) dX11_baseAt_2 (fun H locs hR => ?_)
  refine lv_istore_n (lv' := [(2, .int r_2), (0, .ref a0), (1, .int x1)]) hx hb dX11_baseAt_5 rfl hl (by decide) rfl (fun ls hl => ?_)
  refine lv_iload_n hx hb dX11_baseAt_6 rfl (lv_at hl 2 rfl) ?_
  refine lv_aload_n hx hb dX11_baseAt_7 rfl (lv_at hl 1 rfl) ?_
  obtain ⟨r_8, hc_8, h⟩ := bi_el h
  refine iv_X11_240 B hR (h0.at0 rfl) hl.1 (mX11_addresses fu _ h0 hc_8) (Nat.le_of_ble_eq_true rfl) dX11_baseAt_8 (fun H locs hR => ?_)
  refine lv_iload_n hx hb dX11_baseAt_11 rfl (lv_at hl 0 rfl) ?_
  obtain ⟨hz_12, h⟩ := ifn_el h
  refine lv_idiv hx hb dX11_baseAt_12 hz_12 ?_
  refine lv_isub hx hb dX11_baseAt_13 ?_
  refine lv_iload_n hx hb dX11_baseAt_14 rfl (lv_at hl 0 rfl) ?_
  refine lv_imul hx hb dX11_baseAt_15 ?_
  exact r_iretP B hR hr hlk h dX11_baseAt_16
def fX11_layWants_j147 (fu : Nat) (a0 : Nat) (x2 : Int32) (M : Mm) : Option Mm :=
  lt (wI M (a0 + 1) (ix 0) x2) fun M_153 =>
  some M_153
set_option maxRecDepth 100000 in
set_option maxHeartbeats 4000000 in
theorem wX11_layWants_j147 {M' : Mm}   {a0 : Nat} {x2 : Int32} {M : Mm} (B : Bx p s m args c cX11_layWants 7 RX11 E L) (hr : meth.sig.returnType = none) (hlk : meth.locks = false)  (h0 : At L a0 T11) (h : fX11_layWants_j147 fu a0 x2 M = some M') (hR : Rx s E L M H locs) (hl : lv_has ls 7 [(0, .ref a0), (2, .int x2)]) : W p l e (rmD (d + 2)) s m args below meth c H locs 0 0 (MQ below (QcM E L none M') args s 0 0 E.2.2.2) (F0 m 147 ls []) := by
  have hx := B.1
  have hb := B.2.1
  unfold fX11_layWants_j147 at h
  refine lv_aload_n hx hb dX11_layWants_147 rfl (lv_at hl 0 rfl) ?_
  refine gf_X11_7 B hR (h0.at0 rfl) dX11_layWants_148 ?_
  refine lv_iconst (v := 0) hx hb dX11_layWants_151 (by decide) ?_
  refine lv_iload_n hx hb dX11_layWants_152 rfl (lv_at hl 1 rfl) ?_
  obtain ⟨M_153, eM_153, h⟩ := lt_el h
  refine r_iast B hR (h0.at 1 rfl) (by decide +kernel) dX11_layWants_153 (fun H locs hR => ?_)
  rw [← eM_153] at hR
  exact r_vretW B hR hr hlk h dX11_layWants_154
def fX11_layWants_j140 (fu : Nat) (k73 : Int32 → Mm → Option Mm) (a0 : Nat) (x2 : Int32) (x4 : Int32) (b0 : Nat) (t1 : Int32) (t2 : Int32) (M : Mm) : Option Mm :=
  if t1 < 0 ∨ 2048 ≤ ix t1 then none else
  lt (wI M b0 (ix t1) t2) fun M_140 =>
  lt (x4 + (-1)) fun x4_141 =>
  k73 x4_141 M_140
set_option maxRecDepth 100000 in
set_option maxHeartbeats 4000000 in
theorem wX11_layWants_j140 {M' : Mm}  {k73 : Int32 → Mm → Option Mm} {a0 : Nat} {x2 : Int32} {x4 : Int32} {b0 : Nat} {t1 : Int32} {t2 : Int32} {M : Mm} (B : Bx p s m args c cX11_layWants 7 RX11 E L) (hr : meth.sig.returnType = none) (hlk : meth.locks = false) (ih73 : ∀ (x4 : Int32) (M : Mm), k73 x4 M = some M' → ∀ (H : Heap) (locs : List Loc) (ls : Array Slot), Rx s E L M H locs → lv_has ls 7 [(0, .ref a0), (2, .int x2), (4, .int x4)] → W p l e (rmD (d + 2)) s m args below meth c H locs 0 0 (MQ below (QcM E L none M') args s 0 0 E.2.2.2) (F0 m 73 ls [])) (h0 : At L a0 T11) (g0 : (b0, (0, 2048)) ∈ L) (h : fX11_layWants_j140 fu k73 a0 x2 x4 b0 t1 t2 M = some M') (hR : Rx s E L M H locs) (hl : lv_has ls 7 [(0, .ref a0), (2, .int x2), (4, .int x4)]) : W p l e (rmD (d + 2)) s m args below meth c H locs 0 0 (MQ below (QcM E L none M') args s 0 0 E.2.2.2) (F0 m 140 ls [.int t2, .int t1, .ref b0]) := by
  have hx := B.1
  have hb := B.2.1
  unfold fX11_layWants_j140 at h
  obtain ⟨hi_140, h⟩ := ifn_el h
  obtain ⟨M_140, eM_140, h⟩ := lt_el h
  refine r_iast B hR g0 hi_140 dX11_layWants_140 (fun H locs hR => ?_)
  rw [← eM_140] at hR
  obtain ⟨x4_141, ex4_141, h⟩ := lt_el h
  refine lv_iinc (v := x4_141) (lv' := [(4, .int x4_141), (0, .ref a0), (2, .int x2)]) hx hb dX11_layWants_141 hl (k := 2) rfl (by rw [ex4_141]; rfl) (by decide) rfl (fun ls hl => ?_)
  refine lv_goto (tgt := 73) hx hb dX11_layWants_144 (by decide) ?_
  exact ih73 x4_141 M_140 h _ _ _ hR (lv_sub hl [1, 2, 0] rfl)
def fX11_layWants_j134 (fu : Nat) (k73 : Int32 → Mm → Option Mm) (a0 : Nat) (x2 : Int32) (x4 : Int32) (x5 : Int32) (b0 : Nat) (t1 : Int32) (M : Mm) : Option Mm :=
  fX11_layWants_j140 fu k73 a0 x2 x4 b0 t1 x5 M
set_option maxRecDepth 100000 in
set_option maxHeartbeats 4000000 in
theorem wX11_layWants_j134 {M' : Mm}  {k73 : Int32 → Mm → Option Mm} {a0 : Nat} {x2 : Int32} {x4 : Int32} {x5 : Int32} {b0 : Nat} {t1 : Int32} {M : Mm} (B : Bx p s m args c cX11_layWants 7 RX11 E L) (hr : meth.sig.returnType = none) (hlk : meth.locks = false) (ih73 : ∀ (x4 : Int32) (M : Mm), k73 x4 M = some M' → ∀ (H : Heap) (locs : List Loc) (ls : Array Slot), Rx s E L M H locs → lv_has ls 7 [(0, .ref a0), (2, .int x2), (4, .int x4)] → W p l e (rmD (d + 2)) s m args below meth c H locs 0 0 (MQ below (QcM E L none M') args s 0 0 E.2.2.2) (F0 m 73 ls [])) (h0 : At L a0 T11) (g0 : (b0, (0, 2048)) ∈ L) (h : fX11_layWants_j134 fu k73 a0 x2 x4 x5 b0 t1 M = some M') (hR : Rx s E L M H locs) (hl : lv_has ls 7 [(0, .ref a0), (2, .int x2), (4, .int x4), (5, .int x5)]) : W p l e (rmD (d + 2)) s m args below meth c H locs 0 0 (MQ below (QcM E L none M') args s 0 0 E.2.2.2) (F0 m 134 ls [.int t1, .ref b0]) := by
  have hx := B.1
  have hb := B.2.1
  unfold fX11_layWants_j134 at h
  refine lv_iload hx hb dX11_layWants_134 (lv_at hl 3 rfl) ?_
  refine lv_goto (tgt := 140) hx hb dX11_layWants_136 (by decide) ?_
  exact wX11_layWants_j140 B hr hlk ih73 h0 g0 h hR (lv_sub hl [0, 1, 2] rfl)
def fX11_layWants_b73 (fu : Nat) (k73 : Int32 → Mm → Option Mm) (a0 : Nat) (x2 : Int32) (x4 : Int32) (M : Mm) : Option Mm :=
  if x4 ≤ 0 then
    fX11_layWants_j147 fu a0 x2 M
  else
    if (2 * x4) < 0 ∨ 2048 ≤ ix (2 * x4) then none else
    lt ((M.1 (a0 + 8) (ix (2 * x4)))) fun x5_87 =>
    if ((2 * x4) + 1) < 0 ∨ 2048 ≤ ix ((2 * x4) + 1) then none else
    lt ((M.1 (a0 + 8) (ix ((2 * x4) + 1)))) fun x6_100 =>
    if x5_87 = (-2) then
      fX11_layWants_j140 fu k73 a0 x2 x4 (a0 + 8) x4 x6_100 M
    else
      if x6_100 = (-2) then
        fX11_layWants_j134 fu k73 a0 x2 x4 x5_87 (a0 + 8) x4 M
      else
        if x5_87 = x6_100 then
          fX11_layWants_j134 fu k73 a0 x2 x4 x5_87 (a0 + 8) x4 M
        else
          fX11_layWants_j140 fu k73 a0 x2 x4 (a0 + 8) x4 (-1) M
set_option maxRecDepth 100000 in
set_option maxHeartbeats 4000000 in
theorem wX11_layWants_b73 {M' : Mm}   {k73 : Int32 → Mm → Option Mm} {a0 : Nat} {x2 : Int32} {x4 : Int32} {M : Mm} (B : Bx p s m args c cX11_layWants 7 RX11 E L) (hr : meth.sig.returnType = none) (hlk : meth.locks = false)  (ih73 : ∀ (x4 : Int32) (M : Mm), k73 x4 M = some M' → ∀ (H : Heap) (locs : List Loc) (ls : Array Slot), Rx s E L M H locs → lv_has ls 7 [(0, .ref a0), (2, .int x2), (4, .int x4)] → W p l e (rmD (d + 2)) s m args below meth c H locs 0 0 (MQ below (QcM E L none M') args s 0 0 E.2.2.2) (F0 m 73 ls [])) (h0 : At L a0 T11) (h : fX11_layWants_b73 fu k73 a0 x2 x4 M = some M') (hR : Rx s E L M H locs) (hl : lv_has ls 7 [(0, .ref a0), (2, .int x2), (4, .int x4)]) : W p l e (rmD (d + 2)) s m args below meth c H locs 0 0 (MQ below (QcM E L none M') args s 0 0 E.2.2.2) (F0 m 73 ls []) := by
  have hx := B.1
  have hb := B.2.1
  unfold fX11_layWants_b73 at h
  refine lv_iload hx hb dX11_layWants_73 (lv_at hl 2 rfl) ?_
  refine lv_if_le (tgt := 147) hx hb dX11_layWants_75 (by decide) (fun c_75 => ?_) (fun c_75 => ?_)
  · rw [if_pos c_75] at h
    exact wX11_layWants_j147 B hr hlk h0 h hR (lv_sub hl [0, 1] rfl)
  · rw [if_neg c_75] at h
    refine lv_aload_n hx hb dX11_layWants_78 rfl (lv_at hl 0 rfl) ?_
    refine gf_X11_36 B hR (h0.at0 rfl) dX11_layWants_79 ?_
    refine lv_iconst (v := 2) hx hb dX11_layWants_82 (by decide) ?_
    refine lv_iload hx hb dX11_layWants_83 (lv_at hl 2 rfl) ?_
    refine lv_imul hx hb dX11_layWants_85 ?_
    obtain ⟨hi_86, h⟩ := ifn_el h
    refine r_iald B hR (h0.at 8 rfl) hi_86 dX11_layWants_86 ?_
    obtain ⟨x5_87, ex5_87, h⟩ := lt_el h
    refine r_nmI ex5_87 ?_
    refine lv_istore (lv' := [(5, .int x5_87), (0, .ref a0), (2, .int x2), (4, .int x4)]) hx hb dX11_layWants_87 hl (by decide) rfl (fun ls hl => ?_)
    refine lv_aload_n hx hb dX11_layWants_89 rfl (lv_at hl 1 rfl) ?_
    refine gf_X11_36 B hR (h0.at0 rfl) dX11_layWants_90 ?_
    refine lv_iconst (v := 2) hx hb dX11_layWants_93 (by decide) ?_
    refine lv_iload hx hb dX11_layWants_94 (lv_at hl 3 rfl) ?_
    refine lv_imul hx hb dX11_layWants_96 ?_
    refine lv_iconst (v := 1) hx hb dX11_layWants_97 (by decide) ?_
    refine lv_iadd hx hb dX11_layWants_98 ?_
    obtain ⟨hi_99, h⟩ := ifn_el h
    refine r_iald B hR (h0.at 8 rfl) hi_99 dX11_layWants_99 ?_
    obtain ⟨x6_100, ex6_100, h⟩ := lt_el h
    refine r_nmI ex6_100 ?_
    refine lv_istore (lv' := [(6, .int x6_100), (5, .int x5_87), (0, .ref a0), (2, .int x2), (4, .int x4)]) hx hb dX11_layWants_100 hl (by decide) rfl (fun ls hl => ?_)
    refine lv_aload_n hx hb dX11_layWants_102 rfl (lv_at hl 2 rfl) ?_
    refine gf_X11_36 B hR (h0.at0 rfl) dX11_layWants_103 ?_
    refine lv_iload hx hb dX11_layWants_106 (lv_at hl 4 rfl) ?_
    refine lv_iload hx hb dX11_layWants_108 (lv_at hl 1 rfl) ?_
    refine lv_bipush (v := (-2)) hx hb dX11_layWants_110 (by decide) ?_
    refine lv_icmp_ne (tgt := 120) hx hb dX11_layWants_112 (by decide) (fun c_112 => ?_) (fun c_112 => ?_)
    · rw [if_neg c_112] at h
      refine lv_iload hx hb dX11_layWants_120 (lv_at hl 0 rfl) ?_
      refine lv_bipush (v := (-2)) hx hb dX11_layWants_122 (by decide) ?_
      refine lv_icmp_eq (tgt := 134) hx hb dX11_layWants_124 (by decide) (fun c_124 => ?_) (fun c_124 => ?_)
      · rw [if_pos c_124] at h
        exact wX11_layWants_j134 B hr hlk ih73 h0 (h0.at 8 rfl) h hR (lv_sub hl [2, 3, 4, 1] rfl)
      · rw [if_neg c_124] at h
        refine lv_iload hx hb dX11_layWants_127 (lv_at hl 1 rfl) ?_
        refine lv_iload hx hb dX11_layWants_129 (lv_at hl 0 rfl) ?_
        refine lv_icmp_ne (tgt := 139) hx hb dX11_layWants_131 (by decide) (fun c_131 => ?_) (fun c_131 => ?_)
        · rw [if_neg c_131] at h
          refine lv_iconst (v := (-1)) hx hb dX11_layWants_139 (by decide) ?_
          exact wX11_layWants_j140 B hr hlk ih73 h0 (h0.at 8 rfl) h hR (lv_sub hl [2, 3, 4] rfl)
        · rw [if_pos c_131] at h
          exact wX11_layWants_j134 B hr hlk ih73 h0 (h0.at 8 rfl) h hR (lv_sub hl [2, 3, 4, 1] rfl)
    · rw [if_pos c_112] at h
      refine lv_iload hx hb dX11_layWants_115 (lv_at hl 0 rfl) ?_
      refine lv_goto (tgt := 140) hx hb dX11_layWants_117 (by decide) ?_
      exact wX11_layWants_j140 B hr hlk ih73 h0 (h0.at 8 rfl) h hR (lv_sub hl [2, 3, 4] rfl)
def fX11_layWants_l73 (fu : Nat) (a0 : Nat) (x2 : Int32) (x4 : Int32) (M : Mm) : Option Mm := lp (fun (rec : (Int32 × Mm) → Option Mm) (s : Int32 × Mm) => fX11_layWants_b73 fu  (fun x4 M => rec (x4, M)) a0 x2 s.1 s.2) fu (x4, M)
set_option maxRecDepth 100000 in
set_option maxHeartbeats 4000000 in
theorem wX11_layWants_l73 {M' : Mm}   {a0 : Nat} {x2 : Int32} {x4 : Int32} {M : Mm} (B : Bx p s m args c cX11_layWants 7 RX11 E L) (hr : meth.sig.returnType = none) (hlk : meth.locks = false)  (h0 : At L a0 T11) (h : fX11_layWants_l73 fu a0 x2 x4 M = some M') (hR : Rx s E L M H locs) (hl : lv_has ls 7 [(0, .ref a0), (2, .int x2), (4, .int x4)]) : W p l e (rmD (d + 2)) s m args below meth c H locs 0 0 (MQ below (QcM E L none M') args s 0 0 E.2.2.2) (F0 m 73 ls []) := by
  refine lp_G (G := fun z : Int32 × Mm => ∀ (H : Heap) (locs : List Loc) (ls : Array Slot), Rx s E L z.2 H locs → lv_has ls 7 [(0, .ref a0), (2, .int x2), (4, .int z.1)] → W p l e (rmD (d + 2)) s m args below meth c H locs 0 0 (MQ below (QcM E L none M') args s 0 0 E.2.2.2) (F0 m 73 ls [])) (fun rec ih z h H locs ls hR hl => ?_) fu _ h H locs ls hR hl
  exact wX11_layWants_b73 B hr hlk  (fun x4 M h => ih (x4, M) h) h0 h hR hl
def fX11_layWants_j68 (fu : Nat) (a0 : Nat) (x2 : Int32) (x3 : Int32) (M : Mm) : Option Mm :=
  lt ((x3 - 1)) fun x4_71 =>
  fX11_layWants_l73 fu a0 x2 x4_71 M
set_option maxRecDepth 100000 in
set_option maxHeartbeats 4000000 in
theorem wX11_layWants_j68 {M' : Mm}   {a0 : Nat} {x2 : Int32} {x3 : Int32} {M : Mm} (B : Bx p s m args c cX11_layWants 7 RX11 E L) (hr : meth.sig.returnType = none) (hlk : meth.locks = false)  (h0 : At L a0 T11) (h : fX11_layWants_j68 fu a0 x2 x3 M = some M') (hR : Rx s E L M H locs) (hl : lv_has ls 7 [(0, .ref a0), (2, .int x2), (3, .int x3)]) : W p l e (rmD (d + 2)) s m args below meth c H locs 0 0 (MQ below (QcM E L none M') args s 0 0 E.2.2.2) (F0 m 68 ls []) := by
  have hx := B.1
  have hb := B.2.1
  unfold fX11_layWants_j68 at h
  refine lv_iload_n hx hb dX11_layWants_68 rfl (lv_at hl 2 rfl) ?_
  refine lv_iconst (v := 1) hx hb dX11_layWants_69 (by decide) ?_
  refine lv_isub hx hb dX11_layWants_70 ?_
  obtain ⟨x4_71, ex4_71, h⟩ := lt_el h
  refine r_nmI ex4_71 ?_
  refine lv_istore (lv' := [(4, .int x4_71), (0, .ref a0), (2, .int x2), (3, .int x3)]) hx hb dX11_layWants_71 hl (by decide) rfl (fun ls hl => ?_)
  exact wX11_layWants_l73 B hr hlk h0 h hR (lv_sub hl [1, 2, 0] rfl)
def fX11_layWants_j61 (fu : Nat) (k27 : Int32 → Mm → Option Mm) (a0 : Nat) (x2 : Int32) (x3 : Int32) (x4 : Int32) (b0 : Nat) (t1 : Int32) (t2 : Int32) (M : Mm) : Option Mm :=
  if t1 < 0 ∨ 2048 ≤ ix t1 then none else
  lt (wI M b0 (ix t1) t2) fun M_61 =>
  lt (x4 + 1) fun x4_62 =>
  k27 x4_62 M_61
set_option maxRecDepth 100000 in
set_option maxHeartbeats 4000000 in
theorem wX11_layWants_j61 {M' : Mm}  {k27 : Int32 → Mm → Option Mm} {a0 : Nat} {x2 : Int32} {x3 : Int32} {x4 : Int32} {b0 : Nat} {t1 : Int32} {t2 : Int32} {M : Mm} (B : Bx p s m args c cX11_layWants 7 RX11 E L) (hr : meth.sig.returnType = none) (hlk : meth.locks = false) (ih27 : ∀ (x4 : Int32) (M : Mm), k27 x4 M = some M' → ∀ (H : Heap) (locs : List Loc) (ls : Array Slot), Rx s E L M H locs → lv_has ls 7 [(0, .ref a0), (2, .int x2), (3, .int x3), (4, .int x4)] → W p l e (rmD (d + 2)) s m args below meth c H locs 0 0 (MQ below (QcM E L none M') args s 0 0 E.2.2.2) (F0 m 27 ls [])) (h0 : At L a0 T11) (g0 : (b0, (0, 2048)) ∈ L) (h : fX11_layWants_j61 fu k27 a0 x2 x3 x4 b0 t1 t2 M = some M') (hR : Rx s E L M H locs) (hl : lv_has ls 7 [(0, .ref a0), (2, .int x2), (3, .int x3), (4, .int x4)]) : W p l e (rmD (d + 2)) s m args below meth c H locs 0 0 (MQ below (QcM E L none M') args s 0 0 E.2.2.2) (F0 m 61 ls [.int t2, .int t1, .ref b0]) := by
  have hx := B.1
  have hb := B.2.1
  unfold fX11_layWants_j61 at h
  obtain ⟨hi_61, h⟩ := ifn_el h
  obtain ⟨M_61, eM_61, h⟩ := lt_el h
  refine r_iast B hR g0 hi_61 dX11_layWants_61 (fun H locs hR => ?_)
  rw [← eM_61] at hR
  obtain ⟨x4_62, ex4_62, h⟩ := lt_el h
  refine lv_iinc (v := x4_62) (lv' := [(4, .int x4_62), (0, .ref a0), (2, .int x2), (3, .int x3)]) hx hb dX11_layWants_62 hl (k := 3) rfl (by rw [ex4_62]; rfl) (by decide) rfl (fun ls hl => ?_)
  refine lv_goto (tgt := 27) hx hb dX11_layWants_65 (by decide) ?_
  exact ih27 x4_62 M_61 h _ _ _ hR (lv_sub hl [1, 2, 3, 0] rfl)
def fX11_layWants_b27 (fu : Nat) (k27 : Int32 → Mm → Option Mm) (a0 : Nat) (x2 : Int32) (x3 : Int32) (x4 : Int32) (M : Mm) : Option Mm :=
  if x3 ≤ x4 then
    fX11_layWants_j68 fu a0 x2 x3 M
  else
    bi (fX11_isFixed fu a0 x4 M) fun r_44 =>
    if r_44 = 0 then
      bi (fX11_wantedAt fu a0 x4 M) fun r_58 =>
      fX11_layWants_j61 fu k27 a0 x2 x3 x4 (a0 + 8) (x3 + x4) r_58 M
    else
      fX11_layWants_j61 fu k27 a0 x2 x3 x4 (a0 + 8) (x3 + x4) (-2) M
set_option maxRecDepth 100000 in
set_option maxHeartbeats 4000000 in
theorem wX11_layWants_b27 {M' : Mm}   {k27 : Int32 → Mm → Option Mm} {a0 : Nat} {x2 : Int32} {x3 : Int32} {x4 : Int32} {M : Mm} (B : Bx p s m args c cX11_layWants 7 RX11 E L) (hr : meth.sig.returnType = none) (hlk : meth.locks = false)  (ih27 : ∀ (x4 : Int32) (M : Mm), k27 x4 M = some M' → ∀ (H : Heap) (locs : List Loc) (ls : Array Slot), Rx s E L M H locs → lv_has ls 7 [(0, .ref a0), (2, .int x2), (3, .int x3), (4, .int x4)] → W p l e (rmD (d + 2)) s m args below meth c H locs 0 0 (MQ below (QcM E L none M') args s 0 0 E.2.2.2) (F0 m 27 ls [])) (h0 : At L a0 T11) (h : fX11_layWants_b27 fu k27 a0 x2 x3 x4 M = some M') (hR : Rx s E L M H locs) (hl : lv_has ls 7 [(0, .ref a0), (2, .int x2), (3, .int x3), (4, .int x4)]) : W p l e (rmD (d + 2)) s m args below meth c H locs 0 0 (MQ below (QcM E L none M') args s 0 0 E.2.2.2) (F0 m 27 ls []) := by
  have hx := B.1
  have hb := B.2.1
  unfold fX11_layWants_b27 at h
  refine lv_iload hx hb dX11_layWants_27 (lv_at hl 3 rfl) ?_
  refine lv_iload_n hx hb dX11_layWants_29 rfl (lv_at hl 2 rfl) ?_
  refine lv_icmp_ge (tgt := 68) hx hb dX11_layWants_30 (by decide) (fun c_30 => ?_) (fun c_30 => ?_)
  · rw [if_pos c_30] at h
    exact wX11_layWants_j68 B hr hlk h0 h hR (lv_sub hl [0, 1, 2] rfl)
  · rw [if_neg c_30] at h
    refine lv_aload_n hx hb dX11_layWants_33 rfl (lv_at hl 0 rfl) ?_
    refine gf_X11_36 B hR (h0.at0 rfl) dX11_layWants_34 ?_
    refine lv_iload_n hx hb dX11_layWants_37 rfl (lv_at hl 2 rfl) ?_
    refine lv_iload hx hb dX11_layWants_38 (lv_at hl 3 rfl) ?_
    refine lv_iadd hx hb dX11_layWants_40 ?_
    refine lv_aload_n hx hb dX11_layWants_41 rfl (lv_at hl 0 rfl) ?_
    refine lv_iload hx hb dX11_layWants_42 (lv_at hl 3 rfl) ?_
    obtain ⟨r_44, hc_44, h⟩ := bi_el h
    refine iv_X11_255 B hR (h0.at0 rfl) hl.1 (mX11_isFixed fu _ h0 hc_44) (Nat.le_of_ble_eq_true rfl) dX11_layWants_44 (fun H locs hR => ?_)
    refine lv_if_eq (tgt := 55) hx hb dX11_layWants_47 (by decide) (fun c_47 => ?_) (fun c_47 => ?_)
    · rw [if_pos c_47] at h
      refine lv_aload_n hx hb dX11_layWants_55 rfl (lv_at hl 0 rfl) ?_
      refine lv_iload hx hb dX11_layWants_56 (lv_at hl 3 rfl) ?_
      obtain ⟨r_58, hc_58, h⟩ := bi_el h
      refine iv_X11_285 B hR (h0.at0 rfl) hl.1 (mX11_wantedAt fu _ h0 hc_58) (Nat.le_of_ble_eq_true rfl) dX11_layWants_58 (fun H locs hR => ?_)
      exact wX11_layWants_j61 B hr hlk ih27 h0 (h0.at 8 rfl) h hR hl
    · rw [if_neg c_47] at h
      refine lv_bipush (v := (-2)) hx hb dX11_layWants_50 (by decide) ?_
      refine lv_goto (tgt := 61) hx hb dX11_layWants_52 (by decide) ?_
      exact wX11_layWants_j61 B hr hlk ih27 h0 (h0.at 8 rfl) h hR hl
def fX11_layWants_l27 (fu : Nat) (a0 : Nat) (x2 : Int32) (x3 : Int32) (x4 : Int32) (M : Mm) : Option Mm := lp (fun (rec : (Int32 × Mm) → Option Mm) (s : Int32 × Mm) => fX11_layWants_b27 fu  (fun x4 M => rec (x4, M)) a0 x2 x3 s.1 s.2) fu (x4, M)
set_option maxRecDepth 100000 in
set_option maxHeartbeats 4000000 in
theorem wX11_layWants_l27 {M' : Mm}   {a0 : Nat} {x2 : Int32} {x3 : Int32} {x4 : Int32} {M : Mm} (B : Bx p s m args c cX11_layWants 7 RX11 E L) (hr : meth.sig.returnType = none) (hlk : meth.locks = false)  (h0 : At L a0 T11) (h : fX11_layWants_l27 fu a0 x2 x3 x4 M = some M') (hR : Rx s E L M H locs) (hl : lv_has ls 7 [(0, .ref a0), (2, .int x2), (3, .int x3), (4, .int x4)]) : W p l e (rmD (d + 2)) s m args below meth c H locs 0 0 (MQ below (QcM E L none M') args s 0 0 E.2.2.2) (F0 m 27 ls []) := by
  refine lp_G (G := fun z : Int32 × Mm => ∀ (H : Heap) (locs : List Loc) (ls : Array Slot), Rx s E L z.2 H locs → lv_has ls 7 [(0, .ref a0), (2, .int x2), (3, .int x3), (4, .int z.1)] → W p l e (rmD (d + 2)) s m args below meth c H locs 0 0 (MQ below (QcM E L none M') args s 0 0 E.2.2.2) (F0 m 27 ls [])) (fun rec ih z h H locs ls hR hl => ?_) fu _ h H locs ls hR hl
  exact wX11_layWants_b27 B hr hlk  (fun x4 M h => ih (x4, M) h) h0 h hR hl
def fX11_layWants (fu : Nat) (a0 : Nat) (x1 : Int32) (M : Mm) : Option Mm :=
  lt ((M.1 (a0 + 1) (ix 0))) fun x2_6 =>
  lt (wI M (a0 + 1) (ix 0) x1) fun M_13 =>
  lt (wI M_13 a0 25 x1) fun M_16 =>
  bi (fX11_addresses fu a0 M_16) fun r_20 =>
  fX11_layWants_l27 fu a0 x2_6 r_20 0 M_16
set_option maxRecDepth 100000 in
set_option maxHeartbeats 4000000 in
theorem mX11_layWants {l : Launch} {E : Ge} {L : Lay} (fu d : Nat) {a0 : Nat} {x1 : Int32} {M : Mm} {M' : Mm}  (h0 : At L a0 T11) (h : fX11_layWants fu a0 x1 M = some M') : Ct l E L yX11_layWants cX11_layWants 7 none (d + 2) [.ref a0, .int x1] M none M' := by
  refine Ct.of (by decide) ?_
  intro p e s m below meth c hr hlk B hR
  have B : Bx p s m _ c cX11_layWants 7 RX11 E L := B
  have hx := B.1
  have hb := B.2.1
  have hl := lv_entry ([.ref a0, .int x1]) (n := 7) (Nat.le_of_ble_eq_true rfl)
  rw [lg_entry_eq]
  generalize (lg_sl ([.ref a0, .int x1]) ++ List.replicate (7 - (lg_sl ([.ref a0, .int x1])).length) Slot.unset).toArray = ls at hl ⊢
  have hl : lv_has ls 7 [(0, .ref a0), (1, .int x1)] := hl
  unfold fX11_layWants at h
  refine lv_aload_n hx hb dX11_layWants_0 rfl (lv_at hl 0 rfl) ?_
  refine gf_X11_7 B hR (h0.at0 rfl) dX11_layWants_1 ?_
  refine lv_iconst (v := 0) hx hb dX11_layWants_4 (by decide) ?_
  refine r_iald B hR (h0.at 1 rfl) (by decide +kernel) dX11_layWants_5 ?_
  obtain ⟨x2_6, ex2_6, h⟩ := lt_el h
  refine r_nmI ex2_6 ?_
  refine lv_istore_n (lv' := [(2, .int x2_6), (0, .ref a0), (1, .int x1)]) hx hb dX11_layWants_6 rfl hl (by decide) rfl (fun ls hl => ?_)
  refine lv_aload_n hx hb dX11_layWants_7 rfl (lv_at hl 1 rfl) ?_
  refine gf_X11_7 B hR (h0.at0 rfl) dX11_layWants_8 ?_
  refine lv_iconst (v := 0) hx hb dX11_layWants_11 (by decide) ?_
  refine lv_iload_n hx hb dX11_layWants_12 rfl (lv_at hl 2 rfl) ?_
  obtain ⟨M_13, eM_13, h⟩ := lt_el h
  refine r_iast B hR (h0.at 1 rfl) (by decide +kernel) dX11_layWants_13 (fun H locs hR => ?_)
  rw [← eM_13] at hR
  refine lv_aload_n hx hb dX11_layWants_14 rfl (lv_at hl 1 rfl) ?_
  refine lv_iload_n hx hb dX11_layWants_15 rfl (lv_at hl 2 rfl) ?_
  obtain ⟨M_16, eM_16, h⟩ := lt_el h
  refine pf_X11_315 B hR (h0.at0 rfl) dX11_layWants_16 (fun H locs hR => ?_)
  rw [← eM_16] at hR
  refine lv_aload_n hx hb dX11_layWants_19 rfl (lv_at hl 1 rfl) ?_
  obtain ⟨r_20, hc_20, h⟩ := bi_el h
  refine iv_X11_240 B hR (h0.at0 rfl) hl.1 (mX11_addresses fu _ h0 hc_20) (Nat.le_of_ble_eq_true rfl) dX11_layWants_20 (fun H locs hR => ?_)
  refine lv_istore_n (lv' := [(3, .int r_20), (2, .int x2_6), (0, .ref a0), (1, .int x1)]) hx hb dX11_layWants_23 rfl hl (by decide) rfl (fun ls hl => ?_)
  refine lv_iconst (v := 0) hx hb dX11_layWants_24 (by decide) ?_
  refine lv_istore (lv' := [(4, .int 0), (3, .int r_20), (2, .int x2_6), (0, .ref a0), (1, .int x1)]) hx hb dX11_layWants_25 hl (by decide) rfl (fun ls hl => ?_)
  exact wX11_layWants_l27 B hr hlk h0 h hR (lv_sub hl [3, 2, 1, 0] rfl)
def fX11_madeBy_j34 (fu : Nat) (t0 : Int32) : Option Int32 :=
  some t0
set_option maxRecDepth 100000 in
set_option maxHeartbeats 4000000 in
theorem wX11_madeBy_j34 {r : Int32}   {t0 : Int32} {M : Mm} (B : Bx p s m args c cX11_madeBy 2 RX11 E L) (hr : meth.sig.returnType = (some .int)) (hlk : meth.locks = false)   (h : fX11_madeBy_j34 fu t0 = some r) (hR : Rx s E L M H locs) (hl : lv_has ls 2 []) : W p l e (rmD (d + 0)) s m args below meth c H locs 0 0 (MQ below (QcM E L (some (.int r)) M) args s 0 0 E.2.2.2) (F0 m 34 ls [.int t0]) := by
  have hx := B.1
  have hb := B.2.1
  unfold fX11_madeBy_j34 at h
  exact r_iretP B hR hr hlk h dX11_madeBy_34
def fX11_madeBy_j33 (fu : Nat)  : Option Int32 :=
  fX11_madeBy_j34 fu (-1)
set_option maxRecDepth 100000 in
set_option maxHeartbeats 4000000 in
theorem wX11_madeBy_j33 {r : Int32}    {M : Mm} (B : Bx p s m args c cX11_madeBy 2 RX11 E L) (hr : meth.sig.returnType = (some .int)) (hlk : meth.locks = false)   (h : fX11_madeBy_j33 fu  = some r) (hR : Rx s E L M H locs) (hl : lv_has ls 2 []) : W p l e (rmD (d + 0)) s m args below meth c H locs 0 0 (MQ below (QcM E L (some (.int r)) M) args s 0 0 E.2.2.2) (F0 m 33 ls []) := by
  have hx := B.1
  have hb := B.2.1
  unfold fX11_madeBy_j33 at h
  refine lv_iconst (v := (-1)) hx hb dX11_madeBy_33 (by decide) ?_
  exact wX11_madeBy_j34 B hr hlk  h hR hl
def fX11_madeBy (fu : Nat) (x0 : Int32) (x1 : Int32) : Option Int32 :=
  if x0 = 5 then
    some x1
  else
    if x0 = 0 then
      some (-1)
    else
      if x1 = 0 then
        some 0
      else
        if x0 = 4 then
          if x1 = 2 then
            fX11_madeBy_j34 fu 2
          else
            fX11_madeBy_j33 fu 
        else
          fX11_madeBy_j33 fu 
set_option maxRecDepth 100000 in
set_option maxHeartbeats 4000000 in
theorem mX11_madeBy {l : Launch} {E : Ge} {L : Lay} (fu d : Nat) {x0 : Int32} {x1 : Int32} {M : Mm} {r : Int32}   (h : fX11_madeBy fu x0 x1 = some r) : Ct l E L yX11_madeBy cX11_madeBy 2 (some .int) (d + 0) [.int x0, .int x1] M (some (.int r)) M := by
  refine Ct.of (by decide) ?_
  intro p e s m below meth c hr hlk B hR
  have B : Bx p s m _ c cX11_madeBy 2 RX11 E L := B
  have hx := B.1
  have hb := B.2.1
  have hl := lv_entry ([.int x0, .int x1]) (n := 2) (Nat.le_of_ble_eq_true rfl)
  rw [lg_entry_eq]
  generalize (lg_sl ([.int x0, .int x1]) ++ List.replicate (2 - (lg_sl ([.int x0, .int x1])).length) Slot.unset).toArray = ls at hl ⊢
  have hl : lv_has ls 2 [(0, .int x0), (1, .int x1)] := hl
  unfold fX11_madeBy at h
  refine lv_iload_n hx hb dX11_madeBy_0 rfl (lv_at hl 0 rfl) ?_
  refine lv_iconst (v := 5) hx hb dX11_madeBy_1 (by decide) ?_
  refine lv_icmp_ne (tgt := 7) hx hb dX11_madeBy_2 (by decide) (fun c_2 => ?_) (fun c_2 => ?_)
  · rw [if_neg c_2] at h
    refine lv_iload_n hx hb dX11_madeBy_7 rfl (lv_at hl 0 rfl) ?_
    refine lv_if_ne (tgt := 13) hx hb dX11_madeBy_8 (by decide) (fun c_8 => ?_) (fun c_8 => ?_)
    · rw [if_neg c_8] at h
      refine lv_iload_n hx hb dX11_madeBy_13 rfl (lv_at hl 1 rfl) ?_
      refine lv_if_ne (tgt := 19) hx hb dX11_madeBy_14 (by decide) (fun c_14 => ?_) (fun c_14 => ?_)
      · rw [if_neg c_14] at h
        refine lv_iload_n hx hb dX11_madeBy_19 rfl (lv_at hl 0 rfl) ?_
        refine lv_iconst (v := 4) hx hb dX11_madeBy_20 (by decide) ?_
        refine lv_icmp_ne (tgt := 33) hx hb dX11_madeBy_21 (by decide) (fun c_21 => ?_) (fun c_21 => ?_)
        · rw [if_neg c_21] at h
          exact wX11_madeBy_j33 B hr hlk  h hR (lv_sub hl [] rfl)
        · rw [if_pos c_21] at h
          refine lv_iload_n hx hb dX11_madeBy_24 rfl (lv_at hl 1 rfl) ?_
          refine lv_iconst (v := 2) hx hb dX11_madeBy_25 (by decide) ?_
          refine lv_icmp_ne (tgt := 33) hx hb dX11_madeBy_26 (by decide) (fun c_26 => ?_) (fun c_26 => ?_)
          · rw [if_neg c_26] at h
            exact wX11_madeBy_j33 B hr hlk  h hR (lv_sub hl [] rfl)
          · rw [if_pos c_26] at h
            refine lv_iconst (v := 2) hx hb dX11_madeBy_29 (by decide) ?_
            refine lv_goto (tgt := 34) hx hb dX11_madeBy_30 (by decide) ?_
            exact wX11_madeBy_j34 B hr hlk  h hR (lv_sub hl [] rfl)
      · rw [if_pos c_14] at h
        refine lv_iconst (v := 0) hx hb dX11_madeBy_17 (by decide) ?_
        exact r_iretP B hR hr hlk h dX11_madeBy_18
    · rw [if_pos c_8] at h
      refine lv_iconst (v := (-1)) hx hb dX11_madeBy_11 (by decide) ?_
      exact r_iretP B hR hr hlk h dX11_madeBy_12
  · rw [if_pos c_2] at h
    refine lv_iload_n hx hb dX11_madeBy_5 rfl (lv_at hl 1 rfl) ?_
    exact r_iretP B hR hr hlk h dX11_madeBy_6
def fX11_aboveAt_j27 (fu : Nat) (t0 : Int32) : Option Int32 :=
  some t0
set_option maxRecDepth 100000 in
set_option maxHeartbeats 4000000 in
theorem wX11_aboveAt_j27 {r : Int32}   {t0 : Int32} {M : Mm} (B : Bx p s m args c cX11_aboveAt 1 RX11 E L) (hr : meth.sig.returnType = (some .int)) (hlk : meth.locks = false)   (h : fX11_aboveAt_j27 fu t0 = some r) (hR : Rx s E L M H locs) (hl : lv_has ls 1 []) : W p l e (rmD (d + 0)) s m args below meth c H locs 0 0 (MQ below (QcM E L (some (.int r)) M) args s 0 0 E.2.2.2) (F0 m 27 ls [.int t0]) := by
  have hx := B.1
  have hb := B.2.1
  unfold fX11_aboveAt_j27 at h
  exact r_iretP B hR hr hlk h dX11_aboveAt_27
def fX11_aboveAt (fu : Nat) (x0 : Int32) : Option Int32 :=
  if x0 = 0 then
    fX11_aboveAt_j27 fu 0
  else
    if x0 = 1 then
      fX11_aboveAt_j27 fu 2
    else
      if x0 = 2 then
        fX11_aboveAt_j27 fu 1
      else
        fX11_aboveAt_j27 fu x0
set_option maxRecDepth 100000 in
set_option maxHeartbeats 4000000 in
theorem mX11_aboveAt {l : Launch} {E : Ge} {L : Lay} (fu d : Nat) {x0 : Int32} {M : Mm} {r : Int32}   (h : fX11_aboveAt fu x0 = some r) : Ct l E L yX11_aboveAt cX11_aboveAt 1 (some .int) (d + 0) [.int x0] M (some (.int r)) M := by
  refine Ct.of (by decide) ?_
  intro p e s m below meth c hr hlk B hR
  have B : Bx p s m _ c cX11_aboveAt 1 RX11 E L := B
  have hx := B.1
  have hb := B.2.1
  have hl := lv_entry ([.int x0]) (n := 1) (Nat.le_of_ble_eq_true rfl)
  rw [lg_entry_eq]
  generalize (lg_sl ([.int x0]) ++ List.replicate (1 - (lg_sl ([.int x0])).length) Slot.unset).toArray = ls at hl ⊢
  have hl : lv_has ls 1 [(0, .int x0)] := hl
  unfold fX11_aboveAt at h
  refine lv_iload_n hx hb dX11_aboveAt_0 rfl (lv_at hl 0 rfl) ?_
  refine lv_if_ne (tgt := 8) hx hb dX11_aboveAt_1 (by decide) (fun c_1 => ?_) (fun c_1 => ?_)
  · rw [if_neg c_1] at h
    refine lv_iload_n hx hb dX11_aboveAt_8 rfl (lv_at hl 0 rfl) ?_
    refine lv_iconst (v := 1) hx hb dX11_aboveAt_9 (by decide) ?_
    refine lv_icmp_ne (tgt := 17) hx hb dX11_aboveAt_10 (by decide) (fun c_10 => ?_) (fun c_10 => ?_)
    · rw [if_neg c_10] at h
      refine lv_iload_n hx hb dX11_aboveAt_17 rfl (lv_at hl 0 rfl) ?_
      refine lv_iconst (v := 2) hx hb dX11_aboveAt_18 (by decide) ?_
      refine lv_icmp_ne (tgt := 26) hx hb dX11_aboveAt_19 (by decide) (fun c_19 => ?_) (fun c_19 => ?_)
      · rw [if_neg c_19] at h
        refine lv_iload_n hx hb dX11_aboveAt_26 rfl (lv_at hl 0 rfl) ?_
        exact wX11_aboveAt_j27 B hr hlk  h hR (lv_sub hl [] rfl)
      · rw [if_pos c_19] at h
        refine lv_iconst (v := 1) hx hb dX11_aboveAt_22 (by decide) ?_
        refine lv_goto (tgt := 27) hx hb dX11_aboveAt_23 (by decide) ?_
        exact wX11_aboveAt_j27 B hr hlk  h hR (lv_sub hl [] rfl)
    · rw [if_pos c_10] at h
      refine lv_iconst (v := 2) hx hb dX11_aboveAt_13 (by decide) ?_
      refine lv_goto (tgt := 27) hx hb dX11_aboveAt_14 (by decide) ?_
      exact wX11_aboveAt_j27 B hr hlk  h hR (lv_sub hl [] rfl)
  · rw [if_pos c_1] at h
    refine lv_iconst (v := 0) hx hb dX11_aboveAt_4 (by decide) ?_
    refine lv_goto (tgt := 27) hx hb dX11_aboveAt_5 (by decide) ?_
    exact wX11_aboveAt_j27 B hr hlk  h hR (lv_sub hl [] rfl)
def fX11_kindBy_j13 (fu : Nat) (t0 : Int32) (M : Mm) : Option Int32 :=
  some t0
set_option maxRecDepth 100000 in
set_option maxHeartbeats 4000000 in
theorem wX11_kindBy_j13 {r : Int32}   {t0 : Int32} {M : Mm} (B : Bx p s m args c cX11_kindBy 2 RX11 E L) (hr : meth.sig.returnType = (some .int)) (hlk : meth.locks = false)   (h : fX11_kindBy_j13 fu t0 M = some r) (hR : Rx s E L M H locs) (hl : lv_has ls 2 []) : W p l e (rmD (d + 0)) s m args below meth c H locs 0 0 (MQ below (QcM E L (some (.int r)) M) args s 0 0 E.2.2.2) (F0 m 13 ls [.int t0]) := by
  have hx := B.1
  have hb := B.2.1
  unfold fX11_kindBy_j13 at h
  exact r_iretP B hR hr hlk h dX11_kindBy_13
def fX11_kindBy (fu : Nat) (a0 : Nat) (x1 : Int32) (M : Mm) : Option Int32 :=
  if x1 = 5 then
    fX11_kindBy_j13 fu (M.1 a0 25) M
  else
    fX11_kindBy_j13 fu x1 M
set_option maxRecDepth 100000 in
set_option maxHeartbeats 4000000 in
theorem mX11_kindBy {l : Launch} {E : Ge} {L : Lay} (fu d : Nat) {a0 : Nat} {x1 : Int32} {M : Mm} {r : Int32}  (h0 : At L a0 T11) (h : fX11_kindBy fu a0 x1 M = some r) : Ct l E L yX11_kindBy cX11_kindBy 2 (some .int) (d + 0) [.ref a0, .int x1] M (some (.int r)) M := by
  refine Ct.of (by decide) ?_
  intro p e s m below meth c hr hlk B hR
  have B : Bx p s m _ c cX11_kindBy 2 RX11 E L := B
  have hx := B.1
  have hb := B.2.1
  have hl := lv_entry ([.ref a0, .int x1]) (n := 2) (Nat.le_of_ble_eq_true rfl)
  rw [lg_entry_eq]
  generalize (lg_sl ([.ref a0, .int x1]) ++ List.replicate (2 - (lg_sl ([.ref a0, .int x1])).length) Slot.unset).toArray = ls at hl ⊢
  have hl : lv_has ls 2 [(0, .ref a0), (1, .int x1)] := hl
  unfold fX11_kindBy at h
  refine lv_iload_n hx hb dX11_kindBy_0 rfl (lv_at hl 1 rfl) ?_
  refine lv_iconst (v := 5) hx hb dX11_kindBy_1 (by decide) ?_
  refine lv_icmp_ne (tgt := 12) hx hb dX11_kindBy_2 (by decide) (fun c_2 => ?_) (fun c_2 => ?_)
  · rw [if_neg c_2] at h
    refine lv_iload_n hx hb dX11_kindBy_12 rfl (lv_at hl 1 rfl) ?_
    exact wX11_kindBy_j13 B hr hlk  h hR (lv_sub hl [] rfl)
  · rw [if_pos c_2] at h
    refine lv_aload_n hx hb dX11_kindBy_5 rfl (lv_at hl 0 rfl) ?_
    refine gf_X11_315 B hR (h0.at0 rfl) dX11_kindBy_6 ?_
    refine lv_goto (tgt := 13) hx hb dX11_kindBy_9 (by decide) ?_
    exact wX11_kindBy_j13 B hr hlk  h hR (lv_sub hl [] rfl)
def fX11_isRight_j34 (fu : Nat) (t0 : Int32) (M : Mm) : Option Int32 :=
  gd (t0 = 0 ∨ t0 = 1) <|
  some t0
set_option maxRecDepth 100000 in
set_option maxHeartbeats 4000000 in
theorem wX11_isRight_j34 {r : Int32}   {t0 : Int32} {M : Mm} (B : Bx p s m args c cX11_isRight 4 RX11 E L) (hr : meth.sig.returnType = (some .boolean)) (hlk : meth.locks = false)   (h : fX11_isRight_j34 fu t0 M = some r) (hR : Rx s E L M H locs) (hl : lv_has ls 4 []) : W p l e (rmD (d + 2)) s m args below meth c H locs 0 0 (MQ below (QcM E L (some (.int r)) M) args s 0 0 E.2.2.2) (F0 m 34 ls [.int t0]) := by
  have hx := B.1
  have hb := B.2.1
  unfold fX11_isRight_j34 at h
  obtain ⟨hz_34, h⟩ := gd_el h
  exact r_zretP B hR hr hlk hz_34 h dX11_isRight_34
def fX11_isRight_j29 (fu : Nat) (M : Mm) : Option Int32 :=
  fX11_isRight_j34 fu 1 M
set_option maxRecDepth 100000 in
set_option maxHeartbeats 4000000 in
theorem wX11_isRight_j29 {r : Int32}    {M : Mm} (B : Bx p s m args c cX11_isRight 4 RX11 E L) (hr : meth.sig.returnType = (some .boolean)) (hlk : meth.locks = false)   (h : fX11_isRight_j29 fu M = some r) (hR : Rx s E L M H locs) (hl : lv_has ls 4 []) : W p l e (rmD (d + 2)) s m args below meth c H locs 0 0 (MQ below (QcM E L (some (.int r)) M) args s 0 0 E.2.2.2) (F0 m 29 ls []) := by
  have hx := B.1
  have hb := B.2.1
  unfold fX11_isRight_j29 at h
  refine lv_iconst (v := 1) hx hb dX11_isRight_29 (by decide) ?_
  refine lv_goto (tgt := 34) hx hb dX11_isRight_30 (by decide) ?_
  exact wX11_isRight_j34 B hr hlk  h hR hl
def fX11_isRight (fu : Nat) (a0 : Nat) (x1 : Int32) (x2 : Int32) (x3 : Int32) (M : Mm) : Option Int32 :=
  if x1 < 0 ∨ 2048 ≤ ix x1 then none else
  if (M.1 (a0 + 8) (ix x1)) = (-2) then
    fX11_isRight_j29 fu M
  else
    bi (fX11_kindBy fu a0 x2 M) fun r_20 =>
    bi (fX11_seenAs fu x3 r_20) fun r_23 =>
    if (M.1 (a0 + 8) (ix x1)) = r_23 then
      fX11_isRight_j29 fu M
    else
      fX11_isRight_j34 fu 0 M
set_option maxRecDepth 100000 in
set_option maxHeartbeats 4000000 in
theorem mX11_isRight {l : Launch} {E : Ge} {L : Lay} (fu d : Nat) {a0 : Nat} {x1 : Int32} {x2 : Int32} {x3 : Int32} {M : Mm} {r : Int32}  (h0 : At L a0 T11) (h : fX11_isRight fu a0 x1 x2 x3 M = some r) : Ct l E L yX11_isRight cX11_isRight 4 (some .boolean) (d + 2) [.ref a0, .int x1, .int x2, .int x3] M (some (.int r)) M := by
  refine Ct.of (by decide) ?_
  intro p e s m below meth c hr hlk B hR
  have B : Bx p s m _ c cX11_isRight 4 RX11 E L := B
  have hx := B.1
  have hb := B.2.1
  have hl := lv_entry ([.ref a0, .int x1, .int x2, .int x3]) (n := 4) (Nat.le_of_ble_eq_true rfl)
  rw [lg_entry_eq]
  generalize (lg_sl ([.ref a0, .int x1, .int x2, .int x3]) ++ List.replicate (4 - (lg_sl ([.ref a0, .int x1, .int x2, .int x3])).length) Slot.unset).toArray = ls at hl ⊢
  have hl : lv_has ls 4 [(0, .ref a0), (1, .int x1), (2, .int x2), (3, .int x3)] := hl
  unfold fX11_isRight at h
  refine lv_aload_n hx hb dX11_isRight_0 rfl (lv_at hl 0 rfl) ?_
  refine gf_X11_36 B hR (h0.at0 rfl) dX11_isRight_1 ?_
  refine lv_iload_n hx hb dX11_isRight_4 rfl (lv_at hl 1 rfl) ?_
  obtain ⟨hi_5, h⟩ := ifn_el h
  refine r_iald B hR (h0.at 8 rfl) hi_5 dX11_isRight_5 ?_
  refine lv_bipush (v := (-2)) hx hb dX11_isRight_6 (by decide) ?_
  refine lv_icmp_eq (tgt := 29) hx hb dX11_isRight_8 (by decide) (fun c_8 => ?_) (fun c_8 => ?_)
  · rw [if_pos c_8] at h
    exact wX11_isRight_j29 B hr hlk  h hR (lv_sub hl [] rfl)
  · rw [if_neg c_8] at h
    refine lv_aload_n hx hb dX11_isRight_11 rfl (lv_at hl 0 rfl) ?_
    refine gf_X11_36 B hR (h0.at0 rfl) dX11_isRight_12 ?_
    refine lv_iload_n hx hb dX11_isRight_15 rfl (lv_at hl 1 rfl) ?_
    refine r_iald B hR (h0.at 8 rfl) hi_5 dX11_isRight_16 ?_
    refine lv_iload_n hx hb dX11_isRight_17 rfl (lv_at hl 3 rfl) ?_
    refine lv_aload_n hx hb dX11_isRight_18 rfl (lv_at hl 0 rfl) ?_
    refine lv_iload_n hx hb dX11_isRight_19 rfl (lv_at hl 2 rfl) ?_
    obtain ⟨r_20, hc_20, h⟩ := bi_el h
    refine iv_X11_318 B hR (h0.at0 rfl) hl.1 (mX11_kindBy fu _ h0 hc_20) (Nat.le_of_ble_eq_true rfl) dX11_isRight_20 (fun H locs hR => ?_)
    obtain ⟨r_23, hc_23, h⟩ := bi_el h
    refine is_X11_279 B hR hl.1 (mX11_seenAs fu _  hc_23) (Nat.le_of_ble_eq_true rfl) dX11_isRight_23 (fun H locs hR => ?_)
    refine lv_icmp_ne (tgt := 33) hx hb dX11_isRight_26 (by decide) (fun c_26 => ?_) (fun c_26 => ?_)
    · rw [if_neg c_26] at h
      refine lv_iconst (v := 0) hx hb dX11_isRight_33 (by decide) ?_
      exact wX11_isRight_j34 B hr hlk  h hR (lv_sub hl [] rfl)
    · rw [if_pos c_26] at h
      exact wX11_isRight_j29 B hr hlk  h hR (lv_sub hl [] rfl)
def fX11_both (fu : Nat) (a0 : Nat) (n1 : Nat) (a1 : Nat) (x2 : Int32) (x3 : Int32) (M : Mm) : Option Int32 :=
  if ((12 * x2) + x3) < 0 ∨ n1 ≤ ix ((12 * x2) + x3) then none else
  if ((6 * ((2 * x2) + 1)) + x3) < 0 ∨ n1 ≤ ix ((6 * ((2 * x2) + 1)) + x3) then none else
  bi (fX11_less fu 1048576 ((M.1 a1 (ix ((12 * x2) + x3))) + (M.1 a1 (ix ((6 * ((2 * x2) + 1)) + x3))))) fun r_24 =>
  some r_24
set_option maxRecDepth 100000 in
set_option maxHeartbeats 4000000 in
theorem mX11_both {l : Launch} {E : Ge} {L : Lay} (fu d : Nat) {a0 : Nat} {n1 : Nat} {a1 : Nat} {x2 : Int32} {x3 : Int32} {M : Mm} {r : Int32}  (h0 : At L a0 T11) (h1 : (a1, (0, n1)) ∈ L) (h : fX11_both fu a0 n1 a1 x2 x3 M = some r) : Ct l E L yX11_both cX11_both 4 (some .int) (d + 1) [.ref a0, .ref a1, .int x2, .int x3] M (some (.int r)) M := by
  refine Ct.of (by decide) ?_
  intro p e s m below meth c hr hlk B hR
  have B : Bx p s m _ c cX11_both 4 RX11 E L := B
  have hx := B.1
  have hb := B.2.1
  have hl := lv_entry ([.ref a0, .ref a1, .int x2, .int x3]) (n := 4) (Nat.le_of_ble_eq_true rfl)
  rw [lg_entry_eq]
  generalize (lg_sl ([.ref a0, .ref a1, .int x2, .int x3]) ++ List.replicate (4 - (lg_sl ([.ref a0, .ref a1, .int x2, .int x3])).length) Slot.unset).toArray = ls at hl ⊢
  have hl : lv_has ls 4 [(0, .ref a0), (1, .ref a1), (2, .int x2), (3, .int x3)] := hl
  unfold fX11_both at h
  refine lc_X11_321 B dX11_both_0 ?_
  refine lv_aload_n hx hb dX11_both_3 rfl (lv_at hl 1 rfl) ?_
  refine lv_bipush (v := 12) hx hb dX11_both_4 (by decide) ?_
  refine lv_iload_n hx hb dX11_both_6 rfl (lv_at hl 2 rfl) ?_
  refine lv_imul hx hb dX11_both_7 ?_
  refine lv_iload_n hx hb dX11_both_8 rfl (lv_at hl 3 rfl) ?_
  refine lv_iadd hx hb dX11_both_9 ?_
  obtain ⟨hi_10, h⟩ := ifn_el h
  refine r_iald B hR h1 hi_10 dX11_both_10 ?_
  refine lv_aload_n hx hb dX11_both_11 rfl (lv_at hl 1 rfl) ?_
  refine lv_bipush (v := 6) hx hb dX11_both_12 (by decide) ?_
  refine lv_iconst (v := 2) hx hb dX11_both_14 (by decide) ?_
  refine lv_iload_n hx hb dX11_both_15 rfl (lv_at hl 2 rfl) ?_
  refine lv_imul hx hb dX11_both_16 ?_
  refine lv_iconst (v := 1) hx hb dX11_both_17 (by decide) ?_
  refine lv_iadd hx hb dX11_both_18 ?_
  refine lv_imul hx hb dX11_both_19 ?_
  refine lv_iload_n hx hb dX11_both_20 rfl (lv_at hl 3 rfl) ?_
  refine lv_iadd hx hb dX11_both_21 ?_
  obtain ⟨hi_22, h⟩ := ifn_el h
  refine r_iald B hR h1 hi_22 dX11_both_22 ?_
  refine lv_iadd hx hb dX11_both_23 ?_
  obtain ⟨r_24, hc_24, h⟩ := bi_el h
  refine is_X11_273 B hR hl.1 (mX11_less fu _  hc_24) (Nat.le_of_ble_eq_true rfl) dX11_both_24 (fun H locs hR => ?_)
  exact r_iretP B hR hr hlk h dX11_both_27
def fX11_layFewest_j153 (fu : Nat) (M : Mm) : Option Mm :=
  some M
set_option maxRecDepth 100000 in
set_option maxHeartbeats 4000000 in
theorem wX11_layFewest_j153 {M' : Mm}    {M : Mm} (B : Bx p s m args c cX11_layFewest 8 RX11 E L) (hr : meth.sig.returnType = none) (hlk : meth.locks = false)   (h : fX11_layFewest_j153 fu M = some M') (hR : Rx s E L M H locs) (hl : lv_has ls 8 []) : W p l e (rmD (d + 3)) s m args below meth c H locs 0 0 (MQ below (QcM E L none M') args s 0 0 E.2.2.2) (F0 m 153 ls []) := by
  have hx := B.1
  have hb := B.2.1
  unfold fX11_layFewest_j153 at h
  exact r_vretW B hR hr hlk h dX11_layFewest_153
def fX11_layFewest_j147 (fu : Nat) (k11 : Int32 → Mm → Option Mm) (a0 : Nat) (x1 : Int32) (x2 : Int32) (x3 : Int32) (M : Mm) : Option Mm :=
  lt (x3 + (-1)) fun x3_147 =>
  k11 x3_147 M
set_option maxRecDepth 100000 in
set_option maxHeartbeats 4000000 in
theorem wX11_layFewest_j147 {M' : Mm}  {k11 : Int32 → Mm → Option Mm} {a0 : Nat} {x1 : Int32} {x2 : Int32} {x3 : Int32} {M : Mm} (B : Bx p s m args c cX11_layFewest 8 RX11 E L) (hr : meth.sig.returnType = none) (hlk : meth.locks = false) (ih11 : ∀ (x3 : Int32) (M : Mm), k11 x3 M = some M' → ∀ (H : Heap) (locs : List Loc) (ls : Array Slot), Rx s E L M H locs → lv_has ls 8 [(0, .ref a0), (1, .int x1), (2, .int x2), (3, .int x3)] → W p l e (rmD (d + 3)) s m args below meth c H locs 0 0 (MQ below (QcM E L none M') args s 0 0 E.2.2.2) (F0 m 11 ls [])) (h0 : At L a0 T11) (h : fX11_layFewest_j147 fu k11 a0 x1 x2 x3 M = some M') (hR : Rx s E L M H locs) (hl : lv_has ls 8 [(0, .ref a0), (1, .int x1), (2, .int x2), (3, .int x3)]) : W p l e (rmD (d + 3)) s m args below meth c H locs 0 0 (MQ below (QcM E L none M') args s 0 0 E.2.2.2) (F0 m 147 ls []) := by
  have hx := B.1
  have hb := B.2.1
  unfold fX11_layFewest_j147 at h
  obtain ⟨x3_147, ex3_147, h⟩ := lt_el h
  refine lv_iinc (v := x3_147) (lv' := [(3, .int x3_147), (0, .ref a0), (1, .int x1), (2, .int x2)]) hx hb dX11_layFewest_147 hl (k := 3) rfl (by rw [ex3_147]; rfl) (by decide) rfl (fun ls hl => ?_)
  refine lv_goto (tgt := 11) hx hb dX11_layFewest_150 (by decide) ?_
  exact ih11 x3_147 M h _ _ _ hR (lv_sub hl [1, 2, 3, 0] rfl)
def fX11_layFewest_j127 (fu : Nat) (k11 : Int32 → Mm → Option Mm) (k18 : Int32 → Mm → Option Mm) (a0 : Nat) (x1 : Int32) (x2 : Int32) (x3 : Int32) (x4 : Int32) (x5 : Int32) (x6 : Int32) (M : Mm) : Option Mm :=
  if ((6 * x3) + x5) < 0 ∨ 12288 ≤ ix ((6 * x3) + x5) then none else
  lt (wI M (a0 + 9) (ix ((6 * x3) + x5)) x6) fun M_140 =>
  lt (x4 + 1) fun x4_141 =>
  k18 x4_141 M_140
set_option maxRecDepth 100000 in
set_option maxHeartbeats 4000000 in
theorem wX11_layFewest_j127 {M' : Mm}  {k11 : Int32 → Mm → Option Mm} {k18 : Int32 → Mm → Option Mm} {a0 : Nat} {x1 : Int32} {x2 : Int32} {x3 : Int32} {x4 : Int32} {x5 : Int32} {x6 : Int32} {M : Mm} (B : Bx p s m args c cX11_layFewest 8 RX11 E L) (hr : meth.sig.returnType = none) (hlk : meth.locks = false) (ih11 : ∀ (x3 : Int32) (M : Mm), k11 x3 M = some M' → ∀ (H : Heap) (locs : List Loc) (ls : Array Slot), Rx s E L M H locs → lv_has ls 8 [(0, .ref a0), (1, .int x1), (2, .int x2), (3, .int x3)] → W p l e (rmD (d + 3)) s m args below meth c H locs 0 0 (MQ below (QcM E L none M') args s 0 0 E.2.2.2) (F0 m 11 ls [])) (ih18 : ∀ (x4 : Int32) (M : Mm), k18 x4 M = some M' → ∀ (H : Heap) (locs : List Loc) (ls : Array Slot), Rx s E L M H locs → lv_has ls 8 [(0, .ref a0), (1, .int x1), (2, .int x2), (3, .int x3), (4, .int x4)] → W p l e (rmD (d + 3)) s m args below meth c H locs 0 0 (MQ below (QcM E L none M') args s 0 0 E.2.2.2) (F0 m 18 ls [])) (h0 : At L a0 T11) (h : fX11_layFewest_j127 fu k11 k18 a0 x1 x2 x3 x4 x5 x6 M = some M') (hR : Rx s E L M H locs) (hl : lv_has ls 8 [(0, .ref a0), (1, .int x1), (2, .int x2), (3, .int x3), (4, .int x4), (5, .int x5), (6, .int x6)]) : W p l e (rmD (d + 3)) s m args below meth c H locs 0 0 (MQ below (QcM E L none M') args s 0 0 E.2.2.2) (F0 m 127 ls []) := by
  have hx := B.1
  have hb := B.2.1
  unfold fX11_layFewest_j127 at h
  refine lv_aload_n hx hb dX11_layFewest_127 rfl (lv_at hl 0 rfl) ?_
  refine gf_X11_39 B hR (h0.at0 rfl) dX11_layFewest_128 ?_
  refine lv_bipush (v := 6) hx hb dX11_layFewest_131 (by decide) ?_
  refine lv_iload_n hx hb dX11_layFewest_133 rfl (lv_at hl 3 rfl) ?_
  refine lv_imul hx hb dX11_layFewest_134 ?_
  refine lv_iload hx hb dX11_layFewest_135 (lv_at hl 5 rfl) ?_
  refine lv_iadd hx hb dX11_layFewest_137 ?_
  refine lv_iload hx hb dX11_layFewest_138 (lv_at hl 6 rfl) ?_
  obtain ⟨hi_140, h⟩ := ifn_el h
  obtain ⟨M_140, eM_140, h⟩ := lt_el h
  refine r_iast B hR (h0.at 9 rfl) hi_140 dX11_layFewest_140 (fun H locs hR => ?_)
  rw [← eM_140] at hR
  obtain ⟨x4_141, ex4_141, h⟩ := lt_el h
  refine lv_iinc (v := x4_141) (lv' := [(4, .int x4_141), (0, .ref a0), (1, .int x1), (2, .int x2), (3, .int x3), (5, .int x5), (6, .int x6)]) hx hb dX11_layFewest_141 hl (k := 4) rfl (by rw [ex4_141]; rfl) (by decide) rfl (fun ls hl => ?_)
  refine lv_goto (tgt := 18) hx hb dX11_layFewest_144 (by decide) ?_
  exact ih18 x4_141 M_140 h _ _ _ hR (lv_sub hl [1, 2, 3, 4, 0] rfl)
def fX11_layFewest_j121 (fu : Nat) (k11 : Int32 → Mm → Option Mm) (k18 : Int32 → Mm → Option Mm) (k74 : Int32 → Int32 → Option Mm) (a0 : Nat) (x1 : Int32) (x2 : Int32) (x3 : Int32) (x4 : Int32) (x5 : Int32) (x6 : Int32) (x7 : Int32) (M : Mm) : Option Mm :=
  lt (x7 + 1) fun x7_121 =>
  k74 x6 x7_121
set_option maxRecDepth 100000 in
set_option maxHeartbeats 4000000 in
theorem wX11_layFewest_j121 {M' : Mm}  {k11 : Int32 → Mm → Option Mm} {k18 : Int32 → Mm → Option Mm} {k74 : Int32 → Int32 → Option Mm} {a0 : Nat} {x1 : Int32} {x2 : Int32} {x3 : Int32} {x4 : Int32} {x5 : Int32} {x6 : Int32} {x7 : Int32} {M : Mm} (B : Bx p s m args c cX11_layFewest 8 RX11 E L) (hr : meth.sig.returnType = none) (hlk : meth.locks = false) (ih11 : ∀ (x3 : Int32) (M : Mm), k11 x3 M = some M' → ∀ (H : Heap) (locs : List Loc) (ls : Array Slot), Rx s E L M H locs → lv_has ls 8 [(0, .ref a0), (1, .int x1), (2, .int x2), (3, .int x3)] → W p l e (rmD (d + 3)) s m args below meth c H locs 0 0 (MQ below (QcM E L none M') args s 0 0 E.2.2.2) (F0 m 11 ls [])) (ih18 : ∀ (x4 : Int32) (M : Mm), k18 x4 M = some M' → ∀ (H : Heap) (locs : List Loc) (ls : Array Slot), Rx s E L M H locs → lv_has ls 8 [(0, .ref a0), (1, .int x1), (2, .int x2), (3, .int x3), (4, .int x4)] → W p l e (rmD (d + 3)) s m args below meth c H locs 0 0 (MQ below (QcM E L none M') args s 0 0 E.2.2.2) (F0 m 18 ls [])) (ih74 : ∀ (x6 : Int32) (x7 : Int32), k74 x6 x7 = some M' → ∀ (H : Heap) (locs : List Loc) (ls : Array Slot), Rx s E L M H locs → lv_has ls 8 [(0, .ref a0), (1, .int x1), (2, .int x2), (3, .int x3), (4, .int x4), (5, .int x5), (6, .int x6), (7, .int x7)] → W p l e (rmD (d + 3)) s m args below meth c H locs 0 0 (MQ below (QcM E L none M') args s 0 0 E.2.2.2) (F0 m 74 ls [])) (h0 : At L a0 T11) (h : fX11_layFewest_j121 fu k11 k18 k74 a0 x1 x2 x3 x4 x5 x6 x7 M = some M') (hR : Rx s E L M H locs) (hl : lv_has ls 8 [(0, .ref a0), (1, .int x1), (2, .int x2), (3, .int x3), (4, .int x4), (5, .int x5), (6, .int x6), (7, .int x7)]) : W p l e (rmD (d + 3)) s m args below meth c H locs 0 0 (MQ below (QcM E L none M') args s 0 0 E.2.2.2) (F0 m 121 ls []) := by
  have hx := B.1
  have hb := B.2.1
  unfold fX11_layFewest_j121 at h
  obtain ⟨x7_121, ex7_121, h⟩ := lt_el h
  refine lv_iinc (v := x7_121) (lv' := [(7, .int x7_121), (0, .ref a0), (1, .int x1), (2, .int x2), (3, .int x3), (4, .int x4), (5, .int x5), (6, .int x6)]) hx hb dX11_layFewest_121 hl (k := 7) rfl (by rw [ex7_121]; rfl) (by decide) rfl (fun ls hl => ?_)
  refine lv_goto (tgt := 74) hx hb dX11_layFewest_124 (by decide) ?_
  exact ih74 x6 x7_121 h _ _ _ hR (lv_sub hl [1, 2, 3, 4, 5, 6, 7, 0] rfl)
def fX11_layFewest_b74 (fu : Nat) (k11 : Int32 → Mm → Option Mm) (k18 : Int32 → Mm → Option Mm) (k74 : Int32 → Int32 → Option Mm) (a0 : Nat) (x1 : Int32) (x2 : Int32) (x3 : Int32) (x4 : Int32) (x5 : Int32) (x6 : Int32) (x7 : Int32) (M : Mm) : Option Mm :=
  if 5 ≤ x7 then
    fX11_layFewest_j127 fu k11 k18 a0 x1 x2 x3 x4 x5 x6 M
  else
    if x6 ≤ 0 then
      fX11_layFewest_j127 fu k11 k18 a0 x1 x2 x3 x4 x5 x6 M
    else
      bi (fX11_madeBy fu x5 x7) fun r_89 =>
      if r_89 < 0 then
        fX11_layFewest_j121 fu k11 k18 k74 a0 x1 x2 x3 x4 x5 x6 x7 M
      else
        bi (fX11_madeBy fu x5 x7) fun r_110 =>
        if ((6 * x3) + r_110) < 0 ∨ 12288 ≤ ix ((6 * x3) + r_110) then none else
        bi (fX11_less fu x6 (1 + (M.1 (a0 + 9) (ix ((6 * x3) + r_110))))) fun r_116 =>
        fX11_layFewest_j121 fu k11 k18 k74 a0 x1 x2 x3 x4 x5 r_116 x7 M
set_option maxRecDepth 100000 in
set_option maxHeartbeats 4000000 in
theorem wX11_layFewest_b74 {M' : Mm}  {k11 : Int32 → Mm → Option Mm} {k18 : Int32 → Mm → Option Mm} {k74 : Int32 → Int32 → Option Mm} {a0 : Nat} {x1 : Int32} {x2 : Int32} {x3 : Int32} {x4 : Int32} {x5 : Int32} {x6 : Int32} {x7 : Int32} {M : Mm} (B : Bx p s m args c cX11_layFewest 8 RX11 E L) (hr : meth.sig.returnType = none) (hlk : meth.locks = false) (ih11 : ∀ (x3 : Int32) (M : Mm), k11 x3 M = some M' → ∀ (H : Heap) (locs : List Loc) (ls : Array Slot), Rx s E L M H locs → lv_has ls 8 [(0, .ref a0), (1, .int x1), (2, .int x2), (3, .int x3)] → W p l e (rmD (d + 3)) s m args below meth c H locs 0 0 (MQ below (QcM E L none M') args s 0 0 E.2.2.2) (F0 m 11 ls [])) (ih18 : ∀ (x4 : Int32) (M : Mm), k18 x4 M = some M' → ∀ (H : Heap) (locs : List Loc) (ls : Array Slot), Rx s E L M H locs → lv_has ls 8 [(0, .ref a0), (1, .int x1), (2, .int x2), (3, .int x3), (4, .int x4)] → W p l e (rmD (d + 3)) s m args below meth c H locs 0 0 (MQ below (QcM E L none M') args s 0 0 E.2.2.2) (F0 m 18 ls [])) (ih74 : ∀ (x6 : Int32) (x7 : Int32), k74 x6 x7 = some M' → ∀ (H : Heap) (locs : List Loc) (ls : Array Slot), Rx s E L M H locs → lv_has ls 8 [(0, .ref a0), (1, .int x1), (2, .int x2), (3, .int x3), (4, .int x4), (5, .int x5), (6, .int x6), (7, .int x7)] → W p l e (rmD (d + 3)) s m args below meth c H locs 0 0 (MQ below (QcM E L none M') args s 0 0 E.2.2.2) (F0 m 74 ls [])) (h0 : At L a0 T11) (h : fX11_layFewest_b74 fu k11 k18 k74 a0 x1 x2 x3 x4 x5 x6 x7 M = some M') (hR : Rx s E L M H locs) (hl : lv_has ls 8 [(0, .ref a0), (1, .int x1), (2, .int x2), (3, .int x3), (4, .int x4), (5, .int x5), (6, .int x6), (7, .int x7)]) : W p l e (rmD (d + 3)) s m args below meth c H locs 0 0 (MQ below (QcM E L none M') args s 0 0 E.2.2.2) (F0 m 74 ls []) := by
  have hx := B.1
  have hb := B.2.1
  unfold fX11_layFewest_b74 at h
  refine lv_iload hx hb dX11_layFewest_74 (lv_at hl 7 rfl) ?_
  refine lv_iconst (v := 5) hx hb dX11_layFewest_76 (by decide) ?_
  refine lv_icmp_ge (tgt := 127) hx hb dX11_layFewest_77 (by decide) (fun c_77 => ?_) (fun c_77 => ?_)
  · rw [if_pos c_77] at h
    exact wX11_layFewest_j127 B hr hlk ih11 ih18 h0 h hR (lv_sub hl [0, 1, 2, 3, 4, 5, 6] rfl)
  · rw [if_neg c_77] at h
    refine lv_iload hx hb dX11_layFewest_80 (lv_at hl 6 rfl) ?_
    refine lv_if_le (tgt := 127) hx hb dX11_layFewest_82 (by decide) (fun c_82 => ?_) (fun c_82 => ?_)
    · rw [if_pos c_82] at h
      exact wX11_layFewest_j127 B hr hlk ih11 ih18 h0 h hR (lv_sub hl [0, 1, 2, 3, 4, 5, 6] rfl)
    · rw [if_neg c_82] at h
      refine lv_iload hx hb dX11_layFewest_85 (lv_at hl 5 rfl) ?_
      refine lv_iload hx hb dX11_layFewest_87 (lv_at hl 7 rfl) ?_
      obtain ⟨r_89, hc_89, h⟩ := bi_el h
      refine is_X11_332 B hR hl.1 (mX11_madeBy fu _  hc_89) (Nat.le_of_ble_eq_true rfl) dX11_layFewest_89 (fun H locs hR => ?_)
      refine lv_if_lt (tgt := 121) hx hb dX11_layFewest_92 (by decide) (fun c_92 => ?_) (fun c_92 => ?_)
      · rw [if_pos c_92] at h
        exact wX11_layFewest_j121 B hr hlk ih11 ih18 ih74 h0 h hR hl
      · rw [if_neg c_92] at h
        refine lv_iload hx hb dX11_layFewest_95 (lv_at hl 6 rfl) ?_
        refine lv_iconst (v := 1) hx hb dX11_layFewest_97 (by decide) ?_
        refine lv_aload_n hx hb dX11_layFewest_98 rfl (lv_at hl 0 rfl) ?_
        refine gf_X11_39 B hR (h0.at0 rfl) dX11_layFewest_99 ?_
        refine lv_bipush (v := 6) hx hb dX11_layFewest_102 (by decide) ?_
        refine lv_iload_n hx hb dX11_layFewest_104 rfl (lv_at hl 3 rfl) ?_
        refine lv_imul hx hb dX11_layFewest_105 ?_
        refine lv_iload hx hb dX11_layFewest_106 (lv_at hl 5 rfl) ?_
        refine lv_iload hx hb dX11_layFewest_108 (lv_at hl 7 rfl) ?_
        obtain ⟨r_110, hc_110, h⟩ := bi_el h
        refine is_X11_332 B hR hl.1 (mX11_madeBy fu _  hc_110) (Nat.le_of_ble_eq_true rfl) dX11_layFewest_110 (fun H locs hR => ?_)
        refine lv_iadd hx hb dX11_layFewest_113 ?_
        obtain ⟨hi_114, h⟩ := ifn_el h
        refine r_iald B hR (h0.at 9 rfl) hi_114 dX11_layFewest_114 ?_
        refine lv_iadd hx hb dX11_layFewest_115 ?_
        obtain ⟨r_116, hc_116, h⟩ := bi_el h
        refine is_X11_273 B hR hl.1 (mX11_less fu _  hc_116) (Nat.le_of_ble_eq_true rfl) dX11_layFewest_116 (fun H locs hR => ?_)
        refine lv_istore (lv' := [(6, .int r_116), (0, .ref a0), (1, .int x1), (2, .int x2), (3, .int x3), (4, .int x4), (5, .int x5), (7, .int x7)]) hx hb dX11_layFewest_119 hl (by decide) rfl (fun ls hl => ?_)
        exact wX11_layFewest_j121 B hr hlk ih11 ih18 ih74 h0 h hR (lv_sub hl [1, 2, 3, 4, 5, 6, 0, 7] rfl)
def fX11_layFewest_l74 (fu : Nat) (k11 : Int32 → Mm → Option Mm) (k18 : Int32 → Mm → Option Mm) (a0 : Nat) (x1 : Int32) (x2 : Int32) (x3 : Int32) (x4 : Int32) (x5 : Int32) (M : Mm) (x6 : Int32) (x7 : Int32) : Option Mm := lp (fun (rec : (Int32 × Int32) → Option Mm) (s : Int32 × Int32) => fX11_layFewest_b74 fu k11 k18 (fun x6 x7 => rec (x6, x7)) a0 x1 x2 x3 x4 x5 s.1 s.2 M) fu (x6, x7)
set_option maxRecDepth 100000 in
set_option maxHeartbeats 4000000 in
theorem wX11_layFewest_l74 {M' : Mm}  {k11 : Int32 → Mm → Option Mm} {k18 : Int32 → Mm → Option Mm} {a0 : Nat} {x1 : Int32} {x2 : Int32} {x3 : Int32} {x4 : Int32} {x5 : Int32} {x6 : Int32} {x7 : Int32} {M : Mm} (B : Bx p s m args c cX11_layFewest 8 RX11 E L) (hr : meth.sig.returnType = none) (hlk : meth.locks = false) (ih11 : ∀ (x3 : Int32) (M : Mm), k11 x3 M = some M' → ∀ (H : Heap) (locs : List Loc) (ls : Array Slot), Rx s E L M H locs → lv_has ls 8 [(0, .ref a0), (1, .int x1), (2, .int x2), (3, .int x3)] → W p l e (rmD (d + 3)) s m args below meth c H locs 0 0 (MQ below (QcM E L none M') args s 0 0 E.2.2.2) (F0 m 11 ls [])) (ih18 : ∀ (x4 : Int32) (M : Mm), k18 x4 M = some M' → ∀ (H : Heap) (locs : List Loc) (ls : Array Slot), Rx s E L M H locs → lv_has ls 8 [(0, .ref a0), (1, .int x1), (2, .int x2), (3, .int x3), (4, .int x4)] → W p l e (rmD (d + 3)) s m args below meth c H locs 0 0 (MQ below (QcM E L none M') args s 0 0 E.2.2.2) (F0 m 18 ls [])) (h0 : At L a0 T11) (h : fX11_layFewest_l74 fu k11 k18 a0 x1 x2 x3 x4 x5 M x6 x7 = some M') (hR : Rx s E L M H locs) (hl : lv_has ls 8 [(0, .ref a0), (1, .int x1), (2, .int x2), (3, .int x3), (4, .int x4), (5, .int x5), (6, .int x6), (7, .int x7)]) : W p l e (rmD (d + 3)) s m args below meth c H locs 0 0 (MQ below (QcM E L none M') args s 0 0 E.2.2.2) (F0 m 74 ls []) := by
  refine lp_G (G := fun z : Int32 × Int32 => ∀ (H : Heap) (locs : List Loc) (ls : Array Slot), Rx s E L M H locs → lv_has ls 8 [(0, .ref a0), (1, .int x1), (2, .int x2), (3, .int x3), (4, .int x4), (5, .int x5), (6, .int z.1), (7, .int z.2)] → W p l e (rmD (d + 3)) s m args below meth c H locs 0 0 (MQ below (QcM E L none M') args s 0 0 E.2.2.2) (F0 m 74 ls [])) (fun rec ih z h H locs ls hR hl => ?_) fu _ h H locs ls hR hl
  exact wX11_layFewest_b74 B hr hlk ih11 ih18 (fun x6 x7 h => ih (x6, x7) h) h0 h hR hl
def fX11_layFewest_j69 (fu : Nat) (k11 : Int32 → Mm → Option Mm) (k18 : Int32 → Mm → Option Mm) (a0 : Nat) (x1 : Int32) (x2 : Int32) (x3 : Int32) (x4 : Int32) (x5 : Int32) (t0 : Int32) (M : Mm) : Option Mm :=
  fX11_layFewest_l74 fu k11 k18 a0 x1 x2 x3 x4 x5 M t0 0
set_option maxRecDepth 100000 in
set_option maxHeartbeats 4000000 in
theorem wX11_layFewest_j69 {M' : Mm}  {k11 : Int32 → Mm → Option Mm} {k18 : Int32 → Mm → Option Mm} {a0 : Nat} {x1 : Int32} {x2 : Int32} {x3 : Int32} {x4 : Int32} {x5 : Int32} {t0 : Int32} {M : Mm} (B : Bx p s m args c cX11_layFewest 8 RX11 E L) (hr : meth.sig.returnType = none) (hlk : meth.locks = false) (ih11 : ∀ (x3 : Int32) (M : Mm), k11 x3 M = some M' → ∀ (H : Heap) (locs : List Loc) (ls : Array Slot), Rx s E L M H locs → lv_has ls 8 [(0, .ref a0), (1, .int x1), (2, .int x2), (3, .int x3)] → W p l e (rmD (d + 3)) s m args below meth c H locs 0 0 (MQ below (QcM E L none M') args s 0 0 E.2.2.2) (F0 m 11 ls [])) (ih18 : ∀ (x4 : Int32) (M : Mm), k18 x4 M = some M' → ∀ (H : Heap) (locs : List Loc) (ls : Array Slot), Rx s E L M H locs → lv_has ls 8 [(0, .ref a0), (1, .int x1), (2, .int x2), (3, .int x3), (4, .int x4)] → W p l e (rmD (d + 3)) s m args below meth c H locs 0 0 (MQ below (QcM E L none M') args s 0 0 E.2.2.2) (F0 m 18 ls [])) (h0 : At L a0 T11) (h : fX11_layFewest_j69 fu k11 k18 a0 x1 x2 x3 x4 x5 t0 M = some M') (hR : Rx s E L M H locs) (hl : lv_has ls 8 [(0, .ref a0), (1, .int x1), (2, .int x2), (3, .int x3), (4, .int x4), (5, .int x5)]) : W p l e (rmD (d + 3)) s m args below meth c H locs 0 0 (MQ below (QcM E L none M') args s 0 0 E.2.2.2) (F0 m 69 ls [.int t0]) := by
  have hx := B.1
  have hb := B.2.1
  unfold fX11_layFewest_j69 at h
  refine lv_istore (lv' := [(6, .int t0), (0, .ref a0), (1, .int x1), (2, .int x2), (3, .int x3), (4, .int x4), (5, .int x5)]) hx hb dX11_layFewest_69 hl (by decide) rfl (fun ls hl => ?_)
  refine lv_iconst (v := 0) hx hb dX11_layFewest_71 (by decide) ?_
  refine lv_istore (lv' := [(7, .int 0), (6, .int t0), (0, .ref a0), (1, .int x1), (2, .int x2), (3, .int x3), (4, .int x4), (5, .int x5)]) hx hb dX11_layFewest_72 hl (by decide) rfl (fun ls hl => ?_)
  exact wX11_layFewest_l74 B hr hlk ih11 ih18 h0 h hR (lv_sub hl [2, 3, 4, 5, 6, 7, 1, 0] rfl)
def fX11_layFewest_b18 (fu : Nat) (k11 : Int32 → Mm → Option Mm) (k18 : Int32 → Mm → Option Mm) (a0 : Nat) (x1 : Int32) (x2 : Int32) (x3 : Int32) (x4 : Int32) (M : Mm) : Option Mm :=
  if 6 ≤ x4 then
    fX11_layFewest_j147 fu k11 a0 x1 x2 x3 M
  else
    bi (fX11_aboveAt fu x4) fun r_27 =>
    bi (fX11_isRight fu a0 x3 r_27 x1 M) fun r_37 =>
    if r_37 = 0 then
      if x2 ≤ x3 then
        fX11_layFewest_j69 fu k11 k18 a0 x1 x2 x3 x4 r_27 1048576 M
      else
        bi (fX11_both fu a0 12288 (a0 + 9) x3 r_27 M) fun r_60 =>
        fX11_layFewest_j69 fu k11 k18 a0 x1 x2 x3 x4 r_27 r_60 M
    else
      fX11_layFewest_j69 fu k11 k18 a0 x1 x2 x3 x4 r_27 0 M
set_option maxRecDepth 100000 in
set_option maxHeartbeats 4000000 in
theorem wX11_layFewest_b18 {M' : Mm}  {k11 : Int32 → Mm → Option Mm} {k18 : Int32 → Mm → Option Mm} {a0 : Nat} {x1 : Int32} {x2 : Int32} {x3 : Int32} {x4 : Int32} {M : Mm} (B : Bx p s m args c cX11_layFewest 8 RX11 E L) (hr : meth.sig.returnType = none) (hlk : meth.locks = false) (ih11 : ∀ (x3 : Int32) (M : Mm), k11 x3 M = some M' → ∀ (H : Heap) (locs : List Loc) (ls : Array Slot), Rx s E L M H locs → lv_has ls 8 [(0, .ref a0), (1, .int x1), (2, .int x2), (3, .int x3)] → W p l e (rmD (d + 3)) s m args below meth c H locs 0 0 (MQ below (QcM E L none M') args s 0 0 E.2.2.2) (F0 m 11 ls [])) (ih18 : ∀ (x4 : Int32) (M : Mm), k18 x4 M = some M' → ∀ (H : Heap) (locs : List Loc) (ls : Array Slot), Rx s E L M H locs → lv_has ls 8 [(0, .ref a0), (1, .int x1), (2, .int x2), (3, .int x3), (4, .int x4)] → W p l e (rmD (d + 3)) s m args below meth c H locs 0 0 (MQ below (QcM E L none M') args s 0 0 E.2.2.2) (F0 m 18 ls [])) (h0 : At L a0 T11) (h : fX11_layFewest_b18 fu k11 k18 a0 x1 x2 x3 x4 M = some M') (hR : Rx s E L M H locs) (hl : lv_has ls 8 [(0, .ref a0), (1, .int x1), (2, .int x2), (3, .int x3), (4, .int x4)]) : W p l e (rmD (d + 3)) s m args below meth c H locs 0 0 (MQ below (QcM E L none M') args s 0 0 E.2.2.2) (F0 m 18 ls []) := by
  have hx := B.1
  have hb := B.2.1
  unfold fX11_layFewest_b18 at h
  refine lv_iload hx hb dX11_layFewest_18 (lv_at hl 4 rfl) ?_
  refine lv_bipush (v := 6) hx hb dX11_layFewest_20 (by decide) ?_
  refine lv_icmp_ge (tgt := 147) hx hb dX11_layFewest_22 (by decide) (fun c_22 => ?_) (fun c_22 => ?_)
  · rw [if_pos c_22] at h
    exact wX11_layFewest_j147 B hr hlk ih11 h0 h hR (lv_sub hl [0, 1, 2, 3] rfl)
  · rw [if_neg c_22] at h
    refine lv_iload hx hb dX11_layFewest_25 (lv_at hl 4 rfl) ?_
    obtain ⟨r_27, hc_27, h⟩ := bi_el h
    refine is_X11_322 B hR hl.1 (mX11_aboveAt fu _  hc_27) (Nat.le_of_ble_eq_true rfl) dX11_layFewest_27 (fun H locs hR => ?_)
    refine lv_istore (lv' := [(5, .int r_27), (0, .ref a0), (1, .int x1), (2, .int x2), (3, .int x3), (4, .int x4)]) hx hb dX11_layFewest_30 hl (by decide) rfl (fun ls hl => ?_)
    refine lv_aload_n hx hb dX11_layFewest_32 rfl (lv_at hl 1 rfl) ?_
    refine lv_iload_n hx hb dX11_layFewest_33 rfl (lv_at hl 4 rfl) ?_
    refine lv_iload hx hb dX11_layFewest_34 (lv_at hl 0 rfl) ?_
    refine lv_iload_n hx hb dX11_layFewest_36 rfl (lv_at hl 2 rfl) ?_
    obtain ⟨r_37, hc_37, h⟩ := bi_el h
    refine iv_X11_325 B hR (h0.at0 rfl) hl.1 (mX11_isRight fu _ h0 hc_37) (Nat.le_of_ble_eq_true rfl) dX11_layFewest_37 (fun H locs hR => ?_)
    refine lv_if_eq (tgt := 47) hx hb dX11_layFewest_40 (by decide) (fun c_40 => ?_) (fun c_40 => ?_)
    · rw [if_pos c_40] at h
      refine lv_iload_n hx hb dX11_layFewest_47 rfl (lv_at hl 4 rfl) ?_
      refine lv_iload_n hx hb dX11_layFewest_48 rfl (lv_at hl 3 rfl) ?_
      refine lv_icmp_ge (tgt := 66) hx hb dX11_layFewest_49 (by decide) (fun c_49 => ?_) (fun c_49 => ?_)
      · rw [if_pos c_49] at h
        refine lc_X11_321 B dX11_layFewest_66 ?_
        exact wX11_layFewest_j69 B hr hlk ih11 ih18 h0 h hR (lv_sub hl [1, 2, 3, 4, 5, 0] rfl)
      · rw [if_neg c_49] at h
        refine lv_aload_n hx hb dX11_layFewest_52 rfl (lv_at hl 1 rfl) ?_
        refine lv_aload_n hx hb dX11_layFewest_53 rfl (lv_at hl 1 rfl) ?_
        refine gf_X11_39 B hR (h0.at0 rfl) dX11_layFewest_54 ?_
        refine lv_iload_n hx hb dX11_layFewest_57 rfl (lv_at hl 4 rfl) ?_
        refine lv_iload hx hb dX11_layFewest_58 (lv_at hl 0 rfl) ?_
        obtain ⟨r_60, hc_60, h⟩ := bi_el h
        refine iv_X11_328 B hR (h0.at0 rfl) hl.1 (mX11_both fu _ h0 (h0.at 9 rfl) hc_60) (Nat.le_of_ble_eq_true rfl) dX11_layFewest_60 (fun H locs hR => ?_)
        refine lv_goto (tgt := 69) hx hb dX11_layFewest_63 (by decide) ?_
        exact wX11_layFewest_j69 B hr hlk ih11 ih18 h0 h hR (lv_sub hl [1, 2, 3, 4, 5, 0] rfl)
    · rw [if_neg c_40] at h
      refine lv_iconst (v := 0) hx hb dX11_layFewest_43 (by decide) ?_
      refine lv_goto (tgt := 69) hx hb dX11_layFewest_44 (by decide) ?_
      exact wX11_layFewest_j69 B hr hlk ih11 ih18 h0 h hR (lv_sub hl [1, 2, 3, 4, 5, 0] rfl)
def fX11_layFewest_l18 (fu : Nat) (k11 : Int32 → Mm → Option Mm) (a0 : Nat) (x1 : Int32) (x2 : Int32) (x3 : Int32) (x4 : Int32) (M : Mm) : Option Mm := lp (fun (rec : (Int32 × Mm) → Option Mm) (s : Int32 × Mm) => fX11_layFewest_b18 fu k11 (fun x4 M => rec (x4, M)) a0 x1 x2 x3 s.1 s.2) fu (x4, M)
set_option maxRecDepth 100000 in
set_option maxHeartbeats 4000000 in
theorem wX11_layFewest_l18 {M' : Mm}  {k11 : Int32 → Mm → Option Mm} {a0 : Nat} {x1 : Int32} {x2 : Int32} {x3 : Int32} {x4 : Int32} {M : Mm} (B : Bx p s m args c cX11_layFewest 8 RX11 E L) (hr : meth.sig.returnType = none) (hlk : meth.locks = false) (ih11 : ∀ (x3 : Int32) (M : Mm), k11 x3 M = some M' → ∀ (H : Heap) (locs : List Loc) (ls : Array Slot), Rx s E L M H locs → lv_has ls 8 [(0, .ref a0), (1, .int x1), (2, .int x2), (3, .int x3)] → W p l e (rmD (d + 3)) s m args below meth c H locs 0 0 (MQ below (QcM E L none M') args s 0 0 E.2.2.2) (F0 m 11 ls [])) (h0 : At L a0 T11) (h : fX11_layFewest_l18 fu k11 a0 x1 x2 x3 x4 M = some M') (hR : Rx s E L M H locs) (hl : lv_has ls 8 [(0, .ref a0), (1, .int x1), (2, .int x2), (3, .int x3), (4, .int x4)]) : W p l e (rmD (d + 3)) s m args below meth c H locs 0 0 (MQ below (QcM E L none M') args s 0 0 E.2.2.2) (F0 m 18 ls []) := by
  refine lp_G (G := fun z : Int32 × Mm => ∀ (H : Heap) (locs : List Loc) (ls : Array Slot), Rx s E L z.2 H locs → lv_has ls 8 [(0, .ref a0), (1, .int x1), (2, .int x2), (3, .int x3), (4, .int z.1)] → W p l e (rmD (d + 3)) s m args below meth c H locs 0 0 (MQ below (QcM E L none M') args s 0 0 E.2.2.2) (F0 m 18 ls [])) (fun rec ih z h H locs ls hR hl => ?_) fu _ h H locs ls hR hl
  exact wX11_layFewest_b18 B hr hlk ih11 (fun x4 M h => ih (x4, M) h) h0 h hR hl
def fX11_layFewest_b11 (fu : Nat) (k11 : Int32 → Mm → Option Mm) (a0 : Nat) (x1 : Int32) (x2 : Int32) (x3 : Int32) (M : Mm) : Option Mm :=
  if x3 ≤ 0 then
    fX11_layFewest_j153 fu M
  else
    fX11_layFewest_l18 fu k11 a0 x1 x2 x3 0 M
set_option maxRecDepth 100000 in
set_option maxHeartbeats 4000000 in
theorem wX11_layFewest_b11 {M' : Mm}   {k11 : Int32 → Mm → Option Mm} {a0 : Nat} {x1 : Int32} {x2 : Int32} {x3 : Int32} {M : Mm} (B : Bx p s m args c cX11_layFewest 8 RX11 E L) (hr : meth.sig.returnType = none) (hlk : meth.locks = false)  (ih11 : ∀ (x3 : Int32) (M : Mm), k11 x3 M = some M' → ∀ (H : Heap) (locs : List Loc) (ls : Array Slot), Rx s E L M H locs → lv_has ls 8 [(0, .ref a0), (1, .int x1), (2, .int x2), (3, .int x3)] → W p l e (rmD (d + 3)) s m args below meth c H locs 0 0 (MQ below (QcM E L none M') args s 0 0 E.2.2.2) (F0 m 11 ls [])) (h0 : At L a0 T11) (h : fX11_layFewest_b11 fu k11 a0 x1 x2 x3 M = some M') (hR : Rx s E L M H locs) (hl : lv_has ls 8 [(0, .ref a0), (1, .int x1), (2, .int x2), (3, .int x3)]) : W p l e (rmD (d + 3)) s m args below meth c H locs 0 0 (MQ below (QcM E L none M') args s 0 0 E.2.2.2) (F0 m 11 ls []) := by
  have hx := B.1
  have hb := B.2.1
  unfold fX11_layFewest_b11 at h
  refine lv_iload_n hx hb dX11_layFewest_11 rfl (lv_at hl 3 rfl) ?_
  refine lv_if_le (tgt := 153) hx hb dX11_layFewest_12 (by decide) (fun c_12 => ?_) (fun c_12 => ?_)
  · rw [if_pos c_12] at h
    exact wX11_layFewest_j153 B hr hlk  h hR (lv_sub hl [] rfl)
  · rw [if_neg c_12] at h
    refine lv_iconst (v := 0) hx hb dX11_layFewest_15 (by decide) ?_
    refine lv_istore (lv' := [(4, .int 0), (0, .ref a0), (1, .int x1), (2, .int x2), (3, .int x3)]) hx hb dX11_layFewest_16 hl (by decide) rfl (fun ls hl => ?_)
    exact wX11_layFewest_l18 B hr hlk ih11 h0 h hR (lv_sub hl [1, 2, 3, 4, 0] rfl)
def fX11_layFewest_l11 (fu : Nat) (a0 : Nat) (x1 : Int32) (x2 : Int32) (x3 : Int32) (M : Mm) : Option Mm := lp (fun (rec : (Int32 × Mm) → Option Mm) (s : Int32 × Mm) => fX11_layFewest_b11 fu  (fun x3 M => rec (x3, M)) a0 x1 x2 s.1 s.2) fu (x3, M)
set_option maxRecDepth 100000 in
set_option maxHeartbeats 4000000 in
theorem wX11_layFewest_l11 {M' : Mm}   {a0 : Nat} {x1 : Int32} {x2 : Int32} {x3 : Int32} {M : Mm} (B : Bx p s m args c cX11_layFewest 8 RX11 E L) (hr : meth.sig.returnType = none) (hlk : meth.locks = false)  (h0 : At L a0 T11) (h : fX11_layFewest_l11 fu a0 x1 x2 x3 M = some M') (hR : Rx s E L M H locs) (hl : lv_has ls 8 [(0, .ref a0), (1, .int x1), (2, .int x2), (3, .int x3)]) : W p l e (rmD (d + 3)) s m args below meth c H locs 0 0 (MQ below (QcM E L none M') args s 0 0 E.2.2.2) (F0 m 11 ls []) := by
  refine lp_G (G := fun z : Int32 × Mm => ∀ (H : Heap) (locs : List Loc) (ls : Array Slot), Rx s E L z.2 H locs → lv_has ls 8 [(0, .ref a0), (1, .int x1), (2, .int x2), (3, .int z.1)] → W p l e (rmD (d + 3)) s m args below meth c H locs 0 0 (MQ below (QcM E L none M') args s 0 0 E.2.2.2) (F0 m 11 ls [])) (fun rec ih z h H locs ls hR hl => ?_) fu _ h H locs ls hR hl
  exact wX11_layFewest_b11 B hr hlk  (fun x3 M h => ih (x3, M) h) h0 h hR hl
def fX11_layFewest (fu : Nat) (a0 : Nat) (x1 : Int32) (M : Mm) : Option Mm :=
  bi (fX11_addresses fu a0 M) fun r_1 =>
  lt (((2 * r_1) - 1)) fun x3_10 =>
  fX11_layFewest_l11 fu a0 x1 r_1 x3_10 M
set_option maxRecDepth 100000 in
set_option maxHeartbeats 4000000 in
theorem mX11_layFewest {l : Launch} {E : Ge} {L : Lay} (fu d : Nat) {a0 : Nat} {x1 : Int32} {M : Mm} {M' : Mm}  (h0 : At L a0 T11) (h : fX11_layFewest fu a0 x1 M = some M') : Ct l E L yX11_layFewest cX11_layFewest 8 none (d + 3) [.ref a0, .int x1] M none M' := by
  refine Ct.of (by decide) ?_
  intro p e s m below meth c hr hlk B hR
  have B : Bx p s m _ c cX11_layFewest 8 RX11 E L := B
  have hx := B.1
  have hb := B.2.1
  have hl := lv_entry ([.ref a0, .int x1]) (n := 8) (Nat.le_of_ble_eq_true rfl)
  rw [lg_entry_eq]
  generalize (lg_sl ([.ref a0, .int x1]) ++ List.replicate (8 - (lg_sl ([.ref a0, .int x1])).length) Slot.unset).toArray = ls at hl ⊢
  have hl : lv_has ls 8 [(0, .ref a0), (1, .int x1)] := hl
  unfold fX11_layFewest at h
  refine lv_aload_n hx hb dX11_layFewest_0 rfl (lv_at hl 0 rfl) ?_
  obtain ⟨r_1, hc_1, h⟩ := bi_el h
  refine iv_X11_240 B hR (h0.at0 rfl) hl.1 (mX11_addresses fu _ h0 hc_1) (Nat.le_of_ble_eq_true rfl) dX11_layFewest_1 (fun H locs hR => ?_)
  refine lv_istore_n (lv' := [(2, .int r_1), (0, .ref a0), (1, .int x1)]) hx hb dX11_layFewest_4 rfl hl (by decide) rfl (fun ls hl => ?_)
  refine lv_iconst (v := 2) hx hb dX11_layFewest_5 (by decide) ?_
  refine lv_iload_n hx hb dX11_layFewest_6 rfl (lv_at hl 0 rfl) ?_
  refine lv_imul hx hb dX11_layFewest_7 ?_
  refine lv_iconst (v := 1) hx hb dX11_layFewest_8 (by decide) ?_
  refine lv_isub hx hb dX11_layFewest_9 ?_
  obtain ⟨x3_10, ex3_10, h⟩ := lt_el h
  refine r_nmI ex3_10 ?_
  refine lv_istore_n (lv' := [(3, .int x3_10), (2, .int r_1), (0, .ref a0), (1, .int x1)]) hx hb dX11_layFewest_10 rfl hl (by decide) rfl (fun ls hl => ?_)
  exact wX11_layFewest_l11 B hr hlk h0 h hR (lv_sub hl [2, 3, 1, 0] rfl)
end G22_model1_lean_txt
