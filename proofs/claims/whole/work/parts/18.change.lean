theorem dX1_isSame_0 : decode cX1_isSame 0 = .ok (.aload_n 0, 1) := by decide +kernel
theorem dX1_isSame_1 : decode cX1_isSame 1 = .ok (.getfield 113, 3) := by decide +kernel
theorem dX1_isSame_4 : decode cX1_isSame 4 = .ok (.iload_n 1, 1) := by decide +kernel
theorem dX1_isSame_5 : decode cX1_isSame 5 = .ok (.iaload, 1) := by decide +kernel
theorem dX1_isSame_6 : decode cX1_isSame 6 = .ok (.aload_n 2, 1) := by decide +kernel
theorem dX1_isSame_7 : decode cX1_isSame 7 = .ok (.getfield 116, 3) := by decide +kernel
theorem dX1_isSame_10 : decode cX1_isSame 10 = .ok (.iload_n 3, 1) := by decide +kernel
theorem dX1_isSame_11 : decode cX1_isSame 11 = .ok (.iaload, 1) := by decide +kernel
theorem dX1_isSame_12 : decode cX1_isSame 12 = .ok (.if_icmp .ne 37, 3) := by decide +kernel
theorem dX1_isSame_15 : decode cX1_isSame 15 = .ok (.aload_n 0, 1) := by decide +kernel
theorem dX1_isSame_16 : decode cX1_isSame 16 = .ok (.getfield 117, 3) := by decide +kernel
theorem dX1_isSame_19 : decode cX1_isSame 19 = .ok (.iload_n 1, 1) := by decide +kernel
theorem dX1_isSame_20 : decode cX1_isSame 20 = .ok (.iaload, 1) := by decide +kernel
theorem dX1_isSame_21 : decode cX1_isSame 21 = .ok (.aload_n 2, 1) := by decide +kernel
theorem dX1_isSame_22 : decode cX1_isSame 22 = .ok (.getfield 120, 3) := by decide +kernel
theorem dX1_isSame_25 : decode cX1_isSame 25 = .ok (.iload_n 3, 1) := by decide +kernel
theorem dX1_isSame_26 : decode cX1_isSame 26 = .ok (.iaload, 1) := by decide +kernel
theorem dX1_isSame_27 : decode cX1_isSame 27 = .ok (.if_icmp .ne 22, 3) := by decide +kernel
theorem dX1_isSame_30 : decode cX1_isSame 30 = .ok (.aload_n 0, 1) := by decide +kernel
theorem dX1_isSame_31 : decode cX1_isSame 31 = .ok (.getfield 121, 3) := by decide +kernel
theorem dX1_isSame_34 : decode cX1_isSame 34 = .ok (.iload_n 1, 1) := by decide +kernel
theorem dX1_isSame_35 : decode cX1_isSame 35 = .ok (.iaload, 1) := by decide +kernel
theorem dX1_isSame_36 : decode cX1_isSame 36 = .ok (.aload_n 2, 1) := by decide +kernel
theorem dX1_isSame_37 : decode cX1_isSame 37 = .ok (.getfield 124, 3) := by decide +kernel
theorem dX1_isSame_40 : decode cX1_isSame 40 = .ok (.iload_n 3, 1) := by decide +kernel
theorem dX1_isSame_41 : decode cX1_isSame 41 = .ok (.iaload, 1) := by decide +kernel
theorem dX1_isSame_42 : decode cX1_isSame 42 = .ok (.if_icmp .ne 7, 3) := by decide +kernel
theorem dX1_isSame_45 : decode cX1_isSame 45 = .ok (.iconst 1, 1) := by decide +kernel
theorem dX1_isSame_46 : decode cX1_isSame 46 = .ok (.goto 4, 3) := by decide +kernel
theorem dX1_isSame_49 : decode cX1_isSame 49 = .ok (.iconst 0, 1) := by decide +kernel
theorem dX1_isSame_50 : decode cX1_isSame 50 = .ok (.ireturn, 1) := by decide +kernel
theorem dX1_stays_0 : decode cX1_stays 0 = .ok (.iconst 0, 1) := by decide +kernel
theorem dX1_stays_1 : decode cX1_stays 1 = .ok (.istore_n 3, 1) := by decide +kernel
theorem dX1_stays_2 : decode cX1_stays 2 = .ok (.iload_n 3, 1) := by decide +kernel
theorem dX1_stays_3 : decode cX1_stays 3 = .ok (.aload_n 2, 1) := by decide +kernel
theorem dX1_stays_4 : decode cX1_stays 4 = .ok (.getfield 41, 3) := by decide +kernel
theorem dX1_stays_7 : decode cX1_stays 7 = .ok (.if_icmp .ge 21, 3) := by decide +kernel
theorem dX1_stays_10 : decode cX1_stays 10 = .ok (.aload_n 0, 1) := by decide +kernel
theorem dX1_stays_11 : decode cX1_stays 11 = .ok (.iload_n 1, 1) := by decide +kernel
theorem dX1_stays_12 : decode cX1_stays 12 = .ok (.aload_n 2, 1) := by decide +kernel
theorem dX1_stays_13 : decode cX1_stays 13 = .ok (.iload_n 3, 1) := by decide +kernel
theorem dX1_stays_14 : decode cX1_stays 14 = .ok (.invokestatic 109, 3) := by decide +kernel
theorem dX1_stays_17 : decode cX1_stays 17 = .ok (.ifCond .eq 5, 3) := by decide +kernel
theorem dX1_stays_20 : decode cX1_stays 20 = .ok (.iconst 1, 1) := by decide +kernel
theorem dX1_stays_21 : decode cX1_stays 21 = .ok (.ireturn, 1) := by decide +kernel
theorem dX1_stays_22 : decode cX1_stays 22 = .ok (.iinc 3 1, 3) := by decide +kernel
theorem dX1_stays_25 : decode cX1_stays 25 = .ok (.goto (-23), 3) := by decide +kernel
theorem dX1_stays_28 : decode cX1_stays 28 = .ok (.iconst 0, 1) := by decide +kernel
theorem dX1_stays_29 : decode cX1_stays 29 = .ok (.ireturn, 1) := by decide +kernel
theorem dX1_countSteps_0 : decode cX1_countSteps 0 = .ok (.aload_n 0, 1) := by decide +kernel
theorem dX1_countSteps_1 : decode cX1_countSteps 1 = .ok (.iconst 0, 1) := by decide +kernel
theorem dX1_countSteps_2 : decode cX1_countSteps 2 = .ok (.putfield 52, 3) := by decide +kernel
theorem dX1_countSteps_5 : decode cX1_countSteps 5 = .ok (.iconst 0, 1) := by decide +kernel
theorem dX1_countSteps_6 : decode cX1_countSteps 6 = .ok (.istore_n 3, 1) := by decide +kernel
theorem dX1_countSteps_7 : decode cX1_countSteps 7 = .ok (.iload_n 3, 1) := by decide +kernel
theorem dX1_countSteps_8 : decode cX1_countSteps 8 = .ok (.aload_n 1, 1) := by decide +kernel
theorem dX1_countSteps_9 : decode cX1_countSteps 9 = .ok (.getfield 47, 3) := by decide +kernel
theorem dX1_countSteps_12 : decode cX1_countSteps 12 = .ok (.if_icmp .ge 40, 3) := by decide +kernel
theorem dX1_countSteps_15 : decode cX1_countSteps 15 = .ok (.aload_n 0, 1) := by decide +kernel
theorem dX1_countSteps_16 : decode cX1_countSteps 16 = .ok (.dup, 1) := by decide +kernel
theorem dX1_countSteps_17 : decode cX1_countSteps 17 = .ok (.getfield 52, 3) := by decide +kernel
theorem dX1_countSteps_20 : decode cX1_countSteps 20 = .ok (.aload_n 1, 1) := by decide +kernel
theorem dX1_countSteps_21 : decode cX1_countSteps 21 = .ok (.iload_n 3, 1) := by decide +kernel
theorem dX1_countSteps_22 : decode cX1_countSteps 22 = .ok (.invokevirtual 101, 3) := by decide +kernel
theorem dX1_countSteps_25 : decode cX1_countSteps 25 = .ok (.ifCond .eq 16, 3) := by decide +kernel
theorem dX1_countSteps_28 : decode cX1_countSteps 28 = .ok (.aload_n 1, 1) := by decide +kernel
theorem dX1_countSteps_29 : decode cX1_countSteps 29 = .ok (.iload_n 3, 1) := by decide +kernel
theorem dX1_countSteps_30 : decode cX1_countSteps 30 = .ok (.aload_n 2, 1) := by decide +kernel
theorem dX1_countSteps_31 : decode cX1_countSteps 31 = .ok (.invokestatic 105, 3) := by decide +kernel
theorem dX1_countSteps_34 : decode cX1_countSteps 34 = .ok (.ifCond .ne 7, 3) := by decide +kernel
theorem dX1_countSteps_37 : decode cX1_countSteps 37 = .ok (.iconst 1, 1) := by decide +kernel
theorem dX1_countSteps_38 : decode cX1_countSteps 38 = .ok (.goto 4, 3) := by decide +kernel
theorem dX1_countSteps_41 : decode cX1_countSteps 41 = .ok (.iconst 0, 1) := by decide +kernel
theorem dX1_countSteps_42 : decode cX1_countSteps 42 = .ok (.iadd, 1) := by decide +kernel
theorem dX1_countSteps_43 : decode cX1_countSteps 43 = .ok (.putfield 52, 3) := by decide +kernel
theorem dX1_countSteps_46 : decode cX1_countSteps 46 = .ok (.iinc 3 1, 3) := by decide +kernel
theorem dX1_countSteps_49 : decode cX1_countSteps 49 = .ok (.goto (-42), 3) := by decide +kernel
theorem dX1_countSteps_52 : decode cX1_countSteps 52 = .ok (.aload_n 0, 1) := by decide +kernel
theorem dX1_countSteps_53 : decode cX1_countSteps 53 = .ok (.aload_n 2, 1) := by decide +kernel
theorem dX1_countSteps_54 : decode cX1_countSteps 54 = .ok (.getfield 41, 3) := by decide +kernel
theorem dX1_countSteps_57 : decode cX1_countSteps 57 = .ok (.aload_n 1, 1) := by decide +kernel
theorem dX1_countSteps_58 : decode cX1_countSteps 58 = .ok (.invokevirtual 73, 3) := by decide +kernel
theorem dX1_countSteps_61 : decode cX1_countSteps 61 = .ok (.aload_n 0, 1) := by decide +kernel
theorem dX1_countSteps_62 : decode cX1_countSteps 62 = .ok (.getfield 52, 3) := by decide +kernel
theorem dX1_countSteps_65 : decode cX1_countSteps 65 = .ok (.isub, 1) := by decide +kernel
theorem dX1_countSteps_66 : decode cX1_countSteps 66 = .ok (.isub, 1) := by decide +kernel
theorem dX1_countSteps_67 : decode cX1_countSteps 67 = .ok (.putfield 55, 3) := by decide +kernel
theorem dX1_countSteps_70 : decode cX1_countSteps 70 = .ok (.return_, 1) := by decide +kernel
theorem dX1_cutPieces_0 : decode cX1_cutPieces 0 = .ok (.aload_n 0, 1) := by decide +kernel
theorem dX1_cutPieces_1 : decode cX1_cutPieces 1 = .ok (.getfield 20, 3) := by decide +kernel
theorem dX1_cutPieces_4 : decode cX1_cutPieces 4 = .ok (.aload_n 1, 1) := by decide +kernel
theorem dX1_cutPieces_5 : decode cX1_cutPieces 5 = .ok (.getfield 127, 3) := by decide +kernel
theorem dX1_cutPieces_8 : decode cX1_cutPieces 8 = .ok (.invokevirtual 130, 3) := by decide +kernel
theorem dX1_cutPieces_11 : decode cX1_cutPieces 11 = .ok (.aload_n 0, 1) := by decide +kernel
theorem dX1_cutPieces_12 : decode cX1_cutPieces 12 = .ok (.getfield 20, 3) := by decide +kernel
theorem dX1_cutPieces_15 : decode cX1_cutPieces 15 = .ok (.aload_n 1, 1) := by decide +kernel
theorem dX1_cutPieces_16 : decode cX1_cutPieces 16 = .ok (.getfield 65, 3) := by decide +kernel
theorem dX1_cutPieces_19 : decode cX1_cutPieces 19 = .ok (.invokevirtual 133, 3) := by decide +kernel
theorem dX1_cutPieces_22 : decode cX1_cutPieces 22 = .ok (.aload_n 0, 1) := by decide +kernel
theorem dX1_cutPieces_23 : decode cX1_cutPieces 23 = .ok (.getfield 20, 3) := by decide +kernel
theorem dX1_cutPieces_26 : decode cX1_cutPieces 26 = .ok (.aload_n 1, 1) := by decide +kernel
theorem dX1_cutPieces_27 : decode cX1_cutPieces 27 = .ok (.invokevirtual 136, 3) := by decide +kernel
theorem dX1_cutPieces_30 : decode cX1_cutPieces 30 = .ok (.iconst 0, 1) := by decide +kernel
theorem dX1_cutPieces_31 : decode cX1_cutPieces 31 = .ok (.istore_n 3, 1) := by decide +kernel
theorem dX1_cutPieces_32 : decode cX1_cutPieces 32 = .ok (.iload_n 3, 1) := by decide +kernel
theorem dX1_cutPieces_33 : decode cX1_cutPieces 33 = .ok (.aload_n 2, 1) := by decide +kernel
theorem dX1_cutPieces_34 : decode cX1_cutPieces 34 = .ok (.getfield 41, 3) := by decide +kernel
theorem dX1_cutPieces_37 : decode cX1_cutPieces 37 = .ok (.if_icmp .ge 42, 3) := by decide +kernel
theorem dX1_cutPieces_40 : decode cX1_cutPieces 40 = .ok (.aload_n 0, 1) := by decide +kernel
theorem dX1_cutPieces_41 : decode cX1_cutPieces 41 = .ok (.getfield 20, 3) := by decide +kernel
theorem dX1_cutPieces_44 : decode cX1_cutPieces 44 = .ok (.aload_n 2, 1) := by decide +kernel
theorem dX1_cutPieces_45 : decode cX1_cutPieces 45 = .ok (.getfield 116, 3) := by decide +kernel
theorem dX1_cutPieces_48 : decode cX1_cutPieces 48 = .ok (.iload_n 3, 1) := by decide +kernel
theorem dX1_cutPieces_49 : decode cX1_cutPieces 49 = .ok (.iaload, 1) := by decide +kernel
theorem dX1_cutPieces_50 : decode cX1_cutPieces 50 = .ok (.invokevirtual 133, 3) := by decide +kernel
theorem dX1_cutPieces_53 : decode cX1_cutPieces 53 = .ok (.aload_n 0, 1) := by decide +kernel
theorem dX1_cutPieces_54 : decode cX1_cutPieces 54 = .ok (.getfield 20, 3) := by decide +kernel
theorem dX1_cutPieces_57 : decode cX1_cutPieces 57 = .ok (.aload_n 2, 1) := by decide +kernel
theorem dX1_cutPieces_58 : decode cX1_cutPieces 58 = .ok (.getfield 116, 3) := by decide +kernel
theorem dX1_cutPieces_61 : decode cX1_cutPieces 61 = .ok (.iload_n 3, 1) := by decide +kernel
theorem dX1_cutPieces_62 : decode cX1_cutPieces 62 = .ok (.iaload, 1) := by decide +kernel
theorem dX1_cutPieces_63 : decode cX1_cutPieces 63 = .ok (.aload_n 2, 1) := by decide +kernel
theorem dX1_cutPieces_64 : decode cX1_cutPieces 64 = .ok (.getfield 120, 3) := by decide +kernel
theorem dX1_cutPieces_67 : decode cX1_cutPieces 67 = .ok (.iload_n 3, 1) := by decide +kernel
theorem dX1_cutPieces_68 : decode cX1_cutPieces 68 = .ok (.iaload, 1) := by decide +kernel
theorem dX1_cutPieces_69 : decode cX1_cutPieces 69 = .ok (.iadd, 1) := by decide +kernel
theorem dX1_cutPieces_70 : decode cX1_cutPieces 70 = .ok (.invokevirtual 133, 3) := by decide +kernel
theorem dX1_cutPieces_73 : decode cX1_cutPieces 73 = .ok (.iinc 3 1, 3) := by decide +kernel
theorem dX1_cutPieces_76 : decode cX1_cutPieces 76 = .ok (.goto (-44), 3) := by decide +kernel
theorem dX1_cutPieces_79 : decode cX1_cutPieces 79 = .ok (.return_, 1) := by decide +kernel
theorem dX1_place_0 : decode cX1_place 0 = .ok (.iconst 0, 1) := by decide +kernel
theorem dX1_place_1 : decode cX1_place 1 = .ok (.istore 5, 2) := by decide +kernel
theorem dX1_place_3 : decode cX1_place 3 = .ok (.iload 5, 2) := by decide +kernel
theorem dX1_place_5 : decode cX1_place 5 = .ok (.iconst 1, 1) := by decide +kernel
theorem dX1_place_6 : decode cX1_place 6 = .ok (.iadd, 1) := by decide +kernel
theorem dX1_place_7 : decode cX1_place 7 = .ok (.aload_n 0, 1) := by decide +kernel
theorem dX1_place_8 : decode cX1_place 8 = .ok (.getfield 20, 3) := by decide +kernel
theorem dX1_place_11 : decode cX1_place 11 = .ok (.getfield 86, 3) := by decide +kernel
theorem dX1_place_14 : decode cX1_place 14 = .ok (.if_icmp .ge 55, 3) := by decide +kernel
theorem dX1_place_17 : decode cX1_place 17 = .ok (.aload_n 0, 1) := by decide +kernel
theorem dX1_place_18 : decode cX1_place 18 = .ok (.getfield 20, 3) := by decide +kernel
theorem dX1_place_21 : decode cX1_place 21 = .ok (.getfield 98, 3) := by decide +kernel
theorem dX1_place_24 : decode cX1_place 24 = .ok (.iload 5, 2) := by decide +kernel
theorem dX1_place_26 : decode cX1_place 26 = .ok (.iaload, 1) := by decide +kernel
theorem dX1_place_27 : decode cX1_place 27 = .ok (.iload_n 2, 1) := by decide +kernel
theorem dX1_place_28 : decode cX1_place 28 = .ok (.if_icmp .lt 35, 3) := by decide +kernel
theorem dX1_place_31 : decode cX1_place 31 = .ok (.aload_n 0, 1) := by decide +kernel
theorem dX1_place_32 : decode cX1_place 32 = .ok (.getfield 20, 3) := by decide +kernel
theorem dX1_place_35 : decode cX1_place 35 = .ok (.getfield 98, 3) := by decide +kernel
theorem dX1_place_38 : decode cX1_place 38 = .ok (.iload 5, 2) := by decide +kernel
theorem dX1_place_40 : decode cX1_place 40 = .ok (.iaload, 1) := by decide +kernel
theorem dX1_place_41 : decode cX1_place 41 = .ok (.iload_n 2, 1) := by decide +kernel
theorem dX1_place_42 : decode cX1_place 42 = .ok (.iload_n 3, 1) := by decide +kernel
theorem dX1_place_43 : decode cX1_place 43 = .ok (.iadd, 1) := by decide +kernel
theorem dX1_place_44 : decode cX1_place 44 = .ok (.if_icmp .ge 19, 3) := by decide +kernel
theorem dX1_place_47 : decode cX1_place 47 = .ok (.aload_n 0, 1) := by decide +kernel
theorem dX1_place_48 : decode cX1_place 48 = .ok (.getfield 24, 3) := by decide +kernel
theorem dX1_place_51 : decode cX1_place 51 = .ok (.iload 5, 2) := by decide +kernel
theorem dX1_place_53 : decode cX1_place 53 = .ok (.iconst 5, 1) := by decide +kernel
theorem dX1_place_54 : decode cX1_place 54 = .ok (.imul, 1) := by decide +kernel
theorem dX1_place_55 : decode cX1_place 55 = .ok (.iload 4, 2) := by decide +kernel
theorem dX1_place_57 : decode cX1_place 57 = .ok (.iadd, 1) := by decide +kernel
theorem dX1_place_58 : decode cX1_place 58 = .ok (.dup2, 1) := by decide +kernel
theorem dX1_place_59 : decode cX1_place 59 = .ok (.iaload, 1) := by decide +kernel
theorem dX1_place_60 : decode cX1_place 60 = .ok (.iload_n 1, 1) := by decide +kernel
theorem dX1_place_61 : decode cX1_place 61 = .ok (.ior, 1) := by decide +kernel
theorem dX1_place_62 : decode cX1_place 62 = .ok (.iastore, 1) := by decide +kernel
theorem dX1_place_63 : decode cX1_place 63 = .ok (.iinc 5 1, 3) := by decide +kernel
theorem dX1_place_66 : decode cX1_place 66 = .ok (.goto (-63), 3) := by decide +kernel
theorem dX1_place_69 : decode cX1_place 69 = .ok (.return_, 1) := by decide +kernel
theorem dX1_isThere_0 : decode cX1_isThere 0 = .ok (.iconst 0, 1) := by decide +kernel
theorem dX1_isThere_1 : decode cX1_isThere 1 = .ok (.istore_n 3, 1) := by decide +kernel
theorem dX1_isThere_2 : decode cX1_isThere 2 = .ok (.iload_n 3, 1) := by decide +kernel
theorem dX1_isThere_3 : decode cX1_isThere 3 = .ok (.aload_n 0, 1) := by decide +kernel
theorem dX1_isThere_4 : decode cX1_isThere 4 = .ok (.getfield 47, 3) := by decide +kernel
theorem dX1_isThere_7 : decode cX1_isThere 7 = .ok (.if_icmp .ge 21, 3) := by decide +kernel
theorem dX1_isThere_10 : decode cX1_isThere 10 = .ok (.aload_n 0, 1) := by decide +kernel
theorem dX1_isThere_11 : decode cX1_isThere 11 = .ok (.iload_n 3, 1) := by decide +kernel
theorem dX1_isThere_12 : decode cX1_isThere 12 = .ok (.aload_n 1, 1) := by decide +kernel
theorem dX1_isThere_13 : decode cX1_isThere 13 = .ok (.iload_n 2, 1) := by decide +kernel
theorem dX1_isThere_14 : decode cX1_isThere 14 = .ok (.invokestatic 109, 3) := by decide +kernel
theorem dX1_isThere_17 : decode cX1_isThere 17 = .ok (.ifCond .eq 5, 3) := by decide +kernel
theorem dX1_isThere_20 : decode cX1_isThere 20 = .ok (.iconst 1, 1) := by decide +kernel
theorem dX1_isThere_21 : decode cX1_isThere 21 = .ok (.ireturn, 1) := by decide +kernel
theorem dX1_isThere_22 : decode cX1_isThere 22 = .ok (.iinc 3 1, 3) := by decide +kernel
theorem dX1_isThere_25 : decode cX1_isThere 25 = .ok (.goto (-23), 3) := by decide +kernel
theorem dX1_isThere_28 : decode cX1_isThere 28 = .ok (.iconst 0, 1) := by decide +kernel
theorem dX1_isThere_29 : decode cX1_isThere 29 = .ok (.ireturn, 1) := by decide +kernel
theorem dX1_placeSteps_0 : decode cX1_placeSteps 0 = .ok (.iconst 0, 1) := by decide +kernel
theorem dX1_placeSteps_1 : decode cX1_placeSteps 1 = .ok (.istore_n 3, 1) := by decide +kernel
theorem dX1_placeSteps_2 : decode cX1_placeSteps 2 = .ok (.iload_n 3, 1) := by decide +kernel
theorem dX1_placeSteps_3 : decode cX1_placeSteps 3 = .ok (.aload_n 0, 1) := by decide +kernel
theorem dX1_placeSteps_4 : decode cX1_placeSteps 4 = .ok (.getfield 24, 3) := by decide +kernel
theorem dX1_placeSteps_7 : decode cX1_placeSteps 7 = .ok (.arraylength, 1) := by decide +kernel
theorem dX1_placeSteps_8 : decode cX1_placeSteps 8 = .ok (.if_icmp .ge 16, 3) := by decide +kernel
theorem dX1_placeSteps_11 : decode cX1_placeSteps 11 = .ok (.aload_n 0, 1) := by decide +kernel
theorem dX1_placeSteps_12 : decode cX1_placeSteps 12 = .ok (.getfield 24, 3) := by decide +kernel
theorem dX1_placeSteps_15 : decode cX1_placeSteps 15 = .ok (.iload_n 3, 1) := by decide +kernel
theorem dX1_placeSteps_16 : decode cX1_placeSteps 16 = .ok (.iconst 0, 1) := by decide +kernel
theorem dX1_placeSteps_17 : decode cX1_placeSteps 17 = .ok (.iastore, 1) := by decide +kernel
theorem dX1_placeSteps_18 : decode cX1_placeSteps 18 = .ok (.iinc 3 1, 3) := by decide +kernel
theorem dX1_placeSteps_21 : decode cX1_placeSteps 21 = .ok (.goto (-19), 3) := by decide +kernel
theorem dX1_placeSteps_24 : decode cX1_placeSteps 24 = .ok (.iconst 0, 1) := by decide +kernel
theorem dX1_placeSteps_25 : decode cX1_placeSteps 25 = .ok (.istore_n 3, 1) := by decide +kernel
theorem dX1_placeSteps_26 : decode cX1_placeSteps 26 = .ok (.iconst 0, 1) := by decide +kernel
theorem dX1_placeSteps_27 : decode cX1_placeSteps 27 = .ok (.istore 4, 2) := by decide +kernel
theorem dX1_placeSteps_29 : decode cX1_placeSteps 29 = .ok (.iload 4, 2) := by decide +kernel
theorem dX1_placeSteps_31 : decode cX1_placeSteps 31 = .ok (.aload_n 1, 1) := by decide +kernel
theorem dX1_placeSteps_32 : decode cX1_placeSteps 32 = .ok (.getfield 47, 3) := by decide +kernel
theorem dX1_placeSteps_35 : decode cX1_placeSteps 35 = .ok (.if_icmp .ge 87, 3) := by decide +kernel
theorem dX1_placeSteps_38 : decode cX1_placeSteps 38 = .ok (.aload_n 1, 1) := by decide +kernel
theorem dX1_placeSteps_39 : decode cX1_placeSteps 39 = .ok (.iload 4, 2) := by decide +kernel
theorem dX1_placeSteps_41 : decode cX1_placeSteps 41 = .ok (.invokevirtual 101, 3) := by decide +kernel
theorem dX1_placeSteps_44 : decode cX1_placeSteps 44 = .ok (.ifCond .eq 17, 3) := by decide +kernel
theorem dX1_placeSteps_47 : decode cX1_placeSteps 47 = .ok (.aload_n 1, 1) := by decide +kernel
theorem dX1_placeSteps_48 : decode cX1_placeSteps 48 = .ok (.iload 4, 2) := by decide +kernel
theorem dX1_placeSteps_50 : decode cX1_placeSteps 50 = .ok (.aload_n 2, 1) := by decide +kernel
theorem dX1_placeSteps_51 : decode cX1_placeSteps 51 = .ok (.invokestatic 105, 3) := by decide +kernel
theorem dX1_placeSteps_54 : decode cX1_placeSteps 54 = .ok (.ifCond .ne 7, 3) := by decide +kernel
theorem dX1_placeSteps_57 : decode cX1_placeSteps 57 = .ok (.iconst 1, 1) := by decide +kernel
theorem dX1_placeSteps_58 : decode cX1_placeSteps 58 = .ok (.goto 4, 3) := by decide +kernel
theorem dX1_placeSteps_61 : decode cX1_placeSteps 61 = .ok (.iconst 0, 1) := by decide +kernel
theorem dX1_placeSteps_62 : decode cX1_placeSteps 62 = .ok (.istore 5, 2) := by decide +kernel
theorem dX1_placeSteps_64 : decode cX1_placeSteps 64 = .ok (.aload_n 0, 1) := by decide +kernel
theorem dX1_placeSteps_65 : decode cX1_placeSteps 65 = .ok (.iload 5, 2) := by decide +kernel
theorem dX1_placeSteps_67 : decode cX1_placeSteps 67 = .ok (.ifCond .eq 9, 3) := by decide +kernel
theorem dX1_placeSteps_70 : decode cX1_placeSteps 70 = .ok (.iconst 1, 1) := by decide +kernel
theorem dX1_placeSteps_71 : decode cX1_placeSteps 71 = .ok (.iload_n 3, 1) := by decide +kernel
theorem dX1_placeSteps_72 : decode cX1_placeSteps 72 = .ok (.ishl, 1) := by decide +kernel
theorem dX1_placeSteps_73 : decode cX1_placeSteps 73 = .ok (.goto 6, 3) := by decide +kernel
theorem dX1_placeSteps_76 : decode cX1_placeSteps 76 = .ok (.sipush 4096, 3) := by decide +kernel
theorem dX1_placeSteps_79 : decode cX1_placeSteps 79 = .ok (.aload_n 1, 1) := by decide +kernel
theorem dX1_placeSteps_80 : decode cX1_placeSteps 80 = .ok (.getfield 113, 3) := by decide +kernel
theorem dX1_placeSteps_83 : decode cX1_placeSteps 83 = .ok (.iload 4, 2) := by decide +kernel
theorem dX1_placeSteps_85 : decode cX1_placeSteps 85 = .ok (.iaload, 1) := by decide +kernel
theorem dX1_placeSteps_86 : decode cX1_placeSteps 86 = .ok (.aload_n 1, 1) := by decide +kernel
theorem dX1_placeSteps_87 : decode cX1_placeSteps 87 = .ok (.getfield 117, 3) := by decide +kernel
theorem dX1_placeSteps_90 : decode cX1_placeSteps 90 = .ok (.iload 4, 2) := by decide +kernel
theorem dX1_placeSteps_92 : decode cX1_placeSteps 92 = .ok (.iaload, 1) := by decide +kernel
theorem dX1_placeSteps_93 : decode cX1_placeSteps 93 = .ok (.aload_n 1, 1) := by decide +kernel
theorem dX1_placeSteps_94 : decode cX1_placeSteps 94 = .ok (.getfield 121, 3) := by decide +kernel
theorem dX1_placeSteps_97 : decode cX1_placeSteps 97 = .ok (.iload 4, 2) := by decide +kernel
theorem dX1_placeSteps_99 : decode cX1_placeSteps 99 = .ok (.iaload, 1) := by decide +kernel
theorem dX1_placeSteps_100 : decode cX1_placeSteps 100 = .ok (.invokevirtual 140, 3) := by decide +kernel
theorem dX1_placeSteps_103 : decode cX1_placeSteps 103 = .ok (.iload_n 3, 1) := by decide +kernel
theorem dX1_placeSteps_104 : decode cX1_placeSteps 104 = .ok (.iload 5, 2) := by decide +kernel
theorem dX1_placeSteps_106 : decode cX1_placeSteps 106 = .ok (.ifCond .eq 7, 3) := by decide +kernel
theorem dX1_placeSteps_109 : decode cX1_placeSteps 109 = .ok (.iconst 1, 1) := by decide +kernel
theorem dX1_placeSteps_110 : decode cX1_placeSteps 110 = .ok (.goto 4, 3) := by decide +kernel
theorem dX1_placeSteps_113 : decode cX1_placeSteps 113 = .ok (.iconst 0, 1) := by decide +kernel
theorem dX1_placeSteps_114 : decode cX1_placeSteps 114 = .ok (.iadd, 1) := by decide +kernel
theorem dX1_placeSteps_115 : decode cX1_placeSteps 115 = .ok (.istore_n 3, 1) := by decide +kernel
theorem dX1_placeSteps_116 : decode cX1_placeSteps 116 = .ok (.iinc 4 1, 3) := by decide +kernel
theorem dX1_placeSteps_119 : decode cX1_placeSteps 119 = .ok (.goto (-90), 3) := by decide +kernel
theorem dX1_placeSteps_122 : decode cX1_placeSteps 122 = .ok (.iconst 0, 1) := by decide +kernel
theorem dX1_placeSteps_123 : decode cX1_placeSteps 123 = .ok (.istore 4, 2) := by decide +kernel
theorem dX1_placeSteps_125 : decode cX1_placeSteps 125 = .ok (.iload 4, 2) := by decide +kernel
theorem dX1_placeSteps_127 : decode cX1_placeSteps 127 = .ok (.aload_n 2, 1) := by decide +kernel
theorem dX1_placeSteps_128 : decode cX1_placeSteps 128 = .ok (.getfield 41, 3) := by decide +kernel
theorem dX1_placeSteps_131 : decode cX1_placeSteps 131 = .ok (.if_icmp .ge 50, 3) := by decide +kernel
theorem dX1_placeSteps_134 : decode cX1_placeSteps 134 = .ok (.aload_n 1, 1) := by decide +kernel
theorem dX1_placeSteps_135 : decode cX1_placeSteps 135 = .ok (.aload_n 2, 1) := by decide +kernel
theorem dX1_placeSteps_136 : decode cX1_placeSteps 136 = .ok (.iload 4, 2) := by decide +kernel
theorem dX1_placeSteps_138 : decode cX1_placeSteps 138 = .ok (.invokestatic 144, 3) := by decide +kernel
theorem dX1_placeSteps_141 : decode cX1_placeSteps 141 = .ok (.ifCond .ne 34, 3) := by decide +kernel
theorem dX1_placeSteps_144 : decode cX1_placeSteps 144 = .ok (.aload_n 0, 1) := by decide +kernel
theorem dX1_placeSteps_145 : decode cX1_placeSteps 145 = .ok (.iconst 1, 1) := by decide +kernel
theorem dX1_placeSteps_146 : decode cX1_placeSteps 146 = .ok (.iload_n 3, 1) := by decide +kernel
theorem dX1_placeSteps_147 : decode cX1_placeSteps 147 = .ok (.ishl, 1) := by decide +kernel
theorem dX1_placeSteps_148 : decode cX1_placeSteps 148 = .ok (.aload_n 2, 1) := by decide +kernel
theorem dX1_placeSteps_149 : decode cX1_placeSteps 149 = .ok (.getfield 116, 3) := by decide +kernel
theorem dX1_placeSteps_152 : decode cX1_placeSteps 152 = .ok (.iload 4, 2) := by decide +kernel
theorem dX1_placeSteps_154 : decode cX1_placeSteps 154 = .ok (.iaload, 1) := by decide +kernel
theorem dX1_placeSteps_155 : decode cX1_placeSteps 155 = .ok (.aload_n 2, 1) := by decide +kernel
theorem dX1_placeSteps_156 : decode cX1_placeSteps 156 = .ok (.getfield 120, 3) := by decide +kernel
theorem dX1_placeSteps_159 : decode cX1_placeSteps 159 = .ok (.iload 4, 2) := by decide +kernel
theorem dX1_placeSteps_161 : decode cX1_placeSteps 161 = .ok (.iaload, 1) := by decide +kernel
theorem dX1_placeSteps_162 : decode cX1_placeSteps 162 = .ok (.aload_n 2, 1) := by decide +kernel
theorem dX1_placeSteps_163 : decode cX1_placeSteps 163 = .ok (.getfield 124, 3) := by decide +kernel
theorem dX1_placeSteps_166 : decode cX1_placeSteps 166 = .ok (.iload 4, 2) := by decide +kernel
theorem dX1_placeSteps_168 : decode cX1_placeSteps 168 = .ok (.iaload, 1) := by decide +kernel
theorem dX1_placeSteps_169 : decode cX1_placeSteps 169 = .ok (.invokevirtual 140, 3) := by decide +kernel
theorem dX1_placeSteps_172 : decode cX1_placeSteps 172 = .ok (.iinc 3 1, 3) := by decide +kernel
theorem dX1_placeSteps_175 : decode cX1_placeSteps 175 = .ok (.iinc 4 1, 3) := by decide +kernel
theorem dX1_placeSteps_178 : decode cX1_placeSteps 178 = .ok (.goto (-53), 3) := by decide +kernel
theorem dX1_placeSteps_181 : decode cX1_placeSteps 181 = .ok (.return_, 1) := by decide +kernel
theorem dX1_allGoes_0 : decode cX1_allGoes 0 = .ok (.iconst 1, 1) := by decide +kernel
theorem dX1_allGoes_1 : decode cX1_allGoes 1 = .ok (.aload_n 0, 1) := by decide +kernel
theorem dX1_allGoes_2 : decode cX1_allGoes 2 = .ok (.getfield 52, 3) := by decide +kernel
theorem dX1_allGoes_5 : decode cX1_allGoes 5 = .ok (.ishl, 1) := by decide +kernel
theorem dX1_allGoes_6 : decode cX1_allGoes 6 = .ok (.iconst 1, 1) := by decide +kernel
theorem dX1_allGoes_7 : decode cX1_allGoes 7 = .ok (.isub, 1) := by decide +kernel
theorem dX1_allGoes_8 : decode cX1_allGoes 8 = .ok (.ireturn, 1) := by decide +kernel
theorem dX1_kindBehind_0 : decode cX1_kindBehind 0 = .ok (.iload_n 2, 1) := by decide +kernel
theorem dX1_kindBehind_1 : decode cX1_kindBehind 1 = .ok (.aload_n 0, 1) := by decide +kernel
theorem dX1_kindBehind_2 : decode cX1_kindBehind 2 = .ok (.invokevirtual 148, 3) := by decide +kernel
theorem dX1_kindBehind_5 : decode cX1_kindBehind 5 = .ok (.ixor, 1) := by decide +kernel
theorem dX1_kindBehind_6 : decode cX1_kindBehind 6 = .ok (.sipush 4096, 3) := by decide +kernel
theorem dX1_kindBehind_9 : decode cX1_kindBehind 9 = .ok (.ior, 1) := by decide +kernel
theorem dX1_kindBehind_10 : decode cX1_kindBehind 10 = .ok (.istore_n 3, 1) := by decide +kernel
theorem dX1_kindBehind_11 : decode cX1_kindBehind 11 = .ok (.iconst 0, 1) := by decide +kernel
theorem dX1_kindBehind_12 : decode cX1_kindBehind 12 = .ok (.istore 4, 2) := by decide +kernel
theorem dX1_kindBehind_14 : decode cX1_kindBehind 14 = .ok (.iconst 0, 1) := by decide +kernel
theorem dX1_kindBehind_15 : decode cX1_kindBehind 15 = .ok (.istore 5, 2) := by decide +kernel
theorem dX1_kindBehind_17 : decode cX1_kindBehind 17 = .ok (.iload 5, 2) := by decide +kernel
theorem dX1_kindBehind_19 : decode cX1_kindBehind 19 = .ok (.iconst 5, 1) := by decide +kernel
theorem dX1_kindBehind_20 : decode cX1_kindBehind 20 = .ok (.if_icmp .ge 38, 3) := by decide +kernel
theorem dX1_kindBehind_23 : decode cX1_kindBehind 23 = .ok (.iload 4, 2) := by decide +kernel
theorem dX1_kindBehind_25 : decode cX1_kindBehind 25 = .ok (.aload_n 0, 1) := by decide +kernel
theorem dX1_kindBehind_26 : decode cX1_kindBehind 26 = .ok (.getfield 24, 3) := by decide +kernel
theorem dX1_kindBehind_29 : decode cX1_kindBehind 29 = .ok (.iload_n 1, 1) := by decide +kernel
theorem dX1_kindBehind_30 : decode cX1_kindBehind 30 = .ok (.iconst 5, 1) := by decide +kernel
theorem dX1_kindBehind_31 : decode cX1_kindBehind 31 = .ok (.imul, 1) := by decide +kernel
theorem dX1_kindBehind_32 : decode cX1_kindBehind 32 = .ok (.iload 5, 2) := by decide +kernel
theorem dX1_kindBehind_34 : decode cX1_kindBehind 34 = .ok (.iadd, 1) := by decide +kernel
theorem dX1_kindBehind_35 : decode cX1_kindBehind 35 = .ok (.iaload, 1) := by decide +kernel
theorem dX1_kindBehind_36 : decode cX1_kindBehind 36 = .ok (.iload_n 3, 1) := by decide +kernel
theorem dX1_kindBehind_37 : decode cX1_kindBehind 37 = .ok (.iand, 1) := by decide +kernel
theorem dX1_kindBehind_38 : decode cX1_kindBehind 38 = .ok (.ifCond .eq 10, 3) := by decide +kernel
theorem dX1_kindBehind_41 : decode cX1_kindBehind 41 = .ok (.iconst 1, 1) := by decide +kernel
theorem dX1_kindBehind_42 : decode cX1_kindBehind 42 = .ok (.iload 5, 2) := by decide +kernel
theorem dX1_kindBehind_44 : decode cX1_kindBehind 44 = .ok (.ishl, 1) := by decide +kernel
theorem dX1_kindBehind_45 : decode cX1_kindBehind 45 = .ok (.goto 4, 3) := by decide +kernel
theorem dX1_kindBehind_48 : decode cX1_kindBehind 48 = .ok (.iconst 0, 1) := by decide +kernel
theorem dX1_kindBehind_49 : decode cX1_kindBehind 49 = .ok (.ior, 1) := by decide +kernel
theorem dX1_kindBehind_50 : decode cX1_kindBehind 50 = .ok (.istore 4, 2) := by decide +kernel
theorem dX1_kindBehind_52 : decode cX1_kindBehind 52 = .ok (.iinc 5 1, 3) := by decide +kernel
theorem dX1_kindBehind_55 : decode cX1_kindBehind 55 = .ok (.goto (-38), 3) := by decide +kernel
theorem dX1_kindBehind_58 : decode cX1_kindBehind 58 = .ok (.iload 4, 2) := by decide +kernel
theorem dX1_kindBehind_60 : decode cX1_kindBehind 60 = .ok (.aload_n 0, 1) := by decide +kernel
theorem dX1_kindBehind_61 : decode cX1_kindBehind 61 = .ok (.getfield 72, 3) := by decide +kernel
theorem dX1_kindBehind_64 : decode cX1_kindBehind 64 = .ok (.invokestatic 151, 3) := by decide +kernel
theorem dX1_kindBehind_67 : decode cX1_kindBehind 67 = .ok (.ireturn, 1) := by decide +kernel
theorem dX1_allSteps_0 : decode cX1_allSteps 0 = .ok (.iconst 1, 1) := by decide +kernel
theorem dX1_allSteps_1 : decode cX1_allSteps 1 = .ok (.aload_n 0, 1) := by decide +kernel
theorem dX1_allSteps_2 : decode cX1_allSteps 2 = .ok (.getfield 52, 3) := by decide +kernel
theorem dX1_allSteps_5 : decode cX1_allSteps 5 = .ok (.aload_n 0, 1) := by decide +kernel
theorem dX1_allSteps_6 : decode cX1_allSteps 6 = .ok (.getfield 55, 3) := by decide +kernel
theorem dX1_allSteps_9 : decode cX1_allSteps 9 = .ok (.iadd, 1) := by decide +kernel
theorem dX1_allSteps_10 : decode cX1_allSteps 10 = .ok (.ishl, 1) := by decide +kernel
theorem dX1_allSteps_11 : decode cX1_allSteps 11 = .ok (.iconst 1, 1) := by decide +kernel
theorem dX1_allSteps_12 : decode cX1_allSteps 12 = .ok (.isub, 1) := by decide +kernel
theorem dX1_allSteps_13 : decode cX1_allSteps 13 = .ok (.ireturn, 1) := by decide +kernel
theorem dX1_hasRoom_0 : decode cX1_hasRoom 0 = .ok (.aload_n 0, 1) := by decide +kernel
theorem dX1_hasRoom_1 : decode cX1_hasRoom 1 = .ok (.getfield 77, 3) := by decide +kernel
theorem dX1_hasRoom_4 : decode cX1_hasRoom 4 = .ok (.iload_n 1, 1) := by decide +kernel
theorem dX1_hasRoom_5 : decode cX1_hasRoom 5 = .ok (.aload_n 0, 1) := by decide +kernel
theorem dX1_hasRoom_6 : decode cX1_hasRoom 6 = .ok (.invokevirtual 148, 3) := by decide +kernel
theorem dX1_hasRoom_9 : decode cX1_hasRoom 9 = .ok (.iand, 1) := by decide +kernel
theorem dX1_hasRoom_10 : decode cX1_hasRoom 10 = .ok (.invokestatic 154, 3) := by decide +kernel
theorem dX1_hasRoom_13 : decode cX1_hasRoom 13 = .ok (.iadd, 1) := by decide +kernel
theorem dX1_hasRoom_14 : decode cX1_hasRoom 14 = .ok (.iload_n 1, 1) := by decide +kernel
theorem dX1_hasRoom_15 : decode cX1_hasRoom 15 = .ok (.aload_n 0, 1) := by decide +kernel
theorem dX1_hasRoom_16 : decode cX1_hasRoom 16 = .ok (.getfield 52, 3) := by decide +kernel
theorem dX1_hasRoom_19 : decode cX1_hasRoom 19 = .ok (.ishr, 1) := by decide +kernel
theorem dX1_hasRoom_20 : decode cX1_hasRoom 20 = .ok (.invokestatic 154, 3) := by decide +kernel
theorem dX1_hasRoom_23 : decode cX1_hasRoom 23 = .ok (.if_icmp .le 7, 3) := by decide +kernel
theorem dX1_hasRoom_26 : decode cX1_hasRoom 26 = .ok (.iconst 1, 1) := by decide +kernel
theorem dX1_hasRoom_27 : decode cX1_hasRoom 27 = .ok (.goto 4, 3) := by decide +kernel
theorem dX1_hasRoom_30 : decode cX1_hasRoom 30 = .ok (.iconst 0, 1) := by decide +kernel
theorem dX1_hasRoom_31 : decode cX1_hasRoom 31 = .ok (.ireturn, 1) := by decide +kernel
theorem dX1_isDeadEnd_0 : decode cX1_isDeadEnd 0 = .ok (.aload_n 0, 1) := by decide +kernel
theorem dX1_isDeadEnd_1 : decode cX1_isDeadEnd 1 = .ok (.getfield 33, 3) := by decide +kernel
theorem dX1_isDeadEnd_4 : decode cX1_isDeadEnd 4 = .ok (.iload_n 1, 1) := by decide +kernel
theorem dX1_isDeadEnd_5 : decode cX1_isDeadEnd 5 = .ok (.bipush 6, 2) := by decide +kernel
theorem dX1_isDeadEnd_7 : decode cX1_isDeadEnd 7 = .ok (.ishr, 1) := by decide +kernel
theorem dX1_isDeadEnd_8 : decode cX1_isDeadEnd 8 = .ok (.laload, 1) := by decide +kernel
theorem dX1_isDeadEnd_9 : decode cX1_isDeadEnd 9 = .ok (.iload_n 1, 1) := by decide +kernel
theorem dX1_isDeadEnd_10 : decode cX1_isDeadEnd 10 = .ok (.bipush 63, 2) := by decide +kernel
theorem dX1_isDeadEnd_12 : decode cX1_isDeadEnd 12 = .ok (.iand, 1) := by decide +kernel
theorem dX1_isDeadEnd_13 : decode cX1_isDeadEnd 13 = .ok (.lshr, 1) := by decide +kernel
theorem dX1_isDeadEnd_14 : decode cX1_isDeadEnd 14 = .ok (.lconst 1, 1) := by decide +kernel
theorem dX1_isDeadEnd_15 : decode cX1_isDeadEnd 15 = .ok (.land, 1) := by decide +kernel
theorem dX1_isDeadEnd_16 : decode cX1_isDeadEnd 16 = .ok (.lconst 0, 1) := by decide +kernel
theorem dX1_isDeadEnd_17 : decode cX1_isDeadEnd 17 = .ok (.lcmp, 1) := by decide +kernel
theorem dX1_isDeadEnd_18 : decode cX1_isDeadEnd 18 = .ok (.ifCond .eq 7, 3) := by decide +kernel
theorem dX1_isDeadEnd_21 : decode cX1_isDeadEnd 21 = .ok (.iconst 1, 1) := by decide +kernel
theorem dX1_isDeadEnd_22 : decode cX1_isDeadEnd 22 = .ok (.goto 4, 3) := by decide +kernel
theorem dX1_isDeadEnd_25 : decode cX1_isDeadEnd 25 = .ok (.iconst 0, 1) := by decide +kernel
theorem dX1_isDeadEnd_26 : decode cX1_isDeadEnd 26 = .ok (.ireturn, 1) := by decide +kernel
theorem dX1_isSafe_0 : decode cX1_isSafe 0 = .ok (.iconst 0, 1) := by decide +kernel
theorem dX1_isSafe_1 : decode cX1_isSafe 1 = .ok (.istore_n 2, 1) := by decide +kernel
theorem dX1_isSafe_2 : decode cX1_isSafe 2 = .ok (.iload_n 2, 1) := by decide +kernel
theorem dX1_isSafe_3 : decode cX1_isSafe 3 = .ok (.iconst 1, 1) := by decide +kernel
theorem dX1_isSafe_4 : decode cX1_isSafe 4 = .ok (.iadd, 1) := by decide +kernel
theorem dX1_isSafe_5 : decode cX1_isSafe 5 = .ok (.aload_n 0, 1) := by decide +kernel
theorem dX1_isSafe_6 : decode cX1_isSafe 6 = .ok (.getfield 20, 3) := by decide +kernel
theorem dX1_isSafe_9 : decode cX1_isSafe 9 = .ok (.getfield 86, 3) := by decide +kernel
theorem dX1_isSafe_12 : decode cX1_isSafe 12 = .ok (.if_icmp .ge 58, 3) := by decide +kernel
theorem dX1_isSafe_15 : decode cX1_isSafe 15 = .ok (.aload_n 0, 1) := by decide +kernel
theorem dX1_isSafe_16 : decode cX1_isSafe 16 = .ok (.getfield 20, 3) := by decide +kernel
theorem dX1_isSafe_19 : decode cX1_isSafe 19 = .ok (.getfield 98, 3) := by decide +kernel
theorem dX1_isSafe_22 : decode cX1_isSafe 22 = .ok (.iload_n 2, 1) := by decide +kernel
theorem dX1_isSafe_23 : decode cX1_isSafe 23 = .ok (.iaload, 1) := by decide +kernel
theorem dX1_isSafe_24 : decode cX1_isSafe 24 = .ok (.aload_n 0, 1) := by decide +kernel
theorem dX1_isSafe_25 : decode cX1_isSafe 25 = .ok (.getfield 68, 3) := by decide +kernel
theorem dX1_isSafe_28 : decode cX1_isSafe 28 = .ok (.if_icmp .lt 36, 3) := by decide +kernel
theorem dX1_isSafe_31 : decode cX1_isSafe 31 = .ok (.aload_n 0, 1) := by decide +kernel
theorem dX1_isSafe_32 : decode cX1_isSafe 32 = .ok (.iload_n 2, 1) := by decide +kernel
theorem dX1_isSafe_33 : decode cX1_isSafe 33 = .ok (.iload_n 1, 1) := by decide +kernel
theorem dX1_isSafe_34 : decode cX1_isSafe 34 = .ok (.invokevirtual 87, 3) := by decide +kernel
theorem dX1_isSafe_37 : decode cX1_isSafe 37 = .ok (.istore_n 3, 1) := by decide +kernel
theorem dX1_isSafe_38 : decode cX1_isSafe 38 = .ok (.iload_n 3, 1) := by decide +kernel
theorem dX1_isSafe_39 : decode cX1_isSafe 39 = .ok (.ifCond .eq 25, 3) := by decide +kernel
theorem dX1_isSafe_42 : decode cX1_isSafe 42 = .ok (.iload_n 3, 1) := by decide +kernel
theorem dX1_isSafe_43 : decode cX1_isSafe 43 = .ok (.aload_n 0, 1) := by decide +kernel
theorem dX1_isSafe_44 : decode cX1_isSafe 44 = .ok (.getfield 27, 3) := by decide +kernel
theorem dX1_isSafe_47 : decode cX1_isSafe 47 = .ok (.iload_n 2, 1) := by decide +kernel
theorem dX1_isSafe_48 : decode cX1_isSafe 48 = .ok (.iaload, 1) := by decide +kernel
theorem dX1_isSafe_49 : decode cX1_isSafe 49 = .ok (.if_icmp .eq 15, 3) := by decide +kernel
theorem dX1_isSafe_52 : decode cX1_isSafe 52 = .ok (.iload_n 3, 1) := by decide +kernel
theorem dX1_isSafe_53 : decode cX1_isSafe 53 = .ok (.aload_n 0, 1) := by decide +kernel
theorem dX1_isSafe_54 : decode cX1_isSafe 54 = .ok (.getfield 30, 3) := by decide +kernel
theorem dX1_isSafe_57 : decode cX1_isSafe 57 = .ok (.iload_n 2, 1) := by decide +kernel
theorem dX1_isSafe_58 : decode cX1_isSafe 58 = .ok (.iaload, 1) := by decide +kernel
theorem dX1_isSafe_59 : decode cX1_isSafe 59 = .ok (.if_icmp .eq 5, 3) := by decide +kernel
theorem dX1_isSafe_62 : decode cX1_isSafe 62 = .ok (.iconst 0, 1) := by decide +kernel
theorem dX1_isSafe_63 : decode cX1_isSafe 63 = .ok (.ireturn, 1) := by decide +kernel
theorem dX1_isSafe_64 : decode cX1_isSafe 64 = .ok (.iinc 2 1, 3) := by decide +kernel
theorem dX1_isSafe_67 : decode cX1_isSafe 67 = .ok (.goto (-65), 3) := by decide +kernel
theorem dX1_isSafe_70 : decode cX1_isSafe 70 = .ok (.iconst 1, 1) := by decide +kernel
theorem dX1_isSafe_71 : decode cX1_isSafe 71 = .ok (.ireturn, 1) := by decide +kernel
theorem dX1_finds_0 : decode cX1_finds 0 = .ok (.iload_n 1, 1) := by decide +kernel
theorem dX1_finds_1 : decode cX1_finds 1 = .ok (.aload_n 0, 1) := by decide +kernel
theorem dX1_finds_2 : decode cX1_finds 2 = .ok (.invokevirtual 91, 3) := by decide +kernel
theorem dX1_finds_5 : decode cX1_finds 5 = .ok (.if_icmp .ne 5, 3) := by decide +kernel
theorem dX1_finds_8 : decode cX1_finds 8 = .ok (.iconst 1, 1) := by decide +kernel
theorem dX1_finds_9 : decode cX1_finds 9 = .ok (.ireturn, 1) := by decide +kernel
theorem dX1_finds_10 : decode cX1_finds 10 = .ok (.iconst 0, 1) := by decide +kernel
theorem dX1_finds_11 : decode cX1_finds 11 = .ok (.istore_n 3, 1) := by decide +kernel
theorem dX1_finds_12 : decode cX1_finds 12 = .ok (.iload_n 3, 1) := by decide +kernel
theorem dX1_finds_13 : decode cX1_finds 13 = .ok (.aload_n 0, 1) := by decide +kernel
theorem dX1_finds_14 : decode cX1_finds 14 = .ok (.getfield 52, 3) := by decide +kernel
theorem dX1_finds_17 : decode cX1_finds 17 = .ok (.aload_n 0, 1) := by decide +kernel
theorem dX1_finds_18 : decode cX1_finds 18 = .ok (.getfield 55, 3) := by decide +kernel
theorem dX1_finds_21 : decode cX1_finds 21 = .ok (.iadd, 1) := by decide +kernel
theorem dX1_finds_22 : decode cX1_finds 22 = .ok (.if_icmp .ge 120, 3) := by decide +kernel
theorem dX1_finds_25 : decode cX1_finds 25 = .ok (.iload_n 2, 1) := by decide +kernel
theorem dX1_finds_26 : decode cX1_finds 26 = .ok (.bipush 12, 2) := by decide +kernel
theorem dX1_finds_28 : decode cX1_finds 28 = .ok (.if_icmp .ge 114, 3) := by decide +kernel
theorem dX1_finds_31 : decode cX1_finds 31 = .ok (.iload_n 1, 1) := by decide +kernel
theorem dX1_finds_32 : decode cX1_finds 32 = .ok (.iconst 1, 1) := by decide +kernel
theorem dX1_finds_33 : decode cX1_finds 33 = .ok (.iload_n 3, 1) := by decide +kernel
theorem dX1_finds_34 : decode cX1_finds 34 = .ok (.ishl, 1) := by decide +kernel
theorem dX1_finds_35 : decode cX1_finds 35 = .ok (.ior, 1) := by decide +kernel
theorem dX1_finds_36 : decode cX1_finds 36 = .ok (.istore 4, 2) := by decide +kernel
theorem dX1_finds_38 : decode cX1_finds 38 = .ok (.iload 4, 2) := by decide +kernel
theorem dX1_finds_40 : decode cX1_finds 40 = .ok (.iload_n 1, 1) := by decide +kernel
theorem dX1_finds_41 : decode cX1_finds 41 = .ok (.if_icmp .eq 23, 3) := by decide +kernel
theorem dX1_finds_44 : decode cX1_finds 44 = .ok (.iload_n 3, 1) := by decide +kernel
theorem dX1_finds_45 : decode cX1_finds 45 = .ok (.aload_n 0, 1) := by decide +kernel
theorem dX1_finds_46 : decode cX1_finds 46 = .ok (.getfield 52, 3) := by decide +kernel
theorem dX1_finds_49 : decode cX1_finds 49 = .ok (.if_icmp .lt 11, 3) := by decide +kernel
theorem dX1_finds_52 : decode cX1_finds 52 = .ok (.aload_n 0, 1) := by decide +kernel
theorem dX1_finds_53 : decode cX1_finds 53 = .ok (.iload_n 1, 1) := by decide +kernel
theorem dX1_finds_54 : decode cX1_finds 54 = .ok (.invokevirtual 160, 3) := by decide +kernel
theorem dX1_finds_57 : decode cX1_finds 57 = .ok (.ifCond .eq 7, 3) := by decide +kernel
theorem dX1_finds_60 : decode cX1_finds 60 = .ok (.iconst 1, 1) := by decide +kernel
theorem dX1_finds_61 : decode cX1_finds 61 = .ok (.goto 4, 3) := by decide +kernel
theorem dX1_finds_64 : decode cX1_finds 64 = .ok (.iconst 0, 1) := by decide +kernel
theorem dX1_finds_65 : decode cX1_finds 65 = .ok (.istore 5, 2) := by decide +kernel
theorem dX1_finds_67 : decode cX1_finds 67 = .ok (.iload 5, 2) := by decide +kernel
theorem dX1_finds_69 : decode cX1_finds 69 = .ok (.ifCond .eq 42, 3) := by decide +kernel
theorem dX1_finds_72 : decode cX1_finds 72 = .ok (.aload_n 0, 1) := by decide +kernel
theorem dX1_finds_73 : decode cX1_finds 73 = .ok (.iload 4, 2) := by decide +kernel
theorem dX1_finds_75 : decode cX1_finds 75 = .ok (.invokevirtual 163, 3) := by decide +kernel
theorem dX1_finds_78 : decode cX1_finds 78 = .ok (.ifCond .ne 33, 3) := by decide +kernel
theorem dX1_finds_81 : decode cX1_finds 81 = .ok (.aload_n 0, 1) := by decide +kernel
theorem dX1_finds_82 : decode cX1_finds 82 = .ok (.iload 4, 2) := by decide +kernel
theorem dX1_finds_84 : decode cX1_finds 84 = .ok (.invokevirtual 166, 3) := by decide +kernel
theorem dX1_finds_87 : decode cX1_finds 87 = .ok (.ifCond .eq 24, 3) := by decide +kernel
theorem dX1_finds_90 : decode cX1_finds 90 = .ok (.aload_n 0, 1) := by decide +kernel
theorem dX1_finds_91 : decode cX1_finds 91 = .ok (.getfield 9, 3) := by decide +kernel
theorem dX1_finds_94 : decode cX1_finds 94 = .ok (.iload_n 2, 1) := by decide +kernel
theorem dX1_finds_95 : decode cX1_finds 95 = .ok (.iload_n 3, 1) := by decide +kernel
theorem dX1_finds_96 : decode cX1_finds 96 = .ok (.iastore, 1) := by decide +kernel
theorem dX1_finds_97 : decode cX1_finds 97 = .ok (.aload_n 0, 1) := by decide +kernel
theorem dX1_finds_98 : decode cX1_finds 98 = .ok (.iload 4, 2) := by decide +kernel
theorem dX1_finds_100 : decode cX1_finds 100 = .ok (.iload_n 2, 1) := by decide +kernel
theorem dX1_finds_101 : decode cX1_finds 101 = .ok (.iconst 1, 1) := by decide +kernel
theorem dX1_finds_102 : decode cX1_finds 102 = .ok (.iadd, 1) := by decide +kernel
theorem dX1_finds_103 : decode cX1_finds 103 = .ok (.invokevirtual 94, 3) := by decide +kernel
theorem dX1_finds_106 : decode cX1_finds 106 = .ok (.ifCond .eq 5, 3) := by decide +kernel
theorem dX1_finds_109 : decode cX1_finds 109 = .ok (.iconst 1, 1) := by decide +kernel
theorem dX1_finds_110 : decode cX1_finds 110 = .ok (.ireturn, 1) := by decide +kernel
theorem dX1_finds_111 : decode cX1_finds 111 = .ok (.iload 5, 2) := by decide +kernel
theorem dX1_finds_113 : decode cX1_finds 113 = .ok (.ifCond .eq 23, 3) := by decide +kernel
theorem dX1_finds_116 : decode cX1_finds 116 = .ok (.aload_n 0, 1) := by decide +kernel
theorem dX1_finds_117 : decode cX1_finds 117 = .ok (.getfield 33, 3) := by decide +kernel
theorem dX1_finds_120 : decode cX1_finds 120 = .ok (.iload 4, 2) := by decide +kernel
theorem dX1_finds_122 : decode cX1_finds 122 = .ok (.bipush 6, 2) := by decide +kernel
theorem dX1_finds_124 : decode cX1_finds 124 = .ok (.ishr, 1) := by decide +kernel
theorem dX1_finds_125 : decode cX1_finds 125 = .ok (.dup2, 1) := by decide +kernel
theorem dX1_finds_126 : decode cX1_finds 126 = .ok (.laload, 1) := by decide +kernel
theorem dX1_finds_127 : decode cX1_finds 127 = .ok (.lconst 1, 1) := by decide +kernel
theorem dX1_finds_128 : decode cX1_finds 128 = .ok (.iload 4, 2) := by decide +kernel
theorem dX1_finds_130 : decode cX1_finds 130 = .ok (.bipush 63, 2) := by decide +kernel
theorem dX1_finds_132 : decode cX1_finds 132 = .ok (.iand, 1) := by decide +kernel
theorem dX1_finds_133 : decode cX1_finds 133 = .ok (.lshl, 1) := by decide +kernel
theorem dX1_finds_134 : decode cX1_finds 134 = .ok (.lor, 1) := by decide +kernel
theorem dX1_finds_135 : decode cX1_finds 135 = .ok (.lastore, 1) := by decide +kernel
theorem dX1_finds_136 : decode cX1_finds 136 = .ok (.iinc 3 1, 3) := by decide +kernel
theorem dX1_finds_139 : decode cX1_finds 139 = .ok (.goto (-127), 3) := by decide +kernel
theorem dX1_finds_142 : decode cX1_finds 142 = .ok (.iconst 0, 1) := by decide +kernel
theorem dX1_finds_143 : decode cX1_finds 143 = .ok (.ireturn, 1) := by decide +kernel
theorem dX1_make_0 : decode cX1_make 0 = .ok (.aload_n 0, 1) := by decide +kernel
theorem dX1_make_1 : decode cX1_make 1 = .ok (.aload_n 1, 1) := by decide +kernel
theorem dX1_make_2 : decode cX1_make 2 = .ok (.aload_n 2, 1) := by decide +kernel
theorem dX1_make_3 : decode cX1_make 3 = .ok (.invokevirtual 37, 3) := by decide +kernel
theorem dX1_make_6 : decode cX1_make 6 = .ok (.aload_n 0, 1) := by decide +kernel
theorem dX1_make_7 : decode cX1_make 7 = .ok (.aload_n 2, 1) := by decide +kernel
theorem dX1_make_8 : decode cX1_make 8 = .ok (.getfield 41, 3) := by decide +kernel
theorem dX1_make_11 : decode cX1_make 11 = .ok (.aload_n 1, 1) := by decide +kernel
theorem dX1_make_12 : decode cX1_make 12 = .ok (.getfield 47, 3) := by decide +kernel
theorem dX1_make_15 : decode cX1_make 15 = .ok (.if_icmp .gt 21, 3) := by decide +kernel
theorem dX1_make_18 : decode cX1_make 18 = .ok (.aload_n 0, 1) := by decide +kernel
theorem dX1_make_19 : decode cX1_make 19 = .ok (.getfield 52, 3) := by decide +kernel
theorem dX1_make_22 : decode cX1_make 22 = .ok (.aload_n 0, 1) := by decide +kernel
theorem dX1_make_23 : decode cX1_make 23 = .ok (.getfield 55, 3) := by decide +kernel
theorem dX1_make_26 : decode cX1_make 26 = .ok (.iadd, 1) := by decide +kernel
theorem dX1_make_27 : decode cX1_make 27 = .ok (.bipush 12, 2) := by decide +kernel
theorem dX1_make_29 : decode cX1_make 29 = .ok (.if_icmp .gt 7, 3) := by decide +kernel
theorem dX1_make_32 : decode cX1_make 32 = .ok (.iconst 1, 1) := by decide +kernel
theorem dX1_make_33 : decode cX1_make 33 = .ok (.goto 4, 3) := by decide +kernel
theorem dX1_make_36 : decode cX1_make 36 = .ok (.iconst 0, 1) := by decide +kernel
theorem dX1_make_37 : decode cX1_make 37 = .ok (.putfield 58, 3) := by decide +kernel
theorem dX1_make_40 : decode cX1_make 40 = .ok (.aload_n 0, 1) := by decide +kernel
theorem dX1_make_41 : decode cX1_make 41 = .ok (.iconst 0, 1) := by decide +kernel
theorem dX1_make_42 : decode cX1_make 42 = .ok (.putfield 62, 3) := by decide +kernel
theorem dX1_make_45 : decode cX1_make 45 = .ok (.aload_n 0, 1) := by decide +kernel
theorem dX1_make_46 : decode cX1_make 46 = .ok (.getfield 58, 3) := by decide +kernel
theorem dX1_make_49 : decode cX1_make 49 = .ok (.ifCond .ne 4, 3) := by decide +kernel
theorem dX1_make_52 : decode cX1_make 52 = .ok (.return_, 1) := by decide +kernel
theorem dX1_make_53 : decode cX1_make 53 = .ok (.aload_n 0, 1) := by decide +kernel
theorem dX1_make_54 : decode cX1_make 54 = .ok (.aload_n 1, 1) := by decide +kernel
theorem dX1_make_55 : decode cX1_make 55 = .ok (.getfield 65, 3) := by decide +kernel
theorem dX1_make_58 : decode cX1_make 58 = .ok (.putfield 68, 3) := by decide +kernel
theorem dX1_make_61 : decode cX1_make 61 = .ok (.aload_n 0, 1) := by decide +kernel
theorem dX1_make_62 : decode cX1_make 62 = .ok (.aload_n 1, 1) := by decide +kernel
theorem dX1_make_63 : decode cX1_make 63 = .ok (.getfield 69, 3) := by decide +kernel
theorem dX1_make_66 : decode cX1_make 66 = .ok (.putfield 72, 3) := by decide +kernel
theorem dX1_make_69 : decode cX1_make 69 = .ok (.aload_n 0, 1) := by decide +kernel
theorem dX1_make_70 : decode cX1_make 70 = .ok (.aload_n 1, 1) := by decide +kernel
theorem dX1_make_71 : decode cX1_make 71 = .ok (.getfield 47, 3) := by decide +kernel
theorem dX1_make_74 : decode cX1_make 74 = .ok (.aload_n 1, 1) := by decide +kernel
theorem dX1_make_75 : decode cX1_make 75 = .ok (.invokevirtual 73, 3) := by decide +kernel
theorem dX1_make_78 : decode cX1_make 78 = .ok (.isub, 1) := by decide +kernel
theorem dX1_make_79 : decode cX1_make 79 = .ok (.putfield 77, 3) := by decide +kernel
theorem dX1_make_82 : decode cX1_make 82 = .ok (.aload_n 0, 1) := by decide +kernel
theorem dX1_make_83 : decode cX1_make 83 = .ok (.aload_n 1, 1) := by decide +kernel
theorem dX1_make_84 : decode cX1_make 84 = .ok (.aload_n 2, 1) := by decide +kernel
theorem dX1_make_85 : decode cX1_make 85 = .ok (.invokevirtual 80, 3) := by decide +kernel
theorem dX1_make_88 : decode cX1_make 88 = .ok (.aload_n 0, 1) := by decide +kernel
theorem dX1_make_89 : decode cX1_make 89 = .ok (.aload_n 1, 1) := by decide +kernel
theorem dX1_make_90 : decode cX1_make 90 = .ok (.aload_n 2, 1) := by decide +kernel
theorem dX1_make_91 : decode cX1_make 91 = .ok (.invokevirtual 83, 3) := by decide +kernel
theorem dX1_make_94 : decode cX1_make 94 = .ok (.iconst 0, 1) := by decide +kernel
theorem dX1_make_95 : decode cX1_make 95 = .ok (.istore_n 3, 1) := by decide +kernel
theorem dX1_make_96 : decode cX1_make 96 = .ok (.iload_n 3, 1) := by decide +kernel
theorem dX1_make_97 : decode cX1_make 97 = .ok (.iconst 1, 1) := by decide +kernel
theorem dX1_make_98 : decode cX1_make 98 = .ok (.iadd, 1) := by decide +kernel
theorem dX1_make_99 : decode cX1_make 99 = .ok (.aload_n 0, 1) := by decide +kernel
theorem dX1_make_100 : decode cX1_make 100 = .ok (.getfield 20, 3) := by decide +kernel
theorem dX1_make_103 : decode cX1_make 103 = .ok (.getfield 86, 3) := by decide +kernel
theorem dX1_make_106 : decode cX1_make 106 = .ok (.if_icmp .ge 36, 3) := by decide +kernel
theorem dX1_make_109 : decode cX1_make 109 = .ok (.aload_n 0, 1) := by decide +kernel
theorem dX1_make_110 : decode cX1_make 110 = .ok (.getfield 27, 3) := by decide +kernel
theorem dX1_make_113 : decode cX1_make 113 = .ok (.iload_n 3, 1) := by decide +kernel
theorem dX1_make_114 : decode cX1_make 114 = .ok (.aload_n 0, 1) := by decide +kernel
theorem dX1_make_115 : decode cX1_make 115 = .ok (.iload_n 3, 1) := by decide +kernel
theorem dX1_make_116 : decode cX1_make 116 = .ok (.iconst 0, 1) := by decide +kernel
theorem dX1_make_117 : decode cX1_make 117 = .ok (.invokevirtual 87, 3) := by decide +kernel
theorem dX1_make_120 : decode cX1_make 120 = .ok (.iastore, 1) := by decide +kernel
theorem dX1_make_121 : decode cX1_make 121 = .ok (.aload_n 0, 1) := by decide +kernel
theorem dX1_make_122 : decode cX1_make 122 = .ok (.getfield 30, 3) := by decide +kernel
theorem dX1_make_125 : decode cX1_make 125 = .ok (.iload_n 3, 1) := by decide +kernel
theorem dX1_make_126 : decode cX1_make 126 = .ok (.aload_n 0, 1) := by decide +kernel
theorem dX1_make_127 : decode cX1_make 127 = .ok (.iload_n 3, 1) := by decide +kernel
theorem dX1_make_128 : decode cX1_make 128 = .ok (.aload_n 0, 1) := by decide +kernel
theorem dX1_make_129 : decode cX1_make 129 = .ok (.invokevirtual 91, 3) := by decide +kernel
theorem dX1_make_132 : decode cX1_make 132 = .ok (.invokevirtual 87, 3) := by decide +kernel
theorem dX1_make_135 : decode cX1_make 135 = .ok (.iastore, 1) := by decide +kernel
theorem dX1_make_136 : decode cX1_make 136 = .ok (.iinc 3 1, 3) := by decide +kernel
theorem dX1_make_139 : decode cX1_make 139 = .ok (.goto (-43), 3) := by decide +kernel
theorem dX1_make_142 : decode cX1_make 142 = .ok (.iconst 0, 1) := by decide +kernel
theorem dX1_make_143 : decode cX1_make 143 = .ok (.istore_n 3, 1) := by decide +kernel
theorem dX1_make_144 : decode cX1_make 144 = .ok (.iload_n 3, 1) := by decide +kernel
theorem dX1_make_145 : decode cX1_make 145 = .ok (.aload_n 0, 1) := by decide +kernel
theorem dX1_make_146 : decode cX1_make 146 = .ok (.getfield 33, 3) := by decide +kernel
theorem dX1_make_149 : decode cX1_make 149 = .ok (.arraylength, 1) := by decide +kernel
theorem dX1_make_150 : decode cX1_make 150 = .ok (.if_icmp .ge 16, 3) := by decide +kernel
theorem dX1_make_153 : decode cX1_make 153 = .ok (.aload_n 0, 1) := by decide +kernel
theorem dX1_make_154 : decode cX1_make 154 = .ok (.getfield 33, 3) := by decide +kernel
theorem dX1_make_157 : decode cX1_make 157 = .ok (.iload_n 3, 1) := by decide +kernel
theorem dX1_make_158 : decode cX1_make 158 = .ok (.lconst 0, 1) := by decide +kernel
theorem dX1_make_159 : decode cX1_make 159 = .ok (.lastore, 1) := by decide +kernel
theorem dX1_make_160 : decode cX1_make 160 = .ok (.iinc 3 1, 3) := by decide +kernel
theorem dX1_make_163 : decode cX1_make 163 = .ok (.goto (-19), 3) := by decide +kernel
theorem dX1_make_166 : decode cX1_make 166 = .ok (.aload_n 0, 1) := by decide +kernel
theorem dX1_make_167 : decode cX1_make 167 = .ok (.aload_n 0, 1) := by decide +kernel
theorem dX1_make_168 : decode cX1_make 168 = .ok (.iconst 0, 1) := by decide +kernel
theorem dX1_make_169 : decode cX1_make 169 = .ok (.iconst 0, 1) := by decide +kernel
theorem dX1_make_170 : decode cX1_make 170 = .ok (.invokevirtual 94, 3) := by decide +kernel
theorem dX1_make_173 : decode cX1_make 173 = .ok (.putfield 62, 3) := by decide +kernel
theorem dX1_make_176 : decode cX1_make 176 = .ok (.return_, 1) := by decide +kernel
theorem dX1_hasStep_0 : decode cX1_hasStep 0 = .ok (.aload_n 0, 1) := by decide +kernel
theorem dX1_hasStep_1 : decode cX1_hasStep 1 = .ok (.getfield 62, 3) := by decide +kernel
theorem dX1_hasStep_4 : decode cX1_hasStep 4 = .ok (.ifCond .eq 24, 3) := by decide +kernel
theorem dX1_hasStep_7 : decode cX1_hasStep 7 = .ok (.iload_n 1, 1) := by decide +kernel
theorem dX1_hasStep_8 : decode cX1_hasStep 8 = .ok (.ifCond .lt 20, 3) := by decide +kernel
theorem dX1_hasStep_11 : decode cX1_hasStep 11 = .ok (.iload_n 1, 1) := by decide +kernel
theorem dX1_hasStep_12 : decode cX1_hasStep 12 = .ok (.aload_n 0, 1) := by decide +kernel
theorem dX1_hasStep_13 : decode cX1_hasStep 13 = .ok (.getfield 52, 3) := by decide +kernel
theorem dX1_hasStep_16 : decode cX1_hasStep 16 = .ok (.aload_n 0, 1) := by decide +kernel
theorem dX1_hasStep_17 : decode cX1_hasStep 17 = .ok (.getfield 55, 3) := by decide +kernel
theorem dX1_hasStep_20 : decode cX1_hasStep 20 = .ok (.iadd, 1) := by decide +kernel
theorem dX1_hasStep_21 : decode cX1_hasStep 21 = .ok (.if_icmp .ge 7, 3) := by decide +kernel
theorem dX1_hasStep_24 : decode cX1_hasStep 24 = .ok (.iconst 1, 1) := by decide +kernel
theorem dX1_hasStep_25 : decode cX1_hasStep 25 = .ok (.goto 4, 3) := by decide +kernel
theorem dX1_hasStep_28 : decode cX1_hasStep 28 = .ok (.iconst 0, 1) := by decide +kernel
theorem dX1_hasStep_29 : decode cX1_hasStep 29 = .ok (.ireturn, 1) := by decide +kernel
theorem dX1_stirredBy_0 : decode cX1_stirredBy 0 = .ok (.iconst 0, 1) := by decide +kernel
theorem dX1_stirredBy_1 : decode cX1_stirredBy 1 = .ok (.istore_n 2, 1) := by decide +kernel
theorem dX1_stirredBy_2 : decode cX1_stirredBy 2 = .ok (.iconst 0, 1) := by decide +kernel
theorem dX1_stirredBy_3 : decode cX1_stirredBy 3 = .ok (.istore_n 3, 1) := by decide +kernel
theorem dX1_stirredBy_4 : decode cX1_stirredBy 4 = .ok (.iload_n 3, 1) := by decide +kernel
theorem dX1_stirredBy_5 : decode cX1_stirredBy 5 = .ok (.iload_n 1, 1) := by decide +kernel
theorem dX1_stirredBy_6 : decode cX1_stirredBy 6 = .ok (.if_icmp .ge 20, 3) := by decide +kernel
theorem dX1_stirredBy_9 : decode cX1_stirredBy 9 = .ok (.iload_n 2, 1) := by decide +kernel
theorem dX1_stirredBy_10 : decode cX1_stirredBy 10 = .ok (.iconst 1, 1) := by decide +kernel
theorem dX1_stirredBy_11 : decode cX1_stirredBy 11 = .ok (.aload_n 0, 1) := by decide +kernel
theorem dX1_stirredBy_12 : decode cX1_stirredBy 12 = .ok (.getfield 9, 3) := by decide +kernel
theorem dX1_stirredBy_15 : decode cX1_stirredBy 15 = .ok (.iload_n 3, 1) := by decide +kernel
theorem dX1_stirredBy_16 : decode cX1_stirredBy 16 = .ok (.iaload, 1) := by decide +kernel
theorem dX1_stirredBy_17 : decode cX1_stirredBy 17 = .ok (.ishl, 1) := by decide +kernel
theorem dX1_stirredBy_18 : decode cX1_stirredBy 18 = .ok (.ior, 1) := by decide +kernel
theorem dX1_stirredBy_19 : decode cX1_stirredBy 19 = .ok (.istore_n 2, 1) := by decide +kernel
theorem dX1_stirredBy_20 : decode cX1_stirredBy 20 = .ok (.iinc 3 1, 3) := by decide +kernel
theorem dX1_stirredBy_23 : decode cX1_stirredBy 23 = .ok (.goto (-19), 3) := by decide +kernel
theorem dX1_stirredBy_26 : decode cX1_stirredBy 26 = .ok (.iload_n 2, 1) := by decide +kernel
theorem dX1_stirredBy_27 : decode cX1_stirredBy 27 = .ok (.iconst 1, 1) := by decide +kernel
theorem dX1_stirredBy_28 : decode cX1_stirredBy 28 = .ok (.aload_n 0, 1) := by decide +kernel
theorem dX1_stirredBy_29 : decode cX1_stirredBy 29 = .ok (.getfield 9, 3) := by decide +kernel
theorem dX1_stirredBy_32 : decode cX1_stirredBy 32 = .ok (.iload_n 1, 1) := by decide +kernel
theorem dX1_stirredBy_33 : decode cX1_stirredBy 33 = .ok (.iaload, 1) := by decide +kernel
theorem dX1_stirredBy_34 : decode cX1_stirredBy 34 = .ok (.ishl, 1) := by decide +kernel
theorem dX1_stirredBy_35 : decode cX1_stirredBy 35 = .ok (.ior, 1) := by decide +kernel
theorem dX1_stirredBy_36 : decode cX1_stirredBy 36 = .ok (.istore_n 3, 1) := by decide +kernel
theorem dX1_stirredBy_37 : decode cX1_stirredBy 37 = .ok (.iconst 0, 1) := by decide +kernel
theorem dX1_stirredBy_38 : decode cX1_stirredBy 38 = .ok (.istore 4, 2) := by decide +kernel
theorem dX1_stirredBy_40 : decode cX1_stirredBy 40 = .ok (.iconst 0, 1) := by decide +kernel
theorem dX1_stirredBy_41 : decode cX1_stirredBy 41 = .ok (.istore 5, 2) := by decide +kernel
theorem dX1_stirredBy_43 : decode cX1_stirredBy 43 = .ok (.iload 5, 2) := by decide +kernel
theorem dX1_stirredBy_45 : decode cX1_stirredBy 45 = .ok (.iconst 1, 1) := by decide +kernel
theorem dX1_stirredBy_46 : decode cX1_stirredBy 46 = .ok (.iadd, 1) := by decide +kernel
theorem dX1_stirredBy_47 : decode cX1_stirredBy 47 = .ok (.aload_n 0, 1) := by decide +kernel
theorem dX1_stirredBy_48 : decode cX1_stirredBy 48 = .ok (.getfield 20, 3) := by decide +kernel
theorem dX1_stirredBy_51 : decode cX1_stirredBy 51 = .ok (.getfield 86, 3) := by decide +kernel
theorem dX1_stirredBy_54 : decode cX1_stirredBy 54 = .ok (.if_icmp .ge 71, 3) := by decide +kernel
theorem dX1_stirredBy_57 : decode cX1_stirredBy 57 = .ok (.aload_n 0, 1) := by decide +kernel
theorem dX1_stirredBy_58 : decode cX1_stirredBy 58 = .ok (.getfield 20, 3) := by decide +kernel
theorem dX1_stirredBy_61 : decode cX1_stirredBy 61 = .ok (.getfield 98, 3) := by decide +kernel
theorem dX1_stirredBy_64 : decode cX1_stirredBy 64 = .ok (.iload 5, 2) := by decide +kernel
theorem dX1_stirredBy_66 : decode cX1_stirredBy 66 = .ok (.iaload, 1) := by decide +kernel
theorem dX1_stirredBy_67 : decode cX1_stirredBy 67 = .ok (.aload_n 0, 1) := by decide +kernel
theorem dX1_stirredBy_68 : decode cX1_stirredBy 68 = .ok (.getfield 68, 3) := by decide +kernel
theorem dX1_stirredBy_71 : decode cX1_stirredBy 71 = .ok (.if_icmp .lt 48, 3) := by decide +kernel
theorem dX1_stirredBy_74 : decode cX1_stirredBy 74 = .ok (.aload_n 0, 1) := by decide +kernel
theorem dX1_stirredBy_75 : decode cX1_stirredBy 75 = .ok (.iload 5, 2) := by decide +kernel
theorem dX1_stirredBy_77 : decode cX1_stirredBy 77 = .ok (.iload_n 2, 1) := by decide +kernel
theorem dX1_stirredBy_78 : decode cX1_stirredBy 78 = .ok (.invokevirtual 87, 3) := by decide +kernel
theorem dX1_stirredBy_81 : decode cX1_stirredBy 81 = .ok (.aload_n 0, 1) := by decide +kernel
theorem dX1_stirredBy_82 : decode cX1_stirredBy 82 = .ok (.iload 5, 2) := by decide +kernel
theorem dX1_stirredBy_84 : decode cX1_stirredBy 84 = .ok (.iload_n 3, 1) := by decide +kernel
theorem dX1_stirredBy_85 : decode cX1_stirredBy 85 = .ok (.invokevirtual 87, 3) := by decide +kernel
theorem dX1_stirredBy_88 : decode cX1_stirredBy 88 = .ok (.if_icmp .eq 31, 3) := by decide +kernel
theorem dX1_stirredBy_91 : decode cX1_stirredBy 91 = .ok (.iload 4, 2) := by decide +kernel
theorem dX1_stirredBy_93 : decode cX1_stirredBy 93 = .ok (.aload_n 0, 1) := by decide +kernel
theorem dX1_stirredBy_94 : decode cX1_stirredBy 94 = .ok (.getfield 20, 3) := by decide +kernel
theorem dX1_stirredBy_97 : decode cX1_stirredBy 97 = .ok (.getfield 98, 3) := by decide +kernel
theorem dX1_stirredBy_100 : decode cX1_stirredBy 100 = .ok (.iload 5, 2) := by decide +kernel
theorem dX1_stirredBy_102 : decode cX1_stirredBy 102 = .ok (.iconst 1, 1) := by decide +kernel
theorem dX1_stirredBy_103 : decode cX1_stirredBy 103 = .ok (.iadd, 1) := by decide +kernel
theorem dX1_stirredBy_104 : decode cX1_stirredBy 104 = .ok (.iaload, 1) := by decide +kernel
theorem dX1_stirredBy_105 : decode cX1_stirredBy 105 = .ok (.aload_n 0, 1) := by decide +kernel
theorem dX1_stirredBy_106 : decode cX1_stirredBy 106 = .ok (.getfield 20, 3) := by decide +kernel
theorem dX1_stirredBy_109 : decode cX1_stirredBy 109 = .ok (.getfield 98, 3) := by decide +kernel
theorem dX1_stirredBy_112 : decode cX1_stirredBy 112 = .ok (.iload 5, 2) := by decide +kernel
theorem dX1_stirredBy_114 : decode cX1_stirredBy 114 = .ok (.iaload, 1) := by decide +kernel
theorem dX1_stirredBy_115 : decode cX1_stirredBy 115 = .ok (.isub, 1) := by decide +kernel
theorem dX1_stirredBy_116 : decode cX1_stirredBy 116 = .ok (.iadd, 1) := by decide +kernel
theorem dX1_stirredBy_117 : decode cX1_stirredBy 117 = .ok (.istore 4, 2) := by decide +kernel
theorem dX1_stirredBy_119 : decode cX1_stirredBy 119 = .ok (.iinc 5 1, 3) := by decide +kernel
theorem dX1_stirredBy_122 : decode cX1_stirredBy 122 = .ok (.goto (-79), 3) := by decide +kernel
theorem dX1_stirredBy_125 : decode cX1_stirredBy 125 = .ok (.iload 4, 2) := by decide +kernel
theorem dX1_stirredBy_127 : decode cX1_stirredBy 127 = .ok (.ireturn, 1) := by decide +kernel
section G18_change_lean_txt
variable {p : Program} {l : Launch} {e : Env} {s : State} {m : MethodId} {args : Array Value} {below : List Frame} {meth : Method} {c : Code} {H : Heap} {locs : List Loc} {ls : Array Slot} {E : Ge} {L : Lay} {fu d : Nat}
def fX1_isSame_j50 (fu : Nat) (t0 : Int32) (M : Mm) : Option Int32 :=
  gd (t0 = 0 ∨ t0 = 1) <|
  some t0
set_option maxRecDepth 100000 in
set_option maxHeartbeats 4000000 in
theorem wX1_isSame_j50 {r : Int32}   {t0 : Int32} {M : Mm} (B : Bx p s m args c cX1_isSame 4 RX1 E L) (hr : meth.sig.returnType = (some .boolean)) (hlk : meth.locks = false)   (h : fX1_isSame_j50 fu t0 M = some r) (hR : Rx s E L M H locs) (hl : lv_has ls 4 []) : W p l e (rmD (d + 0)) s m args below meth c H locs 0 0 (MQ below (QcM E L (some (.int r)) M) args s 0 0 E.2.2.2) (F0 m 50 ls [.int t0]) := by
  have hx := B.1
  have hb := B.2.1
  unfold fX1_isSame_j50 at h
  obtain ⟨hz_50, h⟩ := gd_el h
  exact r_zretP B hR hr hlk hz_50 h dX1_isSame_50
def fX1_isSame_j49 (fu : Nat) (M : Mm) : Option Int32 :=
  fX1_isSame_j50 fu 0 M
set_option maxRecDepth 100000 in
set_option maxHeartbeats 4000000 in
theorem wX1_isSame_j49 {r : Int32}    {M : Mm} (B : Bx p s m args c cX1_isSame 4 RX1 E L) (hr : meth.sig.returnType = (some .boolean)) (hlk : meth.locks = false)   (h : fX1_isSame_j49 fu M = some r) (hR : Rx s E L M H locs) (hl : lv_has ls 4 []) : W p l e (rmD (d + 0)) s m args below meth c H locs 0 0 (MQ below (QcM E L (some (.int r)) M) args s 0 0 E.2.2.2) (F0 m 49 ls []) := by
  have hx := B.1
  have hb := B.2.1
  unfold fX1_isSame_j49 at h
  refine lv_iconst (v := 0) hx hb dX1_isSame_49 (by decide) ?_
  exact wX1_isSame_j50 B hr hlk  h hR hl
def fX1_isSame (fu : Nat) (a0 : Nat) (x1 : Int32) (n2 : Nat) (a2 : Nat) (x3 : Int32) (M : Mm) : Option Int32 :=
  if x1 < 0 ∨ 10 ≤ ix x1 then none else
  if x3 < 0 ∨ n2 ≤ ix x3 then none else
  if (M.1 (a0 + 5) (ix x1)) = (M.1 (a2 + 1) (ix x3)) then
    if (M.1 (a0 + 6) (ix x1)) = (M.1 (a2 + 2) (ix x3)) then
      if (M.1 (a0 + 7) (ix x1)) = (M.1 (a2 + 3) (ix x3)) then
        fX1_isSame_j50 fu 1 M
      else
        fX1_isSame_j49 fu M
    else
      fX1_isSame_j49 fu M
  else
    fX1_isSame_j49 fu M
set_option maxRecDepth 100000 in
set_option maxHeartbeats 4000000 in
theorem mX1_isSame {l : Launch} {E : Ge} {L : Lay} (fu d : Nat) {a0 : Nat} {x1 : Int32} {n2 : Nat} {a2 : Nat} {x3 : Int32} {M : Mm} {r : Int32}  (h0 : At L a0 T8) (h2 : At L a2 (T0 n2)) (h : fX1_isSame fu a0 x1 n2 a2 x3 M = some r) : Ct l E L yX1_isSame cX1_isSame 4 (some .boolean) (d + 0) [.ref a0, .int x1, .ref a2, .int x3] M (some (.int r)) M := by
  refine Ct.of (by decide) ?_
  intro p e s m below meth c hr hlk B hR
  have B : Bx p s m _ c cX1_isSame 4 RX1 E L := B
  have hx := B.1
  have hb := B.2.1
  have hl := lv_entry ([.ref a0, .int x1, .ref a2, .int x3]) (n := 4) (Nat.le_of_ble_eq_true rfl)
  rw [lg_entry_eq]
  generalize (lg_sl ([.ref a0, .int x1, .ref a2, .int x3]) ++ List.replicate (4 - (lg_sl ([.ref a0, .int x1, .ref a2, .int x3])).length) Slot.unset).toArray = ls at hl ⊢
  have hl : lv_has ls 4 [(0, .ref a0), (1, .int x1), (2, .ref a2), (3, .int x3)] := hl
  unfold fX1_isSame at h
  refine lv_aload_n hx hb dX1_isSame_0 rfl (lv_at hl 0 rfl) ?_
  refine gf_X1_113 B hR (h0.at0 rfl) dX1_isSame_1 ?_
  refine lv_iload_n hx hb dX1_isSame_4 rfl (lv_at hl 1 rfl) ?_
  obtain ⟨hi_5, h⟩ := ifn_el h
  refine r_iald B hR (h0.at 5 rfl) hi_5 dX1_isSame_5 ?_
  refine lv_aload_n hx hb dX1_isSame_6 rfl (lv_at hl 2 rfl) ?_
  refine gf_X1_116 B hR (h2.at0 rfl) dX1_isSame_7 ?_
  refine lv_iload_n hx hb dX1_isSame_10 rfl (lv_at hl 3 rfl) ?_
  obtain ⟨hi_11, h⟩ := ifn_el h
  refine r_iald B hR (h2.at 1 rfl) hi_11 dX1_isSame_11 ?_
  refine lv_icmp_ne (tgt := 49) hx hb dX1_isSame_12 (by decide) (fun c_12 => ?_) (fun c_12 => ?_)
  · rw [if_neg c_12] at h
    exact wX1_isSame_j49 B hr hlk  h hR (lv_sub hl [] rfl)
  · rw [if_pos c_12] at h
    refine lv_aload_n hx hb dX1_isSame_15 rfl (lv_at hl 0 rfl) ?_
    refine gf_X1_117 B hR (h0.at0 rfl) dX1_isSame_16 ?_
    refine lv_iload_n hx hb dX1_isSame_19 rfl (lv_at hl 1 rfl) ?_
    refine r_iald B hR (h0.at 6 rfl) hi_5 dX1_isSame_20 ?_
    refine lv_aload_n hx hb dX1_isSame_21 rfl (lv_at hl 2 rfl) ?_
    refine gf_X1_120 B hR (h2.at0 rfl) dX1_isSame_22 ?_
    refine lv_iload_n hx hb dX1_isSame_25 rfl (lv_at hl 3 rfl) ?_
    refine r_iald B hR (h2.at 2 rfl) hi_11 dX1_isSame_26 ?_
    refine lv_icmp_ne (tgt := 49) hx hb dX1_isSame_27 (by decide) (fun c_27 => ?_) (fun c_27 => ?_)
    · rw [if_neg c_27] at h
      exact wX1_isSame_j49 B hr hlk  h hR (lv_sub hl [] rfl)
    · rw [if_pos c_27] at h
      refine lv_aload_n hx hb dX1_isSame_30 rfl (lv_at hl 0 rfl) ?_
      refine gf_X1_121 B hR (h0.at0 rfl) dX1_isSame_31 ?_
      refine lv_iload_n hx hb dX1_isSame_34 rfl (lv_at hl 1 rfl) ?_
      refine r_iald B hR (h0.at 7 rfl) hi_5 dX1_isSame_35 ?_
      refine lv_aload_n hx hb dX1_isSame_36 rfl (lv_at hl 2 rfl) ?_
      refine gf_X1_124 B hR (h2.at0 rfl) dX1_isSame_37 ?_
      refine lv_iload_n hx hb dX1_isSame_40 rfl (lv_at hl 3 rfl) ?_
      refine r_iald B hR (h2.at 3 rfl) hi_11 dX1_isSame_41 ?_
      refine lv_icmp_ne (tgt := 49) hx hb dX1_isSame_42 (by decide) (fun c_42 => ?_) (fun c_42 => ?_)
      · rw [if_neg c_42] at h
        exact wX1_isSame_j49 B hr hlk  h hR (lv_sub hl [] rfl)
      · rw [if_pos c_42] at h
        refine lv_iconst (v := 1) hx hb dX1_isSame_45 (by decide) ?_
        refine lv_goto (tgt := 50) hx hb dX1_isSame_46 (by decide) ?_
        exact wX1_isSame_j50 B hr hlk  h hR (lv_sub hl [] rfl)
def fX1_stays_j28 (fu : Nat) (M : Mm) : Option Int32 :=
  some 0
set_option maxRecDepth 100000 in
set_option maxHeartbeats 4000000 in
theorem wX1_stays_j28 {r : Int32}    {M : Mm} (B : Bx p s m args c cX1_stays 4 RX1 E L) (hr : meth.sig.returnType = (some .boolean)) (hlk : meth.locks = false)   (h : fX1_stays_j28 fu M = some r) (hR : Rx s E L M H locs) (hl : lv_has ls 4 []) : W p l e (rmD (d + 1)) s m args below meth c H locs 0 0 (MQ below (QcM E L (some (.int r)) M) args s 0 0 E.2.2.2) (F0 m 28 ls []) := by
  have hx := B.1
  have hb := B.2.1
  unfold fX1_stays_j28 at h
  refine lv_iconst (v := 0) hx hb dX1_stays_28 (by decide) ?_
  exact r_zretP B hR hr hlk (Or.inl rfl) h dX1_stays_29
def fX1_stays_j20 (fu : Nat) (M : Mm) : Option Int32 :=
  some 1
set_option maxRecDepth 100000 in
set_option maxHeartbeats 4000000 in
theorem wX1_stays_j20 {r : Int32}    {M : Mm} (B : Bx p s m args c cX1_stays 4 RX1 E L) (hr : meth.sig.returnType = (some .boolean)) (hlk : meth.locks = false)   (h : fX1_stays_j20 fu M = some r) (hR : Rx s E L M H locs) (hl : lv_has ls 4 []) : W p l e (rmD (d + 1)) s m args below meth c H locs 0 0 (MQ below (QcM E L (some (.int r)) M) args s 0 0 E.2.2.2) (F0 m 20 ls []) := by
  have hx := B.1
  have hb := B.2.1
  unfold fX1_stays_j20 at h
  refine lv_iconst (v := 1) hx hb dX1_stays_20 (by decide) ?_
  exact r_zretP B hR hr hlk (Or.inr rfl) h dX1_stays_21
def fX1_stays_b2 (fu : Nat) (k2 : Int32 → Option Int32) (a0 : Nat) (x1 : Int32) (n2 : Nat) (a2 : Nat) (x3 : Int32) (M : Mm) : Option Int32 :=
  if (M.1 a2 3) ≤ x3 then
    fX1_stays_j28 fu M
  else
    bi (fX1_isSame fu a0 x1 n2 a2 x3 M) fun r_14 =>
    if r_14 = 0 then
      lt (x3 + 1) fun x3_22 =>
      k2 x3_22
    else
      fX1_stays_j20 fu M
set_option maxRecDepth 100000 in
set_option maxHeartbeats 4000000 in
theorem wX1_stays_b2 {r : Int32}   {k2 : Int32 → Option Int32} {a0 : Nat} {x1 : Int32} {n2 : Nat} {a2 : Nat} {x3 : Int32} {M : Mm} (B : Bx p s m args c cX1_stays 4 RX1 E L) (hr : meth.sig.returnType = (some .boolean)) (hlk : meth.locks = false)  (ih2 : ∀ (x3 : Int32), k2 x3 = some r → ∀ (H : Heap) (locs : List Loc) (ls : Array Slot), Rx s E L M H locs → lv_has ls 4 [(0, .ref a0), (1, .int x1), (2, .ref a2), (3, .int x3)] → W p l e (rmD (d + 1)) s m args below meth c H locs 0 0 (MQ below (QcM E L (some (.int r)) M) args s 0 0 E.2.2.2) (F0 m 2 ls [])) (h0 : At L a0 T8) (h2 : At L a2 (T0 n2)) (h : fX1_stays_b2 fu k2 a0 x1 n2 a2 x3 M = some r) (hR : Rx s E L M H locs) (hl : lv_has ls 4 [(0, .ref a0), (1, .int x1), (2, .ref a2), (3, .int x3)]) : W p l e (rmD (d + 1)) s m args below meth c H locs 0 0 (MQ below (QcM E L (some (.int r)) M) args s 0 0 E.2.2.2) (F0 m 2 ls []) := by
  have hx := B.1
  have hb := B.2.1
  unfold fX1_stays_b2 at h
  refine lv_iload_n hx hb dX1_stays_2 rfl (lv_at hl 3 rfl) ?_
  refine lv_aload_n hx hb dX1_stays_3 rfl (lv_at hl 2 rfl) ?_
  refine gf_X1_41 B hR (h2.at0 rfl) dX1_stays_4 ?_
  refine lv_icmp_ge (tgt := 28) hx hb dX1_stays_7 (by decide) (fun c_7 => ?_) (fun c_7 => ?_)
  · rw [if_pos c_7] at h
    exact wX1_stays_j28 B hr hlk  h hR (lv_sub hl [] rfl)
  · rw [if_neg c_7] at h
    refine lv_aload_n hx hb dX1_stays_10 rfl (lv_at hl 0 rfl) ?_
    refine lv_iload_n hx hb dX1_stays_11 rfl (lv_at hl 1 rfl) ?_
    refine lv_aload_n hx hb dX1_stays_12 rfl (lv_at hl 2 rfl) ?_
    refine lv_iload_n hx hb dX1_stays_13 rfl (lv_at hl 3 rfl) ?_
    obtain ⟨r_14, hc_14, h⟩ := bi_el h
    refine is_X1_109 B hR hl.1 (mX1_isSame fu _ h0 h2 hc_14) (Nat.le_of_ble_eq_true rfl) dX1_stays_14 (fun H locs hR => ?_)
    refine lv_if_eq (tgt := 22) hx hb dX1_stays_17 (by decide) (fun c_17 => ?_) (fun c_17 => ?_)
    · rw [if_pos c_17] at h
      obtain ⟨x3_22, ex3_22, h⟩ := lt_el h
      refine lv_iinc (v := x3_22) (lv' := [(3, .int x3_22), (0, .ref a0), (1, .int x1), (2, .ref a2)]) hx hb dX1_stays_22 hl (k := 3) rfl (by rw [ex3_22]; rfl) (by decide) rfl (fun ls hl => ?_)
      refine lv_goto (tgt := 2) hx hb dX1_stays_25 (by decide) ?_
      exact ih2 x3_22 h _ _ _ hR (lv_sub hl [1, 2, 3, 0] rfl)
    · rw [if_neg c_17] at h
      exact wX1_stays_j20 B hr hlk  h hR (lv_sub hl [] rfl)
def fX1_stays_l2 (fu : Nat) (a0 : Nat) (x1 : Int32) (n2 : Nat) (a2 : Nat) (M : Mm) (x3 : Int32) : Option Int32 := lp (fun (rec : Int32 → Option Int32) (s : Int32) => fX1_stays_b2 fu  (fun x3 => rec (x3)) a0 x1 n2 a2 s M) fu (x3)
set_option maxRecDepth 100000 in
set_option maxHeartbeats 4000000 in
theorem wX1_stays_l2 {r : Int32}   {a0 : Nat} {x1 : Int32} {n2 : Nat} {a2 : Nat} {x3 : Int32} {M : Mm} (B : Bx p s m args c cX1_stays 4 RX1 E L) (hr : meth.sig.returnType = (some .boolean)) (hlk : meth.locks = false)  (h0 : At L a0 T8) (h2 : At L a2 (T0 n2)) (h : fX1_stays_l2 fu a0 x1 n2 a2 M x3 = some r) (hR : Rx s E L M H locs) (hl : lv_has ls 4 [(0, .ref a0), (1, .int x1), (2, .ref a2), (3, .int x3)]) : W p l e (rmD (d + 1)) s m args below meth c H locs 0 0 (MQ below (QcM E L (some (.int r)) M) args s 0 0 E.2.2.2) (F0 m 2 ls []) := by
  refine lp_G (G := fun z : Int32 => ∀ (H : Heap) (locs : List Loc) (ls : Array Slot), Rx s E L M H locs → lv_has ls 4 [(0, .ref a0), (1, .int x1), (2, .ref a2), (3, .int z)] → W p l e (rmD (d + 1)) s m args below meth c H locs 0 0 (MQ below (QcM E L (some (.int r)) M) args s 0 0 E.2.2.2) (F0 m 2 ls [])) (fun rec ih z h H locs ls hR hl => ?_) fu _ h H locs ls hR hl
  exact wX1_stays_b2 B hr hlk  (fun x3 h => ih (x3) h) h0 h2 h hR hl
def fX1_stays (fu : Nat) (a0 : Nat) (x1 : Int32) (n2 : Nat) (a2 : Nat) (M : Mm) : Option Int32 :=
  fX1_stays_l2 fu a0 x1 n2 a2 M 0
set_option maxRecDepth 100000 in
set_option maxHeartbeats 4000000 in
theorem mX1_stays {l : Launch} {E : Ge} {L : Lay} (fu d : Nat) {a0 : Nat} {x1 : Int32} {n2 : Nat} {a2 : Nat} {M : Mm} {r : Int32}  (h0 : At L a0 T8) (h2 : At L a2 (T0 n2)) (h : fX1_stays fu a0 x1 n2 a2 M = some r) : Ct l E L yX1_stays cX1_stays 4 (some .boolean) (d + 1) [.ref a0, .int x1, .ref a2] M (some (.int r)) M := by
  refine Ct.of (by decide) ?_
  intro p e s m below meth c hr hlk B hR
  have B : Bx p s m _ c cX1_stays 4 RX1 E L := B
  have hx := B.1
  have hb := B.2.1
  have hl := lv_entry ([.ref a0, .int x1, .ref a2]) (n := 4) (Nat.le_of_ble_eq_true rfl)
  rw [lg_entry_eq]
  generalize (lg_sl ([.ref a0, .int x1, .ref a2]) ++ List.replicate (4 - (lg_sl ([.ref a0, .int x1, .ref a2])).length) Slot.unset).toArray = ls at hl ⊢
  have hl : lv_has ls 4 [(0, .ref a0), (1, .int x1), (2, .ref a2)] := hl
  unfold fX1_stays at h
  refine lv_iconst (v := 0) hx hb dX1_stays_0 (by decide) ?_
  refine lv_istore_n (lv' := [(3, .int 0), (0, .ref a0), (1, .int x1), (2, .ref a2)]) hx hb dX1_stays_1 rfl hl (by decide) rfl (fun ls hl => ?_)
  exact wX1_stays_l2 B hr hlk h0 h2 h hR (lv_sub hl [1, 2, 3, 0] rfl)
def fX1_countSteps_j52 (fu : Nat) (a0 : Nat) (a1 : Nat) (n2 : Nat) (a2 : Nat) (M : Mm) : Option Mm :=
  bi (fX8_countSet fu a1 M) fun r_58 =>
  lt (wI M a0 1 ((M.1 a2 3) - (r_58 - (M.1 a0 0)))) fun M_67 =>
  some M_67
set_option maxRecDepth 100000 in
set_option maxHeartbeats 4000000 in
theorem wX1_countSteps_j52 {M' : Mm}   {a0 : Nat} {a1 : Nat} {n2 : Nat} {a2 : Nat} {M : Mm} (B : Bx p s m args c cX1_countSteps 4 RX1 E L) (hr : meth.sig.returnType = none) (hlk : meth.locks = false)  (h0 : At L a0 T1) (h1 : At L a1 T8) (h2 : At L a2 (T0 n2)) (h : fX1_countSteps_j52 fu a0 a1 n2 a2 M = some M') (hR : Rx s E L M H locs) (hl : lv_has ls 4 [(0, .ref a0), (1, .ref a1), (2, .ref a2)]) : W p l e (rmD (d + 2)) s m args below meth c H locs 0 0 (MQ below (QcM E L none M') args s 0 0 E.2.2.2) (F0 m 52 ls []) := by
  have hx := B.1
  have hb := B.2.1
  unfold fX1_countSteps_j52 at h
  refine lv_aload_n hx hb dX1_countSteps_52 rfl (lv_at hl 0 rfl) ?_
  refine lv_aload_n hx hb dX1_countSteps_53 rfl (lv_at hl 2 rfl) ?_
  refine gf_X1_41 B hR (h2.at0 rfl) dX1_countSteps_54 ?_
  refine lv_aload_n hx hb dX1_countSteps_57 rfl (lv_at hl 1 rfl) ?_
  obtain ⟨r_58, hc_58, h⟩ := bi_el h
  refine iv_X1_73 B hR (h1.at0 rfl) hl.1 (mX8_countSet fu _ h1 hc_58) (Nat.le_of_ble_eq_true rfl) dX1_countSteps_58 (fun H locs hR => ?_)
  refine lv_aload_n hx hb dX1_countSteps_61 rfl (lv_at hl 0 rfl) ?_
  refine gf_X1_52 B hR (h0.at0 rfl) dX1_countSteps_62 ?_
  refine lv_isub hx hb dX1_countSteps_65 ?_
  refine lv_isub hx hb dX1_countSteps_66 ?_
  obtain ⟨M_67, eM_67, h⟩ := lt_el h
  refine pf_X1_55 B hR (h0.at0 rfl) dX1_countSteps_67 (fun H locs hR => ?_)
  rw [← eM_67] at hR
  exact r_vretW B hR hr hlk h dX1_countSteps_70
def fX1_countSteps_j42 (fu : Nat) (k7 : Int32 → Mm → Option Mm) (a0 : Nat) (a1 : Nat) (n2 : Nat) (a2 : Nat) (x3 : Int32) (b0 : Nat) (t1 : Int32) (t2 : Int32) (M : Mm) : Option Mm :=
  lt (wI M b0 0 (t1 + t2)) fun M_43 =>
  lt (x3 + 1) fun x3_46 =>
  k7 x3_46 M_43
set_option maxRecDepth 100000 in
set_option maxHeartbeats 4000000 in
theorem wX1_countSteps_j42 {M' : Mm}  {k7 : Int32 → Mm → Option Mm} {a0 : Nat} {a1 : Nat} {n2 : Nat} {a2 : Nat} {x3 : Int32} {b0 : Nat} {t1 : Int32} {t2 : Int32} {M : Mm} (B : Bx p s m args c cX1_countSteps 4 RX1 E L) (hr : meth.sig.returnType = none) (hlk : meth.locks = false) (ih7 : ∀ (x3 : Int32) (M : Mm), k7 x3 M = some M' → ∀ (H : Heap) (locs : List Loc) (ls : Array Slot), Rx s E L M H locs → lv_has ls 4 [(0, .ref a0), (1, .ref a1), (2, .ref a2), (3, .int x3)] → W p l e (rmD (d + 2)) s m args below meth c H locs 0 0 (MQ below (QcM E L none M') args s 0 0 E.2.2.2) (F0 m 7 ls [])) (h0 : At L a0 T1) (h1 : At L a1 T8) (h2 : At L a2 (T0 n2)) (g0 : At L b0 T1) (h : fX1_countSteps_j42 fu k7 a0 a1 n2 a2 x3 b0 t1 t2 M = some M') (hR : Rx s E L M H locs) (hl : lv_has ls 4 [(0, .ref a0), (1, .ref a1), (2, .ref a2), (3, .int x3)]) : W p l e (rmD (d + 2)) s m args below meth c H locs 0 0 (MQ below (QcM E L none M') args s 0 0 E.2.2.2) (F0 m 42 ls [.int t2, .int t1, .ref b0]) := by
  have hx := B.1
  have hb := B.2.1
  unfold fX1_countSteps_j42 at h
  refine lv_iadd hx hb dX1_countSteps_42 ?_
  obtain ⟨M_43, eM_43, h⟩ := lt_el h
  refine pf_X1_52 B hR (g0.at0 rfl) dX1_countSteps_43 (fun H locs hR => ?_)
  rw [← eM_43] at hR
  obtain ⟨x3_46, ex3_46, h⟩ := lt_el h
  refine lv_iinc (v := x3_46) (lv' := [(3, .int x3_46), (0, .ref a0), (1, .ref a1), (2, .ref a2)]) hx hb dX1_countSteps_46 hl (k := 3) rfl (by rw [ex3_46]; rfl) (by decide) rfl (fun ls hl => ?_)
  refine lv_goto (tgt := 7) hx hb dX1_countSteps_49 (by decide) ?_
  exact ih7 x3_46 M_43 h _ _ _ hR (lv_sub hl [1, 2, 3, 0] rfl)
def fX1_countSteps_j41 (fu : Nat) (k7 : Int32 → Mm → Option Mm) (a0 : Nat) (a1 : Nat) (n2 : Nat) (a2 : Nat) (x3 : Int32) (b0 : Nat) (t1 : Int32) (M : Mm) : Option Mm :=
  fX1_countSteps_j42 fu k7 a0 a1 n2 a2 x3 b0 t1 0 M
set_option maxRecDepth 100000 in
set_option maxHeartbeats 4000000 in
theorem wX1_countSteps_j41 {M' : Mm}  {k7 : Int32 → Mm → Option Mm} {a0 : Nat} {a1 : Nat} {n2 : Nat} {a2 : Nat} {x3 : Int32} {b0 : Nat} {t1 : Int32} {M : Mm} (B : Bx p s m args c cX1_countSteps 4 RX1 E L) (hr : meth.sig.returnType = none) (hlk : meth.locks = false) (ih7 : ∀ (x3 : Int32) (M : Mm), k7 x3 M = some M' → ∀ (H : Heap) (locs : List Loc) (ls : Array Slot), Rx s E L M H locs → lv_has ls 4 [(0, .ref a0), (1, .ref a1), (2, .ref a2), (3, .int x3)] → W p l e (rmD (d + 2)) s m args below meth c H locs 0 0 (MQ below (QcM E L none M') args s 0 0 E.2.2.2) (F0 m 7 ls [])) (h0 : At L a0 T1) (h1 : At L a1 T8) (h2 : At L a2 (T0 n2)) (g0 : At L b0 T1) (h : fX1_countSteps_j41 fu k7 a0 a1 n2 a2 x3 b0 t1 M = some M') (hR : Rx s E L M H locs) (hl : lv_has ls 4 [(0, .ref a0), (1, .ref a1), (2, .ref a2), (3, .int x3)]) : W p l e (rmD (d + 2)) s m args below meth c H locs 0 0 (MQ below (QcM E L none M') args s 0 0 E.2.2.2) (F0 m 41 ls [.int t1, .ref b0]) := by
  have hx := B.1
  have hb := B.2.1
  unfold fX1_countSteps_j41 at h
  refine lv_iconst (v := 0) hx hb dX1_countSteps_41 (by decide) ?_
  exact wX1_countSteps_j42 B hr hlk ih7 h0 h1 h2 g0 h hR hl
def fX1_countSteps_b7 (fu : Nat) (k7 : Int32 → Mm → Option Mm) (a0 : Nat) (a1 : Nat) (n2 : Nat) (a2 : Nat) (x3 : Int32) (M : Mm) : Option Mm :=
  if (M.1 a1 1) ≤ x3 then
    fX1_countSteps_j52 fu a0 a1 n2 a2 M
  else
    bi (fX8_isSet fu a1 x3 M) fun r_22 =>
    if r_22 = 0 then
      fX1_countSteps_j41 fu k7 a0 a1 n2 a2 x3 a0 (M.1 a0 0) M
    else
      bi (fX1_stays fu a1 x3 n2 a2 M) fun r_31 =>
      if r_31 = 0 then
        fX1_countSteps_j42 fu k7 a0 a1 n2 a2 x3 a0 (M.1 a0 0) 1 M
      else
        fX1_countSteps_j41 fu k7 a0 a1 n2 a2 x3 a0 (M.1 a0 0) M
set_option maxRecDepth 100000 in
set_option maxHeartbeats 4000000 in
theorem wX1_countSteps_b7 {M' : Mm}   {k7 : Int32 → Mm → Option Mm} {a0 : Nat} {a1 : Nat} {n2 : Nat} {a2 : Nat} {x3 : Int32} {M : Mm} (B : Bx p s m args c cX1_countSteps 4 RX1 E L) (hr : meth.sig.returnType = none) (hlk : meth.locks = false)  (ih7 : ∀ (x3 : Int32) (M : Mm), k7 x3 M = some M' → ∀ (H : Heap) (locs : List Loc) (ls : Array Slot), Rx s E L M H locs → lv_has ls 4 [(0, .ref a0), (1, .ref a1), (2, .ref a2), (3, .int x3)] → W p l e (rmD (d + 2)) s m args below meth c H locs 0 0 (MQ below (QcM E L none M') args s 0 0 E.2.2.2) (F0 m 7 ls [])) (h0 : At L a0 T1) (h1 : At L a1 T8) (h2 : At L a2 (T0 n2)) (h : fX1_countSteps_b7 fu k7 a0 a1 n2 a2 x3 M = some M') (hR : Rx s E L M H locs) (hl : lv_has ls 4 [(0, .ref a0), (1, .ref a1), (2, .ref a2), (3, .int x3)]) : W p l e (rmD (d + 2)) s m args below meth c H locs 0 0 (MQ below (QcM E L none M') args s 0 0 E.2.2.2) (F0 m 7 ls []) := by
  have hx := B.1
  have hb := B.2.1
  unfold fX1_countSteps_b7 at h
  refine lv_iload_n hx hb dX1_countSteps_7 rfl (lv_at hl 3 rfl) ?_
  refine lv_aload_n hx hb dX1_countSteps_8 rfl (lv_at hl 1 rfl) ?_
  refine gf_X1_47 B hR (h1.at0 rfl) dX1_countSteps_9 ?_
  refine lv_icmp_ge (tgt := 52) hx hb dX1_countSteps_12 (by decide) (fun c_12 => ?_) (fun c_12 => ?_)
  · rw [if_pos c_12] at h
    exact wX1_countSteps_j52 B hr hlk h0 h1 h2 h hR (lv_sub hl [0, 1, 2] rfl)
  · rw [if_neg c_12] at h
    refine lv_aload_n hx hb dX1_countSteps_15 rfl (lv_at hl 0 rfl) ?_
    refine lv_dup hx hb dX1_countSteps_16 rfl ?_
    refine gf_X1_52 B hR (h0.at0 rfl) dX1_countSteps_17 ?_
    refine lv_aload_n hx hb dX1_countSteps_20 rfl (lv_at hl 1 rfl) ?_
    refine lv_iload_n hx hb dX1_countSteps_21 rfl (lv_at hl 3 rfl) ?_
    obtain ⟨r_22, hc_22, h⟩ := bi_el h
    refine iv_X1_101 B hR (h1.at0 rfl) hl.1 (mX8_isSet fu _ h1 hc_22) (Nat.le_of_ble_eq_true rfl) dX1_countSteps_22 (fun H locs hR => ?_)
    refine lv_if_eq (tgt := 41) hx hb dX1_countSteps_25 (by decide) (fun c_25 => ?_) (fun c_25 => ?_)
    · rw [if_pos c_25] at h
      exact wX1_countSteps_j41 B hr hlk ih7 h0 h1 h2 h0 h hR hl
    · rw [if_neg c_25] at h
      refine lv_aload_n hx hb dX1_countSteps_28 rfl (lv_at hl 1 rfl) ?_
      refine lv_iload_n hx hb dX1_countSteps_29 rfl (lv_at hl 3 rfl) ?_
      refine lv_aload_n hx hb dX1_countSteps_30 rfl (lv_at hl 2 rfl) ?_
      obtain ⟨r_31, hc_31, h⟩ := bi_el h
      refine is_X1_105 B hR hl.1 (mX1_stays fu _ h1 h2 hc_31) (Nat.le_of_ble_eq_true rfl) dX1_countSteps_31 (fun H locs hR => ?_)
      refine lv_if_ne (tgt := 41) hx hb dX1_countSteps_34 (by decide) (fun c_34 => ?_) (fun c_34 => ?_)
      · rw [if_neg c_34] at h
        exact wX1_countSteps_j41 B hr hlk ih7 h0 h1 h2 h0 h hR hl
      · rw [if_pos c_34] at h
        refine lv_iconst (v := 1) hx hb dX1_countSteps_37 (by decide) ?_
        refine lv_goto (tgt := 42) hx hb dX1_countSteps_38 (by decide) ?_
        exact wX1_countSteps_j42 B hr hlk ih7 h0 h1 h2 h0 h hR hl
def fX1_countSteps_l7 (fu : Nat) (a0 : Nat) (a1 : Nat) (n2 : Nat) (a2 : Nat) (x3 : Int32) (M : Mm) : Option Mm := lp (fun (rec : (Int32 × Mm) → Option Mm) (s : Int32 × Mm) => fX1_countSteps_b7 fu  (fun x3 M => rec (x3, M)) a0 a1 n2 a2 s.1 s.2) fu (x3, M)
set_option maxRecDepth 100000 in
set_option maxHeartbeats 4000000 in
theorem wX1_countSteps_l7 {M' : Mm}   {a0 : Nat} {a1 : Nat} {n2 : Nat} {a2 : Nat} {x3 : Int32} {M : Mm} (B : Bx p s m args c cX1_countSteps 4 RX1 E L) (hr : meth.sig.returnType = none) (hlk : meth.locks = false)  (h0 : At L a0 T1) (h1 : At L a1 T8) (h2 : At L a2 (T0 n2)) (h : fX1_countSteps_l7 fu a0 a1 n2 a2 x3 M = some M') (hR : Rx s E L M H locs) (hl : lv_has ls 4 [(0, .ref a0), (1, .ref a1), (2, .ref a2), (3, .int x3)]) : W p l e (rmD (d + 2)) s m args below meth c H locs 0 0 (MQ below (QcM E L none M') args s 0 0 E.2.2.2) (F0 m 7 ls []) := by
  refine lp_G (G := fun z : Int32 × Mm => ∀ (H : Heap) (locs : List Loc) (ls : Array Slot), Rx s E L z.2 H locs → lv_has ls 4 [(0, .ref a0), (1, .ref a1), (2, .ref a2), (3, .int z.1)] → W p l e (rmD (d + 2)) s m args below meth c H locs 0 0 (MQ below (QcM E L none M') args s 0 0 E.2.2.2) (F0 m 7 ls [])) (fun rec ih z h H locs ls hR hl => ?_) fu _ h H locs ls hR hl
  exact wX1_countSteps_b7 B hr hlk  (fun x3 M h => ih (x3, M) h) h0 h1 h2 h hR hl
def fX1_countSteps (fu : Nat) (a0 : Nat) (a1 : Nat) (n2 : Nat) (a2 : Nat) (M : Mm) : Option Mm :=
  lt (wI M a0 0 0) fun M_2 =>
  fX1_countSteps_l7 fu a0 a1 n2 a2 0 M_2
set_option maxRecDepth 100000 in
set_option maxHeartbeats 4000000 in
theorem mX1_countSteps {l : Launch} {E : Ge} {L : Lay} (fu d : Nat) {a0 : Nat} {a1 : Nat} {n2 : Nat} {a2 : Nat} {M : Mm} {M' : Mm}  (h0 : At L a0 T1) (h1 : At L a1 T8) (h2 : At L a2 (T0 n2)) (h : fX1_countSteps fu a0 a1 n2 a2 M = some M') : Ct l E L yX1_countSteps cX1_countSteps 4 none (d + 2) [.ref a0, .ref a1, .ref a2] M none M' := by
  refine Ct.of (by decide) ?_
  intro p e s m below meth c hr hlk B hR
  have B : Bx p s m _ c cX1_countSteps 4 RX1 E L := B
  have hx := B.1
  have hb := B.2.1
  have hl := lv_entry ([.ref a0, .ref a1, .ref a2]) (n := 4) (Nat.le_of_ble_eq_true rfl)
  rw [lg_entry_eq]
  generalize (lg_sl ([.ref a0, .ref a1, .ref a2]) ++ List.replicate (4 - (lg_sl ([.ref a0, .ref a1, .ref a2])).length) Slot.unset).toArray = ls at hl ⊢
  have hl : lv_has ls 4 [(0, .ref a0), (1, .ref a1), (2, .ref a2)] := hl
  unfold fX1_countSteps at h
  refine lv_aload_n hx hb dX1_countSteps_0 rfl (lv_at hl 0 rfl) ?_
  refine lv_iconst (v := 0) hx hb dX1_countSteps_1 (by decide) ?_
  obtain ⟨M_2, eM_2, h⟩ := lt_el h
  refine pf_X1_52 B hR (h0.at0 rfl) dX1_countSteps_2 (fun H locs hR => ?_)
  rw [← eM_2] at hR
  refine lv_iconst (v := 0) hx hb dX1_countSteps_5 (by decide) ?_
  refine lv_istore_n (lv' := [(3, .int 0), (0, .ref a0), (1, .ref a1), (2, .ref a2)]) hx hb dX1_countSteps_6 rfl hl (by decide) rfl (fun ls hl => ?_)
  exact wX1_countSteps_l7 B hr hlk h0 h1 h2 h hR (lv_sub hl [1, 2, 3, 0] rfl)
def fX1_cutPieces_j79 (fu : Nat) (M : Mm) : Option Mm :=
  some M
set_option maxRecDepth 100000 in
set_option maxHeartbeats 4000000 in
theorem wX1_cutPieces_j79 {M' : Mm}    {M : Mm} (B : Bx p s m args c cX1_cutPieces 4 RX1 E L) (hr : meth.sig.returnType = none) (hlk : meth.locks = false)   (h : fX1_cutPieces_j79 fu M = some M') (hR : Rx s E L M H locs) (hl : lv_has ls 4 []) : W p l e (rmD (d + 2)) s m args below meth c H locs 0 0 (MQ below (QcM E L none M') args s 0 0 E.2.2.2) (F0 m 79 ls []) := by
  have hx := B.1
  have hb := B.2.1
  unfold fX1_cutPieces_j79 at h
  exact r_vretW B hR hr hlk h dX1_cutPieces_79
def fX1_cutPieces_b32 (fu : Nat) (k32 : Int32 → Mm → Option Mm) (a0 : Nat) (n2 : Nat) (a2 : Nat) (x3 : Int32) (M : Mm) : Option Mm :=
  if (M.1 a2 3) ≤ x3 then
    fX1_cutPieces_j79 fu M
  else
    if x3 < 0 ∨ n2 ≤ ix x3 then none else
    bm (fX2_cut fu 44 (a0 + 2) (M.1 (a2 + 1) (ix x3)) M) fun M_50 =>
    bm (fX2_cut fu 44 (a0 + 2) ((M_50.1 (a2 + 1) (ix x3)) + (M_50.1 (a2 + 2) (ix x3))) M_50) fun M_70 =>
    lt (x3 + 1) fun x3_73 =>
    k32 x3_73 M_70
set_option maxRecDepth 100000 in
set_option maxHeartbeats 4000000 in
theorem wX1_cutPieces_b32 {M' : Mm}   {k32 : Int32 → Mm → Option Mm} {a0 : Nat} {n2 : Nat} {a2 : Nat} {x3 : Int32} {M : Mm} (B : Bx p s m args c cX1_cutPieces 4 RX1 E L) (hr : meth.sig.returnType = none) (hlk : meth.locks = false)  (ih32 : ∀ (x3 : Int32) (M : Mm), k32 x3 M = some M' → ∀ (H : Heap) (locs : List Loc) (ls : Array Slot), Rx s E L M H locs → lv_has ls 4 [(0, .ref a0), (2, .ref a2), (3, .int x3)] → W p l e (rmD (d + 2)) s m args below meth c H locs 0 0 (MQ below (QcM E L none M') args s 0 0 E.2.2.2) (F0 m 32 ls [])) (h0 : At L a0 T1) (h2 : At L a2 (T0 n2)) (h : fX1_cutPieces_b32 fu k32 a0 n2 a2 x3 M = some M') (hR : Rx s E L M H locs) (hl : lv_has ls 4 [(0, .ref a0), (2, .ref a2), (3, .int x3)]) : W p l e (rmD (d + 2)) s m args below meth c H locs 0 0 (MQ below (QcM E L none M') args s 0 0 E.2.2.2) (F0 m 32 ls []) := by
  have hx := B.1
  have hb := B.2.1
  unfold fX1_cutPieces_b32 at h
  refine lv_iload_n hx hb dX1_cutPieces_32 rfl (lv_at hl 2 rfl) ?_
  refine lv_aload_n hx hb dX1_cutPieces_33 rfl (lv_at hl 1 rfl) ?_
  refine gf_X1_41 B hR (h2.at0 rfl) dX1_cutPieces_34 ?_
  refine lv_icmp_ge (tgt := 79) hx hb dX1_cutPieces_37 (by decide) (fun c_37 => ?_) (fun c_37 => ?_)
  · rw [if_pos c_37] at h
    exact wX1_cutPieces_j79 B hr hlk  h hR (lv_sub hl [] rfl)
  · rw [if_neg c_37] at h
    refine lv_aload_n hx hb dX1_cutPieces_40 rfl (lv_at hl 0 rfl) ?_
    refine gf_X1_20 B hR (h0.at0 rfl) dX1_cutPieces_41 ?_
    refine lv_aload_n hx hb dX1_cutPieces_44 rfl (lv_at hl 1 rfl) ?_
    refine gf_X1_116 B hR (h2.at0 rfl) dX1_cutPieces_45 ?_
    refine lv_iload_n hx hb dX1_cutPieces_48 rfl (lv_at hl 2 rfl) ?_
    obtain ⟨hi_49, h⟩ := ifn_el h
    refine r_iald B hR (h2.at 1 rfl) hi_49 dX1_cutPieces_49 ?_
    obtain ⟨M_50, hc_50, h⟩ := bm_el h
    refine iv_X1_133 B hR ((sb_1_5 h0).at0 rfl) hl.1 (mX2_cut fu _ (sb_1_5 h0) hc_50) (Nat.le_of_ble_eq_true rfl) dX1_cutPieces_50 (fun H locs hR => ?_)
    refine lv_aload_n hx hb dX1_cutPieces_53 rfl (lv_at hl 0 rfl) ?_
    refine gf_X1_20 B hR (h0.at0 rfl) dX1_cutPieces_54 ?_
    refine lv_aload_n hx hb dX1_cutPieces_57 rfl (lv_at hl 1 rfl) ?_
    refine gf_X1_116 B hR (h2.at0 rfl) dX1_cutPieces_58 ?_
    refine lv_iload_n hx hb dX1_cutPieces_61 rfl (lv_at hl 2 rfl) ?_
    refine r_iald B hR (h2.at 1 rfl) hi_49 dX1_cutPieces_62 ?_
    refine lv_aload_n hx hb dX1_cutPieces_63 rfl (lv_at hl 1 rfl) ?_
    refine gf_X1_120 B hR (h2.at0 rfl) dX1_cutPieces_64 ?_
    refine lv_iload_n hx hb dX1_cutPieces_67 rfl (lv_at hl 2 rfl) ?_
    refine r_iald B hR (h2.at 2 rfl) hi_49 dX1_cutPieces_68 ?_
    refine lv_iadd hx hb dX1_cutPieces_69 ?_
    obtain ⟨M_70, hc_70, h⟩ := bm_el h
    refine iv_X1_133 B hR ((sb_1_5 h0).at0 rfl) hl.1 (mX2_cut fu _ (sb_1_5 h0) hc_70) (Nat.le_of_ble_eq_true rfl) dX1_cutPieces_70 (fun H locs hR => ?_)
    obtain ⟨x3_73, ex3_73, h⟩ := lt_el h
    refine lv_iinc (v := x3_73) (lv' := [(3, .int x3_73), (0, .ref a0), (2, .ref a2)]) hx hb dX1_cutPieces_73 hl (k := 2) rfl (by rw [ex3_73]; rfl) (by decide) rfl (fun ls hl => ?_)
    refine lv_goto (tgt := 32) hx hb dX1_cutPieces_76 (by decide) ?_
    exact ih32 x3_73 M_70 h _ _ _ hR (lv_sub hl [1, 2, 0] rfl)
def fX1_cutPieces_l32 (fu : Nat) (a0 : Nat) (n2 : Nat) (a2 : Nat) (x3 : Int32) (M : Mm) : Option Mm := lp (fun (rec : (Int32 × Mm) → Option Mm) (s : Int32 × Mm) => fX1_cutPieces_b32 fu  (fun x3 M => rec (x3, M)) a0 n2 a2 s.1 s.2) fu (x3, M)
set_option maxRecDepth 100000 in
set_option maxHeartbeats 4000000 in
theorem wX1_cutPieces_l32 {M' : Mm}   {a0 : Nat} {n2 : Nat} {a2 : Nat} {x3 : Int32} {M : Mm} (B : Bx p s m args c cX1_cutPieces 4 RX1 E L) (hr : meth.sig.returnType = none) (hlk : meth.locks = false)  (h0 : At L a0 T1) (h2 : At L a2 (T0 n2)) (h : fX1_cutPieces_l32 fu a0 n2 a2 x3 M = some M') (hR : Rx s E L M H locs) (hl : lv_has ls 4 [(0, .ref a0), (2, .ref a2), (3, .int x3)]) : W p l e (rmD (d + 2)) s m args below meth c H locs 0 0 (MQ below (QcM E L none M') args s 0 0 E.2.2.2) (F0 m 32 ls []) := by
  refine lp_G (G := fun z : Int32 × Mm => ∀ (H : Heap) (locs : List Loc) (ls : Array Slot), Rx s E L z.2 H locs → lv_has ls 4 [(0, .ref a0), (2, .ref a2), (3, .int z.1)] → W p l e (rmD (d + 2)) s m args below meth c H locs 0 0 (MQ below (QcM E L none M') args s 0 0 E.2.2.2) (F0 m 32 ls [])) (fun rec ih z h H locs ls hR hl => ?_) fu _ h H locs ls hR hl
  exact wX1_cutPieces_b32 B hr hlk  (fun x3 M h => ih (x3, M) h) h0 h2 h hR hl
def fX1_cutPieces (fu : Nat) (a0 : Nat) (a1 : Nat) (n2 : Nat) (a2 : Nat) (M : Mm) : Option Mm :=
  bm (fX2_begin fu 44 (a0 + 2) (M.1 a1 0) M) fun M_8 =>
  bm (fX2_cut fu 44 (a0 + 2) (M_8.1 a1 4) M_8) fun M_19 =>
  bm (fX2_cutRegisters fu 44 (a0 + 2) a1 M_19) fun M_27 =>
  fX1_cutPieces_l32 fu a0 n2 a2 0 M_27
set_option maxRecDepth 100000 in
set_option maxHeartbeats 4000000 in
theorem mX1_cutPieces {l : Launch} {E : Ge} {L : Lay} (fu d : Nat) {a0 : Nat} {a1 : Nat} {n2 : Nat} {a2 : Nat} {M : Mm} {M' : Mm}  (h0 : At L a0 T1) (h1 : At L a1 T8) (h2 : At L a2 (T0 n2)) (h : fX1_cutPieces fu a0 a1 n2 a2 M = some M') : Ct l E L yX1_cutPieces cX1_cutPieces 4 none (d + 2) [.ref a0, .ref a1, .ref a2] M none M' := by
  refine Ct.of (by decide) ?_
  intro p e s m below meth c hr hlk B hR
  have B : Bx p s m _ c cX1_cutPieces 4 RX1 E L := B
  have hx := B.1
  have hb := B.2.1
  have hl := lv_entry ([.ref a0, .ref a1, .ref a2]) (n := 4) (Nat.le_of_ble_eq_true rfl)
  rw [lg_entry_eq]
  generalize (lg_sl ([.ref a0, .ref a1, .ref a2]) ++ List.replicate (4 - (lg_sl ([.ref a0, .ref a1, .ref a2])).length) Slot.unset).toArray = ls at hl ⊢
  have hl : lv_has ls 4 [(0, .ref a0), (1, .ref a1), (2, .ref a2)] := hl
  unfold fX1_cutPieces at h
  refine lv_aload_n hx hb dX1_cutPieces_0 rfl (lv_at hl 0 rfl) ?_
  refine gf_X1_20 B hR (h0.at0 rfl) dX1_cutPieces_1 ?_
  refine lv_aload_n hx hb dX1_cutPieces_4 rfl (lv_at hl 1 rfl) ?_
  refine gf_X1_127 B hR (h1.at0 rfl) dX1_cutPieces_5 ?_
  obtain ⟨M_8, hc_8, h⟩ := bm_el h
  refine iv_X1_130 B hR ((sb_1_5 h0).at0 rfl) hl.1 (mX2_begin fu _ (sb_1_5 h0) hc_8) (Nat.le_of_ble_eq_true rfl) dX1_cutPieces_8 (fun H locs hR => ?_)
  refine lv_aload_n hx hb dX1_cutPieces_11 rfl (lv_at hl 0 rfl) ?_
  refine gf_X1_20 B hR (h0.at0 rfl) dX1_cutPieces_12 ?_
  refine lv_aload_n hx hb dX1_cutPieces_15 rfl (lv_at hl 1 rfl) ?_
  refine gf_X1_65 B hR (h1.at0 rfl) dX1_cutPieces_16 ?_
  obtain ⟨M_19, hc_19, h⟩ := bm_el h
  refine iv_X1_133 B hR ((sb_1_5 h0).at0 rfl) hl.1 (mX2_cut fu _ (sb_1_5 h0) hc_19) (Nat.le_of_ble_eq_true rfl) dX1_cutPieces_19 (fun H locs hR => ?_)
  refine lv_aload_n hx hb dX1_cutPieces_22 rfl (lv_at hl 0 rfl) ?_
  refine gf_X1_20 B hR (h0.at0 rfl) dX1_cutPieces_23 ?_
  refine lv_aload_n hx hb dX1_cutPieces_26 rfl (lv_at hl 1 rfl) ?_
  obtain ⟨M_27, hc_27, h⟩ := bm_el h
  refine iv_X1_136 B hR ((sb_1_5 h0).at0 rfl) hl.1 (mX2_cutRegisters fu _ (sb_1_5 h0) h1 hc_27) (Nat.le_of_ble_eq_true rfl) dX1_cutPieces_27 (fun H locs hR => ?_)
  refine lv_iconst (v := 0) hx hb dX1_cutPieces_30 (by decide) ?_
  refine lv_istore_n (lv' := [(3, .int 0), (0, .ref a0), (1, .ref a1), (2, .ref a2)]) hx hb dX1_cutPieces_31 rfl hl (by decide) rfl (fun ls hl => ?_)
  exact wX1_cutPieces_l32 B hr hlk h0 h2 h hR (lv_sub hl [1, 3, 0] rfl)
def fX1_place_j69 (fu : Nat) (M : Mm) : Option Mm :=
  some M
set_option maxRecDepth 100000 in
set_option maxHeartbeats 4000000 in
theorem wX1_place_j69 {M' : Mm}    {M : Mm} (B : Bx p s m args c cX1_place 6 RX1 E L) (hr : meth.sig.returnType = none) (hlk : meth.locks = false)   (h : fX1_place_j69 fu M = some M') (hR : Rx s E L M H locs) (hl : lv_has ls 6 []) : W p l e (rmD (d + 0)) s m args below meth c H locs 0 0 (MQ below (QcM E L none M') args s 0 0 E.2.2.2) (F0 m 69 ls []) := by
  have hx := B.1
  have hb := B.2.1
  unfold fX1_place_j69 at h
  exact r_vretW B hR hr hlk h dX1_place_69
def fX1_place_j63 (fu : Nat) (k3 : Int32 → Mm → Option Mm) (a0 : Nat) (x1 : Int32) (x2 : Int32) (x3 : Int32) (x4 : Int32) (x5 : Int32) (M : Mm) : Option Mm :=
  lt (x5 + 1) fun x5_63 =>
  k3 x5_63 M
set_option maxRecDepth 100000 in
set_option maxHeartbeats 4000000 in
theorem wX1_place_j63 {M' : Mm}  {k3 : Int32 → Mm → Option Mm} {a0 : Nat} {x1 : Int32} {x2 : Int32} {x3 : Int32} {x4 : Int32} {x5 : Int32} {M : Mm} (B : Bx p s m args c cX1_place 6 RX1 E L) (hr : meth.sig.returnType = none) (hlk : meth.locks = false) (ih3 : ∀ (x5 : Int32) (M : Mm), k3 x5 M = some M' → ∀ (H : Heap) (locs : List Loc) (ls : Array Slot), Rx s E L M H locs → lv_has ls 6 [(0, .ref a0), (1, .int x1), (2, .int x2), (3, .int x3), (4, .int x4), (5, .int x5)] → W p l e (rmD (d + 0)) s m args below meth c H locs 0 0 (MQ below (QcM E L none M') args s 0 0 E.2.2.2) (F0 m 3 ls [])) (h0 : At L a0 T1) (h : fX1_place_j63 fu k3 a0 x1 x2 x3 x4 x5 M = some M') (hR : Rx s E L M H locs) (hl : lv_has ls 6 [(0, .ref a0), (1, .int x1), (2, .int x2), (3, .int x3), (4, .int x4), (5, .int x5)]) : W p l e (rmD (d + 0)) s m args below meth c H locs 0 0 (MQ below (QcM E L none M') args s 0 0 E.2.2.2) (F0 m 63 ls []) := by
  have hx := B.1
  have hb := B.2.1
  unfold fX1_place_j63 at h
  obtain ⟨x5_63, ex5_63, h⟩ := lt_el h
  refine lv_iinc (v := x5_63) (lv' := [(5, .int x5_63), (0, .ref a0), (1, .int x1), (2, .int x2), (3, .int x3), (4, .int x4)]) hx hb dX1_place_63 hl (k := 5) rfl (by rw [ex5_63]; rfl) (by decide) rfl (fun ls hl => ?_)
  refine lv_goto (tgt := 3) hx hb dX1_place_66 (by decide) ?_
  exact ih3 x5_63 M h _ _ _ hR (lv_sub hl [1, 2, 3, 4, 5, 0] rfl)
def fX1_place_b3 (fu : Nat) (k3 : Int32 → Mm → Option Mm) (a0 : Nat) (x1 : Int32) (x2 : Int32) (x3 : Int32) (x4 : Int32) (x5 : Int32) (M : Mm) : Option Mm :=
  if (M.1 (a0 + 2) 1) ≤ (x5 + 1) then
    fX1_place_j69 fu M
  else
    if x5 < 0 ∨ 44 ≤ ix x5 then none else
    if (M.1 ((a0 + 2) + 1) (ix x5)) < x2 then
      fX1_place_j63 fu k3 a0 x1 x2 x3 x4 x5 M
    else
      if (x2 + x3) ≤ (M.1 ((a0 + 2) + 1) (ix x5)) then
        fX1_place_j63 fu k3 a0 x1 x2 x3 x4 x5 M
      else
        if ((x5 * 5) + x4) < 0 ∨ 220 ≤ ix ((x5 * 5) + x4) then none else
        lt (wI M (a0 + 4) (ix ((x5 * 5) + x4)) ((M.1 (a0 + 4) (ix ((x5 * 5) + x4))) ||| x1)) fun M_62 =>
        fX1_place_j63 fu k3 a0 x1 x2 x3 x4 x5 M_62
set_option maxRecDepth 100000 in
set_option maxHeartbeats 4000000 in
theorem wX1_place_b3 {M' : Mm}   {k3 : Int32 → Mm → Option Mm} {a0 : Nat} {x1 : Int32} {x2 : Int32} {x3 : Int32} {x4 : Int32} {x5 : Int32} {M : Mm} (B : Bx p s m args c cX1_place 6 RX1 E L) (hr : meth.sig.returnType = none) (hlk : meth.locks = false)  (ih3 : ∀ (x5 : Int32) (M : Mm), k3 x5 M = some M' → ∀ (H : Heap) (locs : List Loc) (ls : Array Slot), Rx s E L M H locs → lv_has ls 6 [(0, .ref a0), (1, .int x1), (2, .int x2), (3, .int x3), (4, .int x4), (5, .int x5)] → W p l e (rmD (d + 0)) s m args below meth c H locs 0 0 (MQ below (QcM E L none M') args s 0 0 E.2.2.2) (F0 m 3 ls [])) (h0 : At L a0 T1) (h : fX1_place_b3 fu k3 a0 x1 x2 x3 x4 x5 M = some M') (hR : Rx s E L M H locs) (hl : lv_has ls 6 [(0, .ref a0), (1, .int x1), (2, .int x2), (3, .int x3), (4, .int x4), (5, .int x5)]) : W p l e (rmD (d + 0)) s m args below meth c H locs 0 0 (MQ below (QcM E L none M') args s 0 0 E.2.2.2) (F0 m 3 ls []) := by
  have hx := B.1
  have hb := B.2.1
  unfold fX1_place_b3 at h
  refine lv_iload hx hb dX1_place_3 (lv_at hl 5 rfl) ?_
  refine lv_iconst (v := 1) hx hb dX1_place_5 (by decide) ?_
  refine lv_iadd hx hb dX1_place_6 ?_
  refine lv_aload_n hx hb dX1_place_7 rfl (lv_at hl 0 rfl) ?_
  refine gf_X1_20 B hR (h0.at0 rfl) dX1_place_8 ?_
  refine gf_X1_86 B hR ((sb_1_5 h0).at0 rfl) dX1_place_11 ?_
  refine lv_icmp_ge (tgt := 69) hx hb dX1_place_14 (by decide) (fun c_14 => ?_) (fun c_14 => ?_)
  · rw [if_pos c_14] at h
    exact wX1_place_j69 B hr hlk  h hR (lv_sub hl [] rfl)
  · rw [if_neg c_14] at h
    refine lv_aload_n hx hb dX1_place_17 rfl (lv_at hl 0 rfl) ?_
    refine gf_X1_20 B hR (h0.at0 rfl) dX1_place_18 ?_
    refine gf_X1_98 B hR ((sb_1_5 h0).at0 rfl) dX1_place_21 ?_
    refine lv_iload hx hb dX1_place_24 (lv_at hl 5 rfl) ?_
    obtain ⟨hi_26, h⟩ := ifn_el h
    refine r_iald B hR ((sb_1_5 h0).at 1 rfl) hi_26 dX1_place_26 ?_
    refine lv_iload_n hx hb dX1_place_27 rfl (lv_at hl 2 rfl) ?_
    refine lv_icmp_lt (tgt := 63) hx hb dX1_place_28 (by decide) (fun c_28 => ?_) (fun c_28 => ?_)
    · rw [if_pos c_28] at h
      exact wX1_place_j63 B hr hlk ih3 h0 h hR hl
    · rw [if_neg c_28] at h
      refine lv_aload_n hx hb dX1_place_31 rfl (lv_at hl 0 rfl) ?_
      refine gf_X1_20 B hR (h0.at0 rfl) dX1_place_32 ?_
      refine gf_X1_98 B hR ((sb_1_5 h0).at0 rfl) dX1_place_35 ?_
      refine lv_iload hx hb dX1_place_38 (lv_at hl 5 rfl) ?_
      refine r_iald B hR ((sb_1_5 h0).at 1 rfl) hi_26 dX1_place_40 ?_
      refine lv_iload_n hx hb dX1_place_41 rfl (lv_at hl 2 rfl) ?_
      refine lv_iload_n hx hb dX1_place_42 rfl (lv_at hl 3 rfl) ?_
      refine lv_iadd hx hb dX1_place_43 ?_
      refine lv_icmp_ge (tgt := 63) hx hb dX1_place_44 (by decide) (fun c_44 => ?_) (fun c_44 => ?_)
      · rw [if_pos c_44] at h
        exact wX1_place_j63 B hr hlk ih3 h0 h hR hl
      · rw [if_neg c_44] at h
        refine lv_aload_n hx hb dX1_place_47 rfl (lv_at hl 0 rfl) ?_
        refine gf_X1_24 B hR (h0.at0 rfl) dX1_place_48 ?_
        refine lv_iload hx hb dX1_place_51 (lv_at hl 5 rfl) ?_
        refine lv_iconst (v := 5) hx hb dX1_place_53 (by decide) ?_
        refine lv_imul hx hb dX1_place_54 ?_
        refine lv_iload hx hb dX1_place_55 (lv_at hl 4 rfl) ?_
        refine lv_iadd hx hb dX1_place_57 ?_
        refine lv_dup2_11 hx hb dX1_place_58 rfl rfl ?_
        obtain ⟨hi_59, h⟩ := ifn_el h
        refine r_iald B hR (h0.at 4 rfl) hi_59 dX1_place_59 ?_
        refine lv_iload_n hx hb dX1_place_60 rfl (lv_at hl 1 rfl) ?_
        refine lv_ior hx hb dX1_place_61 ?_
        obtain ⟨M_62, eM_62, h⟩ := lt_el h
        refine r_iast B hR (h0.at 4 rfl) hi_59 dX1_place_62 (fun H locs hR => ?_)
        rw [← eM_62] at hR
        exact wX1_place_j63 B hr hlk ih3 h0 h hR hl
def fX1_place_l3 (fu : Nat) (a0 : Nat) (x1 : Int32) (x2 : Int32) (x3 : Int32) (x4 : Int32) (x5 : Int32) (M : Mm) : Option Mm := lp (fun (rec : (Int32 × Mm) → Option Mm) (s : Int32 × Mm) => fX1_place_b3 fu  (fun x5 M => rec (x5, M)) a0 x1 x2 x3 x4 s.1 s.2) fu (x5, M)
set_option maxRecDepth 100000 in
set_option maxHeartbeats 4000000 in
theorem wX1_place_l3 {M' : Mm}   {a0 : Nat} {x1 : Int32} {x2 : Int32} {x3 : Int32} {x4 : Int32} {x5 : Int32} {M : Mm} (B : Bx p s m args c cX1_place 6 RX1 E L) (hr : meth.sig.returnType = none) (hlk : meth.locks = false)  (h0 : At L a0 T1) (h : fX1_place_l3 fu a0 x1 x2 x3 x4 x5 M = some M') (hR : Rx s E L M H locs) (hl : lv_has ls 6 [(0, .ref a0), (1, .int x1), (2, .int x2), (3, .int x3), (4, .int x4), (5, .int x5)]) : W p l e (rmD (d + 0)) s m args below meth c H locs 0 0 (MQ below (QcM E L none M') args s 0 0 E.2.2.2) (F0 m 3 ls []) := by
  refine lp_G (G := fun z : Int32 × Mm => ∀ (H : Heap) (locs : List Loc) (ls : Array Slot), Rx s E L z.2 H locs → lv_has ls 6 [(0, .ref a0), (1, .int x1), (2, .int x2), (3, .int x3), (4, .int x4), (5, .int z.1)] → W p l e (rmD (d + 0)) s m args below meth c H locs 0 0 (MQ below (QcM E L none M') args s 0 0 E.2.2.2) (F0 m 3 ls [])) (fun rec ih z h H locs ls hR hl => ?_) fu _ h H locs ls hR hl
  exact wX1_place_b3 B hr hlk  (fun x5 M h => ih (x5, M) h) h0 h hR hl
def fX1_place (fu : Nat) (a0 : Nat) (x1 : Int32) (x2 : Int32) (x3 : Int32) (x4 : Int32) (M : Mm) : Option Mm :=
  fX1_place_l3 fu a0 x1 x2 x3 x4 0 M
set_option maxRecDepth 100000 in
set_option maxHeartbeats 4000000 in
theorem mX1_place {l : Launch} {E : Ge} {L : Lay} (fu d : Nat) {a0 : Nat} {x1 : Int32} {x2 : Int32} {x3 : Int32} {x4 : Int32} {M : Mm} {M' : Mm}  (h0 : At L a0 T1) (h : fX1_place fu a0 x1 x2 x3 x4 M = some M') : Ct l E L yX1_place cX1_place 6 none (d + 0) [.ref a0, .int x1, .int x2, .int x3, .int x4] M none M' := by
  refine Ct.of (by decide) ?_
  intro p e s m below meth c hr hlk B hR
  have B : Bx p s m _ c cX1_place 6 RX1 E L := B
  have hx := B.1
  have hb := B.2.1
  have hl := lv_entry ([.ref a0, .int x1, .int x2, .int x3, .int x4]) (n := 6) (Nat.le_of_ble_eq_true rfl)
  rw [lg_entry_eq]
  generalize (lg_sl ([.ref a0, .int x1, .int x2, .int x3, .int x4]) ++ List.replicate (6 - (lg_sl ([.ref a0, .int x1, .int x2, .int x3, .int x4])).length) Slot.unset).toArray = ls at hl ⊢
  have hl : lv_has ls 6 [(0, .ref a0), (1, .int x1), (2, .int x2), (3, .int x3), (4, .int x4)] := hl
  unfold fX1_place at h
  refine lv_iconst (v := 0) hx hb dX1_place_0 (by decide) ?_
  refine lv_istore (lv' := [(5, .int 0), (0, .ref a0), (1, .int x1), (2, .int x2), (3, .int x3), (4, .int x4)]) hx hb dX1_place_1 hl (by decide) rfl (fun ls hl => ?_)
  exact wX1_place_l3 B hr hlk h0 h hR (lv_sub hl [1, 2, 3, 4, 5, 0] rfl)
def fX1_isThere_j28 (fu : Nat) (M : Mm) : Option Int32 :=
  some 0
set_option maxRecDepth 100000 in
set_option maxHeartbeats 4000000 in
theorem wX1_isThere_j28 {r : Int32}    {M : Mm} (B : Bx p s m args c cX1_isThere 4 RX1 E L) (hr : meth.sig.returnType = (some .boolean)) (hlk : meth.locks = false)   (h : fX1_isThere_j28 fu M = some r) (hR : Rx s E L M H locs) (hl : lv_has ls 4 []) : W p l e (rmD (d + 1)) s m args below meth c H locs 0 0 (MQ below (QcM E L (some (.int r)) M) args s 0 0 E.2.2.2) (F0 m 28 ls []) := by
  have hx := B.1
  have hb := B.2.1
  unfold fX1_isThere_j28 at h
  refine lv_iconst (v := 0) hx hb dX1_isThere_28 (by decide) ?_
  exact r_zretP B hR hr hlk (Or.inl rfl) h dX1_isThere_29
def fX1_isThere_j20 (fu : Nat) (M : Mm) : Option Int32 :=
  some 1
set_option maxRecDepth 100000 in
set_option maxHeartbeats 4000000 in
theorem wX1_isThere_j20 {r : Int32}    {M : Mm} (B : Bx p s m args c cX1_isThere 4 RX1 E L) (hr : meth.sig.returnType = (some .boolean)) (hlk : meth.locks = false)   (h : fX1_isThere_j20 fu M = some r) (hR : Rx s E L M H locs) (hl : lv_has ls 4 []) : W p l e (rmD (d + 1)) s m args below meth c H locs 0 0 (MQ below (QcM E L (some (.int r)) M) args s 0 0 E.2.2.2) (F0 m 20 ls []) := by
  have hx := B.1
  have hb := B.2.1
  unfold fX1_isThere_j20 at h
  refine lv_iconst (v := 1) hx hb dX1_isThere_20 (by decide) ?_
  exact r_zretP B hR hr hlk (Or.inr rfl) h dX1_isThere_21
def fX1_isThere_b2 (fu : Nat) (k2 : Int32 → Option Int32) (a0 : Nat) (n1 : Nat) (a1 : Nat) (x2 : Int32) (x3 : Int32) (M : Mm) : Option Int32 :=
  if (M.1 a0 1) ≤ x3 then
    fX1_isThere_j28 fu M
  else
    bi (fX1_isSame fu a0 x3 n1 a1 x2 M) fun r_14 =>
    if r_14 = 0 then
      lt (x3 + 1) fun x3_22 =>
      k2 x3_22
    else
      fX1_isThere_j20 fu M
set_option maxRecDepth 100000 in
set_option maxHeartbeats 4000000 in
theorem wX1_isThere_b2 {r : Int32}   {k2 : Int32 → Option Int32} {a0 : Nat} {n1 : Nat} {a1 : Nat} {x2 : Int32} {x3 : Int32} {M : Mm} (B : Bx p s m args c cX1_isThere 4 RX1 E L) (hr : meth.sig.returnType = (some .boolean)) (hlk : meth.locks = false)  (ih2 : ∀ (x3 : Int32), k2 x3 = some r → ∀ (H : Heap) (locs : List Loc) (ls : Array Slot), Rx s E L M H locs → lv_has ls 4 [(0, .ref a0), (1, .ref a1), (2, .int x2), (3, .int x3)] → W p l e (rmD (d + 1)) s m args below meth c H locs 0 0 (MQ below (QcM E L (some (.int r)) M) args s 0 0 E.2.2.2) (F0 m 2 ls [])) (h0 : At L a0 T8) (h1 : At L a1 (T0 n1)) (h : fX1_isThere_b2 fu k2 a0 n1 a1 x2 x3 M = some r) (hR : Rx s E L M H locs) (hl : lv_has ls 4 [(0, .ref a0), (1, .ref a1), (2, .int x2), (3, .int x3)]) : W p l e (rmD (d + 1)) s m args below meth c H locs 0 0 (MQ below (QcM E L (some (.int r)) M) args s 0 0 E.2.2.2) (F0 m 2 ls []) := by
  have hx := B.1
  have hb := B.2.1
  unfold fX1_isThere_b2 at h
  refine lv_iload_n hx hb dX1_isThere_2 rfl (lv_at hl 3 rfl) ?_
  refine lv_aload_n hx hb dX1_isThere_3 rfl (lv_at hl 0 rfl) ?_
  refine gf_X1_47 B hR (h0.at0 rfl) dX1_isThere_4 ?_
  refine lv_icmp_ge (tgt := 28) hx hb dX1_isThere_7 (by decide) (fun c_7 => ?_) (fun c_7 => ?_)
  · rw [if_pos c_7] at h
    exact wX1_isThere_j28 B hr hlk  h hR (lv_sub hl [] rfl)
  · rw [if_neg c_7] at h
    refine lv_aload_n hx hb dX1_isThere_10 rfl (lv_at hl 0 rfl) ?_
    refine lv_iload_n hx hb dX1_isThere_11 rfl (lv_at hl 3 rfl) ?_
    refine lv_aload_n hx hb dX1_isThere_12 rfl (lv_at hl 1 rfl) ?_
    refine lv_iload_n hx hb dX1_isThere_13 rfl (lv_at hl 2 rfl) ?_
    obtain ⟨r_14, hc_14, h⟩ := bi_el h
    refine is_X1_109 B hR hl.1 (mX1_isSame fu _ h0 h1 hc_14) (Nat.le_of_ble_eq_true rfl) dX1_isThere_14 (fun H locs hR => ?_)
    refine lv_if_eq (tgt := 22) hx hb dX1_isThere_17 (by decide) (fun c_17 => ?_) (fun c_17 => ?_)
    · rw [if_pos c_17] at h
      obtain ⟨x3_22, ex3_22, h⟩ := lt_el h
      refine lv_iinc (v := x3_22) (lv' := [(3, .int x3_22), (0, .ref a0), (1, .ref a1), (2, .int x2)]) hx hb dX1_isThere_22 hl (k := 3) rfl (by rw [ex3_22]; rfl) (by decide) rfl (fun ls hl => ?_)
      refine lv_goto (tgt := 2) hx hb dX1_isThere_25 (by decide) ?_
      exact ih2 x3_22 h _ _ _ hR (lv_sub hl [1, 2, 3, 0] rfl)
    · rw [if_neg c_17] at h
      exact wX1_isThere_j20 B hr hlk  h hR (lv_sub hl [] rfl)
def fX1_isThere_l2 (fu : Nat) (a0 : Nat) (n1 : Nat) (a1 : Nat) (x2 : Int32) (M : Mm) (x3 : Int32) : Option Int32 := lp (fun (rec : Int32 → Option Int32) (s : Int32) => fX1_isThere_b2 fu  (fun x3 => rec (x3)) a0 n1 a1 x2 s M) fu (x3)
set_option maxRecDepth 100000 in
set_option maxHeartbeats 4000000 in
theorem wX1_isThere_l2 {r : Int32}   {a0 : Nat} {n1 : Nat} {a1 : Nat} {x2 : Int32} {x3 : Int32} {M : Mm} (B : Bx p s m args c cX1_isThere 4 RX1 E L) (hr : meth.sig.returnType = (some .boolean)) (hlk : meth.locks = false)  (h0 : At L a0 T8) (h1 : At L a1 (T0 n1)) (h : fX1_isThere_l2 fu a0 n1 a1 x2 M x3 = some r) (hR : Rx s E L M H locs) (hl : lv_has ls 4 [(0, .ref a0), (1, .ref a1), (2, .int x2), (3, .int x3)]) : W p l e (rmD (d + 1)) s m args below meth c H locs 0 0 (MQ below (QcM E L (some (.int r)) M) args s 0 0 E.2.2.2) (F0 m 2 ls []) := by
  refine lp_G (G := fun z : Int32 => ∀ (H : Heap) (locs : List Loc) (ls : Array Slot), Rx s E L M H locs → lv_has ls 4 [(0, .ref a0), (1, .ref a1), (2, .int x2), (3, .int z)] → W p l e (rmD (d + 1)) s m args below meth c H locs 0 0 (MQ below (QcM E L (some (.int r)) M) args s 0 0 E.2.2.2) (F0 m 2 ls [])) (fun rec ih z h H locs ls hR hl => ?_) fu _ h H locs ls hR hl
  exact wX1_isThere_b2 B hr hlk  (fun x3 h => ih (x3) h) h0 h1 h hR hl
def fX1_isThere (fu : Nat) (a0 : Nat) (n1 : Nat) (a1 : Nat) (x2 : Int32) (M : Mm) : Option Int32 :=
  fX1_isThere_l2 fu a0 n1 a1 x2 M 0
set_option maxRecDepth 100000 in
set_option maxHeartbeats 4000000 in
theorem mX1_isThere {l : Launch} {E : Ge} {L : Lay} (fu d : Nat) {a0 : Nat} {n1 : Nat} {a1 : Nat} {x2 : Int32} {M : Mm} {r : Int32}  (h0 : At L a0 T8) (h1 : At L a1 (T0 n1)) (h : fX1_isThere fu a0 n1 a1 x2 M = some r) : Ct l E L yX1_isThere cX1_isThere 4 (some .boolean) (d + 1) [.ref a0, .ref a1, .int x2] M (some (.int r)) M := by
  refine Ct.of (by decide) ?_
  intro p e s m below meth c hr hlk B hR
  have B : Bx p s m _ c cX1_isThere 4 RX1 E L := B
  have hx := B.1
  have hb := B.2.1
  have hl := lv_entry ([.ref a0, .ref a1, .int x2]) (n := 4) (Nat.le_of_ble_eq_true rfl)
  rw [lg_entry_eq]
  generalize (lg_sl ([.ref a0, .ref a1, .int x2]) ++ List.replicate (4 - (lg_sl ([.ref a0, .ref a1, .int x2])).length) Slot.unset).toArray = ls at hl ⊢
  have hl : lv_has ls 4 [(0, .ref a0), (1, .ref a1), (2, .int x2)] := hl
  unfold fX1_isThere at h
  refine lv_iconst (v := 0) hx hb dX1_isThere_0 (by decide) ?_
  refine lv_istore_n (lv' := [(3, .int 0), (0, .ref a0), (1, .ref a1), (2, .int x2)]) hx hb dX1_isThere_1 rfl hl (by decide) rfl (fun ls hl => ?_)
  exact wX1_isThere_l2 B hr hlk h0 h1 h hR (lv_sub hl [1, 2, 3, 0] rfl)
def fX1_placeSteps_j181 (fu : Nat) (M : Mm) : Option Mm :=
  some M
set_option maxRecDepth 100000 in
set_option maxHeartbeats 4000000 in
theorem wX1_placeSteps_j181 {M' : Mm}    {M : Mm} (B : Bx p s m args c cX1_placeSteps 6 RX1 E L) (hr : meth.sig.returnType = none) (hlk : meth.locks = false)   (h : fX1_placeSteps_j181 fu M = some M') (hR : Rx s E L M H locs) (hl : lv_has ls 6 []) : W p l e (rmD (d + 2)) s m args below meth c H locs 0 0 (MQ below (QcM E L none M') args s 0 0 E.2.2.2) (F0 m 181 ls []) := by
  have hx := B.1
  have hb := B.2.1
  unfold fX1_placeSteps_j181 at h
  exact r_vretW B hR hr hlk h dX1_placeSteps_181
def fX1_placeSteps_j175 (fu : Nat) (k125 : Int32 → Int32 → Mm → Option Mm) (a0 : Nat) (a1 : Nat) (n2 : Nat) (a2 : Nat) (x3 : Int32) (x4 : Int32) (M : Mm) : Option Mm :=
  lt (x4 + 1) fun x4_175 =>
  k125 x3 x4_175 M
set_option maxRecDepth 100000 in
set_option maxHeartbeats 4000000 in
theorem wX1_placeSteps_j175 {M' : Mm}  {k125 : Int32 → Int32 → Mm → Option Mm} {a0 : Nat} {a1 : Nat} {n2 : Nat} {a2 : Nat} {x3 : Int32} {x4 : Int32} {M : Mm} (B : Bx p s m args c cX1_placeSteps 6 RX1 E L) (hr : meth.sig.returnType = none) (hlk : meth.locks = false) (ih125 : ∀ (x3 : Int32) (x4 : Int32) (M : Mm), k125 x3 x4 M = some M' → ∀ (H : Heap) (locs : List Loc) (ls : Array Slot), Rx s E L M H locs → lv_has ls 6 [(0, .ref a0), (1, .ref a1), (2, .ref a2), (3, .int x3), (4, .int x4)] → W p l e (rmD (d + 2)) s m args below meth c H locs 0 0 (MQ below (QcM E L none M') args s 0 0 E.2.2.2) (F0 m 125 ls [])) (h0 : At L a0 T1) (h1 : At L a1 T8) (h2 : At L a2 (T0 n2)) (h : fX1_placeSteps_j175 fu k125 a0 a1 n2 a2 x3 x4 M = some M') (hR : Rx s E L M H locs) (hl : lv_has ls 6 [(0, .ref a0), (1, .ref a1), (2, .ref a2), (3, .int x3), (4, .int x4)]) : W p l e (rmD (d + 2)) s m args below meth c H locs 0 0 (MQ below (QcM E L none M') args s 0 0 E.2.2.2) (F0 m 175 ls []) := by
  have hx := B.1
  have hb := B.2.1
  unfold fX1_placeSteps_j175 at h
  obtain ⟨x4_175, ex4_175, h⟩ := lt_el h
  refine lv_iinc (v := x4_175) (lv' := [(4, .int x4_175), (0, .ref a0), (1, .ref a1), (2, .ref a2), (3, .int x3)]) hx hb dX1_placeSteps_175 hl (k := 4) rfl (by rw [ex4_175]; rfl) (by decide) rfl (fun ls hl => ?_)
  refine lv_goto (tgt := 125) hx hb dX1_placeSteps_178 (by decide) ?_
  exact ih125 x3 x4_175 M h _ _ _ hR (lv_sub hl [1, 2, 3, 4, 0] rfl)
def fX1_placeSteps_b125 (fu : Nat) (k125 : Int32 → Int32 → Mm → Option Mm) (a0 : Nat) (a1 : Nat) (n2 : Nat) (a2 : Nat) (x3 : Int32) (x4 : Int32) (M : Mm) : Option Mm :=
  if (M.1 a2 3) ≤ x4 then
    fX1_placeSteps_j181 fu M
  else
    bi (fX1_isThere fu a1 n2 a2 x4 M) fun r_138 =>
    if r_138 = 0 then
      if x4 < 0 ∨ n2 ≤ ix x4 then none else
      bm (fX1_place fu a0 (1 <<< (x3 &&& 31)) (M.1 (a2 + 1) (ix x4)) (M.1 (a2 + 2) (ix x4)) (M.1 (a2 + 3) (ix x4)) M) fun M_169 =>
      lt (x3 + 1) fun x3_172 =>
      fX1_placeSteps_j175 fu k125 a0 a1 n2 a2 x3_172 x4 M_169
    else
      fX1_placeSteps_j175 fu k125 a0 a1 n2 a2 x3 x4 M
set_option maxRecDepth 100000 in
set_option maxHeartbeats 4000000 in
theorem wX1_placeSteps_b125 {M' : Mm}   {k125 : Int32 → Int32 → Mm → Option Mm} {a0 : Nat} {a1 : Nat} {n2 : Nat} {a2 : Nat} {x3 : Int32} {x4 : Int32} {M : Mm} (B : Bx p s m args c cX1_placeSteps 6 RX1 E L) (hr : meth.sig.returnType = none) (hlk : meth.locks = false)  (ih125 : ∀ (x3 : Int32) (x4 : Int32) (M : Mm), k125 x3 x4 M = some M' → ∀ (H : Heap) (locs : List Loc) (ls : Array Slot), Rx s E L M H locs → lv_has ls 6 [(0, .ref a0), (1, .ref a1), (2, .ref a2), (3, .int x3), (4, .int x4)] → W p l e (rmD (d + 2)) s m args below meth c H locs 0 0 (MQ below (QcM E L none M') args s 0 0 E.2.2.2) (F0 m 125 ls [])) (h0 : At L a0 T1) (h1 : At L a1 T8) (h2 : At L a2 (T0 n2)) (h : fX1_placeSteps_b125 fu k125 a0 a1 n2 a2 x3 x4 M = some M') (hR : Rx s E L M H locs) (hl : lv_has ls 6 [(0, .ref a0), (1, .ref a1), (2, .ref a2), (3, .int x3), (4, .int x4)]) : W p l e (rmD (d + 2)) s m args below meth c H locs 0 0 (MQ below (QcM E L none M') args s 0 0 E.2.2.2) (F0 m 125 ls []) := by
  have hx := B.1
  have hb := B.2.1
  unfold fX1_placeSteps_b125 at h
  refine lv_iload hx hb dX1_placeSteps_125 (lv_at hl 4 rfl) ?_
  refine lv_aload_n hx hb dX1_placeSteps_127 rfl (lv_at hl 2 rfl) ?_
  refine gf_X1_41 B hR (h2.at0 rfl) dX1_placeSteps_128 ?_
  refine lv_icmp_ge (tgt := 181) hx hb dX1_placeSteps_131 (by decide) (fun c_131 => ?_) (fun c_131 => ?_)
  · rw [if_pos c_131] at h
    exact wX1_placeSteps_j181 B hr hlk  h hR (lv_sub hl [] rfl)
  · rw [if_neg c_131] at h
    refine lv_aload_n hx hb dX1_placeSteps_134 rfl (lv_at hl 1 rfl) ?_
    refine lv_aload_n hx hb dX1_placeSteps_135 rfl (lv_at hl 2 rfl) ?_
    refine lv_iload hx hb dX1_placeSteps_136 (lv_at hl 4 rfl) ?_
    obtain ⟨r_138, hc_138, h⟩ := bi_el h
    refine is_X1_144 B hR hl.1 (mX1_isThere fu _ h1 h2 hc_138) (Nat.le_of_ble_eq_true rfl) dX1_placeSteps_138 (fun H locs hR => ?_)
    refine lv_if_ne (tgt := 175) hx hb dX1_placeSteps_141 (by decide) (fun c_141 => ?_) (fun c_141 => ?_)
    · rw [if_neg c_141] at h
      exact wX1_placeSteps_j175 B hr hlk ih125 h0 h1 h2 h hR hl
    · rw [if_pos c_141] at h
      refine lv_aload_n hx hb dX1_placeSteps_144 rfl (lv_at hl 0 rfl) ?_
      refine lv_iconst (v := 1) hx hb dX1_placeSteps_145 (by decide) ?_
      refine lv_iload_n hx hb dX1_placeSteps_146 rfl (lv_at hl 3 rfl) ?_
      refine lv_ishl hx hb dX1_placeSteps_147 ?_
      refine lv_aload_n hx hb dX1_placeSteps_148 rfl (lv_at hl 2 rfl) ?_
      refine gf_X1_116 B hR (h2.at0 rfl) dX1_placeSteps_149 ?_
      refine lv_iload hx hb dX1_placeSteps_152 (lv_at hl 4 rfl) ?_
      obtain ⟨hi_154, h⟩ := ifn_el h
      refine r_iald B hR (h2.at 1 rfl) hi_154 dX1_placeSteps_154 ?_
      refine lv_aload_n hx hb dX1_placeSteps_155 rfl (lv_at hl 2 rfl) ?_
      refine gf_X1_120 B hR (h2.at0 rfl) dX1_placeSteps_156 ?_
      refine lv_iload hx hb dX1_placeSteps_159 (lv_at hl 4 rfl) ?_
      refine r_iald B hR (h2.at 2 rfl) hi_154 dX1_placeSteps_161 ?_
      refine lv_aload_n hx hb dX1_placeSteps_162 rfl (lv_at hl 2 rfl) ?_
      refine gf_X1_124 B hR (h2.at0 rfl) dX1_placeSteps_163 ?_
      refine lv_iload hx hb dX1_placeSteps_166 (lv_at hl 4 rfl) ?_
      refine r_iald B hR (h2.at 3 rfl) hi_154 dX1_placeSteps_168 ?_
      obtain ⟨M_169, hc_169, h⟩ := bm_el h
      refine iv_X1_140 B hR (h0.at0 rfl) hl.1 (mX1_place fu _ h0 hc_169) (Nat.le_of_ble_eq_true rfl) dX1_placeSteps_169 (fun H locs hR => ?_)
      obtain ⟨x3_172, ex3_172, h⟩ := lt_el h
      refine lv_iinc (v := x3_172) (lv' := [(3, .int x3_172), (0, .ref a0), (1, .ref a1), (2, .ref a2), (4, .int x4)]) hx hb dX1_placeSteps_172 hl (k := 3) rfl (by rw [ex3_172]; rfl) (by decide) rfl (fun ls hl => ?_)
      exact wX1_placeSteps_j175 B hr hlk ih125 h0 h1 h2 h hR (lv_sub hl [1, 2, 3, 0, 4] rfl)
def fX1_placeSteps_l125 (fu : Nat) (a0 : Nat) (a1 : Nat) (n2 : Nat) (a2 : Nat) (x3 : Int32) (x4 : Int32) (M : Mm) : Option Mm := lp (fun (rec : (Int32 × Int32 × Mm) → Option Mm) (s : Int32 × Int32 × Mm) => fX1_placeSteps_b125 fu  (fun x3 x4 M => rec (x3, x4, M)) a0 a1 n2 a2 s.1 s.2.1 s.2.2) fu (x3, x4, M)
set_option maxRecDepth 100000 in
set_option maxHeartbeats 4000000 in
theorem wX1_placeSteps_l125 {M' : Mm}   {a0 : Nat} {a1 : Nat} {n2 : Nat} {a2 : Nat} {x3 : Int32} {x4 : Int32} {M : Mm} (B : Bx p s m args c cX1_placeSteps 6 RX1 E L) (hr : meth.sig.returnType = none) (hlk : meth.locks = false)  (h0 : At L a0 T1) (h1 : At L a1 T8) (h2 : At L a2 (T0 n2)) (h : fX1_placeSteps_l125 fu a0 a1 n2 a2 x3 x4 M = some M') (hR : Rx s E L M H locs) (hl : lv_has ls 6 [(0, .ref a0), (1, .ref a1), (2, .ref a2), (3, .int x3), (4, .int x4)]) : W p l e (rmD (d + 2)) s m args below meth c H locs 0 0 (MQ below (QcM E L none M') args s 0 0 E.2.2.2) (F0 m 125 ls []) := by
  refine lp_G (G := fun z : Int32 × Int32 × Mm => ∀ (H : Heap) (locs : List Loc) (ls : Array Slot), Rx s E L z.2.2 H locs → lv_has ls 6 [(0, .ref a0), (1, .ref a1), (2, .ref a2), (3, .int z.1), (4, .int z.2.1)] → W p l e (rmD (d + 2)) s m args below meth c H locs 0 0 (MQ below (QcM E L none M') args s 0 0 E.2.2.2) (F0 m 125 ls [])) (fun rec ih z h H locs ls hR hl => ?_) fu _ h H locs ls hR hl
  exact wX1_placeSteps_b125 B hr hlk  (fun x3 x4 M h => ih (x3, x4, M) h) h0 h1 h2 h hR hl
def fX1_placeSteps_j122 (fu : Nat) (a0 : Nat) (a1 : Nat) (n2 : Nat) (a2 : Nat) (x3 : Int32) (M : Mm) : Option Mm :=
  fX1_placeSteps_l125 fu a0 a1 n2 a2 x3 0 M
set_option maxRecDepth 100000 in
set_option maxHeartbeats 4000000 in
theorem wX1_placeSteps_j122 {M' : Mm}   {a0 : Nat} {a1 : Nat} {n2 : Nat} {a2 : Nat} {x3 : Int32} {M : Mm} (B : Bx p s m args c cX1_placeSteps 6 RX1 E L) (hr : meth.sig.returnType = none) (hlk : meth.locks = false)  (h0 : At L a0 T1) (h1 : At L a1 T8) (h2 : At L a2 (T0 n2)) (h : fX1_placeSteps_j122 fu a0 a1 n2 a2 x3 M = some M') (hR : Rx s E L M H locs) (hl : lv_has ls 6 [(0, .ref a0), (1, .ref a1), (2, .ref a2), (3, .int x3)]) : W p l e (rmD (d + 2)) s m args below meth c H locs 0 0 (MQ below (QcM E L none M') args s 0 0 E.2.2.2) (F0 m 122 ls []) := by
  have hx := B.1
  have hb := B.2.1
  unfold fX1_placeSteps_j122 at h
  refine lv_iconst (v := 0) hx hb dX1_placeSteps_122 (by decide) ?_
  refine lv_istore (lv' := [(4, .int 0), (0, .ref a0), (1, .ref a1), (2, .ref a2), (3, .int x3)]) hx hb dX1_placeSteps_123 hl (by decide) rfl (fun ls hl => ?_)
  exact wX1_placeSteps_l125 B hr hlk h0 h1 h2 h hR (lv_sub hl [1, 2, 3, 4, 0] rfl)
def fX1_placeSteps_j114 (fu : Nat) (k29 : Int32 → Int32 → Mm → Option Mm) (a0 : Nat) (a1 : Nat) (n2 : Nat) (a2 : Nat) (x4 : Int32) (t0 : Int32) (t1 : Int32) (M : Mm) : Option Mm :=
  lt ((t0 + t1)) fun x3_115 =>
  lt (x4 + 1) fun x4_116 =>
  k29 x3_115 x4_116 M
set_option maxRecDepth 100000 in
set_option maxHeartbeats 4000000 in
theorem wX1_placeSteps_j114 {M' : Mm}  {k29 : Int32 → Int32 → Mm → Option Mm} {a0 : Nat} {a1 : Nat} {n2 : Nat} {a2 : Nat} {x4 : Int32} {t0 : Int32} {t1 : Int32} {M : Mm} (B : Bx p s m args c cX1_placeSteps 6 RX1 E L) (hr : meth.sig.returnType = none) (hlk : meth.locks = false) (ih29 : ∀ (x3 : Int32) (x4 : Int32) (M : Mm), k29 x3 x4 M = some M' → ∀ (H : Heap) (locs : List Loc) (ls : Array Slot), Rx s E L M H locs → lv_has ls 6 [(0, .ref a0), (1, .ref a1), (2, .ref a2), (3, .int x3), (4, .int x4)] → W p l e (rmD (d + 2)) s m args below meth c H locs 0 0 (MQ below (QcM E L none M') args s 0 0 E.2.2.2) (F0 m 29 ls [])) (h0 : At L a0 T1) (h1 : At L a1 T8) (h2 : At L a2 (T0 n2)) (h : fX1_placeSteps_j114 fu k29 a0 a1 n2 a2 x4 t0 t1 M = some M') (hR : Rx s E L M H locs) (hl : lv_has ls 6 [(0, .ref a0), (1, .ref a1), (2, .ref a2), (4, .int x4)]) : W p l e (rmD (d + 2)) s m args below meth c H locs 0 0 (MQ below (QcM E L none M') args s 0 0 E.2.2.2) (F0 m 114 ls [.int t1, .int t0]) := by
  have hx := B.1
  have hb := B.2.1
  unfold fX1_placeSteps_j114 at h
  refine lv_iadd hx hb dX1_placeSteps_114 ?_
  obtain ⟨x3_115, ex3_115, h⟩ := lt_el h
  refine r_nmI ex3_115 ?_
  refine lv_istore_n (lv' := [(3, .int x3_115), (0, .ref a0), (1, .ref a1), (2, .ref a2), (4, .int x4)]) hx hb dX1_placeSteps_115 rfl hl (by decide) rfl (fun ls hl => ?_)
  obtain ⟨x4_116, ex4_116, h⟩ := lt_el h
  refine lv_iinc (v := x4_116) (lv' := [(4, .int x4_116), (3, .int x3_115), (0, .ref a0), (1, .ref a1), (2, .ref a2)]) hx hb dX1_placeSteps_116 hl (k := 4) rfl (by rw [ex4_116]; rfl) (by decide) rfl (fun ls hl => ?_)
  refine lv_goto (tgt := 29) hx hb dX1_placeSteps_119 (by decide) ?_
  exact ih29 x3_115 x4_116 M h _ _ _ hR (lv_sub hl [2, 3, 4, 1, 0] rfl)
def fX1_placeSteps_j79 (fu : Nat) (k29 : Int32 → Int32 → Mm → Option Mm) (a0 : Nat) (a1 : Nat) (n2 : Nat) (a2 : Nat) (x3 : Int32) (x4 : Int32) (x5 : Int32) (b0 : Nat) (t1 : Int32) (M : Mm) : Option Mm :=
  if x4 < 0 ∨ 10 ≤ ix x4 then none else
  bm (fX1_place fu b0 t1 (M.1 (a1 + 5) (ix x4)) (M.1 (a1 + 6) (ix x4)) (M.1 (a1 + 7) (ix x4)) M) fun M_100 =>
  if x5 = 0 then
    fX1_placeSteps_j114 fu k29 a0 a1 n2 a2 x4 x3 0 M_100
  else
    fX1_placeSteps_j114 fu k29 a0 a1 n2 a2 x4 x3 1 M_100
set_option maxRecDepth 100000 in
set_option maxHeartbeats 4000000 in
theorem wX1_placeSteps_j79 {M' : Mm}  {k29 : Int32 → Int32 → Mm → Option Mm} {a0 : Nat} {a1 : Nat} {n2 : Nat} {a2 : Nat} {x3 : Int32} {x4 : Int32} {x5 : Int32} {b0 : Nat} {t1 : Int32} {M : Mm} (B : Bx p s m args c cX1_placeSteps 6 RX1 E L) (hr : meth.sig.returnType = none) (hlk : meth.locks = false) (ih29 : ∀ (x3 : Int32) (x4 : Int32) (M : Mm), k29 x3 x4 M = some M' → ∀ (H : Heap) (locs : List Loc) (ls : Array Slot), Rx s E L M H locs → lv_has ls 6 [(0, .ref a0), (1, .ref a1), (2, .ref a2), (3, .int x3), (4, .int x4)] → W p l e (rmD (d + 2)) s m args below meth c H locs 0 0 (MQ below (QcM E L none M') args s 0 0 E.2.2.2) (F0 m 29 ls [])) (h0 : At L a0 T1) (h1 : At L a1 T8) (h2 : At L a2 (T0 n2)) (g0 : At L b0 T1) (h : fX1_placeSteps_j79 fu k29 a0 a1 n2 a2 x3 x4 x5 b0 t1 M = some M') (hR : Rx s E L M H locs) (hl : lv_has ls 6 [(0, .ref a0), (1, .ref a1), (2, .ref a2), (3, .int x3), (4, .int x4), (5, .int x5)]) : W p l e (rmD (d + 2)) s m args below meth c H locs 0 0 (MQ below (QcM E L none M') args s 0 0 E.2.2.2) (F0 m 79 ls [.int t1, .ref b0]) := by
  have hx := B.1
  have hb := B.2.1
  unfold fX1_placeSteps_j79 at h
  refine lv_aload_n hx hb dX1_placeSteps_79 rfl (lv_at hl 1 rfl) ?_
  refine gf_X1_113 B hR (h1.at0 rfl) dX1_placeSteps_80 ?_
  refine lv_iload hx hb dX1_placeSteps_83 (lv_at hl 4 rfl) ?_
  obtain ⟨hi_85, h⟩ := ifn_el h
  refine r_iald B hR (h1.at 5 rfl) hi_85 dX1_placeSteps_85 ?_
  refine lv_aload_n hx hb dX1_placeSteps_86 rfl (lv_at hl 1 rfl) ?_
  refine gf_X1_117 B hR (h1.at0 rfl) dX1_placeSteps_87 ?_
  refine lv_iload hx hb dX1_placeSteps_90 (lv_at hl 4 rfl) ?_
  refine r_iald B hR (h1.at 6 rfl) hi_85 dX1_placeSteps_92 ?_
  refine lv_aload_n hx hb dX1_placeSteps_93 rfl (lv_at hl 1 rfl) ?_
  refine gf_X1_121 B hR (h1.at0 rfl) dX1_placeSteps_94 ?_
  refine lv_iload hx hb dX1_placeSteps_97 (lv_at hl 4 rfl) ?_
  refine r_iald B hR (h1.at 7 rfl) hi_85 dX1_placeSteps_99 ?_
  obtain ⟨M_100, hc_100, h⟩ := bm_el h
  refine iv_X1_140 B hR (g0.at0 rfl) hl.1 (mX1_place fu _ g0 hc_100) (Nat.le_of_ble_eq_true rfl) dX1_placeSteps_100 (fun H locs hR => ?_)
  refine lv_iload_n hx hb dX1_placeSteps_103 rfl (lv_at hl 3 rfl) ?_
  refine lv_iload hx hb dX1_placeSteps_104 (lv_at hl 5 rfl) ?_
  refine lv_if_eq (tgt := 113) hx hb dX1_placeSteps_106 (by decide) (fun c_106 => ?_) (fun c_106 => ?_)
  · rw [if_pos c_106] at h
    refine lv_iconst (v := 0) hx hb dX1_placeSteps_113 (by decide) ?_
    exact wX1_placeSteps_j114 B hr hlk ih29 h0 h1 h2 h hR (lv_sub hl [0, 1, 2, 4] rfl)
  · rw [if_neg c_106] at h
    refine lv_iconst (v := 1) hx hb dX1_placeSteps_109 (by decide) ?_
    refine lv_goto (tgt := 114) hx hb dX1_placeSteps_110 (by decide) ?_
    exact wX1_placeSteps_j114 B hr hlk ih29 h0 h1 h2 h hR (lv_sub hl [0, 1, 2, 4] rfl)
def fX1_placeSteps_j62 (fu : Nat) (k29 : Int32 → Int32 → Mm → Option Mm) (a0 : Nat) (a1 : Nat) (n2 : Nat) (a2 : Nat) (x3 : Int32) (x4 : Int32) (t0 : Int32) (M : Mm) : Option Mm :=
  if t0 = 0 then
    fX1_placeSteps_j79 fu k29 a0 a1 n2 a2 x3 x4 t0 a0 4096 M
  else
    fX1_placeSteps_j79 fu k29 a0 a1 n2 a2 x3 x4 t0 a0 (1 <<< (x3 &&& 31)) M
set_option maxRecDepth 100000 in
set_option maxHeartbeats 4000000 in
theorem wX1_placeSteps_j62 {M' : Mm}  {k29 : Int32 → Int32 → Mm → Option Mm} {a0 : Nat} {a1 : Nat} {n2 : Nat} {a2 : Nat} {x3 : Int32} {x4 : Int32} {t0 : Int32} {M : Mm} (B : Bx p s m args c cX1_placeSteps 6 RX1 E L) (hr : meth.sig.returnType = none) (hlk : meth.locks = false) (ih29 : ∀ (x3 : Int32) (x4 : Int32) (M : Mm), k29 x3 x4 M = some M' → ∀ (H : Heap) (locs : List Loc) (ls : Array Slot), Rx s E L M H locs → lv_has ls 6 [(0, .ref a0), (1, .ref a1), (2, .ref a2), (3, .int x3), (4, .int x4)] → W p l e (rmD (d + 2)) s m args below meth c H locs 0 0 (MQ below (QcM E L none M') args s 0 0 E.2.2.2) (F0 m 29 ls [])) (h0 : At L a0 T1) (h1 : At L a1 T8) (h2 : At L a2 (T0 n2)) (h : fX1_placeSteps_j62 fu k29 a0 a1 n2 a2 x3 x4 t0 M = some M') (hR : Rx s E L M H locs) (hl : lv_has ls 6 [(0, .ref a0), (1, .ref a1), (2, .ref a2), (3, .int x3), (4, .int x4)]) : W p l e (rmD (d + 2)) s m args below meth c H locs 0 0 (MQ below (QcM E L none M') args s 0 0 E.2.2.2) (F0 m 62 ls [.int t0]) := by
  have hx := B.1
  have hb := B.2.1
  unfold fX1_placeSteps_j62 at h
  refine lv_istore (lv' := [(5, .int t0), (0, .ref a0), (1, .ref a1), (2, .ref a2), (3, .int x3), (4, .int x4)]) hx hb dX1_placeSteps_62 hl (by decide) rfl (fun ls hl => ?_)
  refine lv_aload_n hx hb dX1_placeSteps_64 rfl (lv_at hl 1 rfl) ?_
  refine lv_iload hx hb dX1_placeSteps_65 (lv_at hl 0 rfl) ?_
  refine lv_if_eq (tgt := 76) hx hb dX1_placeSteps_67 (by decide) (fun c_67 => ?_) (fun c_67 => ?_)
  · rw [if_pos c_67] at h
    refine lv_sipush (v := 4096) hx hb dX1_placeSteps_76 (by decide) ?_
    exact wX1_placeSteps_j79 B hr hlk ih29 h0 h1 h2 h0 h hR (lv_sub hl [1, 2, 3, 4, 5, 0] rfl)
  · rw [if_neg c_67] at h
    refine lv_iconst (v := 1) hx hb dX1_placeSteps_70 (by decide) ?_
    refine lv_iload_n hx hb dX1_placeSteps_71 rfl (lv_at hl 4 rfl) ?_
    refine lv_ishl hx hb dX1_placeSteps_72 ?_
    refine lv_goto (tgt := 79) hx hb dX1_placeSteps_73 (by decide) ?_
    exact wX1_placeSteps_j79 B hr hlk ih29 h0 h1 h2 h0 h hR (lv_sub hl [1, 2, 3, 4, 5, 0] rfl)
def fX1_placeSteps_j61 (fu : Nat) (k29 : Int32 → Int32 → Mm → Option Mm) (a0 : Nat) (a1 : Nat) (n2 : Nat) (a2 : Nat) (x3 : Int32) (x4 : Int32) (M : Mm) : Option Mm :=
  fX1_placeSteps_j62 fu k29 a0 a1 n2 a2 x3 x4 0 M
set_option maxRecDepth 100000 in
set_option maxHeartbeats 4000000 in
theorem wX1_placeSteps_j61 {M' : Mm}  {k29 : Int32 → Int32 → Mm → Option Mm} {a0 : Nat} {a1 : Nat} {n2 : Nat} {a2 : Nat} {x3 : Int32} {x4 : Int32} {M : Mm} (B : Bx p s m args c cX1_placeSteps 6 RX1 E L) (hr : meth.sig.returnType = none) (hlk : meth.locks = false) (ih29 : ∀ (x3 : Int32) (x4 : Int32) (M : Mm), k29 x3 x4 M = some M' → ∀ (H : Heap) (locs : List Loc) (ls : Array Slot), Rx s E L M H locs → lv_has ls 6 [(0, .ref a0), (1, .ref a1), (2, .ref a2), (3, .int x3), (4, .int x4)] → W p l e (rmD (d + 2)) s m args below meth c H locs 0 0 (MQ below (QcM E L none M') args s 0 0 E.2.2.2) (F0 m 29 ls [])) (h0 : At L a0 T1) (h1 : At L a1 T8) (h2 : At L a2 (T0 n2)) (h : fX1_placeSteps_j61 fu k29 a0 a1 n2 a2 x3 x4 M = some M') (hR : Rx s E L M H locs) (hl : lv_has ls 6 [(0, .ref a0), (1, .ref a1), (2, .ref a2), (3, .int x3), (4, .int x4)]) : W p l e (rmD (d + 2)) s m args below meth c H locs 0 0 (MQ below (QcM E L none M') args s 0 0 E.2.2.2) (F0 m 61 ls []) := by
  have hx := B.1
  have hb := B.2.1
  unfold fX1_placeSteps_j61 at h
  refine lv_iconst (v := 0) hx hb dX1_placeSteps_61 (by decide) ?_
  exact wX1_placeSteps_j62 B hr hlk ih29 h0 h1 h2 h hR hl
def fX1_placeSteps_b29 (fu : Nat) (k29 : Int32 → Int32 → Mm → Option Mm) (a0 : Nat) (a1 : Nat) (n2 : Nat) (a2 : Nat) (x3 : Int32) (x4 : Int32) (M : Mm) : Option Mm :=
  if (M.1 a1 1) ≤ x4 then
    fX1_placeSteps_j122 fu a0 a1 n2 a2 x3 M
  else
    bi (fX8_isSet fu a1 x4 M) fun r_41 =>
    if r_41 = 0 then
      fX1_placeSteps_j61 fu k29 a0 a1 n2 a2 x3 x4 M
    else
      bi (fX1_stays fu a1 x4 n2 a2 M) fun r_51 =>
      if r_51 = 0 then
        fX1_placeSteps_j62 fu k29 a0 a1 n2 a2 x3 x4 1 M
      else
        fX1_placeSteps_j61 fu k29 a0 a1 n2 a2 x3 x4 M
set_option maxRecDepth 100000 in
set_option maxHeartbeats 4000000 in
theorem wX1_placeSteps_b29 {M' : Mm}   {k29 : Int32 → Int32 → Mm → Option Mm} {a0 : Nat} {a1 : Nat} {n2 : Nat} {a2 : Nat} {x3 : Int32} {x4 : Int32} {M : Mm} (B : Bx p s m args c cX1_placeSteps 6 RX1 E L) (hr : meth.sig.returnType = none) (hlk : meth.locks = false)  (ih29 : ∀ (x3 : Int32) (x4 : Int32) (M : Mm), k29 x3 x4 M = some M' → ∀ (H : Heap) (locs : List Loc) (ls : Array Slot), Rx s E L M H locs → lv_has ls 6 [(0, .ref a0), (1, .ref a1), (2, .ref a2), (3, .int x3), (4, .int x4)] → W p l e (rmD (d + 2)) s m args below meth c H locs 0 0 (MQ below (QcM E L none M') args s 0 0 E.2.2.2) (F0 m 29 ls [])) (h0 : At L a0 T1) (h1 : At L a1 T8) (h2 : At L a2 (T0 n2)) (h : fX1_placeSteps_b29 fu k29 a0 a1 n2 a2 x3 x4 M = some M') (hR : Rx s E L M H locs) (hl : lv_has ls 6 [(0, .ref a0), (1, .ref a1), (2, .ref a2), (3, .int x3), (4, .int x4)]) : W p l e (rmD (d + 2)) s m args below meth c H locs 0 0 (MQ below (QcM E L none M') args s 0 0 E.2.2.2) (F0 m 29 ls []) := by
  have hx := B.1
  have hb := B.2.1
  unfold fX1_placeSteps_b29 at h
  refine lv_iload hx hb dX1_placeSteps_29 (lv_at hl 4 rfl) ?_
  refine lv_aload_n hx hb dX1_placeSteps_31 rfl (lv_at hl 1 rfl) ?_
  refine gf_X1_47 B hR (h1.at0 rfl) dX1_placeSteps_32 ?_
  refine lv_icmp_ge (tgt := 122) hx hb dX1_placeSteps_35 (by decide) (fun c_35 => ?_) (fun c_35 => ?_)
  · rw [if_pos c_35] at h
    exact wX1_placeSteps_j122 B hr hlk h0 h1 h2 h hR (lv_sub hl [0, 1, 2, 3] rfl)
  · rw [if_neg c_35] at h
    refine lv_aload_n hx hb dX1_placeSteps_38 rfl (lv_at hl 1 rfl) ?_
    refine lv_iload hx hb dX1_placeSteps_39 (lv_at hl 4 rfl) ?_
    obtain ⟨r_41, hc_41, h⟩ := bi_el h
    refine iv_X1_101 B hR (h1.at0 rfl) hl.1 (mX8_isSet fu _ h1 hc_41) (Nat.le_of_ble_eq_true rfl) dX1_placeSteps_41 (fun H locs hR => ?_)
    refine lv_if_eq (tgt := 61) hx hb dX1_placeSteps_44 (by decide) (fun c_44 => ?_) (fun c_44 => ?_)
    · rw [if_pos c_44] at h
      exact wX1_placeSteps_j61 B hr hlk ih29 h0 h1 h2 h hR hl
    · rw [if_neg c_44] at h
      refine lv_aload_n hx hb dX1_placeSteps_47 rfl (lv_at hl 1 rfl) ?_
      refine lv_iload hx hb dX1_placeSteps_48 (lv_at hl 4 rfl) ?_
      refine lv_aload_n hx hb dX1_placeSteps_50 rfl (lv_at hl 2 rfl) ?_
      obtain ⟨r_51, hc_51, h⟩ := bi_el h
      refine is_X1_105 B hR hl.1 (mX1_stays fu _ h1 h2 hc_51) (Nat.le_of_ble_eq_true rfl) dX1_placeSteps_51 (fun H locs hR => ?_)
      refine lv_if_ne (tgt := 61) hx hb dX1_placeSteps_54 (by decide) (fun c_54 => ?_) (fun c_54 => ?_)
      · rw [if_neg c_54] at h
        exact wX1_placeSteps_j61 B hr hlk ih29 h0 h1 h2 h hR hl
      · rw [if_pos c_54] at h
        refine lv_iconst (v := 1) hx hb dX1_placeSteps_57 (by decide) ?_
        refine lv_goto (tgt := 62) hx hb dX1_placeSteps_58 (by decide) ?_
        exact wX1_placeSteps_j62 B hr hlk ih29 h0 h1 h2 h hR hl
def fX1_placeSteps_l29 (fu : Nat) (a0 : Nat) (a1 : Nat) (n2 : Nat) (a2 : Nat) (x3 : Int32) (x4 : Int32) (M : Mm) : Option Mm := lp (fun (rec : (Int32 × Int32 × Mm) → Option Mm) (s : Int32 × Int32 × Mm) => fX1_placeSteps_b29 fu  (fun x3 x4 M => rec (x3, x4, M)) a0 a1 n2 a2 s.1 s.2.1 s.2.2) fu (x3, x4, M)
set_option maxRecDepth 100000 in
set_option maxHeartbeats 4000000 in
theorem wX1_placeSteps_l29 {M' : Mm}   {a0 : Nat} {a1 : Nat} {n2 : Nat} {a2 : Nat} {x3 : Int32} {x4 : Int32} {M : Mm} (B : Bx p s m args c cX1_placeSteps 6 RX1 E L) (hr : meth.sig.returnType = none) (hlk : meth.locks = false)  (h0 : At L a0 T1) (h1 : At L a1 T8) (h2 : At L a2 (T0 n2)) (h : fX1_placeSteps_l29 fu a0 a1 n2 a2 x3 x4 M = some M') (hR : Rx s E L M H locs) (hl : lv_has ls 6 [(0, .ref a0), (1, .ref a1), (2, .ref a2), (3, .int x3), (4, .int x4)]) : W p l e (rmD (d + 2)) s m args below meth c H locs 0 0 (MQ below (QcM E L none M') args s 0 0 E.2.2.2) (F0 m 29 ls []) := by
  refine lp_G (G := fun z : Int32 × Int32 × Mm => ∀ (H : Heap) (locs : List Loc) (ls : Array Slot), Rx s E L z.2.2 H locs → lv_has ls 6 [(0, .ref a0), (1, .ref a1), (2, .ref a2), (3, .int z.1), (4, .int z.2.1)] → W p l e (rmD (d + 2)) s m args below meth c H locs 0 0 (MQ below (QcM E L none M') args s 0 0 E.2.2.2) (F0 m 29 ls [])) (fun rec ih z h H locs ls hR hl => ?_) fu _ h H locs ls hR hl
  exact wX1_placeSteps_b29 B hr hlk  (fun x3 x4 M h => ih (x3, x4, M) h) h0 h1 h2 h hR hl
def fX1_placeSteps_j24 (fu : Nat) (a0 : Nat) (a1 : Nat) (n2 : Nat) (a2 : Nat) (M : Mm) : Option Mm :=
  fX1_placeSteps_l29 fu a0 a1 n2 a2 0 0 M
set_option maxRecDepth 100000 in
set_option maxHeartbeats 4000000 in
theorem wX1_placeSteps_j24 {M' : Mm}   {a0 : Nat} {a1 : Nat} {n2 : Nat} {a2 : Nat} {M : Mm} (B : Bx p s m args c cX1_placeSteps 6 RX1 E L) (hr : meth.sig.returnType = none) (hlk : meth.locks = false)  (h0 : At L a0 T1) (h1 : At L a1 T8) (h2 : At L a2 (T0 n2)) (h : fX1_placeSteps_j24 fu a0 a1 n2 a2 M = some M') (hR : Rx s E L M H locs) (hl : lv_has ls 6 [(0, .ref a0), (1, .ref a1), (2, .ref a2)]) : W p l e (rmD (d + 2)) s m args below meth c H locs 0 0 (MQ below (QcM E L none M') args s 0 0 E.2.2.2) (F0 m 24 ls []) := by
  have hx := B.1
  have hb := B.2.1
  unfold fX1_placeSteps_j24 at h
  refine lv_iconst (v := 0) hx hb dX1_placeSteps_24 (by decide) ?_
  refine lv_istore_n (lv' := [(3, .int 0), (0, .ref a0), (1, .ref a1), (2, .ref a2)]) hx hb dX1_placeSteps_25 rfl hl (by decide) rfl (fun ls hl => ?_)
  refine lv_iconst (v := 0) hx hb dX1_placeSteps_26 (by decide) ?_
  refine lv_istore (lv' := [(4, .int 0), (3, .int 0), (0, .ref a0), (1, .ref a1), (2, .ref a2)]) hx hb dX1_placeSteps_27 hl (by decide) rfl (fun ls hl => ?_)
  exact wX1_placeSteps_l29 B hr hlk h0 h1 h2 h hR (lv_sub hl [2, 3, 4, 1, 0] rfl)
def fX1_placeSteps_b2 (fu : Nat) (k2 : Int32 → Mm → Option Mm) (a0 : Nat) (a1 : Nat) (n2 : Nat) (a2 : Nat) (x3 : Int32) (M : Mm) : Option Mm :=
  if 220 ≤ x3 then
    fX1_placeSteps_j24 fu a0 a1 n2 a2 M
  else
    if x3 < 0 ∨ 220 ≤ ix x3 then none else
    lt (wI M (a0 + 4) (ix x3) 0) fun M_17 =>
    lt (x3 + 1) fun x3_18 =>
    k2 x3_18 M_17
set_option maxRecDepth 100000 in
set_option maxHeartbeats 4000000 in
theorem wX1_placeSteps_b2 {M' : Mm}   {k2 : Int32 → Mm → Option Mm} {a0 : Nat} {a1 : Nat} {n2 : Nat} {a2 : Nat} {x3 : Int32} {M : Mm} (B : Bx p s m args c cX1_placeSteps 6 RX1 E L) (hr : meth.sig.returnType = none) (hlk : meth.locks = false)  (ih2 : ∀ (x3 : Int32) (M : Mm), k2 x3 M = some M' → ∀ (H : Heap) (locs : List Loc) (ls : Array Slot), Rx s E L M H locs → lv_has ls 6 [(0, .ref a0), (1, .ref a1), (2, .ref a2), (3, .int x3)] → W p l e (rmD (d + 2)) s m args below meth c H locs 0 0 (MQ below (QcM E L none M') args s 0 0 E.2.2.2) (F0 m 2 ls [])) (h0 : At L a0 T1) (h1 : At L a1 T8) (h2 : At L a2 (T0 n2)) (h : fX1_placeSteps_b2 fu k2 a0 a1 n2 a2 x3 M = some M') (hR : Rx s E L M H locs) (hl : lv_has ls 6 [(0, .ref a0), (1, .ref a1), (2, .ref a2), (3, .int x3)]) : W p l e (rmD (d + 2)) s m args below meth c H locs 0 0 (MQ below (QcM E L none M') args s 0 0 E.2.2.2) (F0 m 2 ls []) := by
  have hx := B.1
  have hb := B.2.1
  unfold fX1_placeSteps_b2 at h
  refine lv_iload_n hx hb dX1_placeSteps_2 rfl (lv_at hl 3 rfl) ?_
  refine lv_aload_n hx hb dX1_placeSteps_3 rfl (lv_at hl 0 rfl) ?_
  refine gf_X1_24 B hR (h0.at0 rfl) dX1_placeSteps_4 ?_
  refine r_alenI B hR (v := 220) (h0.at 4 rfl) (by decide) dX1_placeSteps_7 ?_
  refine lv_icmp_ge (tgt := 24) hx hb dX1_placeSteps_8 (by decide) (fun c_8 => ?_) (fun c_8 => ?_)
  · rw [if_pos c_8] at h
    exact wX1_placeSteps_j24 B hr hlk h0 h1 h2 h hR (lv_sub hl [0, 1, 2] rfl)
  · rw [if_neg c_8] at h
    refine lv_aload_n hx hb dX1_placeSteps_11 rfl (lv_at hl 0 rfl) ?_
    refine gf_X1_24 B hR (h0.at0 rfl) dX1_placeSteps_12 ?_
    refine lv_iload_n hx hb dX1_placeSteps_15 rfl (lv_at hl 3 rfl) ?_
    refine lv_iconst (v := 0) hx hb dX1_placeSteps_16 (by decide) ?_
    obtain ⟨hi_17, h⟩ := ifn_el h
    obtain ⟨M_17, eM_17, h⟩ := lt_el h
    refine r_iast B hR (h0.at 4 rfl) hi_17 dX1_placeSteps_17 (fun H locs hR => ?_)
    rw [← eM_17] at hR
    obtain ⟨x3_18, ex3_18, h⟩ := lt_el h
    refine lv_iinc (v := x3_18) (lv' := [(3, .int x3_18), (0, .ref a0), (1, .ref a1), (2, .ref a2)]) hx hb dX1_placeSteps_18 hl (k := 3) rfl (by rw [ex3_18]; rfl) (by decide) rfl (fun ls hl => ?_)
    refine lv_goto (tgt := 2) hx hb dX1_placeSteps_21 (by decide) ?_
    exact ih2 x3_18 M_17 h _ _ _ hR (lv_sub hl [1, 2, 3, 0] rfl)
def fX1_placeSteps_l2 (fu : Nat) (a0 : Nat) (a1 : Nat) (n2 : Nat) (a2 : Nat) (x3 : Int32) (M : Mm) : Option Mm := lp (fun (rec : (Int32 × Mm) → Option Mm) (s : Int32 × Mm) => fX1_placeSteps_b2 fu  (fun x3 M => rec (x3, M)) a0 a1 n2 a2 s.1 s.2) fu (x3, M)
set_option maxRecDepth 100000 in
set_option maxHeartbeats 4000000 in
theorem wX1_placeSteps_l2 {M' : Mm}   {a0 : Nat} {a1 : Nat} {n2 : Nat} {a2 : Nat} {x3 : Int32} {M : Mm} (B : Bx p s m args c cX1_placeSteps 6 RX1 E L) (hr : meth.sig.returnType = none) (hlk : meth.locks = false)  (h0 : At L a0 T1) (h1 : At L a1 T8) (h2 : At L a2 (T0 n2)) (h : fX1_placeSteps_l2 fu a0 a1 n2 a2 x3 M = some M') (hR : Rx s E L M H locs) (hl : lv_has ls 6 [(0, .ref a0), (1, .ref a1), (2, .ref a2), (3, .int x3)]) : W p l e (rmD (d + 2)) s m args below meth c H locs 0 0 (MQ below (QcM E L none M') args s 0 0 E.2.2.2) (F0 m 2 ls []) := by
  refine lp_G (G := fun z : Int32 × Mm => ∀ (H : Heap) (locs : List Loc) (ls : Array Slot), Rx s E L z.2 H locs → lv_has ls 6 [(0, .ref a0), (1, .ref a1), (2, .ref a2), (3, .int z.1)] → W p l e (rmD (d + 2)) s m args below meth c H locs 0 0 (MQ below (QcM E L none M') args s 0 0 E.2.2.2) (F0 m 2 ls [])) (fun rec ih z h H locs ls hR hl => ?_) fu _ h H locs ls hR hl
  exact wX1_placeSteps_b2 B hr hlk  (fun x3 M h => ih (x3, M) h) h0 h1 h2 h hR hl
def fX1_placeSteps (fu : Nat) (a0 : Nat) (a1 : Nat) (n2 : Nat) (a2 : Nat) (M : Mm) : Option Mm :=
  fX1_placeSteps_l2 fu a0 a1 n2 a2 0 M
set_option maxRecDepth 100000 in
set_option maxHeartbeats 4000000 in
theorem mX1_placeSteps {l : Launch} {E : Ge} {L : Lay} (fu d : Nat) {a0 : Nat} {a1 : Nat} {n2 : Nat} {a2 : Nat} {M : Mm} {M' : Mm}  (h0 : At L a0 T1) (h1 : At L a1 T8) (h2 : At L a2 (T0 n2)) (h : fX1_placeSteps fu a0 a1 n2 a2 M = some M') : Ct l E L yX1_placeSteps cX1_placeSteps 6 none (d + 2) [.ref a0, .ref a1, .ref a2] M none M' := by
  refine Ct.of (by decide) ?_
  intro p e s m below meth c hr hlk B hR
  have B : Bx p s m _ c cX1_placeSteps 6 RX1 E L := B
  have hx := B.1
  have hb := B.2.1
  have hl := lv_entry ([.ref a0, .ref a1, .ref a2]) (n := 6) (Nat.le_of_ble_eq_true rfl)
  rw [lg_entry_eq]
  generalize (lg_sl ([.ref a0, .ref a1, .ref a2]) ++ List.replicate (6 - (lg_sl ([.ref a0, .ref a1, .ref a2])).length) Slot.unset).toArray = ls at hl ⊢
  have hl : lv_has ls 6 [(0, .ref a0), (1, .ref a1), (2, .ref a2)] := hl
  unfold fX1_placeSteps at h
  refine lv_iconst (v := 0) hx hb dX1_placeSteps_0 (by decide) ?_
  refine lv_istore_n (lv' := [(3, .int 0), (0, .ref a0), (1, .ref a1), (2, .ref a2)]) hx hb dX1_placeSteps_1 rfl hl (by decide) rfl (fun ls hl => ?_)
  exact wX1_placeSteps_l2 B hr hlk h0 h1 h2 h hR (lv_sub hl [1, 2, 3, 0] rfl)
def fX1_allGoes (fu : Nat) (a0 : Nat) (M : Mm) : Option Int32 :=
  some ((1 <<< ((M.1 a0 0) &&& 31)) - 1)
set_option maxRecDepth 100000 in
set_option maxHeartbeats 4000000 in
theorem mX1_allGoes {l : Launch} {E : Ge} {L : Lay} (fu d : Nat) {a0 : Nat} {M : Mm} {r : Int32}  (h0 : At L a0 T1) (h : fX1_allGoes fu a0 M = some r) : Ct l E L yX1_allGoes cX1_allGoes 1 (some .int) (d + 0) [.ref a0] M (some (.int r)) M := by
  refine Ct.of (by decide) ?_
  intro p e s m below meth c hr hlk B hR
  have B : Bx p s m _ c cX1_allGoes 1 RX1 E L := B
  have hx := B.1
  have hb := B.2.1
  have hl := lv_entry ([.ref a0]) (n := 1) (Nat.le_of_ble_eq_true rfl)
  rw [lg_entry_eq]
  generalize (lg_sl ([.ref a0]) ++ List.replicate (1 - (lg_sl ([.ref a0])).length) Slot.unset).toArray = ls at hl ⊢
  have hl : lv_has ls 1 [(0, .ref a0)] := hl
  unfold fX1_allGoes at h
  refine lv_iconst (v := 1) hx hb dX1_allGoes_0 (by decide) ?_
  refine lv_aload_n hx hb dX1_allGoes_1 rfl (lv_at hl 0 rfl) ?_
  refine gf_X1_52 B hR (h0.at0 rfl) dX1_allGoes_2 ?_
  refine lv_ishl hx hb dX1_allGoes_5 ?_
  refine lv_iconst (v := 1) hx hb dX1_allGoes_6 (by decide) ?_
  refine lv_isub hx hb dX1_allGoes_7 ?_
  exact r_iretP B hR hr hlk h dX1_allGoes_8
def fX1_kindBehind_j58 (fu : Nat) (a0 : Nat) (x4 : Int32) (M : Mm) : Option Int32 :=
  bi (fX10_together fu x4 (M.1 a0 11)) fun r_64 =>
  some r_64
set_option maxRecDepth 100000 in
set_option maxHeartbeats 4000000 in
theorem wX1_kindBehind_j58 {r : Int32}   {a0 : Nat} {x4 : Int32} {M : Mm} (B : Bx p s m args c cX1_kindBehind 6 RX1 E L) (hr : meth.sig.returnType = (some .int)) (hlk : meth.locks = false)  (h0 : At L a0 T1) (h : fX1_kindBehind_j58 fu a0 x4 M = some r) (hR : Rx s E L M H locs) (hl : lv_has ls 6 [(0, .ref a0), (4, .int x4)]) : W p l e (rmD (d + 2)) s m args below meth c H locs 0 0 (MQ below (QcM E L (some (.int r)) M) args s 0 0 E.2.2.2) (F0 m 58 ls []) := by
  have hx := B.1
  have hb := B.2.1
  unfold fX1_kindBehind_j58 at h
  refine lv_iload hx hb dX1_kindBehind_58 (lv_at hl 1 rfl) ?_
  refine lv_aload_n hx hb dX1_kindBehind_60 rfl (lv_at hl 0 rfl) ?_
  refine gf_X1_72 B hR (h0.at0 rfl) dX1_kindBehind_61 ?_
  obtain ⟨r_64, hc_64, h⟩ := bi_el h
  refine is_X1_151 B hR hl.1 (mX10_together fu _  hc_64) (Nat.le_of_ble_eq_true rfl) dX1_kindBehind_64 (fun H locs hR => ?_)
  exact r_iretP B hR hr hlk h dX1_kindBehind_67
def fX1_kindBehind_j49 (fu : Nat) (k17 : Int32 → Int32 → Option Int32) (a0 : Nat) (x1 : Int32) (x3 : Int32) (x5 : Int32) (t0 : Int32) (t1 : Int32) (M : Mm) : Option Int32 :=
  lt ((t0 ||| t1)) fun x4_50 =>
  lt (x5 + 1) fun x5_52 =>
  k17 x4_50 x5_52
set_option maxRecDepth 100000 in
set_option maxHeartbeats 4000000 in
theorem wX1_kindBehind_j49 {r : Int32}  {k17 : Int32 → Int32 → Option Int32} {a0 : Nat} {x1 : Int32} {x3 : Int32} {x5 : Int32} {t0 : Int32} {t1 : Int32} {M : Mm} (B : Bx p s m args c cX1_kindBehind 6 RX1 E L) (hr : meth.sig.returnType = (some .int)) (hlk : meth.locks = false) (ih17 : ∀ (x4 : Int32) (x5 : Int32), k17 x4 x5 = some r → ∀ (H : Heap) (locs : List Loc) (ls : Array Slot), Rx s E L M H locs → lv_has ls 6 [(0, .ref a0), (1, .int x1), (3, .int x3), (4, .int x4), (5, .int x5)] → W p l e (rmD (d + 2)) s m args below meth c H locs 0 0 (MQ below (QcM E L (some (.int r)) M) args s 0 0 E.2.2.2) (F0 m 17 ls [])) (h0 : At L a0 T1) (h : fX1_kindBehind_j49 fu k17 a0 x1 x3 x5 t0 t1 M = some r) (hR : Rx s E L M H locs) (hl : lv_has ls 6 [(0, .ref a0), (1, .int x1), (3, .int x3), (5, .int x5)]) : W p l e (rmD (d + 2)) s m args below meth c H locs 0 0 (MQ below (QcM E L (some (.int r)) M) args s 0 0 E.2.2.2) (F0 m 49 ls [.int t1, .int t0]) := by
  have hx := B.1
  have hb := B.2.1
  unfold fX1_kindBehind_j49 at h
  refine lv_ior hx hb dX1_kindBehind_49 ?_
  obtain ⟨x4_50, ex4_50, h⟩ := lt_el h
  refine r_nmI ex4_50 ?_
  refine lv_istore (lv' := [(4, .int x4_50), (0, .ref a0), (1, .int x1), (3, .int x3), (5, .int x5)]) hx hb dX1_kindBehind_50 hl (by decide) rfl (fun ls hl => ?_)
  obtain ⟨x5_52, ex5_52, h⟩ := lt_el h
  refine lv_iinc (v := x5_52) (lv' := [(5, .int x5_52), (4, .int x4_50), (0, .ref a0), (1, .int x1), (3, .int x3)]) hx hb dX1_kindBehind_52 hl (k := 4) rfl (by rw [ex5_52]; rfl) (by decide) rfl (fun ls hl => ?_)
  refine lv_goto (tgt := 17) hx hb dX1_kindBehind_55 (by decide) ?_
  exact ih17 x4_50 x5_52 h _ _ _ hR (lv_sub hl [2, 3, 4, 1, 0] rfl)
def fX1_kindBehind_b17 (fu : Nat) (k17 : Int32 → Int32 → Option Int32) (a0 : Nat) (x1 : Int32) (x3 : Int32) (x4 : Int32) (x5 : Int32) (M : Mm) : Option Int32 :=
  if 5 ≤ x5 then
    fX1_kindBehind_j58 fu a0 x4 M
  else
    if ((x1 * 5) + x5) < 0 ∨ 220 ≤ ix ((x1 * 5) + x5) then none else
    if ((M.1 (a0 + 4) (ix ((x1 * 5) + x5))) &&& x3) = 0 then
      fX1_kindBehind_j49 fu k17 a0 x1 x3 x5 x4 0 M
    else
      fX1_kindBehind_j49 fu k17 a0 x1 x3 x5 x4 (1 <<< (x5 &&& 31)) M
set_option maxRecDepth 100000 in
set_option maxHeartbeats 4000000 in
theorem wX1_kindBehind_b17 {r : Int32}   {k17 : Int32 → Int32 → Option Int32} {a0 : Nat} {x1 : Int32} {x3 : Int32} {x4 : Int32} {x5 : Int32} {M : Mm} (B : Bx p s m args c cX1_kindBehind 6 RX1 E L) (hr : meth.sig.returnType = (some .int)) (hlk : meth.locks = false)  (ih17 : ∀ (x4 : Int32) (x5 : Int32), k17 x4 x5 = some r → ∀ (H : Heap) (locs : List Loc) (ls : Array Slot), Rx s E L M H locs → lv_has ls 6 [(0, .ref a0), (1, .int x1), (3, .int x3), (4, .int x4), (5, .int x5)] → W p l e (rmD (d + 2)) s m args below meth c H locs 0 0 (MQ below (QcM E L (some (.int r)) M) args s 0 0 E.2.2.2) (F0 m 17 ls [])) (h0 : At L a0 T1) (h : fX1_kindBehind_b17 fu k17 a0 x1 x3 x4 x5 M = some r) (hR : Rx s E L M H locs) (hl : lv_has ls 6 [(0, .ref a0), (1, .int x1), (3, .int x3), (4, .int x4), (5, .int x5)]) : W p l e (rmD (d + 2)) s m args below meth c H locs 0 0 (MQ below (QcM E L (some (.int r)) M) args s 0 0 E.2.2.2) (F0 m 17 ls []) := by
  have hx := B.1
  have hb := B.2.1
  unfold fX1_kindBehind_b17 at h
  refine lv_iload hx hb dX1_kindBehind_17 (lv_at hl 4 rfl) ?_
  refine lv_iconst (v := 5) hx hb dX1_kindBehind_19 (by decide) ?_
  refine lv_icmp_ge (tgt := 58) hx hb dX1_kindBehind_20 (by decide) (fun c_20 => ?_) (fun c_20 => ?_)
  · rw [if_pos c_20] at h
    exact wX1_kindBehind_j58 B hr hlk h0 h hR (lv_sub hl [0, 3] rfl)
  · rw [if_neg c_20] at h
    refine lv_iload hx hb dX1_kindBehind_23 (lv_at hl 3 rfl) ?_
    refine lv_aload_n hx hb dX1_kindBehind_25 rfl (lv_at hl 0 rfl) ?_
    refine gf_X1_24 B hR (h0.at0 rfl) dX1_kindBehind_26 ?_
    refine lv_iload_n hx hb dX1_kindBehind_29 rfl (lv_at hl 1 rfl) ?_
    refine lv_iconst (v := 5) hx hb dX1_kindBehind_30 (by decide) ?_
    refine lv_imul hx hb dX1_kindBehind_31 ?_
    refine lv_iload hx hb dX1_kindBehind_32 (lv_at hl 4 rfl) ?_
    refine lv_iadd hx hb dX1_kindBehind_34 ?_
    obtain ⟨hi_35, h⟩ := ifn_el h
    refine r_iald B hR (h0.at 4 rfl) hi_35 dX1_kindBehind_35 ?_
    refine lv_iload_n hx hb dX1_kindBehind_36 rfl (lv_at hl 2 rfl) ?_
    refine lv_iand hx hb dX1_kindBehind_37 ?_
    refine lv_if_eq (tgt := 48) hx hb dX1_kindBehind_38 (by decide) (fun c_38 => ?_) (fun c_38 => ?_)
    · rw [if_pos c_38] at h
      refine lv_iconst (v := 0) hx hb dX1_kindBehind_48 (by decide) ?_
      exact wX1_kindBehind_j49 B hr hlk ih17 h0 h hR (lv_sub hl [0, 1, 2, 4] rfl)
    · rw [if_neg c_38] at h
      refine lv_iconst (v := 1) hx hb dX1_kindBehind_41 (by decide) ?_
      refine lv_iload hx hb dX1_kindBehind_42 (lv_at hl 4 rfl) ?_
      refine lv_ishl hx hb dX1_kindBehind_44 ?_
      refine lv_goto (tgt := 49) hx hb dX1_kindBehind_45 (by decide) ?_
      exact wX1_kindBehind_j49 B hr hlk ih17 h0 h hR (lv_sub hl [0, 1, 2, 4] rfl)
def fX1_kindBehind_l17 (fu : Nat) (a0 : Nat) (x1 : Int32) (x3 : Int32) (M : Mm) (x4 : Int32) (x5 : Int32) : Option Int32 := lp (fun (rec : (Int32 × Int32) → Option Int32) (s : Int32 × Int32) => fX1_kindBehind_b17 fu  (fun x4 x5 => rec (x4, x5)) a0 x1 x3 s.1 s.2 M) fu (x4, x5)
set_option maxRecDepth 100000 in
set_option maxHeartbeats 4000000 in
theorem wX1_kindBehind_l17 {r : Int32}   {a0 : Nat} {x1 : Int32} {x3 : Int32} {x4 : Int32} {x5 : Int32} {M : Mm} (B : Bx p s m args c cX1_kindBehind 6 RX1 E L) (hr : meth.sig.returnType = (some .int)) (hlk : meth.locks = false)  (h0 : At L a0 T1) (h : fX1_kindBehind_l17 fu a0 x1 x3 M x4 x5 = some r) (hR : Rx s E L M H locs) (hl : lv_has ls 6 [(0, .ref a0), (1, .int x1), (3, .int x3), (4, .int x4), (5, .int x5)]) : W p l e (rmD (d + 2)) s m args below meth c H locs 0 0 (MQ below (QcM E L (some (.int r)) M) args s 0 0 E.2.2.2) (F0 m 17 ls []) := by
  refine lp_G (G := fun z : Int32 × Int32 => ∀ (H : Heap) (locs : List Loc) (ls : Array Slot), Rx s E L M H locs → lv_has ls 6 [(0, .ref a0), (1, .int x1), (3, .int x3), (4, .int z.1), (5, .int z.2)] → W p l e (rmD (d + 2)) s m args below meth c H locs 0 0 (MQ below (QcM E L (some (.int r)) M) args s 0 0 E.2.2.2) (F0 m 17 ls [])) (fun rec ih z h H locs ls hR hl => ?_) fu _ h H locs ls hR hl
  exact wX1_kindBehind_b17 B hr hlk  (fun x4 x5 h => ih (x4, x5) h) h0 h hR hl
def fX1_kindBehind (fu : Nat) (a0 : Nat) (x1 : Int32) (x2 : Int32) (M : Mm) : Option Int32 :=
  bi (fX1_allGoes fu a0 M) fun r_2 =>
  lt (((x2 ^^^ r_2) ||| 4096)) fun x3_10 =>
  fX1_kindBehind_l17 fu a0 x1 x3_10 M 0 0
set_option maxRecDepth 100000 in
set_option maxHeartbeats 4000000 in
theorem mX1_kindBehind {l : Launch} {E : Ge} {L : Lay} (fu d : Nat) {a0 : Nat} {x1 : Int32} {x2 : Int32} {M : Mm} {r : Int32}  (h0 : At L a0 T1) (h : fX1_kindBehind fu a0 x1 x2 M = some r) : Ct l E L yX1_kindBehind cX1_kindBehind 6 (some .int) (d + 2) [.ref a0, .int x1, .int x2] M (some (.int r)) M := by
  refine Ct.of (by decide) ?_
  intro p e s m below meth c hr hlk B hR
  have B : Bx p s m _ c cX1_kindBehind 6 RX1 E L := B
  have hx := B.1
  have hb := B.2.1
  have hl := lv_entry ([.ref a0, .int x1, .int x2]) (n := 6) (Nat.le_of_ble_eq_true rfl)
  rw [lg_entry_eq]
  generalize (lg_sl ([.ref a0, .int x1, .int x2]) ++ List.replicate (6 - (lg_sl ([.ref a0, .int x1, .int x2])).length) Slot.unset).toArray = ls at hl ⊢
  have hl : lv_has ls 6 [(0, .ref a0), (1, .int x1), (2, .int x2)] := hl
  unfold fX1_kindBehind at h
  refine lv_iload_n hx hb dX1_kindBehind_0 rfl (lv_at hl 2 rfl) ?_
  refine lv_aload_n hx hb dX1_kindBehind_1 rfl (lv_at hl 0 rfl) ?_
  obtain ⟨r_2, hc_2, h⟩ := bi_el h
  refine iv_X1_148 B hR (h0.at0 rfl) hl.1 (mX1_allGoes fu _ h0 hc_2) (Nat.le_of_ble_eq_true rfl) dX1_kindBehind_2 (fun H locs hR => ?_)
  refine lv_ixor hx hb dX1_kindBehind_5 ?_
  refine lv_sipush (v := 4096) hx hb dX1_kindBehind_6 (by decide) ?_
  refine lv_ior hx hb dX1_kindBehind_9 ?_
  obtain ⟨x3_10, ex3_10, h⟩ := lt_el h
  refine r_nmI ex3_10 ?_
  refine lv_istore_n (lv' := [(3, .int x3_10), (0, .ref a0), (1, .int x1), (2, .int x2)]) hx hb dX1_kindBehind_10 rfl hl (by decide) rfl (fun ls hl => ?_)
  refine lv_iconst (v := 0) hx hb dX1_kindBehind_11 (by decide) ?_
  refine lv_istore (lv' := [(4, .int 0), (3, .int x3_10), (0, .ref a0), (1, .int x1), (2, .int x2)]) hx hb dX1_kindBehind_12 hl (by decide) rfl (fun ls hl => ?_)
  refine lv_iconst (v := 0) hx hb dX1_kindBehind_14 (by decide) ?_
  refine lv_istore (lv' := [(5, .int 0), (4, .int 0), (3, .int x3_10), (0, .ref a0), (1, .int x1), (2, .int x2)]) hx hb dX1_kindBehind_15 hl (by decide) rfl (fun ls hl => ?_)
  exact wX1_kindBehind_l17 B hr hlk h0 h hR (lv_sub hl [3, 4, 2, 1, 0] rfl)
def fX1_allSteps (fu : Nat) (a0 : Nat) (M : Mm) : Option Int32 :=
  some ((1 <<< (((M.1 a0 0) + (M.1 a0 1)) &&& 31)) - 1)
set_option maxRecDepth 100000 in
set_option maxHeartbeats 4000000 in
theorem mX1_allSteps {l : Launch} {E : Ge} {L : Lay} (fu d : Nat) {a0 : Nat} {M : Mm} {r : Int32}  (h0 : At L a0 T1) (h : fX1_allSteps fu a0 M = some r) : Ct l E L yX1_allSteps cX1_allSteps 1 (some .int) (d + 0) [.ref a0] M (some (.int r)) M := by
  refine Ct.of (by decide) ?_
  intro p e s m below meth c hr hlk B hR
  have B : Bx p s m _ c cX1_allSteps 1 RX1 E L := B
  have hx := B.1
  have hb := B.2.1
  have hl := lv_entry ([.ref a0]) (n := 1) (Nat.le_of_ble_eq_true rfl)
  rw [lg_entry_eq]
  generalize (lg_sl ([.ref a0]) ++ List.replicate (1 - (lg_sl ([.ref a0])).length) Slot.unset).toArray = ls at hl ⊢
  have hl : lv_has ls 1 [(0, .ref a0)] := hl
  unfold fX1_allSteps at h
  refine lv_iconst (v := 1) hx hb dX1_allSteps_0 (by decide) ?_
  refine lv_aload_n hx hb dX1_allSteps_1 rfl (lv_at hl 0 rfl) ?_
  refine gf_X1_52 B hR (h0.at0 rfl) dX1_allSteps_2 ?_
  refine lv_aload_n hx hb dX1_allSteps_5 rfl (lv_at hl 0 rfl) ?_
  refine gf_X1_55 B hR (h0.at0 rfl) dX1_allSteps_6 ?_
  refine lv_iadd hx hb dX1_allSteps_9 ?_
  refine lv_ishl hx hb dX1_allSteps_10 ?_
  refine lv_iconst (v := 1) hx hb dX1_allSteps_11 (by decide) ?_
  refine lv_isub hx hb dX1_allSteps_12 ?_
  exact r_iretP B hR hr hlk h dX1_allSteps_13
def fX1_hasRoom_j31 (fu : Nat) (t0 : Int32) (M : Mm) : Option Int32 :=
  gd (t0 = 0 ∨ t0 = 1) <|
  some t0
set_option maxRecDepth 100000 in
set_option maxHeartbeats 4000000 in
theorem wX1_hasRoom_j31 {r : Int32}   {t0 : Int32} {M : Mm} (B : Bx p s m args c cX1_hasRoom 2 RX1 E L) (hr : meth.sig.returnType = (some .boolean)) (hlk : meth.locks = false)   (h : fX1_hasRoom_j31 fu t0 M = some r) (hR : Rx s E L M H locs) (hl : lv_has ls 2 []) : W p l e (rmD (d + 1)) s m args below meth c H locs 0 0 (MQ below (QcM E L (some (.int r)) M) args s 0 0 E.2.2.2) (F0 m 31 ls [.int t0]) := by
  have hx := B.1
  have hb := B.2.1
  unfold fX1_hasRoom_j31 at h
  obtain ⟨hz_31, h⟩ := gd_el h
  exact r_zretP B hR hr hlk hz_31 h dX1_hasRoom_31
def fX1_hasRoom (fu : Nat) (a0 : Nat) (x1 : Int32) (M : Mm) : Option Int32 :=
  bi (fX1_allGoes fu a0 M) fun r_6 =>
  bi (fJ6_bitCount_0f7a4 fu (x1 &&& r_6)) fun r_10 =>
  bi (fJ6_bitCount_0f7a4 fu (x1 >>> ((M.1 a0 0) &&& 31))) fun r_20 =>
  if ((M.1 a0 12) + r_10) ≤ r_20 then
    fX1_hasRoom_j31 fu 0 M
  else
    fX1_hasRoom_j31 fu 1 M
set_option maxRecDepth 100000 in
set_option maxHeartbeats 4000000 in
theorem mX1_hasRoom {l : Launch} {E : Ge} {L : Lay} (fu d : Nat) {a0 : Nat} {x1 : Int32} {M : Mm} {r : Int32}  (h0 : At L a0 T1) (h : fX1_hasRoom fu a0 x1 M = some r) : Ct l E L yX1_hasRoom cX1_hasRoom 2 (some .boolean) (d + 1) [.ref a0, .int x1] M (some (.int r)) M := by
  refine Ct.of (by decide) ?_
  intro p e s m below meth c hr hlk B hR
  have B : Bx p s m _ c cX1_hasRoom 2 RX1 E L := B
  have hx := B.1
  have hb := B.2.1
  have hl := lv_entry ([.ref a0, .int x1]) (n := 2) (Nat.le_of_ble_eq_true rfl)
  rw [lg_entry_eq]
  generalize (lg_sl ([.ref a0, .int x1]) ++ List.replicate (2 - (lg_sl ([.ref a0, .int x1])).length) Slot.unset).toArray = ls at hl ⊢
  have hl : lv_has ls 2 [(0, .ref a0), (1, .int x1)] := hl
  unfold fX1_hasRoom at h
  refine lv_aload_n hx hb dX1_hasRoom_0 rfl (lv_at hl 0 rfl) ?_
  refine gf_X1_77 B hR (h0.at0 rfl) dX1_hasRoom_1 ?_
  refine lv_iload_n hx hb dX1_hasRoom_4 rfl (lv_at hl 1 rfl) ?_
  refine lv_aload_n hx hb dX1_hasRoom_5 rfl (lv_at hl 0 rfl) ?_
  obtain ⟨r_6, hc_6, h⟩ := bi_el h
  refine iv_X1_148 B hR (h0.at0 rfl) hl.1 (mX1_allGoes fu _ h0 hc_6) (Nat.le_of_ble_eq_true rfl) dX1_hasRoom_6 (fun H locs hR => ?_)
  refine lv_iand hx hb dX1_hasRoom_9 ?_
  obtain ⟨r_10, hc_10, h⟩ := bi_el h
  refine is_X1_154 B hR hl.1 (mJ6_bitCount_0f7a4 fu _  hc_10) (Nat.le_of_ble_eq_true rfl) dX1_hasRoom_10 (fun H locs hR => ?_)
  refine lv_iadd hx hb dX1_hasRoom_13 ?_
  refine lv_iload_n hx hb dX1_hasRoom_14 rfl (lv_at hl 1 rfl) ?_
  refine lv_aload_n hx hb dX1_hasRoom_15 rfl (lv_at hl 0 rfl) ?_
  refine gf_X1_52 B hR (h0.at0 rfl) dX1_hasRoom_16 ?_
  refine lv_ishr hx hb dX1_hasRoom_19 ?_
  obtain ⟨r_20, hc_20, h⟩ := bi_el h
  refine is_X1_154 B hR hl.1 (mJ6_bitCount_0f7a4 fu _  hc_20) (Nat.le_of_ble_eq_true rfl) dX1_hasRoom_20 (fun H locs hR => ?_)
  refine lv_icmp_le (tgt := 30) hx hb dX1_hasRoom_23 (by decide) (fun c_23 => ?_) (fun c_23 => ?_)
  · rw [if_pos c_23] at h
    refine lv_iconst (v := 0) hx hb dX1_hasRoom_30 (by decide) ?_
    exact wX1_hasRoom_j31 B hr hlk  h hR (lv_sub hl [] rfl)
  · rw [if_neg c_23] at h
    refine lv_iconst (v := 1) hx hb dX1_hasRoom_26 (by decide) ?_
    refine lv_goto (tgt := 31) hx hb dX1_hasRoom_27 (by decide) ?_
    exact wX1_hasRoom_j31 B hr hlk  h hR (lv_sub hl [] rfl)
def fX1_isDeadEnd_j26 (fu : Nat) (t0 : Int32) (M : Mm) : Option Int32 :=
  gd (t0 = 0 ∨ t0 = 1) <|
  some t0
set_option maxRecDepth 100000 in
set_option maxHeartbeats 4000000 in
theorem wX1_isDeadEnd_j26 {r : Int32}   {t0 : Int32} {M : Mm} (B : Bx p s m args c cX1_isDeadEnd 2 RX1 E L) (hr : meth.sig.returnType = (some .boolean)) (hlk : meth.locks = false)   (h : fX1_isDeadEnd_j26 fu t0 M = some r) (hR : Rx s E L M H locs) (hl : lv_has ls 2 []) : W p l e (rmD (d + 0)) s m args below meth c H locs 0 0 (MQ below (QcM E L (some (.int r)) M) args s 0 0 E.2.2.2) (F0 m 26 ls [.int t0]) := by
  have hx := B.1
  have hb := B.2.1
  unfold fX1_isDeadEnd_j26 at h
  obtain ⟨hz_26, h⟩ := gd_el h
  exact r_zretP B hR hr hlk hz_26 h dX1_isDeadEnd_26
def fX1_isDeadEnd (fu : Nat) (a0 : Nat) (x1 : Int32) (M : Mm) : Option Int32 :=
  if (x1 >>> (6 &&& 31)) < 0 ∨ 64 ≤ ix (x1 >>> (6 &&& 31)) then none else
  if (lg_cmp (((M.2.1 (a0 + 7) (ix (x1 >>> (6 &&& 31)))) >>> (((x1 &&& 63) : Int32).toInt64 &&& 63)) &&& (1 : Int64)) (0 : Int64)) = 0 then
    fX1_isDeadEnd_j26 fu 0 M
  else
    fX1_isDeadEnd_j26 fu 1 M
set_option maxRecDepth 100000 in
set_option maxHeartbeats 4000000 in
theorem mX1_isDeadEnd {l : Launch} {E : Ge} {L : Lay} (fu d : Nat) {a0 : Nat} {x1 : Int32} {M : Mm} {r : Int32}  (h0 : At L a0 T1) (h : fX1_isDeadEnd fu a0 x1 M = some r) : Ct l E L yX1_isDeadEnd cX1_isDeadEnd 2 (some .boolean) (d + 0) [.ref a0, .int x1] M (some (.int r)) M := by
  refine Ct.of (by decide) ?_
  intro p e s m below meth c hr hlk B hR
  have B : Bx p s m _ c cX1_isDeadEnd 2 RX1 E L := B
  have hx := B.1
  have hb := B.2.1
  have hl := lv_entry ([.ref a0, .int x1]) (n := 2) (Nat.le_of_ble_eq_true rfl)
  rw [lg_entry_eq]
  generalize (lg_sl ([.ref a0, .int x1]) ++ List.replicate (2 - (lg_sl ([.ref a0, .int x1])).length) Slot.unset).toArray = ls at hl ⊢
  have hl : lv_has ls 2 [(0, .ref a0), (1, .int x1)] := hl
  unfold fX1_isDeadEnd at h
  refine lv_aload_n hx hb dX1_isDeadEnd_0 rfl (lv_at hl 0 rfl) ?_
  refine gf_X1_33 B hR (h0.at0 rfl) dX1_isDeadEnd_1 ?_
  refine lv_iload_n hx hb dX1_isDeadEnd_4 rfl (lv_at hl 1 rfl) ?_
  refine lv_bipush (v := 6) hx hb dX1_isDeadEnd_5 (by decide) ?_
  refine lv_ishr hx hb dX1_isDeadEnd_7 ?_
  obtain ⟨hi_8, h⟩ := ifn_el h
  refine r_lald B hR (h0.at 7 rfl) hi_8 dX1_isDeadEnd_8 ?_
  refine lv_iload_n hx hb dX1_isDeadEnd_9 rfl (lv_at hl 1 rfl) ?_
  refine lv_bipush (v := 63) hx hb dX1_isDeadEnd_10 (by decide) ?_
  refine lv_iand hx hb dX1_isDeadEnd_12 ?_
  refine lv_lshr hx hb dX1_isDeadEnd_13 rfl ?_
  refine lv_lconst (v := 1) hx hb dX1_isDeadEnd_14 (by decide) ?_
  refine lv_land hx hb dX1_isDeadEnd_15 ?_
  refine lv_lconst (v := 0) hx hb dX1_isDeadEnd_16 (by decide) ?_
  refine W.lcmp hx hb dX1_isDeadEnd_17 ?_
  refine lv_if_eq (tgt := 25) hx hb dX1_isDeadEnd_18 (by decide) (fun c_18 => ?_) (fun c_18 => ?_)
  · rw [if_pos c_18] at h
    refine lv_iconst (v := 0) hx hb dX1_isDeadEnd_25 (by decide) ?_
    exact wX1_isDeadEnd_j26 B hr hlk  h hR (lv_sub hl [] rfl)
  · rw [if_neg c_18] at h
    refine lv_iconst (v := 1) hx hb dX1_isDeadEnd_21 (by decide) ?_
    refine lv_goto (tgt := 26) hx hb dX1_isDeadEnd_22 (by decide) ?_
    exact wX1_isDeadEnd_j26 B hr hlk  h hR (lv_sub hl [] rfl)
def fX1_isSafe_j70 (fu : Nat) (M : Mm) : Option Int32 :=
  some 1
set_option maxRecDepth 100000 in
set_option maxHeartbeats 4000000 in
theorem wX1_isSafe_j70 {r : Int32}    {M : Mm} (B : Bx p s m args c cX1_isSafe 4 RX1 E L) (hr : meth.sig.returnType = (some .boolean)) (hlk : meth.locks = false)   (h : fX1_isSafe_j70 fu M = some r) (hR : Rx s E L M H locs) (hl : lv_has ls 4 []) : W p l e (rmD (d + 3)) s m args below meth c H locs 0 0 (MQ below (QcM E L (some (.int r)) M) args s 0 0 E.2.2.2) (F0 m 70 ls []) := by
  have hx := B.1
  have hb := B.2.1
  unfold fX1_isSafe_j70 at h
  refine lv_iconst (v := 1) hx hb dX1_isSafe_70 (by decide) ?_
  exact r_zretP B hR hr hlk (Or.inr rfl) h dX1_isSafe_71
def fX1_isSafe_j64 (fu : Nat) (k2 : Int32 → Option Int32) (a0 : Nat) (x1 : Int32) (x2 : Int32) (M : Mm) : Option Int32 :=
  lt (x2 + 1) fun x2_64 =>
  k2 x2_64
set_option maxRecDepth 100000 in
set_option maxHeartbeats 4000000 in
theorem wX1_isSafe_j64 {r : Int32}  {k2 : Int32 → Option Int32} {a0 : Nat} {x1 : Int32} {x2 : Int32} {M : Mm} (B : Bx p s m args c cX1_isSafe 4 RX1 E L) (hr : meth.sig.returnType = (some .boolean)) (hlk : meth.locks = false) (ih2 : ∀ (x2 : Int32), k2 x2 = some r → ∀ (H : Heap) (locs : List Loc) (ls : Array Slot), Rx s E L M H locs → lv_has ls 4 [(0, .ref a0), (1, .int x1), (2, .int x2)] → W p l e (rmD (d + 3)) s m args below meth c H locs 0 0 (MQ below (QcM E L (some (.int r)) M) args s 0 0 E.2.2.2) (F0 m 2 ls [])) (h0 : At L a0 T1) (h : fX1_isSafe_j64 fu k2 a0 x1 x2 M = some r) (hR : Rx s E L M H locs) (hl : lv_has ls 4 [(0, .ref a0), (1, .int x1), (2, .int x2)]) : W p l e (rmD (d + 3)) s m args below meth c H locs 0 0 (MQ below (QcM E L (some (.int r)) M) args s 0 0 E.2.2.2) (F0 m 64 ls []) := by
  have hx := B.1
  have hb := B.2.1
  unfold fX1_isSafe_j64 at h
  obtain ⟨x2_64, ex2_64, h⟩ := lt_el h
  refine lv_iinc (v := x2_64) (lv' := [(2, .int x2_64), (0, .ref a0), (1, .int x1)]) hx hb dX1_isSafe_64 hl (k := 2) rfl (by rw [ex2_64]; rfl) (by decide) rfl (fun ls hl => ?_)
  refine lv_goto (tgt := 2) hx hb dX1_isSafe_67 (by decide) ?_
  exact ih2 x2_64 h _ _ _ hR (lv_sub hl [1, 2, 0] rfl)
def fX1_isSafe_j62 (fu : Nat) (M : Mm) : Option Int32 :=
  some 0
set_option maxRecDepth 100000 in
set_option maxHeartbeats 4000000 in
theorem wX1_isSafe_j62 {r : Int32}    {M : Mm} (B : Bx p s m args c cX1_isSafe 4 RX1 E L) (hr : meth.sig.returnType = (some .boolean)) (hlk : meth.locks = false)   (h : fX1_isSafe_j62 fu M = some r) (hR : Rx s E L M H locs) (hl : lv_has ls 4 []) : W p l e (rmD (d + 3)) s m args below meth c H locs 0 0 (MQ below (QcM E L (some (.int r)) M) args s 0 0 E.2.2.2) (F0 m 62 ls []) := by
  have hx := B.1
  have hb := B.2.1
  unfold fX1_isSafe_j62 at h
  refine lv_iconst (v := 0) hx hb dX1_isSafe_62 (by decide) ?_
  exact r_zretP B hR hr hlk (Or.inl rfl) h dX1_isSafe_63
def fX1_isSafe_b2 (fu : Nat) (k2 : Int32 → Option Int32) (a0 : Nat) (x1 : Int32) (x2 : Int32) (M : Mm) : Option Int32 :=
  if (M.1 (a0 + 2) 1) ≤ (x2 + 1) then
    fX1_isSafe_j70 fu M
  else
    if x2 < 0 ∨ 44 ≤ ix x2 then none else
    if (M.1 ((a0 + 2) + 1) (ix x2)) < (M.1 a0 10) then
      fX1_isSafe_j64 fu k2 a0 x1 x2 M
    else
      bi (fX1_kindBehind fu a0 x2 x1 M) fun r_34 =>
      if r_34 = 0 then
        fX1_isSafe_j64 fu k2 a0 x1 x2 M
      else
        if r_34 = (M.1 (a0 + 5) (ix x2)) then
          fX1_isSafe_j64 fu k2 a0 x1 x2 M
        else
          if r_34 = (M.1 (a0 + 6) (ix x2)) then
            fX1_isSafe_j64 fu k2 a0 x1 x2 M
          else
            fX1_isSafe_j62 fu M
set_option maxRecDepth 100000 in
set_option maxHeartbeats 4000000 in
theorem wX1_isSafe_b2 {r : Int32}   {k2 : Int32 → Option Int32} {a0 : Nat} {x1 : Int32} {x2 : Int32} {M : Mm} (B : Bx p s m args c cX1_isSafe 4 RX1 E L) (hr : meth.sig.returnType = (some .boolean)) (hlk : meth.locks = false)  (ih2 : ∀ (x2 : Int32), k2 x2 = some r → ∀ (H : Heap) (locs : List Loc) (ls : Array Slot), Rx s E L M H locs → lv_has ls 4 [(0, .ref a0), (1, .int x1), (2, .int x2)] → W p l e (rmD (d + 3)) s m args below meth c H locs 0 0 (MQ below (QcM E L (some (.int r)) M) args s 0 0 E.2.2.2) (F0 m 2 ls [])) (h0 : At L a0 T1) (h : fX1_isSafe_b2 fu k2 a0 x1 x2 M = some r) (hR : Rx s E L M H locs) (hl : lv_has ls 4 [(0, .ref a0), (1, .int x1), (2, .int x2)]) : W p l e (rmD (d + 3)) s m args below meth c H locs 0 0 (MQ below (QcM E L (some (.int r)) M) args s 0 0 E.2.2.2) (F0 m 2 ls []) := by
  have hx := B.1
  have hb := B.2.1
  unfold fX1_isSafe_b2 at h
  refine lv_iload_n hx hb dX1_isSafe_2 rfl (lv_at hl 2 rfl) ?_
  refine lv_iconst (v := 1) hx hb dX1_isSafe_3 (by decide) ?_
  refine lv_iadd hx hb dX1_isSafe_4 ?_
  refine lv_aload_n hx hb dX1_isSafe_5 rfl (lv_at hl 0 rfl) ?_
  refine gf_X1_20 B hR (h0.at0 rfl) dX1_isSafe_6 ?_
  refine gf_X1_86 B hR ((sb_1_5 h0).at0 rfl) dX1_isSafe_9 ?_
  refine lv_icmp_ge (tgt := 70) hx hb dX1_isSafe_12 (by decide) (fun c_12 => ?_) (fun c_12 => ?_)
  · rw [if_pos c_12] at h
    exact wX1_isSafe_j70 B hr hlk  h hR (lv_sub hl [] rfl)
  · rw [if_neg c_12] at h
    refine lv_aload_n hx hb dX1_isSafe_15 rfl (lv_at hl 0 rfl) ?_
    refine gf_X1_20 B hR (h0.at0 rfl) dX1_isSafe_16 ?_
    refine gf_X1_98 B hR ((sb_1_5 h0).at0 rfl) dX1_isSafe_19 ?_
    refine lv_iload_n hx hb dX1_isSafe_22 rfl (lv_at hl 2 rfl) ?_
    obtain ⟨hi_23, h⟩ := ifn_el h
    refine r_iald B hR ((sb_1_5 h0).at 1 rfl) hi_23 dX1_isSafe_23 ?_
    refine lv_aload_n hx hb dX1_isSafe_24 rfl (lv_at hl 0 rfl) ?_
    refine gf_X1_68 B hR (h0.at0 rfl) dX1_isSafe_25 ?_
    refine lv_icmp_lt (tgt := 64) hx hb dX1_isSafe_28 (by decide) (fun c_28 => ?_) (fun c_28 => ?_)
    · rw [if_pos c_28] at h
      exact wX1_isSafe_j64 B hr hlk ih2 h0 h hR hl
    · rw [if_neg c_28] at h
      refine lv_aload_n hx hb dX1_isSafe_31 rfl (lv_at hl 0 rfl) ?_
      refine lv_iload_n hx hb dX1_isSafe_32 rfl (lv_at hl 2 rfl) ?_
      refine lv_iload_n hx hb dX1_isSafe_33 rfl (lv_at hl 1 rfl) ?_
      obtain ⟨r_34, hc_34, h⟩ := bi_el h
      refine iv_X1_87 B hR (h0.at0 rfl) hl.1 (mX1_kindBehind fu _ h0 hc_34) (Nat.le_of_ble_eq_true rfl) dX1_isSafe_34 (fun H locs hR => ?_)
      refine lv_istore_n (lv' := [(3, .int r_34), (0, .ref a0), (1, .int x1), (2, .int x2)]) hx hb dX1_isSafe_37 rfl hl (by decide) rfl (fun ls hl => ?_)
      refine lv_iload_n hx hb dX1_isSafe_38 rfl (lv_at hl 0 rfl) ?_
      refine lv_if_eq (tgt := 64) hx hb dX1_isSafe_39 (by decide) (fun c_39 => ?_) (fun c_39 => ?_)
      · rw [if_pos c_39] at h
        exact wX1_isSafe_j64 B hr hlk ih2 h0 h hR (lv_sub hl [1, 2, 3] rfl)
      · rw [if_neg c_39] at h
        refine lv_iload_n hx hb dX1_isSafe_42 rfl (lv_at hl 0 rfl) ?_
        refine lv_aload_n hx hb dX1_isSafe_43 rfl (lv_at hl 1 rfl) ?_
        refine gf_X1_27 B hR (h0.at0 rfl) dX1_isSafe_44 ?_
        refine lv_iload_n hx hb dX1_isSafe_47 rfl (lv_at hl 3 rfl) ?_
        refine r_iald B hR (h0.at 5 rfl) hi_23 dX1_isSafe_48 ?_
        refine lv_icmp_eq (tgt := 64) hx hb dX1_isSafe_49 (by decide) (fun c_49 => ?_) (fun c_49 => ?_)
        · rw [if_pos c_49] at h
          exact wX1_isSafe_j64 B hr hlk ih2 h0 h hR (lv_sub hl [1, 2, 3] rfl)
        · rw [if_neg c_49] at h
          refine lv_iload_n hx hb dX1_isSafe_52 rfl (lv_at hl 0 rfl) ?_
          refine lv_aload_n hx hb dX1_isSafe_53 rfl (lv_at hl 1 rfl) ?_
          refine gf_X1_30 B hR (h0.at0 rfl) dX1_isSafe_54 ?_
          refine lv_iload_n hx hb dX1_isSafe_57 rfl (lv_at hl 3 rfl) ?_
          refine r_iald B hR (h0.at 6 rfl) hi_23 dX1_isSafe_58 ?_
          refine lv_icmp_eq (tgt := 64) hx hb dX1_isSafe_59 (by decide) (fun c_59 => ?_) (fun c_59 => ?_)
          · rw [if_pos c_59] at h
            exact wX1_isSafe_j64 B hr hlk ih2 h0 h hR (lv_sub hl [1, 2, 3] rfl)
          · rw [if_neg c_59] at h
            exact wX1_isSafe_j62 B hr hlk  h hR (lv_sub hl [] rfl)
def fX1_isSafe_l2 (fu : Nat) (a0 : Nat) (x1 : Int32) (M : Mm) (x2 : Int32) : Option Int32 := lp (fun (rec : Int32 → Option Int32) (s : Int32) => fX1_isSafe_b2 fu  (fun x2 => rec (x2)) a0 x1 s M) fu (x2)
set_option maxRecDepth 100000 in
set_option maxHeartbeats 4000000 in
theorem wX1_isSafe_l2 {r : Int32}   {a0 : Nat} {x1 : Int32} {x2 : Int32} {M : Mm} (B : Bx p s m args c cX1_isSafe 4 RX1 E L) (hr : meth.sig.returnType = (some .boolean)) (hlk : meth.locks = false)  (h0 : At L a0 T1) (h : fX1_isSafe_l2 fu a0 x1 M x2 = some r) (hR : Rx s E L M H locs) (hl : lv_has ls 4 [(0, .ref a0), (1, .int x1), (2, .int x2)]) : W p l e (rmD (d + 3)) s m args below meth c H locs 0 0 (MQ below (QcM E L (some (.int r)) M) args s 0 0 E.2.2.2) (F0 m 2 ls []) := by
  refine lp_G (G := fun z : Int32 => ∀ (H : Heap) (locs : List Loc) (ls : Array Slot), Rx s E L M H locs → lv_has ls 4 [(0, .ref a0), (1, .int x1), (2, .int z)] → W p l e (rmD (d + 3)) s m args below meth c H locs 0 0 (MQ below (QcM E L (some (.int r)) M) args s 0 0 E.2.2.2) (F0 m 2 ls [])) (fun rec ih z h H locs ls hR hl => ?_) fu _ h H locs ls hR hl
  exact wX1_isSafe_b2 B hr hlk  (fun x2 h => ih (x2) h) h0 h hR hl
def fX1_isSafe (fu : Nat) (a0 : Nat) (x1 : Int32) (M : Mm) : Option Int32 :=
  fX1_isSafe_l2 fu a0 x1 M 0
set_option maxRecDepth 100000 in
set_option maxHeartbeats 4000000 in
theorem mX1_isSafe {l : Launch} {E : Ge} {L : Lay} (fu d : Nat) {a0 : Nat} {x1 : Int32} {M : Mm} {r : Int32}  (h0 : At L a0 T1) (h : fX1_isSafe fu a0 x1 M = some r) : Ct l E L yX1_isSafe cX1_isSafe 4 (some .boolean) (d + 3) [.ref a0, .int x1] M (some (.int r)) M := by
  refine Ct.of (by decide) ?_
  intro p e s m below meth c hr hlk B hR
  have B : Bx p s m _ c cX1_isSafe 4 RX1 E L := B
  have hx := B.1
  have hb := B.2.1
  have hl := lv_entry ([.ref a0, .int x1]) (n := 4) (Nat.le_of_ble_eq_true rfl)
  rw [lg_entry_eq]
  generalize (lg_sl ([.ref a0, .int x1]) ++ List.replicate (4 - (lg_sl ([.ref a0, .int x1])).length) Slot.unset).toArray = ls at hl ⊢
  have hl : lv_has ls 4 [(0, .ref a0), (1, .int x1)] := hl
  unfold fX1_isSafe at h
  refine lv_iconst (v := 0) hx hb dX1_isSafe_0 (by decide) ?_
  refine lv_istore_n (lv' := [(2, .int 0), (0, .ref a0), (1, .int x1)]) hx hb dX1_isSafe_1 rfl hl (by decide) rfl (fun ls hl => ?_)
  exact wX1_isSafe_l2 B hr hlk h0 h hR (lv_sub hl [1, 2, 0] rfl)
def fX1_finds_j142 (fu : Nat) (fr : Nat → Int32 → Int32 → Mm → Option (Int32 × Mm)) (M : Mm) : Option (Int32 × Mm) :=
  some (0, M)
set_option maxRecDepth 100000 in
set_option maxHeartbeats 4000000 in
theorem wX1_finds_j142 {r : Int32} {M' : Mm} {fr : Nat → Int32 → Int32 → Mm → Option (Int32 × Mm)}    {M : Mm} (B : Bx p s m args c cX1_finds 6 RX1 E L) (hr : meth.sig.returnType = (some .boolean)) (hlk : meth.locks = false) (ihr : ∀ {a0 : Nat} {x1 : Int32} {x2 : Int32} {M : Mm} {r : Int32} {M' : Mm}, At L a0 T1 → fr a0 x1 x2 M = some (r, M') → Ct l E L yX1_finds cX1_finds 6 (some .boolean) (d + 4) [.ref a0, .int x1, .int x2] M (some (.int r)) M')   (h : fX1_finds_j142 fu fr M = some (r, M')) (hR : Rx s E L M H locs) (hl : lv_has ls 6 []) : W p l e (rmD (d + 5)) s m args below meth c H locs 0 0 (MQ below (QcM E L (some (.int r)) M') args s 0 0 E.2.2.2) (F0 m 142 ls []) := by
  have hx := B.1
  have hb := B.2.1
  unfold fX1_finds_j142 at h
  refine lv_iconst (v := 0) hx hb dX1_finds_142 (by decide) ?_
  exact r_zretW B hR hr hlk (Or.inl rfl) h dX1_finds_143
def fX1_finds_j136 (fu : Nat) (fr : Nat → Int32 → Int32 → Mm → Option (Int32 × Mm)) (k12 : Int32 → Mm → Option (Int32 × Mm)) (a0 : Nat) (x1 : Int32) (x2 : Int32) (x3 : Int32) (M : Mm) : Option (Int32 × Mm) :=
  lt (x3 + 1) fun x3_136 =>
  k12 x3_136 M
set_option maxRecDepth 100000 in
set_option maxHeartbeats 4000000 in
theorem wX1_finds_j136 {r : Int32} {M' : Mm} {fr : Nat → Int32 → Int32 → Mm → Option (Int32 × Mm)}  {k12 : Int32 → Mm → Option (Int32 × Mm)} {a0 : Nat} {x1 : Int32} {x2 : Int32} {x3 : Int32} {M : Mm} (B : Bx p s m args c cX1_finds 6 RX1 E L) (hr : meth.sig.returnType = (some .boolean)) (hlk : meth.locks = false) (ihr : ∀ {a0 : Nat} {x1 : Int32} {x2 : Int32} {M : Mm} {r : Int32} {M' : Mm}, At L a0 T1 → fr a0 x1 x2 M = some (r, M') → Ct l E L yX1_finds cX1_finds 6 (some .boolean) (d + 4) [.ref a0, .int x1, .int x2] M (some (.int r)) M') (ih12 : ∀ (x3 : Int32) (M : Mm), k12 x3 M = some (r, M') → ∀ (H : Heap) (locs : List Loc) (ls : Array Slot), Rx s E L M H locs → lv_has ls 6 [(0, .ref a0), (1, .int x1), (2, .int x2), (3, .int x3)] → W p l e (rmD (d + 5)) s m args below meth c H locs 0 0 (MQ below (QcM E L (some (.int r)) M') args s 0 0 E.2.2.2) (F0 m 12 ls [])) (h0 : At L a0 T1) (h : fX1_finds_j136 fu fr k12 a0 x1 x2 x3 M = some (r, M')) (hR : Rx s E L M H locs) (hl : lv_has ls 6 [(0, .ref a0), (1, .int x1), (2, .int x2), (3, .int x3)]) : W p l e (rmD (d + 5)) s m args below meth c H locs 0 0 (MQ below (QcM E L (some (.int r)) M') args s 0 0 E.2.2.2) (F0 m 136 ls []) := by
  have hx := B.1
  have hb := B.2.1
  unfold fX1_finds_j136 at h
  obtain ⟨x3_136, ex3_136, h⟩ := lt_el h
  refine lv_iinc (v := x3_136) (lv' := [(3, .int x3_136), (0, .ref a0), (1, .int x1), (2, .int x2)]) hx hb dX1_finds_136 hl (k := 3) rfl (by rw [ex3_136]; rfl) (by decide) rfl (fun ls hl => ?_)
  refine lv_goto (tgt := 12) hx hb dX1_finds_139 (by decide) ?_
  exact ih12 x3_136 M h _ _ _ hR (lv_sub hl [1, 2, 3, 0] rfl)
def fX1_finds_j111 (fu : Nat) (fr : Nat → Int32 → Int32 → Mm → Option (Int32 × Mm)) (k12 : Int32 → Mm → Option (Int32 × Mm)) (a0 : Nat) (x1 : Int32) (x2 : Int32) (x3 : Int32) (x4 : Int32) (x5 : Int32) (M : Mm) : Option (Int32 × Mm) :=
  if x5 = 0 then
    fX1_finds_j136 fu fr k12 a0 x1 x2 x3 M
  else
    if (x4 >>> (6 &&& 31)) < 0 ∨ 64 ≤ ix (x4 >>> (6 &&& 31)) then none else
    lt (wJ M (a0 + 7) (ix (x4 >>> (6 &&& 31))) ((M.2.1 (a0 + 7) (ix (x4 >>> (6 &&& 31)))) ||| ((1 : Int64) <<< (((x4 &&& 63) : Int32).toInt64 &&& 63)))) fun M_135 =>
    fX1_finds_j136 fu fr k12 a0 x1 x2 x3 M_135
set_option maxRecDepth 100000 in
set_option maxHeartbeats 4000000 in
theorem wX1_finds_j111 {r : Int32} {M' : Mm} {fr : Nat → Int32 → Int32 → Mm → Option (Int32 × Mm)}  {k12 : Int32 → Mm → Option (Int32 × Mm)} {a0 : Nat} {x1 : Int32} {x2 : Int32} {x3 : Int32} {x4 : Int32} {x5 : Int32} {M : Mm} (B : Bx p s m args c cX1_finds 6 RX1 E L) (hr : meth.sig.returnType = (some .boolean)) (hlk : meth.locks = false) (ihr : ∀ {a0 : Nat} {x1 : Int32} {x2 : Int32} {M : Mm} {r : Int32} {M' : Mm}, At L a0 T1 → fr a0 x1 x2 M = some (r, M') → Ct l E L yX1_finds cX1_finds 6 (some .boolean) (d + 4) [.ref a0, .int x1, .int x2] M (some (.int r)) M') (ih12 : ∀ (x3 : Int32) (M : Mm), k12 x3 M = some (r, M') → ∀ (H : Heap) (locs : List Loc) (ls : Array Slot), Rx s E L M H locs → lv_has ls 6 [(0, .ref a0), (1, .int x1), (2, .int x2), (3, .int x3)] → W p l e (rmD (d + 5)) s m args below meth c H locs 0 0 (MQ below (QcM E L (some (.int r)) M') args s 0 0 E.2.2.2) (F0 m 12 ls [])) (h0 : At L a0 T1) (h : fX1_finds_j111 fu fr k12 a0 x1 x2 x3 x4 x5 M = some (r, M')) (hR : Rx s E L M H locs) (hl : lv_has ls 6 [(0, .ref a0), (1, .int x1), (2, .int x2), (3, .int x3), (4, .int x4), (5, .int x5)]) : W p l e (rmD (d + 5)) s m args below meth c H locs 0 0 (MQ below (QcM E L (some (.int r)) M') args s 0 0 E.2.2.2) (F0 m 111 ls []) := by
  have hx := B.1
  have hb := B.2.1
  unfold fX1_finds_j111 at h
  refine lv_iload hx hb dX1_finds_111 (lv_at hl 5 rfl) ?_
  refine lv_if_eq (tgt := 136) hx hb dX1_finds_113 (by decide) (fun c_113 => ?_) (fun c_113 => ?_)
  · rw [if_pos c_113] at h
    exact wX1_finds_j136 B hr hlk ihr ih12 h0 h hR (lv_sub hl [0, 1, 2, 3] rfl)
  · rw [if_neg c_113] at h
    refine lv_aload_n hx hb dX1_finds_116 rfl (lv_at hl 0 rfl) ?_
    refine gf_X1_33 B hR (h0.at0 rfl) dX1_finds_117 ?_
    refine lv_iload hx hb dX1_finds_120 (lv_at hl 4 rfl) ?_
    refine lv_bipush (v := 6) hx hb dX1_finds_122 (by decide) ?_
    refine lv_ishr hx hb dX1_finds_124 ?_
    refine lv_dup2_11 hx hb dX1_finds_125 rfl rfl ?_
    obtain ⟨hi_126, h⟩ := ifn_el h
    refine r_lald B hR (h0.at 7 rfl) hi_126 dX1_finds_126 ?_
    refine lv_lconst (v := 1) hx hb dX1_finds_127 (by decide) ?_
    refine lv_iload hx hb dX1_finds_128 (lv_at hl 4 rfl) ?_
    refine lv_bipush (v := 63) hx hb dX1_finds_130 (by decide) ?_
    refine lv_iand hx hb dX1_finds_132 ?_
    refine lv_lshl hx hb dX1_finds_133 rfl ?_
    refine lv_lor hx hb dX1_finds_134 ?_
    obtain ⟨M_135, eM_135, h⟩ := lt_el h
    refine r_last B hR (h0.at 7 rfl) hi_126 dX1_finds_135 (fun H locs hR => ?_)
    rw [← eM_135] at hR
    exact wX1_finds_j136 B hr hlk ihr ih12 h0 h hR (lv_sub hl [0, 1, 2, 3] rfl)
def fX1_finds_j109 (fu : Nat) (fr : Nat → Int32 → Int32 → Mm → Option (Int32 × Mm)) (M : Mm) : Option (Int32 × Mm) :=
  some (1, M)
set_option maxRecDepth 100000 in
set_option maxHeartbeats 4000000 in
theorem wX1_finds_j109 {r : Int32} {M' : Mm} {fr : Nat → Int32 → Int32 → Mm → Option (Int32 × Mm)}    {M : Mm} (B : Bx p s m args c cX1_finds 6 RX1 E L) (hr : meth.sig.returnType = (some .boolean)) (hlk : meth.locks = false) (ihr : ∀ {a0 : Nat} {x1 : Int32} {x2 : Int32} {M : Mm} {r : Int32} {M' : Mm}, At L a0 T1 → fr a0 x1 x2 M = some (r, M') → Ct l E L yX1_finds cX1_finds 6 (some .boolean) (d + 4) [.ref a0, .int x1, .int x2] M (some (.int r)) M')   (h : fX1_finds_j109 fu fr M = some (r, M')) (hR : Rx s E L M H locs) (hl : lv_has ls 6 []) : W p l e (rmD (d + 5)) s m args below meth c H locs 0 0 (MQ below (QcM E L (some (.int r)) M') args s 0 0 E.2.2.2) (F0 m 109 ls []) := by
  have hx := B.1
  have hb := B.2.1
  unfold fX1_finds_j109 at h
  refine lv_iconst (v := 1) hx hb dX1_finds_109 (by decide) ?_
  exact r_zretW B hR hr hlk (Or.inr rfl) h dX1_finds_110
def fX1_finds_j65 (fu : Nat) (fr : Nat → Int32 → Int32 → Mm → Option (Int32 × Mm)) (k12 : Int32 → Mm → Option (Int32 × Mm)) (a0 : Nat) (x1 : Int32) (x2 : Int32) (x3 : Int32) (x4 : Int32) (t0 : Int32) (M : Mm) : Option (Int32 × Mm) :=
  if t0 = 0 then
    fX1_finds_j111 fu fr k12 a0 x1 x2 x3 x4 t0 M
  else
    bi (fX1_isDeadEnd fu a0 x4 M) fun r_75 =>
    if r_75 = 0 then
      bi (fX1_isSafe fu a0 x4 M) fun r_84 =>
      if r_84 = 0 then
        fX1_finds_j111 fu fr k12 a0 x1 x2 x3 x4 t0 M
      else
        if x2 < 0 ∨ 12 ≤ ix x2 then none else
        lt (wI M (a0 + 1) (ix x2) x3) fun M_96 =>
        bw (fr a0 x4 (x2 + 1) M_96) fun r_103 M_103 =>
        if r_103 = 0 then
          fX1_finds_j111 fu fr k12 a0 x1 x2 x3 x4 t0 M_103
        else
          fX1_finds_j109 fu fr M_103
    else
      fX1_finds_j111 fu fr k12 a0 x1 x2 x3 x4 t0 M
set_option maxRecDepth 100000 in
set_option maxHeartbeats 4000000 in
theorem wX1_finds_j65 {r : Int32} {M' : Mm} {fr : Nat → Int32 → Int32 → Mm → Option (Int32 × Mm)}  {k12 : Int32 → Mm → Option (Int32 × Mm)} {a0 : Nat} {x1 : Int32} {x2 : Int32} {x3 : Int32} {x4 : Int32} {t0 : Int32} {M : Mm} (B : Bx p s m args c cX1_finds 6 RX1 E L) (hr : meth.sig.returnType = (some .boolean)) (hlk : meth.locks = false) (ihr : ∀ {a0 : Nat} {x1 : Int32} {x2 : Int32} {M : Mm} {r : Int32} {M' : Mm}, At L a0 T1 → fr a0 x1 x2 M = some (r, M') → Ct l E L yX1_finds cX1_finds 6 (some .boolean) (d + 4) [.ref a0, .int x1, .int x2] M (some (.int r)) M') (ih12 : ∀ (x3 : Int32) (M : Mm), k12 x3 M = some (r, M') → ∀ (H : Heap) (locs : List Loc) (ls : Array Slot), Rx s E L M H locs → lv_has ls 6 [(0, .ref a0), (1, .int x1), (2, .int x2), (3, .int x3)] → W p l e (rmD (d + 5)) s m args below meth c H locs 0 0 (MQ below (QcM E L (some (.int r)) M') args s 0 0 E.2.2.2) (F0 m 12 ls [])) (h0 : At L a0 T1) (h : fX1_finds_j65 fu fr k12 a0 x1 x2 x3 x4 t0 M = some (r, M')) (hR : Rx s E L M H locs) (hl : lv_has ls 6 [(0, .ref a0), (1, .int x1), (2, .int x2), (3, .int x3), (4, .int x4)]) : W p l e (rmD (d + 5)) s m args below meth c H locs 0 0 (MQ below (QcM E L (some (.int r)) M') args s 0 0 E.2.2.2) (F0 m 65 ls [.int t0]) := by
  have hx := B.1
  have hb := B.2.1
  unfold fX1_finds_j65 at h
  refine lv_istore (lv' := [(5, .int t0), (0, .ref a0), (1, .int x1), (2, .int x2), (3, .int x3), (4, .int x4)]) hx hb dX1_finds_65 hl (by decide) rfl (fun ls hl => ?_)
  refine lv_iload hx hb dX1_finds_67 (lv_at hl 0 rfl) ?_
  refine lv_if_eq (tgt := 111) hx hb dX1_finds_69 (by decide) (fun c_69 => ?_) (fun c_69 => ?_)
  · rw [if_pos c_69] at h
    exact wX1_finds_j111 B hr hlk ihr ih12 h0 h hR (lv_sub hl [1, 2, 3, 4, 5, 0] rfl)
  · rw [if_neg c_69] at h
    refine lv_aload_n hx hb dX1_finds_72 rfl (lv_at hl 1 rfl) ?_
    refine lv_iload hx hb dX1_finds_73 (lv_at hl 5 rfl) ?_
    obtain ⟨r_75, hc_75, h⟩ := bi_el h
    refine iv_X1_163 B hR (h0.at0 rfl) hl.1 (mX1_isDeadEnd fu _ h0 hc_75) (Nat.le_of_ble_eq_true rfl) dX1_finds_75 (fun H locs hR => ?_)
    refine lv_if_ne (tgt := 111) hx hb dX1_finds_78 (by decide) (fun c_78 => ?_) (fun c_78 => ?_)
    · rw [if_neg c_78] at h
      exact wX1_finds_j111 B hr hlk ihr ih12 h0 h hR (lv_sub hl [1, 2, 3, 4, 5, 0] rfl)
    · rw [if_pos c_78] at h
      refine lv_aload_n hx hb dX1_finds_81 rfl (lv_at hl 1 rfl) ?_
      refine lv_iload hx hb dX1_finds_82 (lv_at hl 5 rfl) ?_
      obtain ⟨r_84, hc_84, h⟩ := bi_el h
      refine iv_X1_166 B hR (h0.at0 rfl) hl.1 (mX1_isSafe fu _ h0 hc_84) (Nat.le_of_ble_eq_true rfl) dX1_finds_84 (fun H locs hR => ?_)
      refine lv_if_eq (tgt := 111) hx hb dX1_finds_87 (by decide) (fun c_87 => ?_) (fun c_87 => ?_)
      · rw [if_pos c_87] at h
        exact wX1_finds_j111 B hr hlk ihr ih12 h0 h hR (lv_sub hl [1, 2, 3, 4, 5, 0] rfl)
      · rw [if_neg c_87] at h
        refine lv_aload_n hx hb dX1_finds_90 rfl (lv_at hl 1 rfl) ?_
        refine gf_X1_9 B hR (h0.at0 rfl) dX1_finds_91 ?_
        refine lv_iload_n hx hb dX1_finds_94 rfl (lv_at hl 3 rfl) ?_
        refine lv_iload_n hx hb dX1_finds_95 rfl (lv_at hl 4 rfl) ?_
        obtain ⟨hi_96, h⟩ := ifn_el h
        obtain ⟨M_96, eM_96, h⟩ := lt_el h
        refine r_iast B hR (h0.at 1 rfl) hi_96 dX1_finds_96 (fun H locs hR => ?_)
        rw [← eM_96] at hR
        refine lv_aload_n hx hb dX1_finds_97 rfl (lv_at hl 1 rfl) ?_
        refine lv_iload hx hb dX1_finds_98 (lv_at hl 5 rfl) ?_
        refine lv_iload_n hx hb dX1_finds_100 rfl (lv_at hl 3 rfl) ?_
        refine lv_iconst (v := 1) hx hb dX1_finds_101 (by decide) ?_
        refine lv_iadd hx hb dX1_finds_102 ?_
        obtain ⟨r_103, M_103, hc_103, h⟩ := bw_el h
        refine iv_X1_94 B hR (h0.at0 rfl) hl.1 (ihr h0 hc_103) (Nat.le_of_ble_eq_true rfl) dX1_finds_103 (fun H locs hR => ?_)
        refine lv_if_eq (tgt := 111) hx hb dX1_finds_106 (by decide) (fun c_106 => ?_) (fun c_106 => ?_)
        · rw [if_pos c_106] at h
          exact wX1_finds_j111 B hr hlk ihr ih12 h0 h hR (lv_sub hl [1, 2, 3, 4, 5, 0] rfl)
        · rw [if_neg c_106] at h
          exact wX1_finds_j109 B hr hlk ihr h hR (lv_sub hl [] rfl)
def fX1_finds_j64 (fu : Nat) (fr : Nat → Int32 → Int32 → Mm → Option (Int32 × Mm)) (k12 : Int32 → Mm → Option (Int32 × Mm)) (a0 : Nat) (x1 : Int32) (x2 : Int32) (x3 : Int32) (x4 : Int32) (M : Mm) : Option (Int32 × Mm) :=
  fX1_finds_j65 fu fr k12 a0 x1 x2 x3 x4 0 M
set_option maxRecDepth 100000 in
set_option maxHeartbeats 4000000 in
theorem wX1_finds_j64 {r : Int32} {M' : Mm} {fr : Nat → Int32 → Int32 → Mm → Option (Int32 × Mm)}  {k12 : Int32 → Mm → Option (Int32 × Mm)} {a0 : Nat} {x1 : Int32} {x2 : Int32} {x3 : Int32} {x4 : Int32} {M : Mm} (B : Bx p s m args c cX1_finds 6 RX1 E L) (hr : meth.sig.returnType = (some .boolean)) (hlk : meth.locks = false) (ihr : ∀ {a0 : Nat} {x1 : Int32} {x2 : Int32} {M : Mm} {r : Int32} {M' : Mm}, At L a0 T1 → fr a0 x1 x2 M = some (r, M') → Ct l E L yX1_finds cX1_finds 6 (some .boolean) (d + 4) [.ref a0, .int x1, .int x2] M (some (.int r)) M') (ih12 : ∀ (x3 : Int32) (M : Mm), k12 x3 M = some (r, M') → ∀ (H : Heap) (locs : List Loc) (ls : Array Slot), Rx s E L M H locs → lv_has ls 6 [(0, .ref a0), (1, .int x1), (2, .int x2), (3, .int x3)] → W p l e (rmD (d + 5)) s m args below meth c H locs 0 0 (MQ below (QcM E L (some (.int r)) M') args s 0 0 E.2.2.2) (F0 m 12 ls [])) (h0 : At L a0 T1) (h : fX1_finds_j64 fu fr k12 a0 x1 x2 x3 x4 M = some (r, M')) (hR : Rx s E L M H locs) (hl : lv_has ls 6 [(0, .ref a0), (1, .int x1), (2, .int x2), (3, .int x3), (4, .int x4)]) : W p l e (rmD (d + 5)) s m args below meth c H locs 0 0 (MQ below (QcM E L (some (.int r)) M') args s 0 0 E.2.2.2) (F0 m 64 ls []) := by
  have hx := B.1
  have hb := B.2.1
  unfold fX1_finds_j64 at h
  refine lv_iconst (v := 0) hx hb dX1_finds_64 (by decide) ?_
  exact wX1_finds_j65 B hr hlk ihr ih12 h0 h hR hl
def fX1_finds_j60 (fu : Nat) (fr : Nat → Int32 → Int32 → Mm → Option (Int32 × Mm)) (k12 : Int32 → Mm → Option (Int32 × Mm)) (a0 : Nat) (x1 : Int32) (x2 : Int32) (x3 : Int32) (x4 : Int32) (M : Mm) : Option (Int32 × Mm) :=
  fX1_finds_j65 fu fr k12 a0 x1 x2 x3 x4 1 M
set_option maxRecDepth 100000 in
set_option maxHeartbeats 4000000 in
theorem wX1_finds_j60 {r : Int32} {M' : Mm} {fr : Nat → Int32 → Int32 → Mm → Option (Int32 × Mm)}  {k12 : Int32 → Mm → Option (Int32 × Mm)} {a0 : Nat} {x1 : Int32} {x2 : Int32} {x3 : Int32} {x4 : Int32} {M : Mm} (B : Bx p s m args c cX1_finds 6 RX1 E L) (hr : meth.sig.returnType = (some .boolean)) (hlk : meth.locks = false) (ihr : ∀ {a0 : Nat} {x1 : Int32} {x2 : Int32} {M : Mm} {r : Int32} {M' : Mm}, At L a0 T1 → fr a0 x1 x2 M = some (r, M') → Ct l E L yX1_finds cX1_finds 6 (some .boolean) (d + 4) [.ref a0, .int x1, .int x2] M (some (.int r)) M') (ih12 : ∀ (x3 : Int32) (M : Mm), k12 x3 M = some (r, M') → ∀ (H : Heap) (locs : List Loc) (ls : Array Slot), Rx s E L M H locs → lv_has ls 6 [(0, .ref a0), (1, .int x1), (2, .int x2), (3, .int x3)] → W p l e (rmD (d + 5)) s m args below meth c H locs 0 0 (MQ below (QcM E L (some (.int r)) M') args s 0 0 E.2.2.2) (F0 m 12 ls [])) (h0 : At L a0 T1) (h : fX1_finds_j60 fu fr k12 a0 x1 x2 x3 x4 M = some (r, M')) (hR : Rx s E L M H locs) (hl : lv_has ls 6 [(0, .ref a0), (1, .int x1), (2, .int x2), (3, .int x3), (4, .int x4)]) : W p l e (rmD (d + 5)) s m args below meth c H locs 0 0 (MQ below (QcM E L (some (.int r)) M') args s 0 0 E.2.2.2) (F0 m 60 ls []) := by
  have hx := B.1
  have hb := B.2.1
  unfold fX1_finds_j60 at h
  refine lv_iconst (v := 1) hx hb dX1_finds_60 (by decide) ?_
  refine lv_goto (tgt := 65) hx hb dX1_finds_61 (by decide) ?_
  exact wX1_finds_j65 B hr hlk ihr ih12 h0 h hR hl
def fX1_finds_b12 (fu : Nat) (fr : Nat → Int32 → Int32 → Mm → Option (Int32 × Mm)) (k12 : Int32 → Mm → Option (Int32 × Mm)) (a0 : Nat) (x1 : Int32) (x2 : Int32) (x3 : Int32) (M : Mm) : Option (Int32 × Mm) :=
  if ((M.1 a0 0) + (M.1 a0 1)) ≤ x3 then
    fX1_finds_j142 fu fr M
  else
    if 12 ≤ x2 then
      fX1_finds_j142 fu fr M
    else
      lt ((x1 ||| (1 <<< (x3 &&& 31)))) fun x4_36 =>
      if x4_36 = x1 then
        fX1_finds_j64 fu fr k12 a0 x1 x2 x3 x4_36 M
      else
        if x3 < (M.1 a0 0) then
          fX1_finds_j60 fu fr k12 a0 x1 x2 x3 x4_36 M
        else
          bi (fX1_hasRoom fu a0 x1 M) fun r_54 =>
          if r_54 = 0 then
            fX1_finds_j64 fu fr k12 a0 x1 x2 x3 x4_36 M
          else
            fX1_finds_j60 fu fr k12 a0 x1 x2 x3 x4_36 M
set_option maxRecDepth 100000 in
set_option maxHeartbeats 4000000 in
theorem wX1_finds_b12 {r : Int32} {M' : Mm} {fr : Nat → Int32 → Int32 → Mm → Option (Int32 × Mm)}   {k12 : Int32 → Mm → Option (Int32 × Mm)} {a0 : Nat} {x1 : Int32} {x2 : Int32} {x3 : Int32} {M : Mm} (B : Bx p s m args c cX1_finds 6 RX1 E L) (hr : meth.sig.returnType = (some .boolean)) (hlk : meth.locks = false) (ihr : ∀ {a0 : Nat} {x1 : Int32} {x2 : Int32} {M : Mm} {r : Int32} {M' : Mm}, At L a0 T1 → fr a0 x1 x2 M = some (r, M') → Ct l E L yX1_finds cX1_finds 6 (some .boolean) (d + 4) [.ref a0, .int x1, .int x2] M (some (.int r)) M')  (ih12 : ∀ (x3 : Int32) (M : Mm), k12 x3 M = some (r, M') → ∀ (H : Heap) (locs : List Loc) (ls : Array Slot), Rx s E L M H locs → lv_has ls 6 [(0, .ref a0), (1, .int x1), (2, .int x2), (3, .int x3)] → W p l e (rmD (d + 5)) s m args below meth c H locs 0 0 (MQ below (QcM E L (some (.int r)) M') args s 0 0 E.2.2.2) (F0 m 12 ls [])) (h0 : At L a0 T1) (h : fX1_finds_b12 fu fr k12 a0 x1 x2 x3 M = some (r, M')) (hR : Rx s E L M H locs) (hl : lv_has ls 6 [(0, .ref a0), (1, .int x1), (2, .int x2), (3, .int x3)]) : W p l e (rmD (d + 5)) s m args below meth c H locs 0 0 (MQ below (QcM E L (some (.int r)) M') args s 0 0 E.2.2.2) (F0 m 12 ls []) := by
  have hx := B.1
  have hb := B.2.1
  unfold fX1_finds_b12 at h
  refine lv_iload_n hx hb dX1_finds_12 rfl (lv_at hl 3 rfl) ?_
  refine lv_aload_n hx hb dX1_finds_13 rfl (lv_at hl 0 rfl) ?_
  refine gf_X1_52 B hR (h0.at0 rfl) dX1_finds_14 ?_
  refine lv_aload_n hx hb dX1_finds_17 rfl (lv_at hl 0 rfl) ?_
  refine gf_X1_55 B hR (h0.at0 rfl) dX1_finds_18 ?_
  refine lv_iadd hx hb dX1_finds_21 ?_
  refine lv_icmp_ge (tgt := 142) hx hb dX1_finds_22 (by decide) (fun c_22 => ?_) (fun c_22 => ?_)
  · rw [if_pos c_22] at h
    exact wX1_finds_j142 B hr hlk ihr h hR (lv_sub hl [] rfl)
  · rw [if_neg c_22] at h
    refine lv_iload_n hx hb dX1_finds_25 rfl (lv_at hl 2 rfl) ?_
    refine lv_bipush (v := 12) hx hb dX1_finds_26 (by decide) ?_
    refine lv_icmp_ge (tgt := 142) hx hb dX1_finds_28 (by decide) (fun c_28 => ?_) (fun c_28 => ?_)
    · rw [if_pos c_28] at h
      exact wX1_finds_j142 B hr hlk ihr h hR (lv_sub hl [] rfl)
    · rw [if_neg c_28] at h
      refine lv_iload_n hx hb dX1_finds_31 rfl (lv_at hl 1 rfl) ?_
      refine lv_iconst (v := 1) hx hb dX1_finds_32 (by decide) ?_
      refine lv_iload_n hx hb dX1_finds_33 rfl (lv_at hl 3 rfl) ?_
      refine lv_ishl hx hb dX1_finds_34 ?_
      refine lv_ior hx hb dX1_finds_35 ?_
      obtain ⟨x4_36, ex4_36, h⟩ := lt_el h
      refine r_nmI ex4_36 ?_
      refine lv_istore (lv' := [(4, .int x4_36), (0, .ref a0), (1, .int x1), (2, .int x2), (3, .int x3)]) hx hb dX1_finds_36 hl (by decide) rfl (fun ls hl => ?_)
      refine lv_iload hx hb dX1_finds_38 (lv_at hl 0 rfl) ?_
      refine lv_iload_n hx hb dX1_finds_40 rfl (lv_at hl 2 rfl) ?_
      refine lv_icmp_eq (tgt := 64) hx hb dX1_finds_41 (by decide) (fun c_41 => ?_) (fun c_41 => ?_)
      · rw [if_pos c_41] at h
        exact wX1_finds_j64 B hr hlk ihr ih12 h0 h hR (lv_sub hl [1, 2, 3, 4, 0] rfl)
      · rw [if_neg c_41] at h
        refine lv_iload_n hx hb dX1_finds_44 rfl (lv_at hl 4 rfl) ?_
        refine lv_aload_n hx hb dX1_finds_45 rfl (lv_at hl 1 rfl) ?_
        refine gf_X1_52 B hR (h0.at0 rfl) dX1_finds_46 ?_
        refine lv_icmp_lt (tgt := 60) hx hb dX1_finds_49 (by decide) (fun c_49 => ?_) (fun c_49 => ?_)
        · rw [if_pos c_49] at h
          exact wX1_finds_j60 B hr hlk ihr ih12 h0 h hR (lv_sub hl [1, 2, 3, 4, 0] rfl)
        · rw [if_neg c_49] at h
          refine lv_aload_n hx hb dX1_finds_52 rfl (lv_at hl 1 rfl) ?_
          refine lv_iload_n hx hb dX1_finds_53 rfl (lv_at hl 2 rfl) ?_
          obtain ⟨r_54, hc_54, h⟩ := bi_el h
          refine iv_X1_160 B hR (h0.at0 rfl) hl.1 (mX1_hasRoom fu _ h0 hc_54) (Nat.le_of_ble_eq_true rfl) dX1_finds_54 (fun H locs hR => ?_)
          refine lv_if_eq (tgt := 64) hx hb dX1_finds_57 (by decide) (fun c_57 => ?_) (fun c_57 => ?_)
          · rw [if_pos c_57] at h
            exact wX1_finds_j64 B hr hlk ihr ih12 h0 h hR (lv_sub hl [1, 2, 3, 4, 0] rfl)
          · rw [if_neg c_57] at h
            exact wX1_finds_j60 B hr hlk ihr ih12 h0 h hR (lv_sub hl [1, 2, 3, 4, 0] rfl)
def fX1_finds_l12 (fu : Nat) (fr : Nat → Int32 → Int32 → Mm → Option (Int32 × Mm)) (a0 : Nat) (x1 : Int32) (x2 : Int32) (x3 : Int32) (M : Mm) : Option (Int32 × Mm) := lp (fun (rec : (Int32 × Mm) → Option (Int32 × Mm)) (s : Int32 × Mm) => fX1_finds_b12 fu fr  (fun x3 M => rec (x3, M)) a0 x1 x2 s.1 s.2) fu (x3, M)
set_option maxRecDepth 100000 in
set_option maxHeartbeats 4000000 in
theorem wX1_finds_l12 {r : Int32} {M' : Mm} {fr : Nat → Int32 → Int32 → Mm → Option (Int32 × Mm)}   {a0 : Nat} {x1 : Int32} {x2 : Int32} {x3 : Int32} {M : Mm} (B : Bx p s m args c cX1_finds 6 RX1 E L) (hr : meth.sig.returnType = (some .boolean)) (hlk : meth.locks = false) (ihr : ∀ {a0 : Nat} {x1 : Int32} {x2 : Int32} {M : Mm} {r : Int32} {M' : Mm}, At L a0 T1 → fr a0 x1 x2 M = some (r, M') → Ct l E L yX1_finds cX1_finds 6 (some .boolean) (d + 4) [.ref a0, .int x1, .int x2] M (some (.int r)) M')  (h0 : At L a0 T1) (h : fX1_finds_l12 fu fr a0 x1 x2 x3 M = some (r, M')) (hR : Rx s E L M H locs) (hl : lv_has ls 6 [(0, .ref a0), (1, .int x1), (2, .int x2), (3, .int x3)]) : W p l e (rmD (d + 5)) s m args below meth c H locs 0 0 (MQ below (QcM E L (some (.int r)) M') args s 0 0 E.2.2.2) (F0 m 12 ls []) := by
  refine lp_G (G := fun z : Int32 × Mm => ∀ (H : Heap) (locs : List Loc) (ls : Array Slot), Rx s E L z.2 H locs → lv_has ls 6 [(0, .ref a0), (1, .int x1), (2, .int x2), (3, .int z.1)] → W p l e (rmD (d + 5)) s m args below meth c H locs 0 0 (MQ below (QcM E L (some (.int r)) M') args s 0 0 E.2.2.2) (F0 m 12 ls [])) (fun rec ih z h H locs ls hR hl => ?_) fu _ h H locs ls hR hl
  exact wX1_finds_b12 B hr hlk ihr  (fun x3 M h => ih (x3, M) h) h0 h hR hl
def fX1_finds_R (fu : Nat) (fr : Nat → Int32 → Int32 → Mm → Option (Int32 × Mm)) (a0 : Nat) (x1 : Int32) (x2 : Int32) (M : Mm) : Option (Int32 × Mm) :=
  bi (fX1_allSteps fu a0 M) fun r_2 =>
  if x1 = r_2 then
    some (1, M)
  else
    fX1_finds_l12 fu fr a0 x1 x2 0 M
set_option maxRecDepth 100000 in
set_option maxHeartbeats 4000000 in
theorem mX1_finds_R {l : Launch} {E : Ge} {L : Lay} (fu d : Nat) {a0 : Nat} {x1 : Int32} {x2 : Int32} {M : Mm} {r : Int32} {M' : Mm} {fr : Nat → Int32 → Int32 → Mm → Option (Int32 × Mm)} (ihr : ∀ {a0 : Nat} {x1 : Int32} {x2 : Int32} {M : Mm} {r : Int32} {M' : Mm}, At L a0 T1 → fr a0 x1 x2 M = some (r, M') → Ct l E L yX1_finds cX1_finds 6 (some .boolean) (d + 4) [.ref a0, .int x1, .int x2] M (some (.int r)) M') (h0 : At L a0 T1) (h : fX1_finds_R fu fr a0 x1 x2 M = some (r, M')) : Ct l E L yX1_finds cX1_finds 6 (some .boolean) (d + 5) [.ref a0, .int x1, .int x2] M (some (.int r)) M' := by
  refine Ct.of (by decide) ?_
  intro p e s m below meth c hr hlk B hR
  have B : Bx p s m _ c cX1_finds 6 RX1 E L := B
  have hx := B.1
  have hb := B.2.1
  have hl := lv_entry ([.ref a0, .int x1, .int x2]) (n := 6) (Nat.le_of_ble_eq_true rfl)
  rw [lg_entry_eq]
  generalize (lg_sl ([.ref a0, .int x1, .int x2]) ++ List.replicate (6 - (lg_sl ([.ref a0, .int x1, .int x2])).length) Slot.unset).toArray = ls at hl ⊢
  have hl : lv_has ls 6 [(0, .ref a0), (1, .int x1), (2, .int x2)] := hl
  unfold fX1_finds_R at h
  refine lv_iload_n hx hb dX1_finds_0 rfl (lv_at hl 1 rfl) ?_
  refine lv_aload_n hx hb dX1_finds_1 rfl (lv_at hl 0 rfl) ?_
  obtain ⟨r_2, hc_2, h⟩ := bi_el h
  refine iv_X1_91 B hR (h0.at0 rfl) hl.1 (mX1_allSteps fu _ h0 hc_2) (Nat.le_of_ble_eq_true rfl) dX1_finds_2 (fun H locs hR => ?_)
  refine lv_icmp_ne (tgt := 10) hx hb dX1_finds_5 (by decide) (fun c_5 => ?_) (fun c_5 => ?_)
  · rw [if_neg c_5] at h
    refine lv_iconst (v := 0) hx hb dX1_finds_10 (by decide) ?_
    refine lv_istore_n (lv' := [(3, .int 0), (0, .ref a0), (1, .int x1), (2, .int x2)]) hx hb dX1_finds_11 rfl hl (by decide) rfl (fun ls hl => ?_)
    exact wX1_finds_l12 B hr hlk ihr h0 h hR (lv_sub hl [1, 2, 3, 0] rfl)
  · rw [if_pos c_5] at h
    refine lv_iconst (v := 1) hx hb dX1_finds_8 (by decide) ?_
    exact r_zretW B hR hr hlk (Or.inr rfl) h dX1_finds_9
def fX1_finds (fu : Nat) : Nat → Nat → Int32 → Int32 → Mm → Option (Int32 × Mm)
  | 0 => fun _ _ _ _ => none
  | dp + 1 => fun a0 x1 x2 M => fX1_finds_R fu (fX1_finds fu dp) a0 x1 x2 M
theorem mX1_finds_N {l : Launch} {E : Ge} {L : Lay} (fu dp : Nat) : ∀ (d : Nat) {a0 : Nat} {x1 : Int32} {x2 : Int32} {M : Mm} {r : Int32} {M' : Mm} (h0 : At L a0 T1) (h : fX1_finds fu dp a0 x1 x2 M = some (r, M')), Ct l E L yX1_finds cX1_finds 6 (some .boolean) (d + dp + 4) [.ref a0, .int x1, .int x2] M (some (.int r)) M' := by
  induction dp with
  | zero => intro d _ _ _ _ _ _ _ h; cases h
  | succ dp ih => intro d _ _ _ _ _ _ h0 h; exact mX1_finds_R fu (d + dp) (fr := fX1_finds fu dp) (fun h0 h => ih d h0 h) h0 h
theorem mX1_finds {l : Launch} {E : Ge} {L : Lay} (fu d : Nat) {a0 : Nat} {x1 : Int32} {x2 : Int32} {M : Mm} {r : Int32} {M' : Mm} (h0 : At L a0 T1) (h : fX1_finds fu 16 a0 x1 x2 M = some (r, M')) : Ct l E L yX1_finds cX1_finds 6 (some .boolean) (d + 20) [.ref a0, .int x1, .int x2] M (some (.int r)) M' := mX1_finds_N fu 16 d h0 h
def fX1_make_j166 (fu : Nat) (a0 : Nat) (M : Mm) : Option Mm :=
  bw (fX1_finds fu 16 a0 0 0 M) fun r_170 M_170 =>
  gd (r_170 = 0 ∨ r_170 = 1) <|
  lt (wI M_170 a0 3 r_170) fun M_173 =>
  some M_173
set_option maxRecDepth 100000 in
set_option maxHeartbeats 4000000 in
theorem wX1_make_j166 {M' : Mm}   {a0 : Nat} {M : Mm} (B : Bx p s m args c cX1_make 4 RX1 E L) (hr : meth.sig.returnType = none) (hlk : meth.locks = false)  (h0 : At L a0 T1) (h : fX1_make_j166 fu a0 M = some M') (hR : Rx s E L M H locs) (hl : lv_has ls 4 [(0, .ref a0)]) : W p l e (rmD (d + 21)) s m args below meth c H locs 0 0 (MQ below (QcM E L none M') args s 0 0 E.2.2.2) (F0 m 166 ls []) := by
  have hx := B.1
  have hb := B.2.1
  unfold fX1_make_j166 at h
  refine lv_aload_n hx hb dX1_make_166 rfl (lv_at hl 0 rfl) ?_
  refine lv_aload_n hx hb dX1_make_167 rfl (lv_at hl 0 rfl) ?_
  refine lv_iconst (v := 0) hx hb dX1_make_168 (by decide) ?_
  refine lv_iconst (v := 0) hx hb dX1_make_169 (by decide) ?_
  obtain ⟨r_170, M_170, hc_170, h⟩ := bw_el h
  refine iv_X1_94 B hR (h0.at0 rfl) hl.1 (mX1_finds fu _ h0 hc_170) (Nat.le_of_ble_eq_true rfl) dX1_make_170 (fun H locs hR => ?_)
  obtain ⟨hz_173, h⟩ := gd_el h
  obtain ⟨M_173, eM_173, h⟩ := lt_el h
  refine pz_X1_62 B hR (h0.at0 rfl) hz_173 dX1_make_173 (fun H locs hR => ?_)
  rw [← eM_173] at hR
  exact r_vretW B hR hr hlk h dX1_make_176
def fX1_make_b144 (fu : Nat) (k144 : Int32 → Mm → Option Mm) (a0 : Nat) (x3 : Int32) (M : Mm) : Option Mm :=
  if 64 ≤ x3 then
    fX1_make_j166 fu a0 M
  else
    if x3 < 0 ∨ 64 ≤ ix x3 then none else
    lt (wJ M (a0 + 7) (ix x3) (0 : Int64)) fun M_159 =>
    lt (x3 + 1) fun x3_160 =>
    k144 x3_160 M_159
set_option maxRecDepth 100000 in
set_option maxHeartbeats 4000000 in
theorem wX1_make_b144 {M' : Mm}   {k144 : Int32 → Mm → Option Mm} {a0 : Nat} {x3 : Int32} {M : Mm} (B : Bx p s m args c cX1_make 4 RX1 E L) (hr : meth.sig.returnType = none) (hlk : meth.locks = false)  (ih144 : ∀ (x3 : Int32) (M : Mm), k144 x3 M = some M' → ∀ (H : Heap) (locs : List Loc) (ls : Array Slot), Rx s E L M H locs → lv_has ls 4 [(0, .ref a0), (3, .int x3)] → W p l e (rmD (d + 21)) s m args below meth c H locs 0 0 (MQ below (QcM E L none M') args s 0 0 E.2.2.2) (F0 m 144 ls [])) (h0 : At L a0 T1) (h : fX1_make_b144 fu k144 a0 x3 M = some M') (hR : Rx s E L M H locs) (hl : lv_has ls 4 [(0, .ref a0), (3, .int x3)]) : W p l e (rmD (d + 21)) s m args below meth c H locs 0 0 (MQ below (QcM E L none M') args s 0 0 E.2.2.2) (F0 m 144 ls []) := by
  have hx := B.1
  have hb := B.2.1
  unfold fX1_make_b144 at h
  refine lv_iload_n hx hb dX1_make_144 rfl (lv_at hl 1 rfl) ?_
  refine lv_aload_n hx hb dX1_make_145 rfl (lv_at hl 0 rfl) ?_
  refine gf_X1_33 B hR (h0.at0 rfl) dX1_make_146 ?_
  refine r_alenJ B hR (v := 64) (h0.at 7 rfl) (by decide) dX1_make_149 ?_
  refine lv_icmp_ge (tgt := 166) hx hb dX1_make_150 (by decide) (fun c_150 => ?_) (fun c_150 => ?_)
  · rw [if_pos c_150] at h
    exact wX1_make_j166 B hr hlk h0 h hR (lv_sub hl [0] rfl)
  · rw [if_neg c_150] at h
    refine lv_aload_n hx hb dX1_make_153 rfl (lv_at hl 0 rfl) ?_
    refine gf_X1_33 B hR (h0.at0 rfl) dX1_make_154 ?_
    refine lv_iload_n hx hb dX1_make_157 rfl (lv_at hl 1 rfl) ?_
    refine lv_lconst (v := 0) hx hb dX1_make_158 (by decide) ?_
    obtain ⟨hi_159, h⟩ := ifn_el h
    obtain ⟨M_159, eM_159, h⟩ := lt_el h
    refine r_last B hR (h0.at 7 rfl) hi_159 dX1_make_159 (fun H locs hR => ?_)
    rw [← eM_159] at hR
    obtain ⟨x3_160, ex3_160, h⟩ := lt_el h
    refine lv_iinc (v := x3_160) (lv' := [(3, .int x3_160), (0, .ref a0)]) hx hb dX1_make_160 hl (k := 1) rfl (by rw [ex3_160]; rfl) (by decide) rfl (fun ls hl => ?_)
    refine lv_goto (tgt := 144) hx hb dX1_make_163 (by decide) ?_
    exact ih144 x3_160 M_159 h _ _ _ hR (lv_sub hl [1, 0] rfl)
def fX1_make_l144 (fu : Nat) (a0 : Nat) (x3 : Int32) (M : Mm) : Option Mm := lp (fun (rec : (Int32 × Mm) → Option Mm) (s : Int32 × Mm) => fX1_make_b144 fu  (fun x3 M => rec (x3, M)) a0 s.1 s.2) fu (x3, M)
set_option maxRecDepth 100000 in
set_option maxHeartbeats 4000000 in
theorem wX1_make_l144 {M' : Mm}   {a0 : Nat} {x3 : Int32} {M : Mm} (B : Bx p s m args c cX1_make 4 RX1 E L) (hr : meth.sig.returnType = none) (hlk : meth.locks = false)  (h0 : At L a0 T1) (h : fX1_make_l144 fu a0 x3 M = some M') (hR : Rx s E L M H locs) (hl : lv_has ls 4 [(0, .ref a0), (3, .int x3)]) : W p l e (rmD (d + 21)) s m args below meth c H locs 0 0 (MQ below (QcM E L none M') args s 0 0 E.2.2.2) (F0 m 144 ls []) := by
  refine lp_G (G := fun z : Int32 × Mm => ∀ (H : Heap) (locs : List Loc) (ls : Array Slot), Rx s E L z.2 H locs → lv_has ls 4 [(0, .ref a0), (3, .int z.1)] → W p l e (rmD (d + 21)) s m args below meth c H locs 0 0 (MQ below (QcM E L none M') args s 0 0 E.2.2.2) (F0 m 144 ls [])) (fun rec ih z h H locs ls hR hl => ?_) fu _ h H locs ls hR hl
  exact wX1_make_b144 B hr hlk  (fun x3 M h => ih (x3, M) h) h0 h hR hl
def fX1_make_j142 (fu : Nat) (a0 : Nat) (M : Mm) : Option Mm :=
  fX1_make_l144 fu a0 0 M
set_option maxRecDepth 100000 in
set_option maxHeartbeats 4000000 in
theorem wX1_make_j142 {M' : Mm}   {a0 : Nat} {M : Mm} (B : Bx p s m args c cX1_make 4 RX1 E L) (hr : meth.sig.returnType = none) (hlk : meth.locks = false)  (h0 : At L a0 T1) (h : fX1_make_j142 fu a0 M = some M') (hR : Rx s E L M H locs) (hl : lv_has ls 4 [(0, .ref a0)]) : W p l e (rmD (d + 21)) s m args below meth c H locs 0 0 (MQ below (QcM E L none M') args s 0 0 E.2.2.2) (F0 m 142 ls []) := by
  have hx := B.1
  have hb := B.2.1
  unfold fX1_make_j142 at h
  refine lv_iconst (v := 0) hx hb dX1_make_142 (by decide) ?_
  refine lv_istore_n (lv' := [(3, .int 0), (0, .ref a0)]) hx hb dX1_make_143 rfl hl (by decide) rfl (fun ls hl => ?_)
  exact wX1_make_l144 B hr hlk h0 h hR (lv_sub hl [1, 0] rfl)
def fX1_make_b96 (fu : Nat) (k96 : Int32 → Mm → Option Mm) (a0 : Nat) (x3 : Int32) (M : Mm) : Option Mm :=
  if (M.1 (a0 + 2) 1) ≤ (x3 + 1) then
    fX1_make_j142 fu a0 M
  else
    bi (fX1_kindBehind fu a0 x3 0 M) fun r_117 =>
    if x3 < 0 ∨ 44 ≤ ix x3 then none else
    lt (wI M (a0 + 5) (ix x3) r_117) fun M_120 =>
    bi (fX1_allSteps fu a0 M_120) fun r_129 =>
    bi (fX1_kindBehind fu a0 x3 r_129 M_120) fun r_132 =>
    lt (wI M_120 (a0 + 6) (ix x3) r_132) fun M_135 =>
    lt (x3 + 1) fun x3_136 =>
    k96 x3_136 M_135
set_option maxRecDepth 100000 in
set_option maxHeartbeats 4000000 in
theorem wX1_make_b96 {M' : Mm}   {k96 : Int32 → Mm → Option Mm} {a0 : Nat} {x3 : Int32} {M : Mm} (B : Bx p s m args c cX1_make 4 RX1 E L) (hr : meth.sig.returnType = none) (hlk : meth.locks = false)  (ih96 : ∀ (x3 : Int32) (M : Mm), k96 x3 M = some M' → ∀ (H : Heap) (locs : List Loc) (ls : Array Slot), Rx s E L M H locs → lv_has ls 4 [(0, .ref a0), (3, .int x3)] → W p l e (rmD (d + 21)) s m args below meth c H locs 0 0 (MQ below (QcM E L none M') args s 0 0 E.2.2.2) (F0 m 96 ls [])) (h0 : At L a0 T1) (h : fX1_make_b96 fu k96 a0 x3 M = some M') (hR : Rx s E L M H locs) (hl : lv_has ls 4 [(0, .ref a0), (3, .int x3)]) : W p l e (rmD (d + 21)) s m args below meth c H locs 0 0 (MQ below (QcM E L none M') args s 0 0 E.2.2.2) (F0 m 96 ls []) := by
  have hx := B.1
  have hb := B.2.1
  unfold fX1_make_b96 at h
  refine lv_iload_n hx hb dX1_make_96 rfl (lv_at hl 1 rfl) ?_
  refine lv_iconst (v := 1) hx hb dX1_make_97 (by decide) ?_
  refine lv_iadd hx hb dX1_make_98 ?_
  refine lv_aload_n hx hb dX1_make_99 rfl (lv_at hl 0 rfl) ?_
  refine gf_X1_20 B hR (h0.at0 rfl) dX1_make_100 ?_
  refine gf_X1_86 B hR ((sb_1_5 h0).at0 rfl) dX1_make_103 ?_
  refine lv_icmp_ge (tgt := 142) hx hb dX1_make_106 (by decide) (fun c_106 => ?_) (fun c_106 => ?_)
  · rw [if_pos c_106] at h
    exact wX1_make_j142 B hr hlk h0 h hR (lv_sub hl [0] rfl)
  · rw [if_neg c_106] at h
    refine lv_aload_n hx hb dX1_make_109 rfl (lv_at hl 0 rfl) ?_
    refine gf_X1_27 B hR (h0.at0 rfl) dX1_make_110 ?_
    refine lv_iload_n hx hb dX1_make_113 rfl (lv_at hl 1 rfl) ?_
    refine lv_aload_n hx hb dX1_make_114 rfl (lv_at hl 0 rfl) ?_
    refine lv_iload_n hx hb dX1_make_115 rfl (lv_at hl 1 rfl) ?_
    refine lv_iconst (v := 0) hx hb dX1_make_116 (by decide) ?_
    obtain ⟨r_117, hc_117, h⟩ := bi_el h
    refine iv_X1_87 B hR (h0.at0 rfl) hl.1 (mX1_kindBehind fu _ h0 hc_117) (Nat.le_of_ble_eq_true rfl) dX1_make_117 (fun H locs hR => ?_)
    obtain ⟨hi_120, h⟩ := ifn_el h
    obtain ⟨M_120, eM_120, h⟩ := lt_el h
    refine r_iast B hR (h0.at 5 rfl) hi_120 dX1_make_120 (fun H locs hR => ?_)
    rw [← eM_120] at hR
    refine lv_aload_n hx hb dX1_make_121 rfl (lv_at hl 0 rfl) ?_
    refine gf_X1_30 B hR (h0.at0 rfl) dX1_make_122 ?_
    refine lv_iload_n hx hb dX1_make_125 rfl (lv_at hl 1 rfl) ?_
    refine lv_aload_n hx hb dX1_make_126 rfl (lv_at hl 0 rfl) ?_
    refine lv_iload_n hx hb dX1_make_127 rfl (lv_at hl 1 rfl) ?_
    refine lv_aload_n hx hb dX1_make_128 rfl (lv_at hl 0 rfl) ?_
    obtain ⟨r_129, hc_129, h⟩ := bi_el h
    refine iv_X1_91 B hR (h0.at0 rfl) hl.1 (mX1_allSteps fu _ h0 hc_129) (Nat.le_of_ble_eq_true rfl) dX1_make_129 (fun H locs hR => ?_)
    obtain ⟨r_132, hc_132, h⟩ := bi_el h
    refine iv_X1_87 B hR (h0.at0 rfl) hl.1 (mX1_kindBehind fu _ h0 hc_132) (Nat.le_of_ble_eq_true rfl) dX1_make_132 (fun H locs hR => ?_)
    obtain ⟨M_135, eM_135, h⟩ := lt_el h
    refine r_iast B hR (h0.at 6 rfl) hi_120 dX1_make_135 (fun H locs hR => ?_)
    rw [← eM_135] at hR
    obtain ⟨x3_136, ex3_136, h⟩ := lt_el h
    refine lv_iinc (v := x3_136) (lv' := [(3, .int x3_136), (0, .ref a0)]) hx hb dX1_make_136 hl (k := 1) rfl (by rw [ex3_136]; rfl) (by decide) rfl (fun ls hl => ?_)
    refine lv_goto (tgt := 96) hx hb dX1_make_139 (by decide) ?_
    exact ih96 x3_136 M_135 h _ _ _ hR (lv_sub hl [1, 0] rfl)
def fX1_make_l96 (fu : Nat) (a0 : Nat) (x3 : Int32) (M : Mm) : Option Mm := lp (fun (rec : (Int32 × Mm) → Option Mm) (s : Int32 × Mm) => fX1_make_b96 fu  (fun x3 M => rec (x3, M)) a0 s.1 s.2) fu (x3, M)
set_option maxRecDepth 100000 in
set_option maxHeartbeats 4000000 in
theorem wX1_make_l96 {M' : Mm}   {a0 : Nat} {x3 : Int32} {M : Mm} (B : Bx p s m args c cX1_make 4 RX1 E L) (hr : meth.sig.returnType = none) (hlk : meth.locks = false)  (h0 : At L a0 T1) (h : fX1_make_l96 fu a0 x3 M = some M') (hR : Rx s E L M H locs) (hl : lv_has ls 4 [(0, .ref a0), (3, .int x3)]) : W p l e (rmD (d + 21)) s m args below meth c H locs 0 0 (MQ below (QcM E L none M') args s 0 0 E.2.2.2) (F0 m 96 ls []) := by
  refine lp_G (G := fun z : Int32 × Mm => ∀ (H : Heap) (locs : List Loc) (ls : Array Slot), Rx s E L z.2 H locs → lv_has ls 4 [(0, .ref a0), (3, .int z.1)] → W p l e (rmD (d + 21)) s m args below meth c H locs 0 0 (MQ below (QcM E L none M') args s 0 0 E.2.2.2) (F0 m 96 ls [])) (fun rec ih z h H locs ls hR hl => ?_) fu _ h H locs ls hR hl
  exact wX1_make_b96 B hr hlk  (fun x3 M h => ih (x3, M) h) h0 h hR hl
def fX1_make_j37 (fu : Nat) (a0 : Nat) (a1 : Nat) (n2 : Nat) (a2 : Nat) (b0 : Nat) (t1 : Int32) (M : Mm) : Option Mm :=
  gd (t1 = 0 ∨ t1 = 1) <|
  lt (wI M b0 2 t1) fun M_37 =>
  lt (wI M_37 a0 3 0) fun M_42 =>
  if (M_42.1 a0 2) = 0 then
    some M_42
  else
    lt (wI M_42 a0 10 (M_42.1 a1 4)) fun M_58 =>
    lt (wI M_58 a0 11 (M_58.1 a1 2)) fun M_66 =>
    bi (fX8_countSet fu a1 M_66) fun r_75 =>
    lt (wI M_66 a0 12 ((M_66.1 a1 1) - r_75)) fun M_79 =>
    bm (fX1_cutPieces fu a0 a1 n2 a2 M_79) fun M_85 =>
    bm (fX1_placeSteps fu a0 a1 n2 a2 M_85) fun M_91 =>
    fX1_make_l96 fu a0 0 M_91
set_option maxRecDepth 100000 in
set_option maxHeartbeats 4000000 in
theorem wX1_make_j37 {M' : Mm}   {a0 : Nat} {a1 : Nat} {n2 : Nat} {a2 : Nat} {b0 : Nat} {t1 : Int32} {M : Mm} (B : Bx p s m args c cX1_make 4 RX1 E L) (hr : meth.sig.returnType = none) (hlk : meth.locks = false)  (h0 : At L a0 T1) (h1 : At L a1 T8) (h2 : At L a2 (T0 n2)) (g0 : At L b0 T1) (h : fX1_make_j37 fu a0 a1 n2 a2 b0 t1 M = some M') (hR : Rx s E L M H locs) (hl : lv_has ls 4 [(0, .ref a0), (1, .ref a1), (2, .ref a2)]) : W p l e (rmD (d + 21)) s m args below meth c H locs 0 0 (MQ below (QcM E L none M') args s 0 0 E.2.2.2) (F0 m 37 ls [.int t1, .ref b0]) := by
  have hx := B.1
  have hb := B.2.1
  unfold fX1_make_j37 at h
  obtain ⟨hz_37, h⟩ := gd_el h
  obtain ⟨M_37, eM_37, h⟩ := lt_el h
  refine pz_X1_58 B hR (g0.at0 rfl) hz_37 dX1_make_37 (fun H locs hR => ?_)
  rw [← eM_37] at hR
  refine lv_aload_n hx hb dX1_make_40 rfl (lv_at hl 0 rfl) ?_
  refine lv_iconst (v := 0) hx hb dX1_make_41 (by decide) ?_
  obtain ⟨M_42, eM_42, h⟩ := lt_el h
  refine pz_X1_62 B hR (h0.at0 rfl) (Or.inl rfl) dX1_make_42 (fun H locs hR => ?_)
  rw [← eM_42] at hR
  refine lv_aload_n hx hb dX1_make_45 rfl (lv_at hl 0 rfl) ?_
  refine gf_X1_58 B hR (h0.at0 rfl) dX1_make_46 ?_
  refine lv_if_ne (tgt := 53) hx hb dX1_make_49 (by decide) (fun c_49 => ?_) (fun c_49 => ?_)
  · rw [if_neg c_49] at h
    refine lv_aload_n hx hb dX1_make_53 rfl (lv_at hl 0 rfl) ?_
    refine lv_aload_n hx hb dX1_make_54 rfl (lv_at hl 1 rfl) ?_
    refine gf_X1_65 B hR (h1.at0 rfl) dX1_make_55 ?_
    obtain ⟨M_58, eM_58, h⟩ := lt_el h
    refine pf_X1_68 B hR (h0.at0 rfl) dX1_make_58 (fun H locs hR => ?_)
    rw [← eM_58] at hR
    refine lv_aload_n hx hb dX1_make_61 rfl (lv_at hl 0 rfl) ?_
    refine lv_aload_n hx hb dX1_make_62 rfl (lv_at hl 1 rfl) ?_
    refine gf_X1_69 B hR (h1.at0 rfl) dX1_make_63 ?_
    obtain ⟨M_66, eM_66, h⟩ := lt_el h
    refine pf_X1_72 B hR (h0.at0 rfl) dX1_make_66 (fun H locs hR => ?_)
    rw [← eM_66] at hR
    refine lv_aload_n hx hb dX1_make_69 rfl (lv_at hl 0 rfl) ?_
    refine lv_aload_n hx hb dX1_make_70 rfl (lv_at hl 1 rfl) ?_
    refine gf_X1_47 B hR (h1.at0 rfl) dX1_make_71 ?_
    refine lv_aload_n hx hb dX1_make_74 rfl (lv_at hl 1 rfl) ?_
    obtain ⟨r_75, hc_75, h⟩ := bi_el h
    refine iv_X1_73 B hR (h1.at0 rfl) hl.1 (mX8_countSet fu _ h1 hc_75) (Nat.le_of_ble_eq_true rfl) dX1_make_75 (fun H locs hR => ?_)
    refine lv_isub hx hb dX1_make_78 ?_
    obtain ⟨M_79, eM_79, h⟩ := lt_el h
    refine pf_X1_77 B hR (h0.at0 rfl) dX1_make_79 (fun H locs hR => ?_)
    rw [← eM_79] at hR
    refine lv_aload_n hx hb dX1_make_82 rfl (lv_at hl 0 rfl) ?_
    refine lv_aload_n hx hb dX1_make_83 rfl (lv_at hl 1 rfl) ?_
    refine lv_aload_n hx hb dX1_make_84 rfl (lv_at hl 2 rfl) ?_
    obtain ⟨M_85, hc_85, h⟩ := bm_el h
    refine iv_X1_80 B hR (h0.at0 rfl) hl.1 (mX1_cutPieces fu _ h0 h1 h2 hc_85) (Nat.le_of_ble_eq_true rfl) dX1_make_85 (fun H locs hR => ?_)
    refine lv_aload_n hx hb dX1_make_88 rfl (lv_at hl 0 rfl) ?_
    refine lv_aload_n hx hb dX1_make_89 rfl (lv_at hl 1 rfl) ?_
    refine lv_aload_n hx hb dX1_make_90 rfl (lv_at hl 2 rfl) ?_
    obtain ⟨M_91, hc_91, h⟩ := bm_el h
    refine iv_X1_83 B hR (h0.at0 rfl) hl.1 (mX1_placeSteps fu _ h0 h1 h2 hc_91) (Nat.le_of_ble_eq_true rfl) dX1_make_91 (fun H locs hR => ?_)
    refine lv_iconst (v := 0) hx hb dX1_make_94 (by decide) ?_
    refine lv_istore_n (lv' := [(3, .int 0), (0, .ref a0), (1, .ref a1), (2, .ref a2)]) hx hb dX1_make_95 rfl hl (by decide) rfl (fun ls hl => ?_)
    exact wX1_make_l96 B hr hlk h0 h hR (lv_sub hl [1, 0] rfl)
  · rw [if_pos c_49] at h
    exact r_vretW B hR hr hlk h dX1_make_52
def fX1_make_j36 (fu : Nat) (a0 : Nat) (a1 : Nat) (n2 : Nat) (a2 : Nat) (b0 : Nat) (M : Mm) : Option Mm :=
  fX1_make_j37 fu a0 a1 n2 a2 b0 0 M
set_option maxRecDepth 100000 in
set_option maxHeartbeats 4000000 in
theorem wX1_make_j36 {M' : Mm}   {a0 : Nat} {a1 : Nat} {n2 : Nat} {a2 : Nat} {b0 : Nat} {M : Mm} (B : Bx p s m args c cX1_make 4 RX1 E L) (hr : meth.sig.returnType = none) (hlk : meth.locks = false)  (h0 : At L a0 T1) (h1 : At L a1 T8) (h2 : At L a2 (T0 n2)) (g0 : At L b0 T1) (h : fX1_make_j36 fu a0 a1 n2 a2 b0 M = some M') (hR : Rx s E L M H locs) (hl : lv_has ls 4 [(0, .ref a0), (1, .ref a1), (2, .ref a2)]) : W p l e (rmD (d + 21)) s m args below meth c H locs 0 0 (MQ below (QcM E L none M') args s 0 0 E.2.2.2) (F0 m 36 ls [.ref b0]) := by
  have hx := B.1
  have hb := B.2.1
  unfold fX1_make_j36 at h
  refine lv_iconst (v := 0) hx hb dX1_make_36 (by decide) ?_
  exact wX1_make_j37 B hr hlk h0 h1 h2 g0 h hR hl
def fX1_make (fu : Nat) (a0 : Nat) (a1 : Nat) (n2 : Nat) (a2 : Nat) (M : Mm) : Option Mm :=
  bm (fX1_countSteps fu a0 a1 n2 a2 M) fun M_3 =>
  if (M_3.1 a1 1) < (M_3.1 a2 3) then
    fX1_make_j36 fu a0 a1 n2 a2 a0 M_3
  else
    if 12 < ((M_3.1 a0 0) + (M_3.1 a0 1)) then
      fX1_make_j36 fu a0 a1 n2 a2 a0 M_3
    else
      fX1_make_j37 fu a0 a1 n2 a2 a0 1 M_3
set_option maxRecDepth 100000 in
set_option maxHeartbeats 4000000 in
theorem mX1_make {l : Launch} {E : Ge} {L : Lay} (fu d : Nat) {a0 : Nat} {a1 : Nat} {n2 : Nat} {a2 : Nat} {M : Mm} {M' : Mm}  (h0 : At L a0 T1) (h1 : At L a1 T8) (h2 : At L a2 (T0 n2)) (h : fX1_make fu a0 a1 n2 a2 M = some M') : Ct l E L yX1_make cX1_make 4 none (d + 21) [.ref a0, .ref a1, .ref a2] M none M' := by
  refine Ct.of (by decide) ?_
  intro p e s m below meth c hr hlk B hR
  have B : Bx p s m _ c cX1_make 4 RX1 E L := B
  have hx := B.1
  have hb := B.2.1
  have hl := lv_entry ([.ref a0, .ref a1, .ref a2]) (n := 4) (Nat.le_of_ble_eq_true rfl)
  rw [lg_entry_eq]
  generalize (lg_sl ([.ref a0, .ref a1, .ref a2]) ++ List.replicate (4 - (lg_sl ([.ref a0, .ref a1, .ref a2])).length) Slot.unset).toArray = ls at hl ⊢
  have hl : lv_has ls 4 [(0, .ref a0), (1, .ref a1), (2, .ref a2)] := hl
  unfold fX1_make at h
  refine lv_aload_n hx hb dX1_make_0 rfl (lv_at hl 0 rfl) ?_
  refine lv_aload_n hx hb dX1_make_1 rfl (lv_at hl 1 rfl) ?_
  refine lv_aload_n hx hb dX1_make_2 rfl (lv_at hl 2 rfl) ?_
  obtain ⟨M_3, hc_3, h⟩ := bm_el h
  refine iv_X1_37 B hR (h0.at0 rfl) hl.1 (mX1_countSteps fu _ h0 h1 h2 hc_3) (Nat.le_of_ble_eq_true rfl) dX1_make_3 (fun H locs hR => ?_)
  refine lv_aload_n hx hb dX1_make_6 rfl (lv_at hl 0 rfl) ?_
  refine lv_aload_n hx hb dX1_make_7 rfl (lv_at hl 2 rfl) ?_
  refine gf_X1_41 B hR (h2.at0 rfl) dX1_make_8 ?_
  refine lv_aload_n hx hb dX1_make_11 rfl (lv_at hl 1 rfl) ?_
  refine gf_X1_47 B hR (h1.at0 rfl) dX1_make_12 ?_
  refine lv_icmp_gt (tgt := 36) hx hb dX1_make_15 (by decide) (fun c_15 => ?_) (fun c_15 => ?_)
  · rw [if_pos c_15] at h
    exact wX1_make_j36 B hr hlk h0 h1 h2 h0 h hR hl
  · rw [if_neg c_15] at h
    refine lv_aload_n hx hb dX1_make_18 rfl (lv_at hl 0 rfl) ?_
    refine gf_X1_52 B hR (h0.at0 rfl) dX1_make_19 ?_
    refine lv_aload_n hx hb dX1_make_22 rfl (lv_at hl 0 rfl) ?_
    refine gf_X1_55 B hR (h0.at0 rfl) dX1_make_23 ?_
    refine lv_iadd hx hb dX1_make_26 ?_
    refine lv_bipush (v := 12) hx hb dX1_make_27 (by decide) ?_
    refine lv_icmp_gt (tgt := 36) hx hb dX1_make_29 (by decide) (fun c_29 => ?_) (fun c_29 => ?_)
    · rw [if_pos c_29] at h
      exact wX1_make_j36 B hr hlk h0 h1 h2 h0 h hR hl
    · rw [if_neg c_29] at h
      refine lv_iconst (v := 1) hx hb dX1_make_32 (by decide) ?_
      refine lv_goto (tgt := 37) hx hb dX1_make_33 (by decide) ?_
      exact wX1_make_j37 B hr hlk h0 h1 h2 h0 h hR hl
def fX1_hasStep_j29 (fu : Nat) (t0 : Int32) (M : Mm) : Option Int32 :=
  gd (t0 = 0 ∨ t0 = 1) <|
  some t0
set_option maxRecDepth 100000 in
set_option maxHeartbeats 4000000 in
theorem wX1_hasStep_j29 {r : Int32}   {t0 : Int32} {M : Mm} (B : Bx p s m args c cX1_hasStep 2 RX1 E L) (hr : meth.sig.returnType = (some .boolean)) (hlk : meth.locks = false)   (h : fX1_hasStep_j29 fu t0 M = some r) (hR : Rx s E L M H locs) (hl : lv_has ls 2 []) : W p l e (rmD (d + 0)) s m args below meth c H locs 0 0 (MQ below (QcM E L (some (.int r)) M) args s 0 0 E.2.2.2) (F0 m 29 ls [.int t0]) := by
  have hx := B.1
  have hb := B.2.1
  unfold fX1_hasStep_j29 at h
  obtain ⟨hz_29, h⟩ := gd_el h
  exact r_zretP B hR hr hlk hz_29 h dX1_hasStep_29
def fX1_hasStep_j28 (fu : Nat) (M : Mm) : Option Int32 :=
  fX1_hasStep_j29 fu 0 M
set_option maxRecDepth 100000 in
set_option maxHeartbeats 4000000 in
theorem wX1_hasStep_j28 {r : Int32}    {M : Mm} (B : Bx p s m args c cX1_hasStep 2 RX1 E L) (hr : meth.sig.returnType = (some .boolean)) (hlk : meth.locks = false)   (h : fX1_hasStep_j28 fu M = some r) (hR : Rx s E L M H locs) (hl : lv_has ls 2 []) : W p l e (rmD (d + 0)) s m args below meth c H locs 0 0 (MQ below (QcM E L (some (.int r)) M) args s 0 0 E.2.2.2) (F0 m 28 ls []) := by
  have hx := B.1
  have hb := B.2.1
  unfold fX1_hasStep_j28 at h
  refine lv_iconst (v := 0) hx hb dX1_hasStep_28 (by decide) ?_
  exact wX1_hasStep_j29 B hr hlk  h hR hl
def fX1_hasStep (fu : Nat) (a0 : Nat) (x1 : Int32) (M : Mm) : Option Int32 :=
  if (M.1 a0 3) = 0 then
    fX1_hasStep_j28 fu M
  else
    if x1 < 0 then
      fX1_hasStep_j28 fu M
    else
      if ((M.1 a0 0) + (M.1 a0 1)) ≤ x1 then
        fX1_hasStep_j28 fu M
      else
        fX1_hasStep_j29 fu 1 M
set_option maxRecDepth 100000 in
set_option maxHeartbeats 4000000 in
theorem mX1_hasStep {l : Launch} {E : Ge} {L : Lay} (fu d : Nat) {a0 : Nat} {x1 : Int32} {M : Mm} {r : Int32}  (h0 : At L a0 T1) (h : fX1_hasStep fu a0 x1 M = some r) : Ct l E L yX1_hasStep cX1_hasStep 2 (some .boolean) (d + 0) [.ref a0, .int x1] M (some (.int r)) M := by
  refine Ct.of (by decide) ?_
  intro p e s m below meth c hr hlk B hR
  have B : Bx p s m _ c cX1_hasStep 2 RX1 E L := B
  have hx := B.1
  have hb := B.2.1
  have hl := lv_entry ([.ref a0, .int x1]) (n := 2) (Nat.le_of_ble_eq_true rfl)
  rw [lg_entry_eq]
  generalize (lg_sl ([.ref a0, .int x1]) ++ List.replicate (2 - (lg_sl ([.ref a0, .int x1])).length) Slot.unset).toArray = ls at hl ⊢
  have hl : lv_has ls 2 [(0, .ref a0), (1, .int x1)] := hl
  unfold fX1_hasStep at h
  refine lv_aload_n hx hb dX1_hasStep_0 rfl (lv_at hl 0 rfl) ?_
  refine gf_X1_62 B hR (h0.at0 rfl) dX1_hasStep_1 ?_
  refine lv_if_eq (tgt := 28) hx hb dX1_hasStep_4 (by decide) (fun c_4 => ?_) (fun c_4 => ?_)
  · rw [if_pos c_4] at h
    exact wX1_hasStep_j28 B hr hlk  h hR (lv_sub hl [] rfl)
  · rw [if_neg c_4] at h
    refine lv_iload_n hx hb dX1_hasStep_7 rfl (lv_at hl 1 rfl) ?_
    refine lv_if_lt (tgt := 28) hx hb dX1_hasStep_8 (by decide) (fun c_8 => ?_) (fun c_8 => ?_)
    · rw [if_pos c_8] at h
      exact wX1_hasStep_j28 B hr hlk  h hR (lv_sub hl [] rfl)
    · rw [if_neg c_8] at h
      refine lv_iload_n hx hb dX1_hasStep_11 rfl (lv_at hl 1 rfl) ?_
      refine lv_aload_n hx hb dX1_hasStep_12 rfl (lv_at hl 0 rfl) ?_
      refine gf_X1_52 B hR (h0.at0 rfl) dX1_hasStep_13 ?_
      refine lv_aload_n hx hb dX1_hasStep_16 rfl (lv_at hl 0 rfl) ?_
      refine gf_X1_55 B hR (h0.at0 rfl) dX1_hasStep_17 ?_
      refine lv_iadd hx hb dX1_hasStep_20 ?_
      refine lv_icmp_ge (tgt := 28) hx hb dX1_hasStep_21 (by decide) (fun c_21 => ?_) (fun c_21 => ?_)
      · rw [if_pos c_21] at h
        exact wX1_hasStep_j28 B hr hlk  h hR (lv_sub hl [] rfl)
      · rw [if_neg c_21] at h
        refine lv_iconst (v := 1) hx hb dX1_hasStep_24 (by decide) ?_
        refine lv_goto (tgt := 29) hx hb dX1_hasStep_25 (by decide) ?_
        exact wX1_hasStep_j29 B hr hlk  h hR (lv_sub hl [] rfl)
def fX1_stirredBy_j125 (fu : Nat) (x4 : Int32) (M : Mm) : Option Int32 :=
  some x4
set_option maxRecDepth 100000 in
set_option maxHeartbeats 4000000 in
theorem wX1_stirredBy_j125 {r : Int32}   {x4 : Int32} {M : Mm} (B : Bx p s m args c cX1_stirredBy 6 RX1 E L) (hr : meth.sig.returnType = (some .int)) (hlk : meth.locks = false)   (h : fX1_stirredBy_j125 fu x4 M = some r) (hR : Rx s E L M H locs) (hl : lv_has ls 6 [(4, .int x4)]) : W p l e (rmD (d + 3)) s m args below meth c H locs 0 0 (MQ below (QcM E L (some (.int r)) M) args s 0 0 E.2.2.2) (F0 m 125 ls []) := by
  have hx := B.1
  have hb := B.2.1
  unfold fX1_stirredBy_j125 at h
  refine lv_iload hx hb dX1_stirredBy_125 (lv_at hl 0 rfl) ?_
  exact r_iretP B hR hr hlk h dX1_stirredBy_127
def fX1_stirredBy_j119 (fu : Nat) (k43 : Int32 → Int32 → Option Int32) (a0 : Nat) (x2 : Int32) (x3 : Int32) (x4 : Int32) (x5 : Int32) (M : Mm) : Option Int32 :=
  lt (x5 + 1) fun x5_119 =>
  k43 x4 x5_119
set_option maxRecDepth 100000 in
set_option maxHeartbeats 4000000 in
theorem wX1_stirredBy_j119 {r : Int32}  {k43 : Int32 → Int32 → Option Int32} {a0 : Nat} {x2 : Int32} {x3 : Int32} {x4 : Int32} {x5 : Int32} {M : Mm} (B : Bx p s m args c cX1_stirredBy 6 RX1 E L) (hr : meth.sig.returnType = (some .int)) (hlk : meth.locks = false) (ih43 : ∀ (x4 : Int32) (x5 : Int32), k43 x4 x5 = some r → ∀ (H : Heap) (locs : List Loc) (ls : Array Slot), Rx s E L M H locs → lv_has ls 6 [(0, .ref a0), (2, .int x2), (3, .int x3), (4, .int x4), (5, .int x5)] → W p l e (rmD (d + 3)) s m args below meth c H locs 0 0 (MQ below (QcM E L (some (.int r)) M) args s 0 0 E.2.2.2) (F0 m 43 ls [])) (h0 : At L a0 T1) (h : fX1_stirredBy_j119 fu k43 a0 x2 x3 x4 x5 M = some r) (hR : Rx s E L M H locs) (hl : lv_has ls 6 [(0, .ref a0), (2, .int x2), (3, .int x3), (4, .int x4), (5, .int x5)]) : W p l e (rmD (d + 3)) s m args below meth c H locs 0 0 (MQ below (QcM E L (some (.int r)) M) args s 0 0 E.2.2.2) (F0 m 119 ls []) := by
  have hx := B.1
  have hb := B.2.1
  unfold fX1_stirredBy_j119 at h
  obtain ⟨x5_119, ex5_119, h⟩ := lt_el h
  refine lv_iinc (v := x5_119) (lv' := [(5, .int x5_119), (0, .ref a0), (2, .int x2), (3, .int x3), (4, .int x4)]) hx hb dX1_stirredBy_119 hl (k := 4) rfl (by rw [ex5_119]; rfl) (by decide) rfl (fun ls hl => ?_)
  refine lv_goto (tgt := 43) hx hb dX1_stirredBy_122 (by decide) ?_
  exact ih43 x4 x5_119 h _ _ _ hR (lv_sub hl [1, 2, 3, 4, 0] rfl)
def fX1_stirredBy_b43 (fu : Nat) (k43 : Int32 → Int32 → Option Int32) (a0 : Nat) (x2 : Int32) (x3 : Int32) (x4 : Int32) (x5 : Int32) (M : Mm) : Option Int32 :=
  if (M.1 (a0 + 2) 1) ≤ (x5 + 1) then
    fX1_stirredBy_j125 fu x4 M
  else
    if x5 < 0 ∨ 44 ≤ ix x5 then none else
    if (M.1 ((a0 + 2) + 1) (ix x5)) < (M.1 a0 10) then
      fX1_stirredBy_j119 fu k43 a0 x2 x3 x4 x5 M
    else
      bi (fX1_kindBehind fu a0 x5 x2 M) fun r_78 =>
      bi (fX1_kindBehind fu a0 x5 x3 M) fun r_85 =>
      if r_78 = r_85 then
        fX1_stirredBy_j119 fu k43 a0 x2 x3 x4 x5 M
      else
        if (x5 + 1) < 0 ∨ 44 ≤ ix (x5 + 1) then none else
        lt ((x4 + ((M.1 ((a0 + 2) + 1) (ix (x5 + 1))) - (M.1 ((a0 + 2) + 1) (ix x5))))) fun x4_117 =>
        fX1_stirredBy_j119 fu k43 a0 x2 x3 x4_117 x5 M
set_option maxRecDepth 100000 in
set_option maxHeartbeats 4000000 in
theorem wX1_stirredBy_b43 {r : Int32}   {k43 : Int32 → Int32 → Option Int32} {a0 : Nat} {x2 : Int32} {x3 : Int32} {x4 : Int32} {x5 : Int32} {M : Mm} (B : Bx p s m args c cX1_stirredBy 6 RX1 E L) (hr : meth.sig.returnType = (some .int)) (hlk : meth.locks = false)  (ih43 : ∀ (x4 : Int32) (x5 : Int32), k43 x4 x5 = some r → ∀ (H : Heap) (locs : List Loc) (ls : Array Slot), Rx s E L M H locs → lv_has ls 6 [(0, .ref a0), (2, .int x2), (3, .int x3), (4, .int x4), (5, .int x5)] → W p l e (rmD (d + 3)) s m args below meth c H locs 0 0 (MQ below (QcM E L (some (.int r)) M) args s 0 0 E.2.2.2) (F0 m 43 ls [])) (h0 : At L a0 T1) (h : fX1_stirredBy_b43 fu k43 a0 x2 x3 x4 x5 M = some r) (hR : Rx s E L M H locs) (hl : lv_has ls 6 [(0, .ref a0), (2, .int x2), (3, .int x3), (4, .int x4), (5, .int x5)]) : W p l e (rmD (d + 3)) s m args below meth c H locs 0 0 (MQ below (QcM E L (some (.int r)) M) args s 0 0 E.2.2.2) (F0 m 43 ls []) := by
  have hx := B.1
  have hb := B.2.1
  unfold fX1_stirredBy_b43 at h
  refine lv_iload hx hb dX1_stirredBy_43 (lv_at hl 4 rfl) ?_
  refine lv_iconst (v := 1) hx hb dX1_stirredBy_45 (by decide) ?_
  refine lv_iadd hx hb dX1_stirredBy_46 ?_
  refine lv_aload_n hx hb dX1_stirredBy_47 rfl (lv_at hl 0 rfl) ?_
  refine gf_X1_20 B hR (h0.at0 rfl) dX1_stirredBy_48 ?_
  refine gf_X1_86 B hR ((sb_1_5 h0).at0 rfl) dX1_stirredBy_51 ?_
  refine lv_icmp_ge (tgt := 125) hx hb dX1_stirredBy_54 (by decide) (fun c_54 => ?_) (fun c_54 => ?_)
  · rw [if_pos c_54] at h
    exact wX1_stirredBy_j125 B hr hlk  h hR (lv_sub hl [3] rfl)
  · rw [if_neg c_54] at h
    refine lv_aload_n hx hb dX1_stirredBy_57 rfl (lv_at hl 0 rfl) ?_
    refine gf_X1_20 B hR (h0.at0 rfl) dX1_stirredBy_58 ?_
    refine gf_X1_98 B hR ((sb_1_5 h0).at0 rfl) dX1_stirredBy_61 ?_
    refine lv_iload hx hb dX1_stirredBy_64 (lv_at hl 4 rfl) ?_
    obtain ⟨hi_66, h⟩ := ifn_el h
    refine r_iald B hR ((sb_1_5 h0).at 1 rfl) hi_66 dX1_stirredBy_66 ?_
    refine lv_aload_n hx hb dX1_stirredBy_67 rfl (lv_at hl 0 rfl) ?_
    refine gf_X1_68 B hR (h0.at0 rfl) dX1_stirredBy_68 ?_
    refine lv_icmp_lt (tgt := 119) hx hb dX1_stirredBy_71 (by decide) (fun c_71 => ?_) (fun c_71 => ?_)
    · rw [if_pos c_71] at h
      exact wX1_stirredBy_j119 B hr hlk ih43 h0 h hR hl
    · rw [if_neg c_71] at h
      refine lv_aload_n hx hb dX1_stirredBy_74 rfl (lv_at hl 0 rfl) ?_
      refine lv_iload hx hb dX1_stirredBy_75 (lv_at hl 4 rfl) ?_
      refine lv_iload_n hx hb dX1_stirredBy_77 rfl (lv_at hl 1 rfl) ?_
      obtain ⟨r_78, hc_78, h⟩ := bi_el h
      refine iv_X1_87 B hR (h0.at0 rfl) hl.1 (mX1_kindBehind fu _ h0 hc_78) (Nat.le_of_ble_eq_true rfl) dX1_stirredBy_78 (fun H locs hR => ?_)
      refine lv_aload_n hx hb dX1_stirredBy_81 rfl (lv_at hl 0 rfl) ?_
      refine lv_iload hx hb dX1_stirredBy_82 (lv_at hl 4 rfl) ?_
      refine lv_iload_n hx hb dX1_stirredBy_84 rfl (lv_at hl 2 rfl) ?_
      obtain ⟨r_85, hc_85, h⟩ := bi_el h
      refine iv_X1_87 B hR (h0.at0 rfl) hl.1 (mX1_kindBehind fu _ h0 hc_85) (Nat.le_of_ble_eq_true rfl) dX1_stirredBy_85 (fun H locs hR => ?_)
      refine lv_icmp_eq (tgt := 119) hx hb dX1_stirredBy_88 (by decide) (fun c_88 => ?_) (fun c_88 => ?_)
      · rw [if_pos c_88] at h
        exact wX1_stirredBy_j119 B hr hlk ih43 h0 h hR hl
      · rw [if_neg c_88] at h
        refine lv_iload hx hb dX1_stirredBy_91 (lv_at hl 3 rfl) ?_
        refine lv_aload_n hx hb dX1_stirredBy_93 rfl (lv_at hl 0 rfl) ?_
        refine gf_X1_20 B hR (h0.at0 rfl) dX1_stirredBy_94 ?_
        refine gf_X1_98 B hR ((sb_1_5 h0).at0 rfl) dX1_stirredBy_97 ?_
        refine lv_iload hx hb dX1_stirredBy_100 (lv_at hl 4 rfl) ?_
        refine lv_iconst (v := 1) hx hb dX1_stirredBy_102 (by decide) ?_
        refine lv_iadd hx hb dX1_stirredBy_103 ?_
        obtain ⟨hi_104, h⟩ := ifn_el h
        refine r_iald B hR ((sb_1_5 h0).at 1 rfl) hi_104 dX1_stirredBy_104 ?_
        refine lv_aload_n hx hb dX1_stirredBy_105 rfl (lv_at hl 0 rfl) ?_
        refine gf_X1_20 B hR (h0.at0 rfl) dX1_stirredBy_106 ?_
        refine gf_X1_98 B hR ((sb_1_5 h0).at0 rfl) dX1_stirredBy_109 ?_
        refine lv_iload hx hb dX1_stirredBy_112 (lv_at hl 4 rfl) ?_
        refine r_iald B hR ((sb_1_5 h0).at 1 rfl) hi_66 dX1_stirredBy_114 ?_
        refine lv_isub hx hb dX1_stirredBy_115 ?_
        refine lv_iadd hx hb dX1_stirredBy_116 ?_
        obtain ⟨x4_117, ex4_117, h⟩ := lt_el h
        refine r_nmI ex4_117 ?_
        refine lv_istore (lv' := [(4, .int x4_117), (0, .ref a0), (2, .int x2), (3, .int x3), (5, .int x5)]) hx hb dX1_stirredBy_117 hl (by decide) rfl (fun ls hl => ?_)
        exact wX1_stirredBy_j119 B hr hlk ih43 h0 h hR (lv_sub hl [1, 2, 3, 0, 4] rfl)
def fX1_stirredBy_l43 (fu : Nat) (a0 : Nat) (x2 : Int32) (x3 : Int32) (M : Mm) (x4 : Int32) (x5 : Int32) : Option Int32 := lp (fun (rec : (Int32 × Int32) → Option Int32) (s : Int32 × Int32) => fX1_stirredBy_b43 fu  (fun x4 x5 => rec (x4, x5)) a0 x2 x3 s.1 s.2 M) fu (x4, x5)
set_option maxRecDepth 100000 in
set_option maxHeartbeats 4000000 in
theorem wX1_stirredBy_l43 {r : Int32}   {a0 : Nat} {x2 : Int32} {x3 : Int32} {x4 : Int32} {x5 : Int32} {M : Mm} (B : Bx p s m args c cX1_stirredBy 6 RX1 E L) (hr : meth.sig.returnType = (some .int)) (hlk : meth.locks = false)  (h0 : At L a0 T1) (h : fX1_stirredBy_l43 fu a0 x2 x3 M x4 x5 = some r) (hR : Rx s E L M H locs) (hl : lv_has ls 6 [(0, .ref a0), (2, .int x2), (3, .int x3), (4, .int x4), (5, .int x5)]) : W p l e (rmD (d + 3)) s m args below meth c H locs 0 0 (MQ below (QcM E L (some (.int r)) M) args s 0 0 E.2.2.2) (F0 m 43 ls []) := by
  refine lp_G (G := fun z : Int32 × Int32 => ∀ (H : Heap) (locs : List Loc) (ls : Array Slot), Rx s E L M H locs → lv_has ls 6 [(0, .ref a0), (2, .int x2), (3, .int x3), (4, .int z.1), (5, .int z.2)] → W p l e (rmD (d + 3)) s m args below meth c H locs 0 0 (MQ below (QcM E L (some (.int r)) M) args s 0 0 E.2.2.2) (F0 m 43 ls [])) (fun rec ih z h H locs ls hR hl => ?_) fu _ h H locs ls hR hl
  exact wX1_stirredBy_b43 B hr hlk  (fun x4 x5 h => ih (x4, x5) h) h0 h hR hl
def fX1_stirredBy_j26 (fu : Nat) (a0 : Nat) (x1 : Int32) (x2 : Int32) (M : Mm) : Option Int32 :=
  if x1 < 0 ∨ 12 ≤ ix x1 then none else
  lt ((x2 ||| (1 <<< ((M.1 (a0 + 1) (ix x1)) &&& 31)))) fun x3_36 =>
  fX1_stirredBy_l43 fu a0 x2 x3_36 M 0 0
set_option maxRecDepth 100000 in
set_option maxHeartbeats 4000000 in
theorem wX1_stirredBy_j26 {r : Int32}   {a0 : Nat} {x1 : Int32} {x2 : Int32} {M : Mm} (B : Bx p s m args c cX1_stirredBy 6 RX1 E L) (hr : meth.sig.returnType = (some .int)) (hlk : meth.locks = false)  (h0 : At L a0 T1) (h : fX1_stirredBy_j26 fu a0 x1 x2 M = some r) (hR : Rx s E L M H locs) (hl : lv_has ls 6 [(0, .ref a0), (1, .int x1), (2, .int x2)]) : W p l e (rmD (d + 3)) s m args below meth c H locs 0 0 (MQ below (QcM E L (some (.int r)) M) args s 0 0 E.2.2.2) (F0 m 26 ls []) := by
  have hx := B.1
  have hb := B.2.1
  unfold fX1_stirredBy_j26 at h
  refine lv_iload_n hx hb dX1_stirredBy_26 rfl (lv_at hl 2 rfl) ?_
  refine lv_iconst (v := 1) hx hb dX1_stirredBy_27 (by decide) ?_
  refine lv_aload_n hx hb dX1_stirredBy_28 rfl (lv_at hl 0 rfl) ?_
  refine gf_X1_9 B hR (h0.at0 rfl) dX1_stirredBy_29 ?_
  refine lv_iload_n hx hb dX1_stirredBy_32 rfl (lv_at hl 1 rfl) ?_
  obtain ⟨hi_33, h⟩ := ifn_el h
  refine r_iald B hR (h0.at 1 rfl) hi_33 dX1_stirredBy_33 ?_
  refine lv_ishl hx hb dX1_stirredBy_34 ?_
  refine lv_ior hx hb dX1_stirredBy_35 ?_
  obtain ⟨x3_36, ex3_36, h⟩ := lt_el h
  refine r_nmI ex3_36 ?_
  refine lv_istore_n (lv' := [(3, .int x3_36), (0, .ref a0), (1, .int x1), (2, .int x2)]) hx hb dX1_stirredBy_36 rfl hl (by decide) rfl (fun ls hl => ?_)
  refine lv_iconst (v := 0) hx hb dX1_stirredBy_37 (by decide) ?_
  refine lv_istore (lv' := [(4, .int 0), (3, .int x3_36), (0, .ref a0), (1, .int x1), (2, .int x2)]) hx hb dX1_stirredBy_38 hl (by decide) rfl (fun ls hl => ?_)
  refine lv_iconst (v := 0) hx hb dX1_stirredBy_40 (by decide) ?_
  refine lv_istore (lv' := [(5, .int 0), (4, .int 0), (3, .int x3_36), (0, .ref a0), (1, .int x1), (2, .int x2)]) hx hb dX1_stirredBy_41 hl (by decide) rfl (fun ls hl => ?_)
  exact wX1_stirredBy_l43 B hr hlk h0 h hR (lv_sub hl [3, 5, 2, 1, 0] rfl)
def fX1_stirredBy_b4 (fu : Nat) (k4 : Int32 → Int32 → Option Int32) (a0 : Nat) (x1 : Int32) (x2 : Int32) (x3 : Int32) (M : Mm) : Option Int32 :=
  if x1 ≤ x3 then
    fX1_stirredBy_j26 fu a0 x1 x2 M
  else
    if x3 < 0 ∨ 12 ≤ ix x3 then none else
    lt ((x2 ||| (1 <<< ((M.1 (a0 + 1) (ix x3)) &&& 31)))) fun x2_19 =>
    lt (x3 + 1) fun x3_20 =>
    k4 x2_19 x3_20
set_option maxRecDepth 100000 in
set_option maxHeartbeats 4000000 in
theorem wX1_stirredBy_b4 {r : Int32}   {k4 : Int32 → Int32 → Option Int32} {a0 : Nat} {x1 : Int32} {x2 : Int32} {x3 : Int32} {M : Mm} (B : Bx p s m args c cX1_stirredBy 6 RX1 E L) (hr : meth.sig.returnType = (some .int)) (hlk : meth.locks = false)  (ih4 : ∀ (x2 : Int32) (x3 : Int32), k4 x2 x3 = some r → ∀ (H : Heap) (locs : List Loc) (ls : Array Slot), Rx s E L M H locs → lv_has ls 6 [(0, .ref a0), (1, .int x1), (2, .int x2), (3, .int x3)] → W p l e (rmD (d + 3)) s m args below meth c H locs 0 0 (MQ below (QcM E L (some (.int r)) M) args s 0 0 E.2.2.2) (F0 m 4 ls [])) (h0 : At L a0 T1) (h : fX1_stirredBy_b4 fu k4 a0 x1 x2 x3 M = some r) (hR : Rx s E L M H locs) (hl : lv_has ls 6 [(0, .ref a0), (1, .int x1), (2, .int x2), (3, .int x3)]) : W p l e (rmD (d + 3)) s m args below meth c H locs 0 0 (MQ below (QcM E L (some (.int r)) M) args s 0 0 E.2.2.2) (F0 m 4 ls []) := by
  have hx := B.1
  have hb := B.2.1
  unfold fX1_stirredBy_b4 at h
  refine lv_iload_n hx hb dX1_stirredBy_4 rfl (lv_at hl 3 rfl) ?_
  refine lv_iload_n hx hb dX1_stirredBy_5 rfl (lv_at hl 1 rfl) ?_
  refine lv_icmp_ge (tgt := 26) hx hb dX1_stirredBy_6 (by decide) (fun c_6 => ?_) (fun c_6 => ?_)
  · rw [if_pos c_6] at h
    exact wX1_stirredBy_j26 B hr hlk h0 h hR (lv_sub hl [0, 1, 2] rfl)
  · rw [if_neg c_6] at h
    refine lv_iload_n hx hb dX1_stirredBy_9 rfl (lv_at hl 2 rfl) ?_
    refine lv_iconst (v := 1) hx hb dX1_stirredBy_10 (by decide) ?_
    refine lv_aload_n hx hb dX1_stirredBy_11 rfl (lv_at hl 0 rfl) ?_
    refine gf_X1_9 B hR (h0.at0 rfl) dX1_stirredBy_12 ?_
    refine lv_iload_n hx hb dX1_stirredBy_15 rfl (lv_at hl 3 rfl) ?_
    obtain ⟨hi_16, h⟩ := ifn_el h
    refine r_iald B hR (h0.at 1 rfl) hi_16 dX1_stirredBy_16 ?_
    refine lv_ishl hx hb dX1_stirredBy_17 ?_
    refine lv_ior hx hb dX1_stirredBy_18 ?_
    obtain ⟨x2_19, ex2_19, h⟩ := lt_el h
    refine r_nmI ex2_19 ?_
    refine lv_istore_n (lv' := [(2, .int x2_19), (0, .ref a0), (1, .int x1), (3, .int x3)]) hx hb dX1_stirredBy_19 rfl hl (by decide) rfl (fun ls hl => ?_)
    obtain ⟨x3_20, ex3_20, h⟩ := lt_el h
    refine lv_iinc (v := x3_20) (lv' := [(3, .int x3_20), (2, .int x2_19), (0, .ref a0), (1, .int x1)]) hx hb dX1_stirredBy_20 hl (k := 3) rfl (by rw [ex3_20]; rfl) (by decide) rfl (fun ls hl => ?_)
    refine lv_goto (tgt := 4) hx hb dX1_stirredBy_23 (by decide) ?_
    exact ih4 x2_19 x3_20 h _ _ _ hR (lv_sub hl [2, 3, 1, 0] rfl)
def fX1_stirredBy_l4 (fu : Nat) (a0 : Nat) (x1 : Int32) (M : Mm) (x2 : Int32) (x3 : Int32) : Option Int32 := lp (fun (rec : (Int32 × Int32) → Option Int32) (s : Int32 × Int32) => fX1_stirredBy_b4 fu  (fun x2 x3 => rec (x2, x3)) a0 x1 s.1 s.2 M) fu (x2, x3)
set_option maxRecDepth 100000 in
set_option maxHeartbeats 4000000 in
theorem wX1_stirredBy_l4 {r : Int32}   {a0 : Nat} {x1 : Int32} {x2 : Int32} {x3 : Int32} {M : Mm} (B : Bx p s m args c cX1_stirredBy 6 RX1 E L) (hr : meth.sig.returnType = (some .int)) (hlk : meth.locks = false)  (h0 : At L a0 T1) (h : fX1_stirredBy_l4 fu a0 x1 M x2 x3 = some r) (hR : Rx s E L M H locs) (hl : lv_has ls 6 [(0, .ref a0), (1, .int x1), (2, .int x2), (3, .int x3)]) : W p l e (rmD (d + 3)) s m args below meth c H locs 0 0 (MQ below (QcM E L (some (.int r)) M) args s 0 0 E.2.2.2) (F0 m 4 ls []) := by
  refine lp_G (G := fun z : Int32 × Int32 => ∀ (H : Heap) (locs : List Loc) (ls : Array Slot), Rx s E L M H locs → lv_has ls 6 [(0, .ref a0), (1, .int x1), (2, .int z.1), (3, .int z.2)] → W p l e (rmD (d + 3)) s m args below meth c H locs 0 0 (MQ below (QcM E L (some (.int r)) M) args s 0 0 E.2.2.2) (F0 m 4 ls [])) (fun rec ih z h H locs ls hR hl => ?_) fu _ h H locs ls hR hl
  exact wX1_stirredBy_b4 B hr hlk  (fun x2 x3 h => ih (x2, x3) h) h0 h hR hl
def fX1_stirredBy (fu : Nat) (a0 : Nat) (x1 : Int32) (M : Mm) : Option Int32 :=
  fX1_stirredBy_l4 fu a0 x1 M 0 0
set_option maxRecDepth 100000 in
set_option maxHeartbeats 4000000 in
theorem mX1_stirredBy {l : Launch} {E : Ge} {L : Lay} (fu d : Nat) {a0 : Nat} {x1 : Int32} {M : Mm} {r : Int32}  (h0 : At L a0 T1) (h : fX1_stirredBy fu a0 x1 M = some r) : Ct l E L yX1_stirredBy cX1_stirredBy 6 (some .int) (d + 3) [.ref a0, .int x1] M (some (.int r)) M := by
  refine Ct.of (by decide) ?_
  intro p e s m below meth c hr hlk B hR
  have B : Bx p s m _ c cX1_stirredBy 6 RX1 E L := B
  have hx := B.1
  have hb := B.2.1
  have hl := lv_entry ([.ref a0, .int x1]) (n := 6) (Nat.le_of_ble_eq_true rfl)
  rw [lg_entry_eq]
  generalize (lg_sl ([.ref a0, .int x1]) ++ List.replicate (6 - (lg_sl ([.ref a0, .int x1])).length) Slot.unset).toArray = ls at hl ⊢
  have hl : lv_has ls 6 [(0, .ref a0), (1, .int x1)] := hl
  unfold fX1_stirredBy at h
  refine lv_iconst (v := 0) hx hb dX1_stirredBy_0 (by decide) ?_
  refine lv_istore_n (lv' := [(2, .int 0), (0, .ref a0), (1, .int x1)]) hx hb dX1_stirredBy_1 rfl hl (by decide) rfl (fun ls hl => ?_)
  refine lv_iconst (v := 0) hx hb dX1_stirredBy_2 (by decide) ?_
  refine lv_istore_n (lv' := [(3, .int 0), (2, .int 0), (0, .ref a0), (1, .int x1)]) hx hb dX1_stirredBy_3 rfl hl (by decide) rfl (fun ls hl => ?_)
  exact wX1_stirredBy_l4 B hr hlk h0 h hR (lv_sub hl [2, 3, 1, 0] rfl)
end G18_change_lean_txt
