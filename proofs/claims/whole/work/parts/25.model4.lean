theorem dX11_set_0 : decode cX11_set 0 = .ok (.aload_n 0, 1) := by decide +kernel
theorem dX11_set_1 : decode cX11_set 1 = .ok (.iload_n 1, 1) := by decide +kernel
theorem dX11_set_2 : decode cX11_set 2 = .ok (.invokevirtual 246, 3) := by decide +kernel
theorem dX11_set_5 : decode cX11_set 5 = .ok (.ifCond .eq 33, 3) := by decide +kernel
theorem dX11_set_8 : decode cX11_set 8 = .ok (.iload_n 2, 1) := by decide +kernel
theorem dX11_set_9 : decode cX11_set 9 = .ok (.iload_n 3, 1) := by decide +kernel
theorem dX11_set_10 : decode cX11_set 10 = .ok (.aload_n 0, 1) := by decide +kernel
theorem dX11_set_11 : decode cX11_set 11 = .ok (.invokevirtual 240, 3) := by decide +kernel
theorem dX11_set_14 : decode cX11_set 14 = .ok (.invokestatic 222, 3) := by decide +kernel
theorem dX11_set_17 : decode cX11_set 17 = .ok (.ifCond .eq 21, 3) := by decide +kernel
theorem dX11_set_20 : decode cX11_set 20 = .ok (.iload 4, 2) := by decide +kernel
theorem dX11_set_22 : decode cX11_set 22 = .ok (.invokestatic 306, 3) := by decide +kernel
theorem dX11_set_25 : decode cX11_set 25 = .ok (.ifCond .eq 13, 3) := by decide +kernel
theorem dX11_set_28 : decode cX11_set 28 = .ok (.aload_n 0, 1) := by decide +kernel
theorem dX11_set_29 : decode cX11_set 29 = .ok (.iload_n 2, 1) := by decide +kernel
theorem dX11_set_30 : decode cX11_set 30 = .ok (.iload_n 3, 1) := by decide +kernel
theorem dX11_set_31 : decode cX11_set 31 = .ok (.iload_n 1, 1) := by decide +kernel
theorem dX11_set_32 : decode cX11_set 32 = .ok (.invokevirtual 420, 3) := by decide +kernel
theorem dX11_set_35 : decode cX11_set 35 = .ok (.ifCond .eq 5, 3) := by decide +kernel
theorem dX11_set_38 : decode cX11_set 38 = .ok (.iconst 0, 1) := by decide +kernel
theorem dX11_set_39 : decode cX11_set 39 = .ok (.ireturn, 1) := by decide +kernel
theorem dX11_set_40 : decode cX11_set 40 = .ok (.aload_n 0, 1) := by decide +kernel
theorem dX11_set_41 : decode cX11_set 41 = .ok (.invokevirtual 474, 3) := by decide +kernel
theorem dX11_set_44 : decode cX11_set 44 = .ok (.aload_n 0, 1) := by decide +kernel
theorem dX11_set_45 : decode cX11_set 45 = .ok (.iload_n 1, 1) := by decide +kernel
theorem dX11_set_46 : decode cX11_set 46 = .ok (.iload_n 2, 1) := by decide +kernel
theorem dX11_set_47 : decode cX11_set 47 = .ok (.iload_n 3, 1) := by decide +kernel
theorem dX11_set_48 : decode cX11_set 48 = .ok (.iload 4, 2) := by decide +kernel
theorem dX11_set_50 : decode cX11_set 50 = .ok (.invokevirtual 480, 3) := by decide +kernel
theorem dX11_set_53 : decode cX11_set 53 = .ok (.iconst 1, 1) := by decide +kernel
theorem dX11_set_54 : decode cX11_set 54 = .ok (.ireturn, 1) := by decide +kernel
theorem dX11_clear_0 : decode cX11_clear 0 = .ok (.aload_n 0, 1) := by decide +kernel
theorem dX11_clear_1 : decode cX11_clear 1 = .ok (.iload_n 1, 1) := by decide +kernel
theorem dX11_clear_2 : decode cX11_clear 2 = .ok (.invokevirtual 294, 3) := by decide +kernel
theorem dX11_clear_5 : decode cX11_clear 5 = .ok (.ifCond .ne 5, 3) := by decide +kernel
theorem dX11_clear_8 : decode cX11_clear 8 = .ok (.iconst 0, 1) := by decide +kernel
theorem dX11_clear_9 : decode cX11_clear 9 = .ok (.ireturn, 1) := by decide +kernel
theorem dX11_clear_10 : decode cX11_clear 10 = .ok (.aload_n 0, 1) := by decide +kernel
theorem dX11_clear_11 : decode cX11_clear 11 = .ok (.invokevirtual 474, 3) := by decide +kernel
theorem dX11_clear_14 : decode cX11_clear 14 = .ok (.aload_n 0, 1) := by decide +kernel
theorem dX11_clear_15 : decode cX11_clear 15 = .ok (.iload_n 1, 1) := by decide +kernel
theorem dX11_clear_16 : decode cX11_clear 16 = .ok (.iconst 0, 1) := by decide +kernel
theorem dX11_clear_17 : decode cX11_clear 17 = .ok (.iconst 0, 1) := by decide +kernel
theorem dX11_clear_18 : decode cX11_clear 18 = .ok (.iconst 0, 1) := by decide +kernel
theorem dX11_clear_19 : decode cX11_clear 19 = .ok (.invokevirtual 480, 3) := by decide +kernel
theorem dX11_clear_22 : decode cX11_clear 22 = .ok (.iconst 1, 1) := by decide +kernel
theorem dX11_clear_23 : decode cX11_clear 23 = .ok (.ireturn, 1) := by decide +kernel
theorem dX11_setAll_0 : decode cX11_setAll 0 = .ok (.iconst 0, 1) := by decide +kernel
theorem dX11_setAll_1 : decode cX11_setAll 1 = .ok (.istore_n 1, 1) := by decide +kernel
theorem dX11_setAll_2 : decode cX11_setAll 2 = .ok (.iload_n 1, 1) := by decide +kernel
theorem dX11_setAll_3 : decode cX11_setAll 3 = .ok (.aload_n 0, 1) := by decide +kernel
theorem dX11_setAll_4 : decode cX11_setAll 4 = .ok (.invokevirtual 243, 3) := by decide +kernel
theorem dX11_setAll_7 : decode cX11_setAll 7 = .ok (.if_icmp .ge 51, 3) := by decide +kernel
theorem dX11_setAll_10 : decode cX11_setAll 10 = .ok (.iload_n 1, 1) := by decide +kernel
theorem dX11_setAll_11 : decode cX11_setAll 11 = .ok (.aload_n 0, 1) := by decide +kernel
theorem dX11_setAll_12 : decode cX11_setAll 12 = .ok (.getfield 350, 3) := by decide +kernel
theorem dX11_setAll_15 : decode cX11_setAll 15 = .ok (.if_icmp .ge 29, 3) := by decide +kernel
theorem dX11_setAll_18 : decode cX11_setAll 18 = .ok (.aload_n 0, 1) := by decide +kernel
theorem dX11_setAll_19 : decode cX11_setAll 19 = .ok (.iload_n 1, 1) := by decide +kernel
theorem dX11_setAll_20 : decode cX11_setAll 20 = .ok (.aload_n 0, 1) := by decide +kernel
theorem dX11_setAll_21 : decode cX11_setAll 21 = .ok (.getfield 54, 3) := by decide +kernel
theorem dX11_setAll_24 : decode cX11_setAll 24 = .ok (.iload_n 1, 1) := by decide +kernel
theorem dX11_setAll_25 : decode cX11_setAll 25 = .ok (.iaload, 1) := by decide +kernel
theorem dX11_setAll_26 : decode cX11_setAll 26 = .ok (.aload_n 0, 1) := by decide +kernel
theorem dX11_setAll_27 : decode cX11_setAll 27 = .ok (.getfield 57, 3) := by decide +kernel
theorem dX11_setAll_30 : decode cX11_setAll 30 = .ok (.iload_n 1, 1) := by decide +kernel
theorem dX11_setAll_31 : decode cX11_setAll 31 = .ok (.iaload, 1) := by decide +kernel
theorem dX11_setAll_32 : decode cX11_setAll 32 = .ok (.aload_n 0, 1) := by decide +kernel
theorem dX11_setAll_33 : decode cX11_setAll 33 = .ok (.getfield 60, 3) := by decide +kernel
theorem dX11_setAll_36 : decode cX11_setAll 36 = .ok (.iload_n 1, 1) := by decide +kernel
theorem dX11_setAll_37 : decode cX11_setAll 37 = .ok (.iaload, 1) := by decide +kernel
theorem dX11_setAll_38 : decode cX11_setAll 38 = .ok (.invokevirtual 480, 3) := by decide +kernel
theorem dX11_setAll_41 : decode cX11_setAll 41 = .ok (.goto 11, 3) := by decide +kernel
theorem dX11_setAll_44 : decode cX11_setAll 44 = .ok (.aload_n 0, 1) := by decide +kernel
theorem dX11_setAll_45 : decode cX11_setAll 45 = .ok (.iload_n 1, 1) := by decide +kernel
theorem dX11_setAll_46 : decode cX11_setAll 46 = .ok (.iconst 0, 1) := by decide +kernel
theorem dX11_setAll_47 : decode cX11_setAll 47 = .ok (.iconst 0, 1) := by decide +kernel
theorem dX11_setAll_48 : decode cX11_setAll 48 = .ok (.iconst 0, 1) := by decide +kernel
theorem dX11_setAll_49 : decode cX11_setAll 49 = .ok (.invokevirtual 480, 3) := by decide +kernel
theorem dX11_setAll_52 : decode cX11_setAll 52 = .ok (.iinc 1 1, 3) := by decide +kernel
theorem dX11_setAll_55 : decode cX11_setAll 55 = .ok (.goto (-53), 3) := by decide +kernel
theorem dX11_setAll_58 : decode cX11_setAll 58 = .ok (.aload_n 0, 1) := by decide +kernel
theorem dX11_setAll_59 : decode cX11_setAll 59 = .ok (.getfield 350, 3) := by decide +kernel
theorem dX11_setAll_62 : decode cX11_setAll 62 = .ok (.ireturn, 1) := by decide +kernel
theorem dX11_lay_0 : decode cX11_lay 0 = .ok (.aload_n 0, 1) := by decide +kernel
theorem dX11_lay_1 : decode cX11_lay 1 = .ok (.invokevirtual 370, 3) := by decide +kernel
theorem dX11_lay_4 : decode cX11_lay 4 = .ok (.aload_n 0, 1) := by decide +kernel
theorem dX11_lay_5 : decode cX11_lay 5 = .ok (.getfield 350, 3) := by decide +kernel
theorem dX11_lay_8 : decode cX11_lay 8 = .ok (.aload_n 0, 1) := by decide +kernel
theorem dX11_lay_9 : decode cX11_lay 9 = .ok (.invokevirtual 243, 3) := by decide +kernel
theorem dX11_lay_12 : decode cX11_lay 12 = .ok (.if_icmp .le 5, 3) := by decide +kernel
theorem dX11_lay_15 : decode cX11_lay 15 = .ok (.iconst (-1), 1) := by decide +kernel
theorem dX11_lay_16 : decode cX11_lay 16 = .ok (.ireturn, 1) := by decide +kernel
theorem dX11_lay_17 : decode cX11_lay 17 = .ok (.aload_n 0, 1) := by decide +kernel
theorem dX11_lay_18 : decode cX11_lay 18 = .ok (.invokevirtual 474, 3) := by decide +kernel
theorem dX11_lay_21 : decode cX11_lay 21 = .ok (.aload_n 0, 1) := by decide +kernel
theorem dX11_lay_22 : decode cX11_lay 22 = .ok (.invokevirtual 484, 3) := by decide +kernel
theorem dX11_lay_25 : decode cX11_lay 25 = .ok (.ireturn, 1) := by decide +kernel
theorem dX11_layAll_0 : decode cX11_layAll 0 = .ok (.aload_n 0, 1) := by decide +kernel
theorem dX11_layAll_1 : decode cX11_layAll 1 = .ok (.invokevirtual 388, 3) := by decide +kernel
theorem dX11_layAll_4 : decode cX11_layAll 4 = .ok (.aload_n 0, 1) := by decide +kernel
theorem dX11_layAll_5 : decode cX11_layAll 5 = .ok (.getfield 350, 3) := by decide +kernel
theorem dX11_layAll_8 : decode cX11_layAll 8 = .ok (.aload_n 0, 1) := by decide +kernel
theorem dX11_layAll_9 : decode cX11_layAll 9 = .ok (.invokevirtual 243, 3) := by decide +kernel
theorem dX11_layAll_12 : decode cX11_layAll 12 = .ok (.if_icmp .le 5, 3) := by decide +kernel
theorem dX11_layAll_15 : decode cX11_layAll 15 = .ok (.iconst (-1), 1) := by decide +kernel
theorem dX11_layAll_16 : decode cX11_layAll 16 = .ok (.ireturn, 1) := by decide +kernel
theorem dX11_layAll_17 : decode cX11_layAll 17 = .ok (.aload_n 0, 1) := by decide +kernel
theorem dX11_layAll_18 : decode cX11_layAll 18 = .ok (.invokevirtual 474, 3) := by decide +kernel
theorem dX11_layAll_21 : decode cX11_layAll 21 = .ok (.iconst 0, 1) := by decide +kernel
theorem dX11_layAll_22 : decode cX11_layAll 22 = .ok (.istore_n 1, 1) := by decide +kernel
theorem dX11_layAll_23 : decode cX11_layAll 23 = .ok (.iload_n 1, 1) := by decide +kernel
theorem dX11_layAll_24 : decode cX11_layAll 24 = .ok (.aload_n 0, 1) := by decide +kernel
theorem dX11_layAll_25 : decode cX11_layAll 25 = .ok (.invokevirtual 291, 3) := by decide +kernel
theorem dX11_layAll_28 : decode cX11_layAll 28 = .ok (.if_icmp .ge 24, 3) := by decide +kernel
theorem dX11_layAll_31 : decode cX11_layAll 31 = .ok (.aload_n 0, 1) := by decide +kernel
theorem dX11_layAll_32 : decode cX11_layAll 32 = .ok (.getfield 7, 3) := by decide +kernel
theorem dX11_layAll_35 : decode cX11_layAll 35 = .ok (.bipush 76, 2) := by decide +kernel
theorem dX11_layAll_37 : decode cX11_layAll 37 = .ok (.iload_n 1, 1) := by decide +kernel
theorem dX11_layAll_38 : decode cX11_layAll 38 = .ok (.iadd, 1) := by decide +kernel
theorem dX11_layAll_39 : decode cX11_layAll 39 = .ok (.aload_n 0, 1) := by decide +kernel
theorem dX11_layAll_40 : decode cX11_layAll 40 = .ok (.getfield 63, 3) := by decide +kernel
theorem dX11_layAll_43 : decode cX11_layAll 43 = .ok (.iload_n 1, 1) := by decide +kernel
theorem dX11_layAll_44 : decode cX11_layAll 44 = .ok (.iaload, 1) := by decide +kernel
theorem dX11_layAll_45 : decode cX11_layAll 45 = .ok (.iastore, 1) := by decide +kernel
theorem dX11_layAll_46 : decode cX11_layAll 46 = .ok (.iinc 1 1, 3) := by decide +kernel
theorem dX11_layAll_49 : decode cX11_layAll 49 = .ok (.goto (-26), 3) := by decide +kernel
theorem dX11_layAll_52 : decode cX11_layAll 52 = .ok (.aload_n 0, 1) := by decide +kernel
theorem dX11_layAll_53 : decode cX11_layAll 53 = .ok (.invokevirtual 484, 3) := by decide +kernel
theorem dX11_layAll_56 : decode cX11_layAll 56 = .ok (.ireturn, 1) := by decide +kernel
theorem dX11_mend_0 : decode cX11_mend 0 = .ok (.aload_n 0, 1) := by decide +kernel
theorem dX11_mend_1 : decode cX11_mend 1 = .ok (.invokevirtual 474, 3) := by decide +kernel
theorem dX11_mend_4 : decode cX11_mend 4 = .ok (.iconst 0, 1) := by decide +kernel
theorem dX11_mend_5 : decode cX11_mend 5 = .ok (.istore_n 1, 1) := by decide +kernel
theorem dX11_mend_6 : decode cX11_mend 6 = .ok (.iconst 0, 1) := by decide +kernel
theorem dX11_mend_7 : decode cX11_mend 7 = .ok (.istore_n 2, 1) := by decide +kernel
theorem dX11_mend_8 : decode cX11_mend 8 = .ok (.iload_n 2, 1) := by decide +kernel
theorem dX11_mend_9 : decode cX11_mend 9 = .ok (.aload_n 0, 1) := by decide +kernel
theorem dX11_mend_10 : decode cX11_mend 10 = .ok (.invokevirtual 291, 3) := by decide +kernel
theorem dX11_mend_13 : decode cX11_mend 13 = .ok (.if_icmp .ge 48, 3) := by decide +kernel
theorem dX11_mend_16 : decode cX11_mend 16 = .ok (.aload_n 0, 1) := by decide +kernel
theorem dX11_mend_17 : decode cX11_mend 17 = .ok (.iload_n 2, 1) := by decide +kernel
theorem dX11_mend_18 : decode cX11_mend 18 = .ok (.invokevirtual 487, 3) := by decide +kernel
theorem dX11_mend_21 : decode cX11_mend 21 = .ok (.istore_n 3, 1) := by decide +kernel
theorem dX11_mend_22 : decode cX11_mend 22 = .ok (.iload_n 3, 1) := by decide +kernel
theorem dX11_mend_23 : decode cX11_mend 23 = .ok (.ifCond .lt 32, 3) := by decide +kernel
theorem dX11_mend_26 : decode cX11_mend 26 = .ok (.aload_n 0, 1) := by decide +kernel
theorem dX11_mend_27 : decode cX11_mend 27 = .ok (.getfield 7, 3) := by decide +kernel
theorem dX11_mend_30 : decode cX11_mend 30 = .ok (.bipush 76, 2) := by decide +kernel
theorem dX11_mend_32 : decode cX11_mend 32 = .ok (.iload_n 2, 1) := by decide +kernel
theorem dX11_mend_33 : decode cX11_mend 33 = .ok (.iadd, 1) := by decide +kernel
theorem dX11_mend_34 : decode cX11_mend 34 = .ok (.iaload, 1) := by decide +kernel
theorem dX11_mend_35 : decode cX11_mend 35 = .ok (.iload_n 3, 1) := by decide +kernel
theorem dX11_mend_36 : decode cX11_mend 36 = .ok (.if_icmp .ne 6, 3) := by decide +kernel
theorem dX11_mend_39 : decode cX11_mend 39 = .ok (.goto 16, 3) := by decide +kernel
theorem dX11_mend_42 : decode cX11_mend 42 = .ok (.aload_n 0, 1) := by decide +kernel
theorem dX11_mend_43 : decode cX11_mend 43 = .ok (.getfield 7, 3) := by decide +kernel
theorem dX11_mend_46 : decode cX11_mend 46 = .ok (.bipush 76, 2) := by decide +kernel
theorem dX11_mend_48 : decode cX11_mend 48 = .ok (.iload_n 2, 1) := by decide +kernel
theorem dX11_mend_49 : decode cX11_mend 49 = .ok (.iadd, 1) := by decide +kernel
theorem dX11_mend_50 : decode cX11_mend 50 = .ok (.iload_n 3, 1) := by decide +kernel
theorem dX11_mend_51 : decode cX11_mend 51 = .ok (.iastore, 1) := by decide +kernel
theorem dX11_mend_52 : decode cX11_mend 52 = .ok (.iinc 1 1, 3) := by decide +kernel
theorem dX11_mend_55 : decode cX11_mend 55 = .ok (.iinc 2 1, 3) := by decide +kernel
theorem dX11_mend_58 : decode cX11_mend 58 = .ok (.goto (-50), 3) := by decide +kernel
theorem dX11_mend_61 : decode cX11_mend 61 = .ok (.iload_n 1, 1) := by decide +kernel
theorem dX11_mend_62 : decode cX11_mend 62 = .ok (.ireturn, 1) := by decide +kernel
theorem dX11_tidy_0 : decode cX11_tidy 0 = .ok (.iconst 0, 1) := by decide +kernel
theorem dX11_tidy_1 : decode cX11_tidy 1 = .ok (.istore_n 1, 1) := by decide +kernel
theorem dX11_tidy_2 : decode cX11_tidy 2 = .ok (.iconst 0, 1) := by decide +kernel
theorem dX11_tidy_3 : decode cX11_tidy 3 = .ok (.istore_n 2, 1) := by decide +kernel
theorem dX11_tidy_4 : decode cX11_tidy 4 = .ok (.iload_n 2, 1) := by decide +kernel
theorem dX11_tidy_5 : decode cX11_tidy 5 = .ok (.aload_n 0, 1) := by decide +kernel
theorem dX11_tidy_6 : decode cX11_tidy 6 = .ok (.invokevirtual 240, 3) := by decide +kernel
theorem dX11_tidy_9 : decode cX11_tidy 9 = .ok (.if_icmp .ge 36, 3) := by decide +kernel
theorem dX11_tidy_12 : decode cX11_tidy 12 = .ok (.iload_n 1, 1) := by decide +kernel
theorem dX11_tidy_13 : decode cX11_tidy 13 = .ok (.aload_n 0, 1) := by decide +kernel
theorem dX11_tidy_14 : decode cX11_tidy 14 = .ok (.iload_n 2, 1) := by decide +kernel
theorem dX11_tidy_15 : decode cX11_tidy 15 = .ok (.invokevirtual 285, 3) := by decide +kernel
theorem dX11_tidy_18 : decode cX11_tidy 18 = .ok (.aload_n 0, 1) := by decide +kernel
theorem dX11_tidy_19 : decode cX11_tidy 19 = .ok (.getfield 7, 3) := by decide +kernel
theorem dX11_tidy_22 : decode cX11_tidy 22 = .ok (.iconst 0, 1) := by decide +kernel
theorem dX11_tidy_23 : decode cX11_tidy 23 = .ok (.iaload, 1) := by decide +kernel
theorem dX11_tidy_24 : decode cX11_tidy 24 = .ok (.if_icmp .ne 7, 3) := by decide +kernel
theorem dX11_tidy_27 : decode cX11_tidy 27 = .ok (.iconst 0, 1) := by decide +kernel
theorem dX11_tidy_28 : decode cX11_tidy 28 = .ok (.goto 4, 3) := by decide +kernel
theorem dX11_tidy_31 : decode cX11_tidy 31 = .ok (.iconst 1, 1) := by decide +kernel
theorem dX11_tidy_32 : decode cX11_tidy 32 = .ok (.iadd, 1) := by decide +kernel
theorem dX11_tidy_33 : decode cX11_tidy 33 = .ok (.istore_n 1, 1) := by decide +kernel
theorem dX11_tidy_34 : decode cX11_tidy 34 = .ok (.aload_n 0, 1) := by decide +kernel
theorem dX11_tidy_35 : decode cX11_tidy 35 = .ok (.iload_n 2, 1) := by decide +kernel
theorem dX11_tidy_36 : decode cX11_tidy 36 = .ok (.invokevirtual 300, 3) := by decide +kernel
theorem dX11_tidy_39 : decode cX11_tidy 39 = .ok (.iconst 1, 1) := by decide +kernel
theorem dX11_tidy_40 : decode cX11_tidy 40 = .ok (.iadd, 1) := by decide +kernel
theorem dX11_tidy_41 : decode cX11_tidy 41 = .ok (.istore_n 2, 1) := by decide +kernel
theorem dX11_tidy_42 : decode cX11_tidy 42 = .ok (.goto (-38), 3) := by decide +kernel
theorem dX11_tidy_45 : decode cX11_tidy 45 = .ok (.iload_n 1, 1) := by decide +kernel
theorem dX11_tidy_46 : decode cX11_tidy 46 = .ok (.bipush 12, 2) := by decide +kernel
theorem dX11_tidy_48 : decode cX11_tidy 48 = .ok (.if_icmp .le 5, 3) := by decide +kernel
theorem dX11_tidy_51 : decode cX11_tidy 51 = .ok (.iconst (-1), 1) := by decide +kernel
theorem dX11_tidy_52 : decode cX11_tidy 52 = .ok (.ireturn, 1) := by decide +kernel
theorem dX11_tidy_53 : decode cX11_tidy 53 = .ok (.aload_n 0, 1) := by decide +kernel
theorem dX11_tidy_54 : decode cX11_tidy 54 = .ok (.invokevirtual 474, 3) := by decide +kernel
theorem dX11_tidy_57 : decode cX11_tidy 57 = .ok (.iconst 0, 1) := by decide +kernel
theorem dX11_tidy_58 : decode cX11_tidy 58 = .ok (.istore_n 2, 1) := by decide +kernel
theorem dX11_tidy_59 : decode cX11_tidy 59 = .ok (.iconst 0, 1) := by decide +kernel
theorem dX11_tidy_60 : decode cX11_tidy 60 = .ok (.istore_n 3, 1) := by decide +kernel
theorem dX11_tidy_61 : decode cX11_tidy 61 = .ok (.iload_n 3, 1) := by decide +kernel
theorem dX11_tidy_62 : decode cX11_tidy 62 = .ok (.aload_n 0, 1) := by decide +kernel
theorem dX11_tidy_63 : decode cX11_tidy 63 = .ok (.invokevirtual 240, 3) := by decide +kernel
theorem dX11_tidy_66 : decode cX11_tidy 66 = .ok (.if_icmp .ge 73, 3) := by decide +kernel
theorem dX11_tidy_69 : decode cX11_tidy 69 = .ok (.aload_n 0, 1) := by decide +kernel
theorem dX11_tidy_70 : decode cX11_tidy 70 = .ok (.iload_n 3, 1) := by decide +kernel
theorem dX11_tidy_71 : decode cX11_tidy 71 = .ok (.invokevirtual 285, 3) := by decide +kernel
theorem dX11_tidy_74 : decode cX11_tidy 74 = .ok (.aload_n 0, 1) := by decide +kernel
theorem dX11_tidy_75 : decode cX11_tidy 75 = .ok (.getfield 7, 3) := by decide +kernel
theorem dX11_tidy_78 : decode cX11_tidy 78 = .ok (.iconst 0, 1) := by decide +kernel
theorem dX11_tidy_79 : decode cX11_tidy 79 = .ok (.iaload, 1) := by decide +kernel
theorem dX11_tidy_80 : decode cX11_tidy 80 = .ok (.if_icmp .ne 6, 3) := by decide +kernel
theorem dX11_tidy_83 : decode cX11_tidy 83 = .ok (.goto 45, 3) := by decide +kernel
theorem dX11_tidy_86 : decode cX11_tidy 86 = .ok (.aload_n 0, 1) := by decide +kernel
theorem dX11_tidy_87 : decode cX11_tidy 87 = .ok (.getfield 83, 3) := by decide +kernel
theorem dX11_tidy_90 : decode cX11_tidy 90 = .ok (.iconst 3, 1) := by decide +kernel
theorem dX11_tidy_91 : decode cX11_tidy 91 = .ok (.iload_n 2, 1) := by decide +kernel
theorem dX11_tidy_92 : decode cX11_tidy 92 = .ok (.imul, 1) := by decide +kernel
theorem dX11_tidy_93 : decode cX11_tidy 93 = .ok (.iload_n 3, 1) := by decide +kernel
theorem dX11_tidy_94 : decode cX11_tidy 94 = .ok (.iastore, 1) := by decide +kernel
theorem dX11_tidy_95 : decode cX11_tidy 95 = .ok (.aload_n 0, 1) := by decide +kernel
theorem dX11_tidy_96 : decode cX11_tidy 96 = .ok (.getfield 83, 3) := by decide +kernel
theorem dX11_tidy_99 : decode cX11_tidy 99 = .ok (.iconst 3, 1) := by decide +kernel
theorem dX11_tidy_100 : decode cX11_tidy 100 = .ok (.iload_n 2, 1) := by decide +kernel
theorem dX11_tidy_101 : decode cX11_tidy 101 = .ok (.imul, 1) := by decide +kernel
theorem dX11_tidy_102 : decode cX11_tidy 102 = .ok (.iconst 1, 1) := by decide +kernel
theorem dX11_tidy_103 : decode cX11_tidy 103 = .ok (.iadd, 1) := by decide +kernel
theorem dX11_tidy_104 : decode cX11_tidy 104 = .ok (.aload_n 0, 1) := by decide +kernel
theorem dX11_tidy_105 : decode cX11_tidy 105 = .ok (.iload_n 3, 1) := by decide +kernel
theorem dX11_tidy_106 : decode cX11_tidy 106 = .ok (.invokevirtual 300, 3) := by decide +kernel
theorem dX11_tidy_109 : decode cX11_tidy 109 = .ok (.iastore, 1) := by decide +kernel
theorem dX11_tidy_110 : decode cX11_tidy 110 = .ok (.aload_n 0, 1) := by decide +kernel
theorem dX11_tidy_111 : decode cX11_tidy 111 = .ok (.getfield 83, 3) := by decide +kernel
theorem dX11_tidy_114 : decode cX11_tidy 114 = .ok (.iconst 3, 1) := by decide +kernel
theorem dX11_tidy_115 : decode cX11_tidy 115 = .ok (.iload_n 2, 1) := by decide +kernel
theorem dX11_tidy_116 : decode cX11_tidy 116 = .ok (.imul, 1) := by decide +kernel
theorem dX11_tidy_117 : decode cX11_tidy 117 = .ok (.iconst 2, 1) := by decide +kernel
theorem dX11_tidy_118 : decode cX11_tidy 118 = .ok (.iadd, 1) := by decide +kernel
theorem dX11_tidy_119 : decode cX11_tidy 119 = .ok (.aload_n 0, 1) := by decide +kernel
theorem dX11_tidy_120 : decode cX11_tidy 120 = .ok (.iload_n 3, 1) := by decide +kernel
theorem dX11_tidy_121 : decode cX11_tidy 121 = .ok (.invokevirtual 285, 3) := by decide +kernel
theorem dX11_tidy_124 : decode cX11_tidy 124 = .ok (.iastore, 1) := by decide +kernel
theorem dX11_tidy_125 : decode cX11_tidy 125 = .ok (.iinc 2 1, 3) := by decide +kernel
theorem dX11_tidy_128 : decode cX11_tidy 128 = .ok (.aload_n 0, 1) := by decide +kernel
theorem dX11_tidy_129 : decode cX11_tidy 129 = .ok (.iload_n 3, 1) := by decide +kernel
theorem dX11_tidy_130 : decode cX11_tidy 130 = .ok (.invokevirtual 300, 3) := by decide +kernel
theorem dX11_tidy_133 : decode cX11_tidy 133 = .ok (.iconst 1, 1) := by decide +kernel
theorem dX11_tidy_134 : decode cX11_tidy 134 = .ok (.iadd, 1) := by decide +kernel
theorem dX11_tidy_135 : decode cX11_tidy 135 = .ok (.istore_n 3, 1) := by decide +kernel
theorem dX11_tidy_136 : decode cX11_tidy 136 = .ok (.goto (-75), 3) := by decide +kernel
theorem dX11_tidy_139 : decode cX11_tidy 139 = .ok (.iconst 0, 1) := by decide +kernel
theorem dX11_tidy_140 : decode cX11_tidy 140 = .ok (.istore_n 3, 1) := by decide +kernel
theorem dX11_tidy_141 : decode cX11_tidy 141 = .ok (.iload_n 3, 1) := by decide +kernel
theorem dX11_tidy_142 : decode cX11_tidy 142 = .ok (.iconst 3, 1) := by decide +kernel
theorem dX11_tidy_143 : decode cX11_tidy 143 = .ok (.iload_n 1, 1) := by decide +kernel
theorem dX11_tidy_144 : decode cX11_tidy 144 = .ok (.imul, 1) := by decide +kernel
theorem dX11_tidy_145 : decode cX11_tidy 145 = .ok (.if_icmp .ge 23, 3) := by decide +kernel
theorem dX11_tidy_148 : decode cX11_tidy 148 = .ok (.aload_n 0, 1) := by decide +kernel
theorem dX11_tidy_149 : decode cX11_tidy 149 = .ok (.getfield 7, 3) := by decide +kernel
theorem dX11_tidy_152 : decode cX11_tidy 152 = .ok (.iconst 2, 1) := by decide +kernel
theorem dX11_tidy_153 : decode cX11_tidy 153 = .ok (.iload_n 3, 1) := by decide +kernel
theorem dX11_tidy_154 : decode cX11_tidy 154 = .ok (.iadd, 1) := by decide +kernel
theorem dX11_tidy_155 : decode cX11_tidy 155 = .ok (.aload_n 0, 1) := by decide +kernel
theorem dX11_tidy_156 : decode cX11_tidy 156 = .ok (.getfield 83, 3) := by decide +kernel
theorem dX11_tidy_159 : decode cX11_tidy 159 = .ok (.iload_n 3, 1) := by decide +kernel
theorem dX11_tidy_160 : decode cX11_tidy 160 = .ok (.iaload, 1) := by decide +kernel
theorem dX11_tidy_161 : decode cX11_tidy 161 = .ok (.iastore, 1) := by decide +kernel
theorem dX11_tidy_162 : decode cX11_tidy 162 = .ok (.iinc 3 1, 3) := by decide +kernel
theorem dX11_tidy_165 : decode cX11_tidy 165 = .ok (.goto (-24), 3) := by decide +kernel
theorem dX11_tidy_168 : decode cX11_tidy 168 = .ok (.aload_n 0, 1) := by decide +kernel
theorem dX11_tidy_169 : decode cX11_tidy 169 = .ok (.getfield 7, 3) := by decide +kernel
theorem dX11_tidy_172 : decode cX11_tidy 172 = .ok (.iconst 1, 1) := by decide +kernel
theorem dX11_tidy_173 : decode cX11_tidy 173 = .ok (.iload_n 1, 1) := by decide +kernel
theorem dX11_tidy_174 : decode cX11_tidy 174 = .ok (.iastore, 1) := by decide +kernel
theorem dX11_tidy_175 : decode cX11_tidy 175 = .ok (.iload_n 1, 1) := by decide +kernel
theorem dX11_tidy_176 : decode cX11_tidy 176 = .ok (.ireturn, 1) := by decide +kernel
theorem dX11_differs_0 : decode cX11_differs 0 = .ok (.iload_n 1, 1) := by decide +kernel
theorem dX11_differs_1 : decode cX11_differs 1 = .ok (.iconst 0, 1) := by decide +kernel
theorem dX11_differs_2 : decode cX11_differs 2 = .ok (.iconst 1, 1) := by decide +kernel
theorem dX11_differs_3 : decode cX11_differs 3 = .ok (.invokestatic 163, 3) := by decide +kernel
theorem dX11_differs_6 : decode cX11_differs 6 = .ok (.ifCond .eq 21, 3) := by decide +kernel
theorem dX11_differs_9 : decode cX11_differs 9 = .ok (.aload_n 0, 1) := by decide +kernel
theorem dX11_differs_10 : decode cX11_differs 10 = .ok (.getfield 101, 3) := by decide +kernel
theorem dX11_differs_13 : decode cX11_differs 13 = .ok (.iload_n 1, 1) := by decide +kernel
theorem dX11_differs_14 : decode cX11_differs 14 = .ok (.baload, 1) := by decide +kernel
theorem dX11_differs_15 : decode cX11_differs 15 = .ok (.ifCond .eq 12, 3) := by decide +kernel
theorem dX11_differs_18 : decode cX11_differs 18 = .ok (.iload_n 2, 1) := by decide +kernel
theorem dX11_differs_19 : decode cX11_differs 19 = .ok (.iconst 0, 1) := by decide +kernel
theorem dX11_differs_20 : decode cX11_differs 20 = .ok (.iconst 2, 1) := by decide +kernel
theorem dX11_differs_21 : decode cX11_differs 21 = .ok (.invokestatic 163, 3) := by decide +kernel
theorem dX11_differs_24 : decode cX11_differs 24 = .ok (.ifCond .ne 5, 3) := by decide +kernel
theorem dX11_differs_27 : decode cX11_differs 27 = .ok (.iconst (-1), 1) := by decide +kernel
theorem dX11_differs_28 : decode cX11_differs 28 = .ok (.ireturn, 1) := by decide +kernel
theorem dX11_differs_29 : decode cX11_differs 29 = .ok (.iconst 0, 1) := by decide +kernel
theorem dX11_differs_30 : decode cX11_differs 30 = .ok (.istore_n 3, 1) := by decide +kernel
theorem dX11_differs_31 : decode cX11_differs 31 = .ok (.iload_n 3, 1) := by decide +kernel
theorem dX11_differs_32 : decode cX11_differs 32 = .ok (.aload_n 0, 1) := by decide +kernel
theorem dX11_differs_33 : decode cX11_differs 33 = .ok (.invokevirtual 240, 3) := by decide +kernel
theorem dX11_differs_36 : decode cX11_differs 36 = .ok (.if_icmp .ge 31, 3) := by decide +kernel
theorem dX11_differs_39 : decode cX11_differs 39 = .ok (.aload_n 0, 1) := by decide +kernel
theorem dX11_differs_40 : decode cX11_differs 40 = .ok (.getfield 86, 3) := by decide +kernel
theorem dX11_differs_43 : decode cX11_differs 43 = .ok (.iload_n 3, 1) := by decide +kernel
theorem dX11_differs_44 : decode cX11_differs 44 = .ok (.aload_n 0, 1) := by decide +kernel
theorem dX11_differs_45 : decode cX11_differs 45 = .ok (.iload_n 3, 1) := by decide +kernel
theorem dX11_differs_46 : decode cX11_differs 46 = .ok (.invokevirtual 276, 3) := by decide +kernel
theorem dX11_differs_49 : decode cX11_differs 49 = .ok (.iastore, 1) := by decide +kernel
theorem dX11_differs_50 : decode cX11_differs 50 = .ok (.aload_n 0, 1) := by decide +kernel
theorem dX11_differs_51 : decode cX11_differs 51 = .ok (.getfield 89, 3) := by decide +kernel
theorem dX11_differs_54 : decode cX11_differs 54 = .ok (.iload_n 3, 1) := by decide +kernel
theorem dX11_differs_55 : decode cX11_differs 55 = .ok (.aload_n 0, 1) := by decide +kernel
theorem dX11_differs_56 : decode cX11_differs 56 = .ok (.iload_n 3, 1) := by decide +kernel
theorem dX11_differs_57 : decode cX11_differs 57 = .ok (.invokevirtual 285, 3) := by decide +kernel
theorem dX11_differs_60 : decode cX11_differs 60 = .ok (.iastore, 1) := by decide +kernel
theorem dX11_differs_61 : decode cX11_differs 61 = .ok (.iinc 3 1, 3) := by decide +kernel
theorem dX11_differs_64 : decode cX11_differs 64 = .ok (.goto (-33), 3) := by decide +kernel
theorem dX11_differs_67 : decode cX11_differs 67 = .ok (.iconst 0, 1) := by decide +kernel
theorem dX11_differs_68 : decode cX11_differs 68 = .ok (.istore_n 3, 1) := by decide +kernel
theorem dX11_differs_69 : decode cX11_differs 69 = .ok (.iload_n 3, 1) := by decide +kernel
theorem dX11_differs_70 : decode cX11_differs 70 = .ok (.sipush 140, 3) := by decide +kernel
theorem dX11_differs_73 : decode cX11_differs 73 = .ok (.if_icmp .ge 39, 3) := by decide +kernel
theorem dX11_differs_76 : decode cX11_differs 76 = .ok (.aload_n 0, 1) := by decide +kernel
theorem dX11_differs_77 : decode cX11_differs 77 = .ok (.getfield 92, 3) := by decide +kernel
theorem dX11_differs_80 : decode cX11_differs 80 = .ok (.iload_n 3, 1) := by decide +kernel
theorem dX11_differs_81 : decode cX11_differs 81 = .ok (.aload_n 0, 1) := by decide +kernel
theorem dX11_differs_82 : decode cX11_differs 82 = .ok (.getfield 7, 3) := by decide +kernel
theorem dX11_differs_85 : decode cX11_differs 85 = .ok (.iload_n 3, 1) := by decide +kernel
theorem dX11_differs_86 : decode cX11_differs 86 = .ok (.iaload, 1) := by decide +kernel
theorem dX11_differs_87 : decode cX11_differs 87 = .ok (.iastore, 1) := by decide +kernel
theorem dX11_differs_88 : decode cX11_differs 88 = .ok (.aload_n 0, 1) := by decide +kernel
theorem dX11_differs_89 : decode cX11_differs 89 = .ok (.getfield 7, 3) := by decide +kernel
theorem dX11_differs_92 : decode cX11_differs 92 = .ok (.iload_n 3, 1) := by decide +kernel
theorem dX11_differs_93 : decode cX11_differs 93 = .ok (.aload_n 0, 1) := by decide +kernel
theorem dX11_differs_94 : decode cX11_differs 94 = .ok (.getfield 98, 3) := by decide +kernel
theorem dX11_differs_97 : decode cX11_differs 97 = .ok (.sipush 140, 3) := by decide +kernel
theorem dX11_differs_100 : decode cX11_differs 100 = .ok (.iload_n 1, 1) := by decide +kernel
theorem dX11_differs_101 : decode cX11_differs 101 = .ok (.imul, 1) := by decide +kernel
theorem dX11_differs_102 : decode cX11_differs 102 = .ok (.iload_n 3, 1) := by decide +kernel
theorem dX11_differs_103 : decode cX11_differs 103 = .ok (.iadd, 1) := by decide +kernel
theorem dX11_differs_104 : decode cX11_differs 104 = .ok (.iaload, 1) := by decide +kernel
theorem dX11_differs_105 : decode cX11_differs 105 = .ok (.iastore, 1) := by decide +kernel
theorem dX11_differs_106 : decode cX11_differs 106 = .ok (.iinc 3 1, 3) := by decide +kernel
theorem dX11_differs_109 : decode cX11_differs 109 = .ok (.goto (-40), 3) := by decide +kernel
theorem dX11_differs_112 : decode cX11_differs 112 = .ok (.iconst 0, 1) := by decide +kernel
theorem dX11_differs_113 : decode cX11_differs 113 = .ok (.istore_n 3, 1) := by decide +kernel
theorem dX11_differs_114 : decode cX11_differs 114 = .ok (.iconst 0, 1) := by decide +kernel
theorem dX11_differs_115 : decode cX11_differs 115 = .ok (.istore 4, 2) := by decide +kernel
theorem dX11_differs_117 : decode cX11_differs 117 = .ok (.bipush (-2), 2) := by decide +kernel
theorem dX11_differs_119 : decode cX11_differs 119 = .ok (.istore 5, 2) := by decide +kernel
theorem dX11_differs_121 : decode cX11_differs 121 = .ok (.iconst 0, 1) := by decide +kernel
theorem dX11_differs_122 : decode cX11_differs 122 = .ok (.istore 6, 2) := by decide +kernel
theorem dX11_differs_124 : decode cX11_differs 124 = .ok (.iload 6, 2) := by decide +kernel
theorem dX11_differs_126 : decode cX11_differs 126 = .ok (.aload_n 0, 1) := by decide +kernel
theorem dX11_differs_127 : decode cX11_differs 127 = .ok (.invokevirtual 240, 3) := by decide +kernel
theorem dX11_differs_130 : decode cX11_differs 130 = .ok (.if_icmp .ge 91, 3) := by decide +kernel
theorem dX11_differs_133 : decode cX11_differs 133 = .ok (.iload 5, 2) := by decide +kernel
theorem dX11_differs_135 : decode cX11_differs 135 = .ok (.bipush (-2), 2) := by decide +kernel
theorem dX11_differs_137 : decode cX11_differs 137 = .ok (.if_icmp .ne 24, 3) := by decide +kernel
theorem dX11_differs_140 : decode cX11_differs 140 = .ok (.aload_n 0, 1) := by decide +kernel
theorem dX11_differs_141 : decode cX11_differs 141 = .ok (.getfield 86, 3) := by decide +kernel
theorem dX11_differs_144 : decode cX11_differs 144 = .ok (.iload 6, 2) := by decide +kernel
theorem dX11_differs_146 : decode cX11_differs 146 = .ok (.iaload, 1) := by decide +kernel
theorem dX11_differs_147 : decode cX11_differs 147 = .ok (.aload_n 0, 1) := by decide +kernel
theorem dX11_differs_148 : decode cX11_differs 148 = .ok (.iload 6, 2) := by decide +kernel
theorem dX11_differs_150 : decode cX11_differs 150 = .ok (.invokevirtual 276, 3) := by decide +kernel
theorem dX11_differs_153 : decode cX11_differs 153 = .ok (.if_icmp .eq 8, 3) := by decide +kernel
theorem dX11_differs_156 : decode cX11_differs 156 = .ok (.iload 6, 2) := by decide +kernel
theorem dX11_differs_158 : decode cX11_differs 158 = .ok (.goto 5, 3) := by decide +kernel
theorem dX11_differs_161 : decode cX11_differs 161 = .ok (.iload 5, 2) := by decide +kernel
theorem dX11_differs_163 : decode cX11_differs 163 = .ok (.istore 5, 2) := by decide +kernel
theorem dX11_differs_165 : decode cX11_differs 165 = .ok (.iload_n 3, 1) := by decide +kernel
theorem dX11_differs_166 : decode cX11_differs 166 = .ok (.aload_n 0, 1) := by decide +kernel
theorem dX11_differs_167 : decode cX11_differs 167 = .ok (.getfield 86, 3) := by decide +kernel
theorem dX11_differs_170 : decode cX11_differs 170 = .ok (.iload 6, 2) := by decide +kernel
theorem dX11_differs_172 : decode cX11_differs 172 = .ok (.iaload, 1) := by decide +kernel
theorem dX11_differs_173 : decode cX11_differs 173 = .ok (.aload_n 0, 1) := by decide +kernel
theorem dX11_differs_174 : decode cX11_differs 174 = .ok (.iload 6, 2) := by decide +kernel
theorem dX11_differs_176 : decode cX11_differs 176 = .ok (.invokevirtual 276, 3) := by decide +kernel
theorem dX11_differs_179 : decode cX11_differs 179 = .ok (.if_icmp .ne 7, 3) := by decide +kernel
theorem dX11_differs_182 : decode cX11_differs 182 = .ok (.iconst 0, 1) := by decide +kernel
theorem dX11_differs_183 : decode cX11_differs 183 = .ok (.goto 4, 3) := by decide +kernel
theorem dX11_differs_186 : decode cX11_differs 186 = .ok (.iconst 1, 1) := by decide +kernel
theorem dX11_differs_187 : decode cX11_differs 187 = .ok (.iadd, 1) := by decide +kernel
theorem dX11_differs_188 : decode cX11_differs 188 = .ok (.istore_n 3, 1) := by decide +kernel
theorem dX11_differs_189 : decode cX11_differs 189 = .ok (.iload 4, 2) := by decide +kernel
theorem dX11_differs_191 : decode cX11_differs 191 = .ok (.aload_n 0, 1) := by decide +kernel
theorem dX11_differs_192 : decode cX11_differs 192 = .ok (.getfield 89, 3) := by decide +kernel
theorem dX11_differs_195 : decode cX11_differs 195 = .ok (.iload 6, 2) := by decide +kernel
theorem dX11_differs_197 : decode cX11_differs 197 = .ok (.iaload, 1) := by decide +kernel
theorem dX11_differs_198 : decode cX11_differs 198 = .ok (.aload_n 0, 1) := by decide +kernel
theorem dX11_differs_199 : decode cX11_differs 199 = .ok (.iload 6, 2) := by decide +kernel
theorem dX11_differs_201 : decode cX11_differs 201 = .ok (.invokevirtual 285, 3) := by decide +kernel
theorem dX11_differs_204 : decode cX11_differs 204 = .ok (.if_icmp .ne 7, 3) := by decide +kernel
theorem dX11_differs_207 : decode cX11_differs 207 = .ok (.iconst 0, 1) := by decide +kernel
theorem dX11_differs_208 : decode cX11_differs 208 = .ok (.goto 4, 3) := by decide +kernel
theorem dX11_differs_211 : decode cX11_differs 211 = .ok (.iconst 1, 1) := by decide +kernel
theorem dX11_differs_212 : decode cX11_differs 212 = .ok (.iadd, 1) := by decide +kernel
theorem dX11_differs_213 : decode cX11_differs 213 = .ok (.istore 4, 2) := by decide +kernel
theorem dX11_differs_215 : decode cX11_differs 215 = .ok (.iinc 6 1, 3) := by decide +kernel
theorem dX11_differs_218 : decode cX11_differs 218 = .ok (.goto (-94), 3) := by decide +kernel
theorem dX11_differs_221 : decode cX11_differs 221 = .ok (.iconst 0, 1) := by decide +kernel
theorem dX11_differs_222 : decode cX11_differs 222 = .ok (.istore 6, 2) := by decide +kernel
theorem dX11_differs_224 : decode cX11_differs 224 = .ok (.iload 6, 2) := by decide +kernel
theorem dX11_differs_226 : decode cX11_differs 226 = .ok (.sipush 140, 3) := by decide +kernel
theorem dX11_differs_229 : decode cX11_differs 229 = .ok (.if_icmp .ge 23, 3) := by decide +kernel
theorem dX11_differs_232 : decode cX11_differs 232 = .ok (.aload_n 0, 1) := by decide +kernel
theorem dX11_differs_233 : decode cX11_differs 233 = .ok (.getfield 7, 3) := by decide +kernel
theorem dX11_differs_236 : decode cX11_differs 236 = .ok (.iload 6, 2) := by decide +kernel
theorem dX11_differs_238 : decode cX11_differs 238 = .ok (.aload_n 0, 1) := by decide +kernel
theorem dX11_differs_239 : decode cX11_differs 239 = .ok (.getfield 92, 3) := by decide +kernel
theorem dX11_differs_242 : decode cX11_differs 242 = .ok (.iload 6, 2) := by decide +kernel
theorem dX11_differs_244 : decode cX11_differs 244 = .ok (.iaload, 1) := by decide +kernel
theorem dX11_differs_245 : decode cX11_differs 245 = .ok (.iastore, 1) := by decide +kernel
theorem dX11_differs_246 : decode cX11_differs 246 = .ok (.iinc 6 1, 3) := by decide +kernel
theorem dX11_differs_249 : decode cX11_differs 249 = .ok (.goto (-25), 3) := by decide +kernel
theorem dX11_differs_252 : decode cX11_differs 252 = .ok (.iload_n 2, 1) := by decide +kernel
theorem dX11_differs_253 : decode cX11_differs 253 = .ok (.ifCond .ne 7, 3) := by decide +kernel
theorem dX11_differs_256 : decode cX11_differs 256 = .ok (.iload_n 3, 1) := by decide +kernel
theorem dX11_differs_257 : decode cX11_differs 257 = .ok (.goto 15, 3) := by decide +kernel
theorem dX11_differs_260 : decode cX11_differs 260 = .ok (.iload_n 2, 1) := by decide +kernel
theorem dX11_differs_261 : decode cX11_differs 261 = .ok (.iconst 1, 1) := by decide +kernel
theorem dX11_differs_262 : decode cX11_differs 262 = .ok (.if_icmp .ne 8, 3) := by decide +kernel
theorem dX11_differs_265 : decode cX11_differs 265 = .ok (.iload 4, 2) := by decide +kernel
theorem dX11_differs_267 : decode cX11_differs 267 = .ok (.goto 5, 3) := by decide +kernel
theorem dX11_differs_270 : decode cX11_differs 270 = .ok (.iload 5, 2) := by decide +kernel
theorem dX11_differs_272 : decode cX11_differs 272 = .ok (.ireturn, 1) := by decide +kernel
theorem dX11_swapAll_0 : decode cX11_swapAll 0 = .ok (.iconst 0, 1) := by decide +kernel
theorem dX11_swapAll_1 : decode cX11_swapAll 1 = .ok (.istore_n 1, 1) := by decide +kernel
theorem dX11_swapAll_2 : decode cX11_swapAll 2 = .ok (.iload_n 1, 1) := by decide +kernel
theorem dX11_swapAll_3 : decode cX11_swapAll 3 = .ok (.sipush 140, 3) := by decide +kernel
theorem dX11_swapAll_6 : decode cX11_swapAll 6 = .ok (.if_icmp .ge 53, 3) := by decide +kernel
theorem dX11_swapAll_9 : decode cX11_swapAll 9 = .ok (.aload_n 0, 1) := by decide +kernel
theorem dX11_swapAll_10 : decode cX11_swapAll 10 = .ok (.getfield 95, 3) := by decide +kernel
theorem dX11_swapAll_13 : decode cX11_swapAll 13 = .ok (.sipush 140, 3) := by decide +kernel
theorem dX11_swapAll_16 : decode cX11_swapAll 16 = .ok (.aload_n 0, 1) := by decide +kernel
theorem dX11_swapAll_17 : decode cX11_swapAll 17 = .ok (.getfield 234, 3) := by decide +kernel
theorem dX11_swapAll_20 : decode cX11_swapAll 20 = .ok (.imul, 1) := by decide +kernel
theorem dX11_swapAll_21 : decode cX11_swapAll 21 = .ok (.iload_n 1, 1) := by decide +kernel
theorem dX11_swapAll_22 : decode cX11_swapAll 22 = .ok (.iadd, 1) := by decide +kernel
theorem dX11_swapAll_23 : decode cX11_swapAll 23 = .ok (.iaload, 1) := by decide +kernel
theorem dX11_swapAll_24 : decode cX11_swapAll 24 = .ok (.istore_n 2, 1) := by decide +kernel
theorem dX11_swapAll_25 : decode cX11_swapAll 25 = .ok (.aload_n 0, 1) := by decide +kernel
theorem dX11_swapAll_26 : decode cX11_swapAll 26 = .ok (.getfield 95, 3) := by decide +kernel
theorem dX11_swapAll_29 : decode cX11_swapAll 29 = .ok (.sipush 140, 3) := by decide +kernel
theorem dX11_swapAll_32 : decode cX11_swapAll 32 = .ok (.aload_n 0, 1) := by decide +kernel
theorem dX11_swapAll_33 : decode cX11_swapAll 33 = .ok (.getfield 234, 3) := by decide +kernel
theorem dX11_swapAll_36 : decode cX11_swapAll 36 = .ok (.imul, 1) := by decide +kernel
theorem dX11_swapAll_37 : decode cX11_swapAll 37 = .ok (.iload_n 1, 1) := by decide +kernel
theorem dX11_swapAll_38 : decode cX11_swapAll 38 = .ok (.iadd, 1) := by decide +kernel
theorem dX11_swapAll_39 : decode cX11_swapAll 39 = .ok (.aload_n 0, 1) := by decide +kernel
theorem dX11_swapAll_40 : decode cX11_swapAll 40 = .ok (.getfield 7, 3) := by decide +kernel
theorem dX11_swapAll_43 : decode cX11_swapAll 43 = .ok (.iload_n 1, 1) := by decide +kernel
theorem dX11_swapAll_44 : decode cX11_swapAll 44 = .ok (.iaload, 1) := by decide +kernel
theorem dX11_swapAll_45 : decode cX11_swapAll 45 = .ok (.iastore, 1) := by decide +kernel
theorem dX11_swapAll_46 : decode cX11_swapAll 46 = .ok (.aload_n 0, 1) := by decide +kernel
theorem dX11_swapAll_47 : decode cX11_swapAll 47 = .ok (.getfield 7, 3) := by decide +kernel
theorem dX11_swapAll_50 : decode cX11_swapAll 50 = .ok (.iload_n 1, 1) := by decide +kernel
theorem dX11_swapAll_51 : decode cX11_swapAll 51 = .ok (.iload_n 2, 1) := by decide +kernel
theorem dX11_swapAll_52 : decode cX11_swapAll 52 = .ok (.iastore, 1) := by decide +kernel
theorem dX11_swapAll_53 : decode cX11_swapAll 53 = .ok (.iinc 1 1, 3) := by decide +kernel
theorem dX11_swapAll_56 : decode cX11_swapAll 56 = .ok (.goto (-54), 3) := by decide +kernel
theorem dX11_swapAll_59 : decode cX11_swapAll 59 = .ok (.return_, 1) := by decide +kernel
theorem dX11_undo_0 : decode cX11_undo 0 = .ok (.aload_n 0, 1) := by decide +kernel
theorem dX11_undo_1 : decode cX11_undo 1 = .ok (.getfield 234, 3) := by decide +kernel
theorem dX11_undo_4 : decode cX11_undo 4 = .ok (.ifCond .ne 5, 3) := by decide +kernel
theorem dX11_undo_7 : decode cX11_undo 7 = .ok (.iconst 0, 1) := by decide +kernel
theorem dX11_undo_8 : decode cX11_undo 8 = .ok (.ireturn, 1) := by decide +kernel
theorem dX11_undo_9 : decode cX11_undo 9 = .ok (.aload_n 0, 1) := by decide +kernel
theorem dX11_undo_10 : decode cX11_undo 10 = .ok (.dup, 1) := by decide +kernel
theorem dX11_undo_11 : decode cX11_undo 11 = .ok (.getfield 234, 3) := by decide +kernel
theorem dX11_undo_14 : decode cX11_undo 14 = .ok (.iconst 1, 1) := by decide +kernel
theorem dX11_undo_15 : decode cX11_undo 15 = .ok (.isub, 1) := by decide +kernel
theorem dX11_undo_16 : decode cX11_undo 16 = .ok (.putfield 234, 3) := by decide +kernel
theorem dX11_undo_19 : decode cX11_undo 19 = .ok (.aload_n 0, 1) := by decide +kernel
theorem dX11_undo_20 : decode cX11_undo 20 = .ok (.dup, 1) := by decide +kernel
theorem dX11_undo_21 : decode cX11_undo 21 = .ok (.getfield 237, 3) := by decide +kernel
theorem dX11_undo_24 : decode cX11_undo 24 = .ok (.iconst 1, 1) := by decide +kernel
theorem dX11_undo_25 : decode cX11_undo 25 = .ok (.iadd, 1) := by decide +kernel
theorem dX11_undo_26 : decode cX11_undo 26 = .ok (.putfield 237, 3) := by decide +kernel
theorem dX11_undo_29 : decode cX11_undo 29 = .ok (.aload_n 0, 1) := by decide +kernel
theorem dX11_undo_30 : decode cX11_undo 30 = .ok (.invokevirtual 490, 3) := by decide +kernel
theorem dX11_undo_33 : decode cX11_undo 33 = .ok (.iconst 1, 1) := by decide +kernel
theorem dX11_undo_34 : decode cX11_undo 34 = .ok (.ireturn, 1) := by decide +kernel
theorem dX11_redo_0 : decode cX11_redo 0 = .ok (.aload_n 0, 1) := by decide +kernel
theorem dX11_redo_1 : decode cX11_redo 1 = .ok (.getfield 237, 3) := by decide +kernel
theorem dX11_redo_4 : decode cX11_redo 4 = .ok (.ifCond .ne 5, 3) := by decide +kernel
theorem dX11_redo_7 : decode cX11_redo 7 = .ok (.iconst 0, 1) := by decide +kernel
theorem dX11_redo_8 : decode cX11_redo 8 = .ok (.ireturn, 1) := by decide +kernel
theorem dX11_redo_9 : decode cX11_redo 9 = .ok (.aload_n 0, 1) := by decide +kernel
theorem dX11_redo_10 : decode cX11_redo 10 = .ok (.invokevirtual 490, 3) := by decide +kernel
theorem dX11_redo_13 : decode cX11_redo 13 = .ok (.aload_n 0, 1) := by decide +kernel
theorem dX11_redo_14 : decode cX11_redo 14 = .ok (.dup, 1) := by decide +kernel
theorem dX11_redo_15 : decode cX11_redo 15 = .ok (.getfield 234, 3) := by decide +kernel
theorem dX11_redo_18 : decode cX11_redo 18 = .ok (.iconst 1, 1) := by decide +kernel
theorem dX11_redo_19 : decode cX11_redo 19 = .ok (.iadd, 1) := by decide +kernel
theorem dX11_redo_20 : decode cX11_redo 20 = .ok (.putfield 234, 3) := by decide +kernel
theorem dX11_redo_23 : decode cX11_redo 23 = .ok (.aload_n 0, 1) := by decide +kernel
theorem dX11_redo_24 : decode cX11_redo 24 = .ok (.dup, 1) := by decide +kernel
theorem dX11_redo_25 : decode cX11_redo 25 = .ok (.getfield 237, 3) := by decide +kernel
theorem dX11_redo_28 : decode cX11_redo 28 = .ok (.iconst 1, 1) := by decide +kernel
theorem dX11_redo_29 : decode cX11_redo 29 = .ok (.isub, 1) := by decide +kernel
theorem dX11_redo_30 : decode cX11_redo 30 = .ok (.putfield 237, 3) := by decide +kernel
theorem dX11_redo_33 : decode cX11_redo 33 = .ok (.iconst 1, 1) := by decide +kernel
theorem dX11_redo_34 : decode cX11_redo 34 = .ok (.ireturn, 1) := by decide +kernel
theorem dX11_image_0 : decode cX11_image 0 = .ok (.iload_n 1, 1) := by decide +kernel
theorem dX11_image_1 : decode cX11_image 1 = .ok (.iconst 0, 1) := by decide +kernel
theorem dX11_image_2 : decode cX11_image 2 = .ok (.iconst 1, 1) := by decide +kernel
theorem dX11_image_3 : decode cX11_image 3 = .ok (.invokestatic 163, 3) := by decide +kernel
theorem dX11_image_6 : decode cX11_image 6 = .ok (.ifCond .ne 5, 3) := by decide +kernel
theorem dX11_image_9 : decode cX11_image 9 = .ok (.iconst (-1), 1) := by decide +kernel
theorem dX11_image_10 : decode cX11_image 10 = .ok (.ireturn, 1) := by decide +kernel
theorem dX11_image_11 : decode cX11_image 11 = .ok (.iconst 0, 1) := by decide +kernel
theorem dX11_image_12 : decode cX11_image 12 = .ok (.istore_n 2, 1) := by decide +kernel
theorem dX11_image_13 : decode cX11_image 13 = .ok (.iload_n 2, 1) := by decide +kernel
theorem dX11_image_14 : decode cX11_image 14 = .ok (.sipush 140, 3) := by decide +kernel
theorem dX11_image_17 : decode cX11_image 17 = .ok (.if_icmp .ge 27, 3) := by decide +kernel
theorem dX11_image_20 : decode cX11_image 20 = .ok (.aload_n 0, 1) := by decide +kernel
theorem dX11_image_21 : decode cX11_image 21 = .ok (.getfield 98, 3) := by decide +kernel
theorem dX11_image_24 : decode cX11_image 24 = .ok (.sipush 140, 3) := by decide +kernel
theorem dX11_image_27 : decode cX11_image 27 = .ok (.iload_n 1, 1) := by decide +kernel
theorem dX11_image_28 : decode cX11_image 28 = .ok (.imul, 1) := by decide +kernel
theorem dX11_image_29 : decode cX11_image 29 = .ok (.iload_n 2, 1) := by decide +kernel
theorem dX11_image_30 : decode cX11_image 30 = .ok (.iadd, 1) := by decide +kernel
theorem dX11_image_31 : decode cX11_image 31 = .ok (.aload_n 0, 1) := by decide +kernel
theorem dX11_image_32 : decode cX11_image 32 = .ok (.getfield 7, 3) := by decide +kernel
theorem dX11_image_35 : decode cX11_image 35 = .ok (.iload_n 2, 1) := by decide +kernel
theorem dX11_image_36 : decode cX11_image 36 = .ok (.iaload, 1) := by decide +kernel
theorem dX11_image_37 : decode cX11_image 37 = .ok (.iastore, 1) := by decide +kernel
theorem dX11_image_38 : decode cX11_image 38 = .ok (.iinc 2 1, 3) := by decide +kernel
theorem dX11_image_41 : decode cX11_image 41 = .ok (.goto (-28), 3) := by decide +kernel
theorem dX11_image_44 : decode cX11_image 44 = .ok (.aload_n 0, 1) := by decide +kernel
theorem dX11_image_45 : decode cX11_image 45 = .ok (.getfield 101, 3) := by decide +kernel
theorem dX11_image_48 : decode cX11_image 48 = .ok (.iload_n 1, 1) := by decide +kernel
theorem dX11_image_49 : decode cX11_image 49 = .ok (.iconst 1, 1) := by decide +kernel
theorem dX11_image_50 : decode cX11_image 50 = .ok (.bastore, 1) := by decide +kernel
theorem dX11_image_51 : decode cX11_image 51 = .ok (.aload_n 0, 1) := by decide +kernel
theorem dX11_image_52 : decode cX11_image 52 = .ok (.getfield 7, 3) := by decide +kernel
theorem dX11_image_55 : decode cX11_image 55 = .ok (.iconst 1, 1) := by decide +kernel
theorem dX11_image_56 : decode cX11_image 56 = .ok (.iaload, 1) := by decide +kernel
theorem dX11_image_57 : decode cX11_image 57 = .ok (.ireturn, 1) := by decide +kernel
theorem dX11_back_0 : decode cX11_back 0 = .ok (.iload_n 1, 1) := by decide +kernel
theorem dX11_back_1 : decode cX11_back 1 = .ok (.iconst 0, 1) := by decide +kernel
theorem dX11_back_2 : decode cX11_back 2 = .ok (.iconst 1, 1) := by decide +kernel
theorem dX11_back_3 : decode cX11_back 3 = .ok (.invokestatic 163, 3) := by decide +kernel
theorem dX11_back_6 : decode cX11_back 6 = .ok (.ifCond .eq 12, 3) := by decide +kernel
theorem dX11_back_9 : decode cX11_back 9 = .ok (.aload_n 0, 1) := by decide +kernel
theorem dX11_back_10 : decode cX11_back 10 = .ok (.getfield 101, 3) := by decide +kernel
theorem dX11_back_13 : decode cX11_back 13 = .ok (.iload_n 1, 1) := by decide +kernel
theorem dX11_back_14 : decode cX11_back 14 = .ok (.baload, 1) := by decide +kernel
theorem dX11_back_15 : decode cX11_back 15 = .ok (.ifCond .ne 5, 3) := by decide +kernel
theorem dX11_back_18 : decode cX11_back 18 = .ok (.iconst (-1), 1) := by decide +kernel
theorem dX11_back_19 : decode cX11_back 19 = .ok (.ireturn, 1) := by decide +kernel
theorem dX11_back_20 : decode cX11_back 20 = .ok (.iconst 0, 1) := by decide +kernel
theorem dX11_back_21 : decode cX11_back 21 = .ok (.istore_n 2, 1) := by decide +kernel
theorem dX11_back_22 : decode cX11_back 22 = .ok (.iload_n 2, 1) := by decide +kernel
theorem dX11_back_23 : decode cX11_back 23 = .ok (.sipush 140, 3) := by decide +kernel
theorem dX11_back_26 : decode cX11_back 26 = .ok (.if_icmp .ge 27, 3) := by decide +kernel
theorem dX11_back_29 : decode cX11_back 29 = .ok (.aload_n 0, 1) := by decide +kernel
theorem dX11_back_30 : decode cX11_back 30 = .ok (.getfield 7, 3) := by decide +kernel
theorem dX11_back_33 : decode cX11_back 33 = .ok (.iload_n 2, 1) := by decide +kernel
theorem dX11_back_34 : decode cX11_back 34 = .ok (.aload_n 0, 1) := by decide +kernel
theorem dX11_back_35 : decode cX11_back 35 = .ok (.getfield 98, 3) := by decide +kernel
theorem dX11_back_38 : decode cX11_back 38 = .ok (.sipush 140, 3) := by decide +kernel
theorem dX11_back_41 : decode cX11_back 41 = .ok (.iload_n 1, 1) := by decide +kernel
theorem dX11_back_42 : decode cX11_back 42 = .ok (.imul, 1) := by decide +kernel
theorem dX11_back_43 : decode cX11_back 43 = .ok (.iload_n 2, 1) := by decide +kernel
theorem dX11_back_44 : decode cX11_back 44 = .ok (.iadd, 1) := by decide +kernel
theorem dX11_back_45 : decode cX11_back 45 = .ok (.iaload, 1) := by decide +kernel
theorem dX11_back_46 : decode cX11_back 46 = .ok (.iastore, 1) := by decide +kernel
theorem dX11_back_47 : decode cX11_back 47 = .ok (.iinc 2 1, 3) := by decide +kernel
theorem dX11_back_50 : decode cX11_back 50 = .ok (.goto (-28), 3) := by decide +kernel
theorem dX11_back_53 : decode cX11_back 53 = .ok (.aload_n 0, 1) := by decide +kernel
theorem dX11_back_54 : decode cX11_back 54 = .ok (.iconst 0, 1) := by decide +kernel
theorem dX11_back_55 : decode cX11_back 55 = .ok (.putfield 234, 3) := by decide +kernel
theorem dX11_back_58 : decode cX11_back 58 = .ok (.aload_n 0, 1) := by decide +kernel
theorem dX11_back_59 : decode cX11_back 59 = .ok (.iconst 0, 1) := by decide +kernel
theorem dX11_back_60 : decode cX11_back 60 = .ok (.putfield 237, 3) := by decide +kernel
theorem dX11_back_63 : decode cX11_back 63 = .ok (.aload_n 0, 1) := by decide +kernel
theorem dX11_back_64 : decode cX11_back 64 = .ok (.getfield 7, 3) := by decide +kernel
theorem dX11_back_67 : decode cX11_back 67 = .ok (.iconst 1, 1) := by decide +kernel
theorem dX11_back_68 : decode cX11_back 68 = .ok (.iaload, 1) := by decide +kernel
theorem dX11_back_69 : decode cX11_back 69 = .ok (.ireturn, 1) := by decide +kernel
theorem dX11_setMany_0 : decode cX11_setMany 0 = .ok (.iconst 0, 1) := by decide +kernel
theorem dX11_setMany_1 : decode cX11_setMany 1 = .ok (.istore_n 1, 1) := by decide +kernel
theorem dX11_setMany_2 : decode cX11_setMany 2 = .ok (.iconst 0, 1) := by decide +kernel
theorem dX11_setMany_3 : decode cX11_setMany 3 = .ok (.istore_n 2, 1) := by decide +kernel
theorem dX11_setMany_4 : decode cX11_setMany 4 = .ok (.iload_n 2, 1) := by decide +kernel
theorem dX11_setMany_5 : decode cX11_setMany 5 = .ok (.aload_n 0, 1) := by decide +kernel
theorem dX11_setMany_6 : decode cX11_setMany 6 = .ok (.invokevirtual 243, 3) := by decide +kernel
theorem dX11_setMany_9 : decode cX11_setMany 9 = .ok (.if_icmp .ge 25, 3) := by decide +kernel
theorem dX11_setMany_12 : decode cX11_setMany 12 = .ok (.iload_n 1, 1) := by decide +kernel
theorem dX11_setMany_13 : decode cX11_setMany 13 = .ok (.aload_n 0, 1) := by decide +kernel
theorem dX11_setMany_14 : decode cX11_setMany 14 = .ok (.iload_n 2, 1) := by decide +kernel
theorem dX11_setMany_15 : decode cX11_setMany 15 = .ok (.invokevirtual 249, 3) := by decide +kernel
theorem dX11_setMany_18 : decode cX11_setMany 18 = .ok (.ifCond .le 7, 3) := by decide +kernel
theorem dX11_setMany_21 : decode cX11_setMany 21 = .ok (.iconst 1, 1) := by decide +kernel
theorem dX11_setMany_22 : decode cX11_setMany 22 = .ok (.goto 4, 3) := by decide +kernel
theorem dX11_setMany_25 : decode cX11_setMany 25 = .ok (.iconst 0, 1) := by decide +kernel
theorem dX11_setMany_26 : decode cX11_setMany 26 = .ok (.iadd, 1) := by decide +kernel
theorem dX11_setMany_27 : decode cX11_setMany 27 = .ok (.istore_n 1, 1) := by decide +kernel
theorem dX11_setMany_28 : decode cX11_setMany 28 = .ok (.iinc 2 1, 3) := by decide +kernel
theorem dX11_setMany_31 : decode cX11_setMany 31 = .ok (.goto (-27), 3) := by decide +kernel
theorem dX11_setMany_34 : decode cX11_setMany 34 = .ok (.iload_n 1, 1) := by decide +kernel
theorem dX11_setMany_35 : decode cX11_setMany 35 = .ok (.ireturn, 1) := by decide +kernel
theorem dX11_pagesSet_0 : decode cX11_pagesSet 0 = .ok (.iconst 0, 1) := by decide +kernel
theorem dX11_pagesSet_1 : decode cX11_pagesSet 1 = .ok (.istore_n 1, 1) := by decide +kernel
theorem dX11_pagesSet_2 : decode cX11_pagesSet 2 = .ok (.iconst 0, 1) := by decide +kernel
theorem dX11_pagesSet_3 : decode cX11_pagesSet 3 = .ok (.istore_n 2, 1) := by decide +kernel
theorem dX11_pagesSet_4 : decode cX11_pagesSet 4 = .ok (.iload_n 2, 1) := by decide +kernel
theorem dX11_pagesSet_5 : decode cX11_pagesSet 5 = .ok (.aload_n 0, 1) := by decide +kernel
theorem dX11_pagesSet_6 : decode cX11_pagesSet 6 = .ok (.invokevirtual 291, 3) := by decide +kernel
theorem dX11_pagesSet_9 : decode cX11_pagesSet 9 = .ok (.if_icmp .ge 30, 3) := by decide +kernel
theorem dX11_pagesSet_12 : decode cX11_pagesSet 12 = .ok (.iload_n 1, 1) := by decide +kernel
theorem dX11_pagesSet_13 : decode cX11_pagesSet 13 = .ok (.aload_n 0, 1) := by decide +kernel
theorem dX11_pagesSet_14 : decode cX11_pagesSet 14 = .ok (.getfield 7, 3) := by decide +kernel
theorem dX11_pagesSet_17 : decode cX11_pagesSet 17 = .ok (.bipush 76, 2) := by decide +kernel
theorem dX11_pagesSet_19 : decode cX11_pagesSet 19 = .ok (.iload_n 2, 1) := by decide +kernel
theorem dX11_pagesSet_20 : decode cX11_pagesSet 20 = .ok (.iadd, 1) := by decide +kernel
theorem dX11_pagesSet_21 : decode cX11_pagesSet 21 = .ok (.iaload, 1) := by decide +kernel
theorem dX11_pagesSet_22 : decode cX11_pagesSet 22 = .ok (.iconst 5, 1) := by decide +kernel
theorem dX11_pagesSet_23 : decode cX11_pagesSet 23 = .ok (.if_icmp .ne 7, 3) := by decide +kernel
theorem dX11_pagesSet_26 : decode cX11_pagesSet 26 = .ok (.iconst 0, 1) := by decide +kernel
theorem dX11_pagesSet_27 : decode cX11_pagesSet 27 = .ok (.goto 4, 3) := by decide +kernel
theorem dX11_pagesSet_30 : decode cX11_pagesSet 30 = .ok (.iconst 1, 1) := by decide +kernel
theorem dX11_pagesSet_31 : decode cX11_pagesSet 31 = .ok (.iadd, 1) := by decide +kernel
theorem dX11_pagesSet_32 : decode cX11_pagesSet 32 = .ok (.istore_n 1, 1) := by decide +kernel
theorem dX11_pagesSet_33 : decode cX11_pagesSet 33 = .ok (.iinc 2 1, 3) := by decide +kernel
theorem dX11_pagesSet_36 : decode cX11_pagesSet 36 = .ok (.goto (-32), 3) := by decide +kernel
theorem dX11_pagesSet_39 : decode cX11_pagesSet 39 = .ok (.iload_n 1, 1) := by decide +kernel
theorem dX11_pagesSet_40 : decode cX11_pagesSet 40 = .ok (.ireturn, 1) := by decide +kernel
theorem dX11_about_0 : decode cX11_about 0 = .ok (.iload_n 1, 1) := by decide +kernel
theorem dX11_about_1 : decode cX11_about 1 = .ok (.tableswitch 132 0 11 #[63, 68, 73, 78, 85, 92, 102, 107, 112, 117, 122, 127], 63) := by decide +kernel
theorem dX11_about_64 : decode cX11_about 64 = .ok (.aload_n 0, 1) := by decide +kernel
theorem dX11_about_65 : decode cX11_about 65 = .ok (.invokevirtual 240, 3) := by decide +kernel
theorem dX11_about_68 : decode cX11_about 68 = .ok (.ireturn, 1) := by decide +kernel
theorem dX11_about_69 : decode cX11_about 69 = .ok (.aload_n 0, 1) := by decide +kernel
theorem dX11_about_70 : decode cX11_about 70 = .ok (.invokevirtual 243, 3) := by decide +kernel
theorem dX11_about_73 : decode cX11_about 73 = .ok (.ireturn, 1) := by decide +kernel
theorem dX11_about_74 : decode cX11_about 74 = .ok (.aload_n 0, 1) := by decide +kernel
theorem dX11_about_75 : decode cX11_about 75 = .ok (.invokevirtual 493, 3) := by decide +kernel
theorem dX11_about_78 : decode cX11_about 78 = .ok (.ireturn, 1) := by decide +kernel
theorem dX11_about_79 : decode cX11_about 79 = .ok (.aload_n 0, 1) := by decide +kernel
theorem dX11_about_80 : decode cX11_about 80 = .ok (.getfield 7, 3) := by decide +kernel
theorem dX11_about_83 : decode cX11_about 83 = .ok (.iconst 0, 1) := by decide +kernel
theorem dX11_about_84 : decode cX11_about 84 = .ok (.iaload, 1) := by decide +kernel
theorem dX11_about_85 : decode cX11_about 85 = .ok (.ireturn, 1) := by decide +kernel
theorem dX11_about_86 : decode cX11_about 86 = .ok (.aload_n 0, 1) := by decide +kernel
theorem dX11_about_87 : decode cX11_about 87 = .ok (.getfield 7, 3) := by decide +kernel
theorem dX11_about_90 : decode cX11_about 90 = .ok (.iconst 1, 1) := by decide +kernel
theorem dX11_about_91 : decode cX11_about 91 = .ok (.iaload, 1) := by decide +kernel
theorem dX11_about_92 : decode cX11_about 92 = .ok (.ireturn, 1) := by decide +kernel
theorem dX11_about_93 : decode cX11_about 93 = .ok (.aload_n 0, 1) := by decide +kernel
theorem dX11_about_94 : decode cX11_about 94 = .ok (.getfield 19, 3) := by decide +kernel
theorem dX11_about_97 : decode cX11_about 97 = .ok (.aload_n 0, 1) := by decide +kernel
theorem dX11_about_98 : decode cX11_about 98 = .ok (.getfield 225, 3) := by decide +kernel
theorem dX11_about_101 : decode cX11_about 101 = .ok (.iaload, 1) := by decide +kernel
theorem dX11_about_102 : decode cX11_about 102 = .ok (.ireturn, 1) := by decide +kernel
theorem dX11_about_103 : decode cX11_about 103 = .ok (.aload_n 0, 1) := by decide +kernel
theorem dX11_about_104 : decode cX11_about 104 = .ok (.invokevirtual 297, 3) := by decide +kernel
theorem dX11_about_107 : decode cX11_about 107 = .ok (.ireturn, 1) := by decide +kernel
theorem dX11_about_108 : decode cX11_about 108 = .ok (.aload_n 0, 1) := by decide +kernel
theorem dX11_about_109 : decode cX11_about 109 = .ok (.getfield 234, 3) := by decide +kernel
theorem dX11_about_112 : decode cX11_about 112 = .ok (.ireturn, 1) := by decide +kernel
theorem dX11_about_113 : decode cX11_about 113 = .ok (.aload_n 0, 1) := by decide +kernel
theorem dX11_about_114 : decode cX11_about 114 = .ok (.getfield 237, 3) := by decide +kernel
theorem dX11_about_117 : decode cX11_about 117 = .ok (.ireturn, 1) := by decide +kernel
theorem dX11_about_118 : decode cX11_about 118 = .ok (.aload_n 0, 1) := by decide +kernel
theorem dX11_about_119 : decode cX11_about 119 = .ok (.getfield 111, 3) := by decide +kernel
theorem dX11_about_122 : decode cX11_about 122 = .ok (.ireturn, 1) := by decide +kernel
theorem dX11_about_123 : decode cX11_about 123 = .ok (.aload_n 0, 1) := by decide +kernel
theorem dX11_about_124 : decode cX11_about 124 = .ok (.invokevirtual 291, 3) := by decide +kernel
theorem dX11_about_127 : decode cX11_about 127 = .ok (.ireturn, 1) := by decide +kernel
theorem dX11_about_128 : decode cX11_about 128 = .ok (.aload_n 0, 1) := by decide +kernel
theorem dX11_about_129 : decode cX11_about 129 = .ok (.invokevirtual 496, 3) := by decide +kernel
theorem dX11_about_132 : decode cX11_about 132 = .ok (.ireturn, 1) := by decide +kernel
theorem dX11_about_133 : decode cX11_about 133 = .ok (.iconst (-1), 1) := by decide +kernel
theorem dX11_about_134 : decode cX11_about 134 = .ok (.ireturn, 1) := by decide +kernel
section G25_model4_lean_txt
variable {p : Program} {l : Launch} {e : Env} {s : State} {m : MethodId} {args : Array Value} {below : List Frame} {meth : Method} {c : Code} {H : Heap} {locs : List Loc} {ls : Array Slot} {E : Ge} {L : Lay} {fu d : Nat}
def fX11_set_j38 (fu : Nat) (M : Mm) : Option (Int32 × Mm) :=
  some (0, M)
set_option maxRecDepth 100000 in
set_option maxHeartbeats 4000000 in
theorem wX11_set_j38 {r : Int32} {M' : Mm}    {M : Mm} (B : Bx p s m args c cX11_set 5 RX11 E L) (hr : meth.sig.returnType = (some .boolean)) (hlk : meth.locks = false)   (h : fX11_set_j38 fu M = some (r, M')) (hR : Rx s E L M H locs) (hl : lv_has ls 5 []) : W p l e (rmD (d + 2)) s m args below meth c H locs 0 0 (MQ below (QcM E L (some (.int r)) M') args s 0 0 E.2.2.2) (F0 m 38 ls []) := by
  have hx := B.1
  have hb := B.2.1
  unfold fX11_set_j38 at h
  refine lv_iconst (v := 0) hx hb dX11_set_38 (by decide) ?_
  exact r_zretW B hR hr hlk (Or.inl rfl) h dX11_set_39
def fX11_set (fu : Nat) (a0 : Nat) (x1 : Int32) (x2 : Int32) (x3 : Int32) (x4 : Int32) (M : Mm) : Option (Int32 × Mm) :=
  bi (fX11_isRegister fu a0 x1 M) fun r_2 =>
  if r_2 = 0 then
    fX11_set_j38 fu M
  else
    bi (fX11_addresses fu a0 M) fun r_11 =>
    bi (fX11_isBlock fu x2 x3 r_11) fun r_14 =>
    if r_14 = 0 then
      fX11_set_j38 fu M
    else
      bi (fX11_isKind fu x4) fun r_22 =>
      if r_22 = 0 then
        fX11_set_j38 fu M
      else
        bi (fX11_isTaken fu a0 x2 x3 x1 M) fun r_32 =>
        if r_32 = 0 then
          bm (fX11_keepAct fu a0 M) fun M_41 =>
          bm (fX11_setOne fu a0 x1 x2 x3 x4 M_41) fun M_50 =>
          some (1, M_50)
        else
          fX11_set_j38 fu M
set_option maxRecDepth 100000 in
set_option maxHeartbeats 4000000 in
theorem mX11_set {l : Launch} {E : Ge} {L : Lay} (fu d : Nat) {a0 : Nat} {x1 : Int32} {x2 : Int32} {x3 : Int32} {x4 : Int32} {M : Mm} {r : Int32} {M' : Mm}  (h0 : At L a0 T11) (h : fX11_set fu a0 x1 x2 x3 x4 M = some (r, M')) : Ct l E L yX11_set cX11_set 5 (some .boolean) (d + 2) [.ref a0, .int x1, .int x2, .int x3, .int x4] M (some (.int r)) M' := by
  refine Ct.of (by decide) ?_
  intro p e s m below meth c hr hlk B hR
  have B : Bx p s m _ c cX11_set 5 RX11 E L := B
  have hx := B.1
  have hb := B.2.1
  have hl := lv_entry ([.ref a0, .int x1, .int x2, .int x3, .int x4]) (n := 5) (Nat.le_of_ble_eq_true rfl)
  rw [lg_entry_eq]
  generalize (lg_sl ([.ref a0, .int x1, .int x2, .int x3, .int x4]) ++ List.replicate (5 - (lg_sl ([.ref a0, .int x1, .int x2, .int x3, .int x4])).length) Slot.unset).toArray = ls at hl ⊢
  have hl : lv_has ls 5 [(0, .ref a0), (1, .int x1), (2, .int x2), (3, .int x3), (4, .int x4)] := hl
  unfold fX11_set at h
  refine lv_aload_n hx hb dX11_set_0 rfl (lv_at hl 0 rfl) ?_
  refine lv_iload_n hx hb dX11_set_1 rfl (lv_at hl 1 rfl) ?_
  obtain ⟨r_2, hc_2, h⟩ := bi_el h
  refine iv_X11_246 B hR (h0.at0 rfl) hl.1 (mX11_isRegister fu _ h0 hc_2) (Nat.le_of_ble_eq_true rfl) dX11_set_2 (fun H locs hR => ?_)
  refine lv_if_eq (tgt := 38) hx hb dX11_set_5 (by decide) (fun c_5 => ?_) (fun c_5 => ?_)
  · rw [if_pos c_5] at h
    exact wX11_set_j38 B hr hlk  h hR (lv_sub hl [] rfl)
  · rw [if_neg c_5] at h
    refine lv_iload_n hx hb dX11_set_8 rfl (lv_at hl 2 rfl) ?_
    refine lv_iload_n hx hb dX11_set_9 rfl (lv_at hl 3 rfl) ?_
    refine lv_aload_n hx hb dX11_set_10 rfl (lv_at hl 0 rfl) ?_
    obtain ⟨r_11, hc_11, h⟩ := bi_el h
    refine iv_X11_240 B hR (h0.at0 rfl) hl.1 (mX11_addresses fu _ h0 hc_11) (Nat.le_of_ble_eq_true rfl) dX11_set_11 (fun H locs hR => ?_)
    obtain ⟨r_14, hc_14, h⟩ := bi_el h
    refine is_X11_222 B hR hl.1 (mX11_isBlock fu _  hc_14) (Nat.le_of_ble_eq_true rfl) dX11_set_14 (fun H locs hR => ?_)
    refine lv_if_eq (tgt := 38) hx hb dX11_set_17 (by decide) (fun c_17 => ?_) (fun c_17 => ?_)
    · rw [if_pos c_17] at h
      exact wX11_set_j38 B hr hlk  h hR (lv_sub hl [] rfl)
    · rw [if_neg c_17] at h
      refine lv_iload hx hb dX11_set_20 (lv_at hl 4 rfl) ?_
      obtain ⟨r_22, hc_22, h⟩ := bi_el h
      refine is_X11_306 B hR hl.1 (mX11_isKind fu _  hc_22) (Nat.le_of_ble_eq_true rfl) dX11_set_22 (fun H locs hR => ?_)
      refine lv_if_eq (tgt := 38) hx hb dX11_set_25 (by decide) (fun c_25 => ?_) (fun c_25 => ?_)
      · rw [if_pos c_25] at h
        exact wX11_set_j38 B hr hlk  h hR (lv_sub hl [] rfl)
      · rw [if_neg c_25] at h
        refine lv_aload_n hx hb dX11_set_28 rfl (lv_at hl 0 rfl) ?_
        refine lv_iload_n hx hb dX11_set_29 rfl (lv_at hl 2 rfl) ?_
        refine lv_iload_n hx hb dX11_set_30 rfl (lv_at hl 3 rfl) ?_
        refine lv_iload_n hx hb dX11_set_31 rfl (lv_at hl 1 rfl) ?_
        obtain ⟨r_32, hc_32, h⟩ := bi_el h
        refine iv_X11_420 B hR (h0.at0 rfl) hl.1 (mX11_isTaken fu _ h0 hc_32) (Nat.le_of_ble_eq_true rfl) dX11_set_32 (fun H locs hR => ?_)
        refine lv_if_eq (tgt := 40) hx hb dX11_set_35 (by decide) (fun c_35 => ?_) (fun c_35 => ?_)
        · rw [if_pos c_35] at h
          refine lv_aload_n hx hb dX11_set_40 rfl (lv_at hl 0 rfl) ?_
          obtain ⟨M_41, hc_41, h⟩ := bm_el h
          refine iv_X11_474 B hR (h0.at0 rfl) hl.1 (mX11_keepAct fu _ h0 hc_41) (Nat.le_of_ble_eq_true rfl) dX11_set_41 (fun H locs hR => ?_)
          refine lv_aload_n hx hb dX11_set_44 rfl (lv_at hl 0 rfl) ?_
          refine lv_iload_n hx hb dX11_set_45 rfl (lv_at hl 1 rfl) ?_
          refine lv_iload_n hx hb dX11_set_46 rfl (lv_at hl 2 rfl) ?_
          refine lv_iload_n hx hb dX11_set_47 rfl (lv_at hl 3 rfl) ?_
          refine lv_iload hx hb dX11_set_48 (lv_at hl 4 rfl) ?_
          obtain ⟨M_50, hc_50, h⟩ := bm_el h
          refine iv_X11_480 B hR (h0.at0 rfl) hl.1 (mX11_setOne fu _ h0 hc_50) (Nat.le_of_ble_eq_true rfl) dX11_set_50 (fun H locs hR => ?_)
          refine lv_iconst (v := 1) hx hb dX11_set_53 (by decide) ?_
          exact r_zretW B hR hr hlk (Or.inr rfl) h dX11_set_54
        · rw [if_neg c_35] at h
          exact wX11_set_j38 B hr hlk  h hR (lv_sub hl [] rfl)
def fX11_clear (fu : Nat) (a0 : Nat) (x1 : Int32) (M : Mm) : Option (Int32 × Mm) :=
  bi (fX11_isSet fu a0 x1 M) fun r_2 =>
  if r_2 = 0 then
    some (0, M)
  else
    bm (fX11_keepAct fu a0 M) fun M_11 =>
    bm (fX11_setOne fu a0 x1 0 0 0 M_11) fun M_19 =>
    some (1, M_19)
set_option maxRecDepth 100000 in
set_option maxHeartbeats 4000000 in
theorem mX11_clear {l : Launch} {E : Ge} {L : Lay} (fu d : Nat) {a0 : Nat} {x1 : Int32} {M : Mm} {r : Int32} {M' : Mm}  (h0 : At L a0 T11) (h : fX11_clear fu a0 x1 M = some (r, M')) : Ct l E L yX11_clear cX11_clear 2 (some .boolean) (d + 3) [.ref a0, .int x1] M (some (.int r)) M' := by
  refine Ct.of (by decide) ?_
  intro p e s m below meth c hr hlk B hR
  have B : Bx p s m _ c cX11_clear 2 RX11 E L := B
  have hx := B.1
  have hb := B.2.1
  have hl := lv_entry ([.ref a0, .int x1]) (n := 2) (Nat.le_of_ble_eq_true rfl)
  rw [lg_entry_eq]
  generalize (lg_sl ([.ref a0, .int x1]) ++ List.replicate (2 - (lg_sl ([.ref a0, .int x1])).length) Slot.unset).toArray = ls at hl ⊢
  have hl : lv_has ls 2 [(0, .ref a0), (1, .int x1)] := hl
  unfold fX11_clear at h
  refine lv_aload_n hx hb dX11_clear_0 rfl (lv_at hl 0 rfl) ?_
  refine lv_iload_n hx hb dX11_clear_1 rfl (lv_at hl 1 rfl) ?_
  obtain ⟨r_2, hc_2, h⟩ := bi_el h
  refine iv_X11_294 B hR (h0.at0 rfl) hl.1 (mX11_isSet fu _ h0 hc_2) (Nat.le_of_ble_eq_true rfl) dX11_clear_2 (fun H locs hR => ?_)
  refine lv_if_ne (tgt := 10) hx hb dX11_clear_5 (by decide) (fun c_5 => ?_) (fun c_5 => ?_)
  · rw [if_neg c_5] at h
    refine lv_aload_n hx hb dX11_clear_10 rfl (lv_at hl 0 rfl) ?_
    obtain ⟨M_11, hc_11, h⟩ := bm_el h
    refine iv_X11_474 B hR (h0.at0 rfl) hl.1 (mX11_keepAct fu _ h0 hc_11) (Nat.le_of_ble_eq_true rfl) dX11_clear_11 (fun H locs hR => ?_)
    refine lv_aload_n hx hb dX11_clear_14 rfl (lv_at hl 0 rfl) ?_
    refine lv_iload_n hx hb dX11_clear_15 rfl (lv_at hl 1 rfl) ?_
    refine lv_iconst (v := 0) hx hb dX11_clear_16 (by decide) ?_
    refine lv_iconst (v := 0) hx hb dX11_clear_17 (by decide) ?_
    refine lv_iconst (v := 0) hx hb dX11_clear_18 (by decide) ?_
    obtain ⟨M_19, hc_19, h⟩ := bm_el h
    refine iv_X11_480 B hR (h0.at0 rfl) hl.1 (mX11_setOne fu _ h0 hc_19) (Nat.le_of_ble_eq_true rfl) dX11_clear_19 (fun H locs hR => ?_)
    refine lv_iconst (v := 1) hx hb dX11_clear_22 (by decide) ?_
    exact r_zretW B hR hr hlk (Or.inr rfl) h dX11_clear_23
  · rw [if_pos c_5] at h
    refine lv_iconst (v := 0) hx hb dX11_clear_8 (by decide) ?_
    exact r_zretW B hR hr hlk (Or.inl rfl) h dX11_clear_9
def fX11_setAll_j58 (fu : Nat) (a0 : Nat) (M : Mm) : Option (Int32 × Mm) :=
  some ((M.1 a0 33), M)
set_option maxRecDepth 100000 in
set_option maxHeartbeats 4000000 in
theorem wX11_setAll_j58 {r : Int32} {M' : Mm}   {a0 : Nat} {M : Mm} (B : Bx p s m args c cX11_setAll 2 RX11 E L) (hr : meth.sig.returnType = (some .int)) (hlk : meth.locks = false)  (h0 : At L a0 T11) (h : fX11_setAll_j58 fu a0 M = some (r, M')) (hR : Rx s E L M H locs) (hl : lv_has ls 2 [(0, .ref a0)]) : W p l e (rmD (d + 1)) s m args below meth c H locs 0 0 (MQ below (QcM E L (some (.int r)) M') args s 0 0 E.2.2.2) (F0 m 58 ls []) := by
  have hx := B.1
  have hb := B.2.1
  unfold fX11_setAll_j58 at h
  refine lv_aload_n hx hb dX11_setAll_58 rfl (lv_at hl 0 rfl) ?_
  refine gf_X11_350 B hR (h0.at0 rfl) dX11_setAll_59 ?_
  exact r_iretW B hR hr hlk h dX11_setAll_62
def fX11_setAll_j52 (fu : Nat) (k2 : Int32 → Mm → Option (Int32 × Mm)) (a0 : Nat) (x1 : Int32) (M : Mm) : Option (Int32 × Mm) :=
  lt (x1 + 1) fun x1_52 =>
  k2 x1_52 M
set_option maxRecDepth 100000 in
set_option maxHeartbeats 4000000 in
theorem wX11_setAll_j52 {r : Int32} {M' : Mm}  {k2 : Int32 → Mm → Option (Int32 × Mm)} {a0 : Nat} {x1 : Int32} {M : Mm} (B : Bx p s m args c cX11_setAll 2 RX11 E L) (hr : meth.sig.returnType = (some .int)) (hlk : meth.locks = false) (ih2 : ∀ (x1 : Int32) (M : Mm), k2 x1 M = some (r, M') → ∀ (H : Heap) (locs : List Loc) (ls : Array Slot), Rx s E L M H locs → lv_has ls 2 [(0, .ref a0), (1, .int x1)] → W p l e (rmD (d + 1)) s m args below meth c H locs 0 0 (MQ below (QcM E L (some (.int r)) M') args s 0 0 E.2.2.2) (F0 m 2 ls [])) (h0 : At L a0 T11) (h : fX11_setAll_j52 fu k2 a0 x1 M = some (r, M')) (hR : Rx s E L M H locs) (hl : lv_has ls 2 [(0, .ref a0), (1, .int x1)]) : W p l e (rmD (d + 1)) s m args below meth c H locs 0 0 (MQ below (QcM E L (some (.int r)) M') args s 0 0 E.2.2.2) (F0 m 52 ls []) := by
  have hx := B.1
  have hb := B.2.1
  unfold fX11_setAll_j52 at h
  obtain ⟨x1_52, ex1_52, h⟩ := lt_el h
  refine lv_iinc (v := x1_52) (lv' := [(1, .int x1_52), (0, .ref a0)]) hx hb dX11_setAll_52 hl (k := 1) rfl (by rw [ex1_52]; rfl) (by decide) rfl (fun ls hl => ?_)
  refine lv_goto (tgt := 2) hx hb dX11_setAll_55 (by decide) ?_
  exact ih2 x1_52 M h _ _ _ hR (lv_sub hl [1, 0] rfl)
def fX11_setAll_b2 (fu : Nat) (k2 : Int32 → Mm → Option (Int32 × Mm)) (a0 : Nat) (x1 : Int32) (M : Mm) : Option (Int32 × Mm) :=
  bi (fX11_registersNow fu a0 M) fun r_4 =>
  if r_4 ≤ x1 then
    fX11_setAll_j58 fu a0 M
  else
    if (M.1 a0 33) ≤ x1 then
      bm (fX11_setOne fu a0 x1 0 0 0 M) fun M_49 =>
      fX11_setAll_j52 fu k2 a0 x1 M_49
    else
      if x1 < 0 ∨ 2100 ≤ ix x1 then none else
      bm (fX11_setOne fu a0 x1 (M.1 (a0 + 14) (ix x1)) (M.1 (a0 + 15) (ix x1)) (M.1 (a0 + 16) (ix x1)) M) fun M_38 =>
      fX11_setAll_j52 fu k2 a0 x1 M_38
set_option maxRecDepth 100000 in
set_option maxHeartbeats 4000000 in
theorem wX11_setAll_b2 {r : Int32} {M' : Mm}   {k2 : Int32 → Mm → Option (Int32 × Mm)} {a0 : Nat} {x1 : Int32} {M : Mm} (B : Bx p s m args c cX11_setAll 2 RX11 E L) (hr : meth.sig.returnType = (some .int)) (hlk : meth.locks = false)  (ih2 : ∀ (x1 : Int32) (M : Mm), k2 x1 M = some (r, M') → ∀ (H : Heap) (locs : List Loc) (ls : Array Slot), Rx s E L M H locs → lv_has ls 2 [(0, .ref a0), (1, .int x1)] → W p l e (rmD (d + 1)) s m args below meth c H locs 0 0 (MQ below (QcM E L (some (.int r)) M') args s 0 0 E.2.2.2) (F0 m 2 ls [])) (h0 : At L a0 T11) (h : fX11_setAll_b2 fu k2 a0 x1 M = some (r, M')) (hR : Rx s E L M H locs) (hl : lv_has ls 2 [(0, .ref a0), (1, .int x1)]) : W p l e (rmD (d + 1)) s m args below meth c H locs 0 0 (MQ below (QcM E L (some (.int r)) M') args s 0 0 E.2.2.2) (F0 m 2 ls []) := by
  have hx := B.1
  have hb := B.2.1
  unfold fX11_setAll_b2 at h
  refine lv_iload_n hx hb dX11_setAll_2 rfl (lv_at hl 1 rfl) ?_
  refine lv_aload_n hx hb dX11_setAll_3 rfl (lv_at hl 0 rfl) ?_
  obtain ⟨r_4, hc_4, h⟩ := bi_el h
  refine iv_X11_243 B hR (h0.at0 rfl) hl.1 (mX11_registersNow fu _ h0 hc_4) (Nat.le_of_ble_eq_true rfl) dX11_setAll_4 (fun H locs hR => ?_)
  refine lv_icmp_ge (tgt := 58) hx hb dX11_setAll_7 (by decide) (fun c_7 => ?_) (fun c_7 => ?_)
  · rw [if_pos c_7] at h
    exact wX11_setAll_j58 B hr hlk h0 h hR (lv_sub hl [0] rfl)
  · rw [if_neg c_7] at h
    refine lv_iload_n hx hb dX11_setAll_10 rfl (lv_at hl 1 rfl) ?_
    refine lv_aload_n hx hb dX11_setAll_11 rfl (lv_at hl 0 rfl) ?_
    refine gf_X11_350 B hR (h0.at0 rfl) dX11_setAll_12 ?_
    refine lv_icmp_ge (tgt := 44) hx hb dX11_setAll_15 (by decide) (fun c_15 => ?_) (fun c_15 => ?_)
    · rw [if_pos c_15] at h
      refine lv_aload_n hx hb dX11_setAll_44 rfl (lv_at hl 0 rfl) ?_
      refine lv_iload_n hx hb dX11_setAll_45 rfl (lv_at hl 1 rfl) ?_
      refine lv_iconst (v := 0) hx hb dX11_setAll_46 (by decide) ?_
      refine lv_iconst (v := 0) hx hb dX11_setAll_47 (by decide) ?_
      refine lv_iconst (v := 0) hx hb dX11_setAll_48 (by decide) ?_
      obtain ⟨M_49, hc_49, h⟩ := bm_el h
      refine iv_X11_480 B hR (h0.at0 rfl) hl.1 (mX11_setOne fu _ h0 hc_49) (Nat.le_of_ble_eq_true rfl) dX11_setAll_49 (fun H locs hR => ?_)
      exact wX11_setAll_j52 B hr hlk ih2 h0 h hR hl
    · rw [if_neg c_15] at h
      refine lv_aload_n hx hb dX11_setAll_18 rfl (lv_at hl 0 rfl) ?_
      refine lv_iload_n hx hb dX11_setAll_19 rfl (lv_at hl 1 rfl) ?_
      refine lv_aload_n hx hb dX11_setAll_20 rfl (lv_at hl 0 rfl) ?_
      refine gf_X11_54 B hR (h0.at0 rfl) dX11_setAll_21 ?_
      refine lv_iload_n hx hb dX11_setAll_24 rfl (lv_at hl 1 rfl) ?_
      obtain ⟨hi_25, h⟩ := ifn_el h
      refine r_iald B hR (h0.at 14 rfl) hi_25 dX11_setAll_25 ?_
      refine lv_aload_n hx hb dX11_setAll_26 rfl (lv_at hl 0 rfl) ?_
      refine gf_X11_57 B hR (h0.at0 rfl) dX11_setAll_27 ?_
      refine lv_iload_n hx hb dX11_setAll_30 rfl (lv_at hl 1 rfl) ?_
      refine r_iald B hR (h0.at 15 rfl) hi_25 dX11_setAll_31 ?_
      refine lv_aload_n hx hb dX11_setAll_32 rfl (lv_at hl 0 rfl) ?_
      refine gf_X11_60 B hR (h0.at0 rfl) dX11_setAll_33 ?_
      refine lv_iload_n hx hb dX11_setAll_36 rfl (lv_at hl 1 rfl) ?_
      refine r_iald B hR (h0.at 16 rfl) hi_25 dX11_setAll_37 ?_
      obtain ⟨M_38, hc_38, h⟩ := bm_el h
      refine iv_X11_480 B hR (h0.at0 rfl) hl.1 (mX11_setOne fu _ h0 hc_38) (Nat.le_of_ble_eq_true rfl) dX11_setAll_38 (fun H locs hR => ?_)
      refine lv_goto (tgt := 52) hx hb dX11_setAll_41 (by decide) ?_
      exact wX11_setAll_j52 B hr hlk ih2 h0 h hR hl
def fX11_setAll_l2 (fu : Nat) (a0 : Nat) (x1 : Int32) (M : Mm) : Option (Int32 × Mm) := lp (fun (rec : (Int32 × Mm) → Option (Int32 × Mm)) (s : Int32 × Mm) => fX11_setAll_b2 fu  (fun x1 M => rec (x1, M)) a0 s.1 s.2) fu (x1, M)
set_option maxRecDepth 100000 in
set_option maxHeartbeats 4000000 in
theorem wX11_setAll_l2 {r : Int32} {M' : Mm}   {a0 : Nat} {x1 : Int32} {M : Mm} (B : Bx p s m args c cX11_setAll 2 RX11 E L) (hr : meth.sig.returnType = (some .int)) (hlk : meth.locks = false)  (h0 : At L a0 T11) (h : fX11_setAll_l2 fu a0 x1 M = some (r, M')) (hR : Rx s E L M H locs) (hl : lv_has ls 2 [(0, .ref a0), (1, .int x1)]) : W p l e (rmD (d + 1)) s m args below meth c H locs 0 0 (MQ below (QcM E L (some (.int r)) M') args s 0 0 E.2.2.2) (F0 m 2 ls []) := by
  refine lp_G (G := fun z : Int32 × Mm => ∀ (H : Heap) (locs : List Loc) (ls : Array Slot), Rx s E L z.2 H locs → lv_has ls 2 [(0, .ref a0), (1, .int z.1)] → W p l e (rmD (d + 1)) s m args below meth c H locs 0 0 (MQ below (QcM E L (some (.int r)) M') args s 0 0 E.2.2.2) (F0 m 2 ls [])) (fun rec ih z h H locs ls hR hl => ?_) fu _ h H locs ls hR hl
  exact wX11_setAll_b2 B hr hlk  (fun x1 M h => ih (x1, M) h) h0 h hR hl
def fX11_setAll (fu : Nat) (a0 : Nat) (M : Mm) : Option (Int32 × Mm) :=
  fX11_setAll_l2 fu a0 0 M
set_option maxRecDepth 100000 in
set_option maxHeartbeats 4000000 in
theorem mX11_setAll {l : Launch} {E : Ge} {L : Lay} (fu d : Nat) {a0 : Nat} {M : Mm} {r : Int32} {M' : Mm}  (h0 : At L a0 T11) (h : fX11_setAll fu a0 M = some (r, M')) : Ct l E L yX11_setAll cX11_setAll 2 (some .int) (d + 1) [.ref a0] M (some (.int r)) M' := by
  refine Ct.of (by decide) ?_
  intro p e s m below meth c hr hlk B hR
  have B : Bx p s m _ c cX11_setAll 2 RX11 E L := B
  have hx := B.1
  have hb := B.2.1
  have hl := lv_entry ([.ref a0]) (n := 2) (Nat.le_of_ble_eq_true rfl)
  rw [lg_entry_eq]
  generalize (lg_sl ([.ref a0]) ++ List.replicate (2 - (lg_sl ([.ref a0])).length) Slot.unset).toArray = ls at hl ⊢
  have hl : lv_has ls 2 [(0, .ref a0)] := hl
  unfold fX11_setAll at h
  refine lv_iconst (v := 0) hx hb dX11_setAll_0 (by decide) ?_
  refine lv_istore_n (lv' := [(1, .int 0), (0, .ref a0)]) hx hb dX11_setAll_1 rfl hl (by decide) rfl (fun ls hl => ?_)
  exact wX11_setAll_l2 B hr hlk h0 h hR (lv_sub hl [1, 0] rfl)
def fX11_lay (fu : Nat) (a0 : Nat) (M : Mm) : Option (Int32 × Mm) :=
  bm (fX11_layPlan fu a0 M) fun M_1 =>
  bi (fX11_registersNow fu a0 M_1) fun r_9 =>
  if (M_1.1 a0 33) ≤ r_9 then
    bm (fX11_keepAct fu a0 M_1) fun M_18 =>
    bw (fX11_setAll fu a0 M_18) fun r_22 M_22 =>
    some (r_22, M_22)
  else
    some ((-1), M_1)
set_option maxRecDepth 100000 in
set_option maxHeartbeats 4000000 in
theorem mX11_lay {l : Launch} {E : Ge} {L : Lay} (fu d : Nat) {a0 : Nat} {M : Mm} {r : Int32} {M' : Mm}  (h0 : At L a0 T11) (h : fX11_lay fu a0 M = some (r, M')) : Ct l E L yX11_lay cX11_lay 1 (some .int) (d + 7) [.ref a0] M (some (.int r)) M' := by
  refine Ct.of (by decide) ?_
  intro p e s m below meth c hr hlk B hR
  have B : Bx p s m _ c cX11_lay 1 RX11 E L := B
  have hx := B.1
  have hb := B.2.1
  have hl := lv_entry ([.ref a0]) (n := 1) (Nat.le_of_ble_eq_true rfl)
  rw [lg_entry_eq]
  generalize (lg_sl ([.ref a0]) ++ List.replicate (1 - (lg_sl ([.ref a0])).length) Slot.unset).toArray = ls at hl ⊢
  have hl : lv_has ls 1 [(0, .ref a0)] := hl
  unfold fX11_lay at h
  refine lv_aload_n hx hb dX11_lay_0 rfl (lv_at hl 0 rfl) ?_
  obtain ⟨M_1, hc_1, h⟩ := bm_el h
  refine iv_X11_370 B hR (h0.at0 rfl) hl.1 (mX11_layPlan fu _ h0 hc_1) (Nat.le_of_ble_eq_true rfl) dX11_lay_1 (fun H locs hR => ?_)
  refine lv_aload_n hx hb dX11_lay_4 rfl (lv_at hl 0 rfl) ?_
  refine gf_X11_350 B hR (h0.at0 rfl) dX11_lay_5 ?_
  refine lv_aload_n hx hb dX11_lay_8 rfl (lv_at hl 0 rfl) ?_
  obtain ⟨r_9, hc_9, h⟩ := bi_el h
  refine iv_X11_243 B hR (h0.at0 rfl) hl.1 (mX11_registersNow fu _ h0 hc_9) (Nat.le_of_ble_eq_true rfl) dX11_lay_9 (fun H locs hR => ?_)
  refine lv_icmp_le (tgt := 17) hx hb dX11_lay_12 (by decide) (fun c_12 => ?_) (fun c_12 => ?_)
  · rw [if_pos c_12] at h
    refine lv_aload_n hx hb dX11_lay_17 rfl (lv_at hl 0 rfl) ?_
    obtain ⟨M_18, hc_18, h⟩ := bm_el h
    refine iv_X11_474 B hR (h0.at0 rfl) hl.1 (mX11_keepAct fu _ h0 hc_18) (Nat.le_of_ble_eq_true rfl) dX11_lay_18 (fun H locs hR => ?_)
    refine lv_aload_n hx hb dX11_lay_21 rfl (lv_at hl 0 rfl) ?_
    obtain ⟨r_22, M_22, hc_22, h⟩ := bw_el h
    refine iv_X11_484 B hR (h0.at0 rfl) hl.1 (mX11_setAll fu _ h0 hc_22) (Nat.le_of_ble_eq_true rfl) dX11_lay_22 (fun H locs hR => ?_)
    exact r_iretW B hR hr hlk h dX11_lay_25
  · rw [if_neg c_12] at h
    refine lv_iconst (v := (-1)) hx hb dX11_lay_15 (by decide) ?_
    exact r_iretW B hR hr hlk h dX11_lay_16
def fX11_layAll_j52 (fu : Nat) (a0 : Nat) (M : Mm) : Option (Int32 × Mm) :=
  bw (fX11_setAll fu a0 M) fun r_53 M_53 =>
  some (r_53, M_53)
set_option maxRecDepth 100000 in
set_option maxHeartbeats 4000000 in
theorem wX11_layAll_j52 {r : Int32} {M' : Mm}   {a0 : Nat} {M : Mm} (B : Bx p s m args c cX11_layAll 2 RX11 E L) (hr : meth.sig.returnType = (some .int)) (hlk : meth.locks = false)  (h0 : At L a0 T11) (h : fX11_layAll_j52 fu a0 M = some (r, M')) (hR : Rx s E L M H locs) (hl : lv_has ls 2 [(0, .ref a0)]) : W p l e (rmD (d + 8)) s m args below meth c H locs 0 0 (MQ below (QcM E L (some (.int r)) M') args s 0 0 E.2.2.2) (F0 m 52 ls []) := by
  have hx := B.1
  have hb := B.2.1
  unfold fX11_layAll_j52 at h
  refine lv_aload_n hx hb dX11_layAll_52 rfl (lv_at hl 0 rfl) ?_
  obtain ⟨r_53, M_53, hc_53, h⟩ := bw_el h
  refine iv_X11_484 B hR (h0.at0 rfl) hl.1 (mX11_setAll fu _ h0 hc_53) (Nat.le_of_ble_eq_true rfl) dX11_layAll_53 (fun H locs hR => ?_)
  exact r_iretW B hR hr hlk h dX11_layAll_56
def fX11_layAll_b23 (fu : Nat) (k23 : Int32 → Mm → Option (Int32 × Mm)) (a0 : Nat) (x1 : Int32) (M : Mm) : Option (Int32 × Mm) :=
  bi (fX11_pages fu a0 M) fun r_25 =>
  if r_25 ≤ x1 then
    fX11_layAll_j52 fu a0 M
  else
    if x1 < 0 ∨ 64 ≤ ix x1 then none else
    if (76 + x1) < 0 ∨ 140 ≤ ix (76 + x1) then none else
    lt (wI M (a0 + 1) (ix (76 + x1)) (M.1 (a0 + 17) (ix x1))) fun M_45 =>
    lt (x1 + 1) fun x1_46 =>
    k23 x1_46 M_45
set_option maxRecDepth 100000 in
set_option maxHeartbeats 4000000 in
theorem wX11_layAll_b23 {r : Int32} {M' : Mm}   {k23 : Int32 → Mm → Option (Int32 × Mm)} {a0 : Nat} {x1 : Int32} {M : Mm} (B : Bx p s m args c cX11_layAll 2 RX11 E L) (hr : meth.sig.returnType = (some .int)) (hlk : meth.locks = false)  (ih23 : ∀ (x1 : Int32) (M : Mm), k23 x1 M = some (r, M') → ∀ (H : Heap) (locs : List Loc) (ls : Array Slot), Rx s E L M H locs → lv_has ls 2 [(0, .ref a0), (1, .int x1)] → W p l e (rmD (d + 8)) s m args below meth c H locs 0 0 (MQ below (QcM E L (some (.int r)) M') args s 0 0 E.2.2.2) (F0 m 23 ls [])) (h0 : At L a0 T11) (h : fX11_layAll_b23 fu k23 a0 x1 M = some (r, M')) (hR : Rx s E L M H locs) (hl : lv_has ls 2 [(0, .ref a0), (1, .int x1)]) : W p l e (rmD (d + 8)) s m args below meth c H locs 0 0 (MQ below (QcM E L (some (.int r)) M') args s 0 0 E.2.2.2) (F0 m 23 ls []) := by
  have hx := B.1
  have hb := B.2.1
  unfold fX11_layAll_b23 at h
  refine lv_iload_n hx hb dX11_layAll_23 rfl (lv_at hl 1 rfl) ?_
  refine lv_aload_n hx hb dX11_layAll_24 rfl (lv_at hl 0 rfl) ?_
  obtain ⟨r_25, hc_25, h⟩ := bi_el h
  refine iv_X11_291 B hR (h0.at0 rfl) hl.1 (mX11_pages fu _ h0 hc_25) (Nat.le_of_ble_eq_true rfl) dX11_layAll_25 (fun H locs hR => ?_)
  refine lv_icmp_ge (tgt := 52) hx hb dX11_layAll_28 (by decide) (fun c_28 => ?_) (fun c_28 => ?_)
  · rw [if_pos c_28] at h
    exact wX11_layAll_j52 B hr hlk h0 h hR (lv_sub hl [0] rfl)
  · rw [if_neg c_28] at h
    refine lv_aload_n hx hb dX11_layAll_31 rfl (lv_at hl 0 rfl) ?_
    refine gf_X11_7 B hR (h0.at0 rfl) dX11_layAll_32 ?_
    refine lv_bipush (v := 76) hx hb dX11_layAll_35 (by decide) ?_
    refine lv_iload_n hx hb dX11_layAll_37 rfl (lv_at hl 1 rfl) ?_
    refine lv_iadd hx hb dX11_layAll_38 ?_
    refine lv_aload_n hx hb dX11_layAll_39 rfl (lv_at hl 0 rfl) ?_
    refine gf_X11_63 B hR (h0.at0 rfl) dX11_layAll_40 ?_
    refine lv_iload_n hx hb dX11_layAll_43 rfl (lv_at hl 1 rfl) ?_
    obtain ⟨hi_44, h⟩ := ifn_el h
    refine r_iald B hR (h0.at 17 rfl) hi_44 dX11_layAll_44 ?_
    obtain ⟨hi_45, h⟩ := ifn_el h
    obtain ⟨M_45, eM_45, h⟩ := lt_el h
    refine r_iast B hR (h0.at 1 rfl) hi_45 dX11_layAll_45 (fun H locs hR => ?_)
    rw [← eM_45] at hR
    obtain ⟨x1_46, ex1_46, h⟩ := lt_el h
    refine lv_iinc (v := x1_46) (lv' := [(1, .int x1_46), (0, .ref a0)]) hx hb dX11_layAll_46 hl (k := 1) rfl (by rw [ex1_46]; rfl) (by decide) rfl (fun ls hl => ?_)
    refine lv_goto (tgt := 23) hx hb dX11_layAll_49 (by decide) ?_
    exact ih23 x1_46 M_45 h _ _ _ hR (lv_sub hl [1, 0] rfl)
def fX11_layAll_l23 (fu : Nat) (a0 : Nat) (x1 : Int32) (M : Mm) : Option (Int32 × Mm) := lp (fun (rec : (Int32 × Mm) → Option (Int32 × Mm)) (s : Int32 × Mm) => fX11_layAll_b23 fu  (fun x1 M => rec (x1, M)) a0 s.1 s.2) fu (x1, M)
set_option maxRecDepth 100000 in
set_option maxHeartbeats 4000000 in
theorem wX11_layAll_l23 {r : Int32} {M' : Mm}   {a0 : Nat} {x1 : Int32} {M : Mm} (B : Bx p s m args c cX11_layAll 2 RX11 E L) (hr : meth.sig.returnType = (some .int)) (hlk : meth.locks = false)  (h0 : At L a0 T11) (h : fX11_layAll_l23 fu a0 x1 M = some (r, M')) (hR : Rx s E L M H locs) (hl : lv_has ls 2 [(0, .ref a0), (1, .int x1)]) : W p l e (rmD (d + 8)) s m args below meth c H locs 0 0 (MQ below (QcM E L (some (.int r)) M') args s 0 0 E.2.2.2) (F0 m 23 ls []) := by
  refine lp_G (G := fun z : Int32 × Mm => ∀ (H : Heap) (locs : List Loc) (ls : Array Slot), Rx s E L z.2 H locs → lv_has ls 2 [(0, .ref a0), (1, .int z.1)] → W p l e (rmD (d + 8)) s m args below meth c H locs 0 0 (MQ below (QcM E L (some (.int r)) M') args s 0 0 E.2.2.2) (F0 m 23 ls [])) (fun rec ih z h H locs ls hR hl => ?_) fu _ h H locs ls hR hl
  exact wX11_layAll_b23 B hr hlk  (fun x1 M h => ih (x1, M) h) h0 h hR hl
def fX11_layAll (fu : Nat) (a0 : Nat) (M : Mm) : Option (Int32 × Mm) :=
  bm (fX11_layPagedPlan fu a0 M) fun M_1 =>
  bi (fX11_registersNow fu a0 M_1) fun r_9 =>
  if (M_1.1 a0 33) ≤ r_9 then
    bm (fX11_keepAct fu a0 M_1) fun M_18 =>
    fX11_layAll_l23 fu a0 0 M_18
  else
    some ((-1), M_1)
set_option maxRecDepth 100000 in
set_option maxHeartbeats 4000000 in
theorem mX11_layAll {l : Launch} {E : Ge} {L : Lay} (fu d : Nat) {a0 : Nat} {M : Mm} {r : Int32} {M' : Mm}  (h0 : At L a0 T11) (h : fX11_layAll fu a0 M = some (r, M')) : Ct l E L yX11_layAll cX11_layAll 2 (some .int) (d + 8) [.ref a0] M (some (.int r)) M' := by
  refine Ct.of (by decide) ?_
  intro p e s m below meth c hr hlk B hR
  have B : Bx p s m _ c cX11_layAll 2 RX11 E L := B
  have hx := B.1
  have hb := B.2.1
  have hl := lv_entry ([.ref a0]) (n := 2) (Nat.le_of_ble_eq_true rfl)
  rw [lg_entry_eq]
  generalize (lg_sl ([.ref a0]) ++ List.replicate (2 - (lg_sl ([.ref a0])).length) Slot.unset).toArray = ls at hl ⊢
  have hl : lv_has ls 2 [(0, .ref a0)] := hl
  unfold fX11_layAll at h
  refine lv_aload_n hx hb dX11_layAll_0 rfl (lv_at hl 0 rfl) ?_
  obtain ⟨M_1, hc_1, h⟩ := bm_el h
  refine iv_X11_388 B hR (h0.at0 rfl) hl.1 (mX11_layPagedPlan fu _ h0 hc_1) (Nat.le_of_ble_eq_true rfl) dX11_layAll_1 (fun H locs hR => ?_)
  refine lv_aload_n hx hb dX11_layAll_4 rfl (lv_at hl 0 rfl) ?_
  refine gf_X11_350 B hR (h0.at0 rfl) dX11_layAll_5 ?_
  refine lv_aload_n hx hb dX11_layAll_8 rfl (lv_at hl 0 rfl) ?_
  obtain ⟨r_9, hc_9, h⟩ := bi_el h
  refine iv_X11_243 B hR (h0.at0 rfl) hl.1 (mX11_registersNow fu _ h0 hc_9) (Nat.le_of_ble_eq_true rfl) dX11_layAll_9 (fun H locs hR => ?_)
  refine lv_icmp_le (tgt := 17) hx hb dX11_layAll_12 (by decide) (fun c_12 => ?_) (fun c_12 => ?_)
  · rw [if_pos c_12] at h
    refine lv_aload_n hx hb dX11_layAll_17 rfl (lv_at hl 0 rfl) ?_
    obtain ⟨M_18, hc_18, h⟩ := bm_el h
    refine iv_X11_474 B hR (h0.at0 rfl) hl.1 (mX11_keepAct fu _ h0 hc_18) (Nat.le_of_ble_eq_true rfl) dX11_layAll_18 (fun H locs hR => ?_)
    refine lv_iconst (v := 0) hx hb dX11_layAll_21 (by decide) ?_
    refine lv_istore_n (lv' := [(1, .int 0), (0, .ref a0)]) hx hb dX11_layAll_22 rfl hl (by decide) rfl (fun ls hl => ?_)
    exact wX11_layAll_l23 B hr hlk h0 h hR (lv_sub hl [1, 0] rfl)
  · rw [if_neg c_12] at h
    refine lv_iconst (v := (-1)) hx hb dX11_layAll_15 (by decide) ?_
    exact r_iretW B hR hr hlk h dX11_layAll_16
def fX11_mend_j61 (fu : Nat) (x1 : Int32) (M : Mm) : Option (Int32 × Mm) :=
  some (x1, M)
set_option maxRecDepth 100000 in
set_option maxHeartbeats 4000000 in
theorem wX11_mend_j61 {r : Int32} {M' : Mm}   {x1 : Int32} {M : Mm} (B : Bx p s m args c cX11_mend 4 RX11 E L) (hr : meth.sig.returnType = (some .int)) (hlk : meth.locks = false)   (h : fX11_mend_j61 fu x1 M = some (r, M')) (hR : Rx s E L M H locs) (hl : lv_has ls 4 [(1, .int x1)]) : W p l e (rmD (d + 7)) s m args below meth c H locs 0 0 (MQ below (QcM E L (some (.int r)) M') args s 0 0 E.2.2.2) (F0 m 61 ls []) := by
  have hx := B.1
  have hb := B.2.1
  unfold fX11_mend_j61 at h
  refine lv_iload_n hx hb dX11_mend_61 rfl (lv_at hl 0 rfl) ?_
  exact r_iretW B hR hr hlk h dX11_mend_62
def fX11_mend_j55 (fu : Nat) (k8 : Int32 → Int32 → Mm → Option (Int32 × Mm)) (a0 : Nat) (x1 : Int32) (x2 : Int32) (M : Mm) : Option (Int32 × Mm) :=
  lt (x2 + 1) fun x2_55 =>
  k8 x1 x2_55 M
set_option maxRecDepth 100000 in
set_option maxHeartbeats 4000000 in
theorem wX11_mend_j55 {r : Int32} {M' : Mm}  {k8 : Int32 → Int32 → Mm → Option (Int32 × Mm)} {a0 : Nat} {x1 : Int32} {x2 : Int32} {M : Mm} (B : Bx p s m args c cX11_mend 4 RX11 E L) (hr : meth.sig.returnType = (some .int)) (hlk : meth.locks = false) (ih8 : ∀ (x1 : Int32) (x2 : Int32) (M : Mm), k8 x1 x2 M = some (r, M') → ∀ (H : Heap) (locs : List Loc) (ls : Array Slot), Rx s E L M H locs → lv_has ls 4 [(0, .ref a0), (1, .int x1), (2, .int x2)] → W p l e (rmD (d + 7)) s m args below meth c H locs 0 0 (MQ below (QcM E L (some (.int r)) M') args s 0 0 E.2.2.2) (F0 m 8 ls [])) (h0 : At L a0 T11) (h : fX11_mend_j55 fu k8 a0 x1 x2 M = some (r, M')) (hR : Rx s E L M H locs) (hl : lv_has ls 4 [(0, .ref a0), (1, .int x1), (2, .int x2)]) : W p l e (rmD (d + 7)) s m args below meth c H locs 0 0 (MQ below (QcM E L (some (.int r)) M') args s 0 0 E.2.2.2) (F0 m 55 ls []) := by
  have hx := B.1
  have hb := B.2.1
  unfold fX11_mend_j55 at h
  obtain ⟨x2_55, ex2_55, h⟩ := lt_el h
  refine lv_iinc (v := x2_55) (lv' := [(2, .int x2_55), (0, .ref a0), (1, .int x1)]) hx hb dX11_mend_55 hl (k := 2) rfl (by rw [ex2_55]; rfl) (by decide) rfl (fun ls hl => ?_)
  refine lv_goto (tgt := 8) hx hb dX11_mend_58 (by decide) ?_
  exact ih8 x1 x2_55 M h _ _ _ hR (lv_sub hl [1, 2, 0] rfl)
def fX11_mend_b8 (fu : Nat) (k8 : Int32 → Int32 → Mm → Option (Int32 × Mm)) (a0 : Nat) (x1 : Int32) (x2 : Int32) (M : Mm) : Option (Int32 × Mm) :=
  bi (fX11_pages fu a0 M) fun r_10 =>
  if r_10 ≤ x2 then
    fX11_mend_j61 fu x1 M
  else
    bi (fX11_mendable fu a0 x2 M) fun r_18 =>
    if r_18 < 0 then
      fX11_mend_j55 fu k8 a0 x1 x2 M
    else
      if (76 + x2) < 0 ∨ 140 ≤ ix (76 + x2) then none else
      if (M.1 (a0 + 1) (ix (76 + x2))) = r_18 then
        fX11_mend_j55 fu k8 a0 x1 x2 M
      else
        lt (wI M (a0 + 1) (ix (76 + x2)) r_18) fun M_51 =>
        lt (x1 + 1) fun x1_52 =>
        fX11_mend_j55 fu k8 a0 x1_52 x2 M_51
set_option maxRecDepth 100000 in
set_option maxHeartbeats 4000000 in
theorem wX11_mend_b8 {r : Int32} {M' : Mm}   {k8 : Int32 → Int32 → Mm → Option (Int32 × Mm)} {a0 : Nat} {x1 : Int32} {x2 : Int32} {M : Mm} (B : Bx p s m args c cX11_mend 4 RX11 E L) (hr : meth.sig.returnType = (some .int)) (hlk : meth.locks = false)  (ih8 : ∀ (x1 : Int32) (x2 : Int32) (M : Mm), k8 x1 x2 M = some (r, M') → ∀ (H : Heap) (locs : List Loc) (ls : Array Slot), Rx s E L M H locs → lv_has ls 4 [(0, .ref a0), (1, .int x1), (2, .int x2)] → W p l e (rmD (d + 7)) s m args below meth c H locs 0 0 (MQ below (QcM E L (some (.int r)) M') args s 0 0 E.2.2.2) (F0 m 8 ls [])) (h0 : At L a0 T11) (h : fX11_mend_b8 fu k8 a0 x1 x2 M = some (r, M')) (hR : Rx s E L M H locs) (hl : lv_has ls 4 [(0, .ref a0), (1, .int x1), (2, .int x2)]) : W p l e (rmD (d + 7)) s m args below meth c H locs 0 0 (MQ below (QcM E L (some (.int r)) M') args s 0 0 E.2.2.2) (F0 m 8 ls []) := by
  have hx := B.1
  have hb := B.2.1
  unfold fX11_mend_b8 at h
  refine lv_iload_n hx hb dX11_mend_8 rfl (lv_at hl 2 rfl) ?_
  refine lv_aload_n hx hb dX11_mend_9 rfl (lv_at hl 0 rfl) ?_
  obtain ⟨r_10, hc_10, h⟩ := bi_el h
  refine iv_X11_291 B hR (h0.at0 rfl) hl.1 (mX11_pages fu _ h0 hc_10) (Nat.le_of_ble_eq_true rfl) dX11_mend_10 (fun H locs hR => ?_)
  refine lv_icmp_ge (tgt := 61) hx hb dX11_mend_13 (by decide) (fun c_13 => ?_) (fun c_13 => ?_)
  · rw [if_pos c_13] at h
    exact wX11_mend_j61 B hr hlk  h hR (lv_sub hl [1] rfl)
  · rw [if_neg c_13] at h
    refine lv_aload_n hx hb dX11_mend_16 rfl (lv_at hl 0 rfl) ?_
    refine lv_iload_n hx hb dX11_mend_17 rfl (lv_at hl 2 rfl) ?_
    obtain ⟨r_18, hc_18, h⟩ := bi_el h
    refine iv_X11_487 B hR (h0.at0 rfl) hl.1 (mX11_mendable fu _ h0 hc_18) (Nat.le_of_ble_eq_true rfl) dX11_mend_18 (fun H locs hR => ?_)
    refine lv_istore_n (lv' := [(3, .int r_18), (0, .ref a0), (1, .int x1), (2, .int x2)]) hx hb dX11_mend_21 rfl hl (by decide) rfl (fun ls hl => ?_)
    refine lv_iload_n hx hb dX11_mend_22 rfl (lv_at hl 0 rfl) ?_
    refine lv_if_lt (tgt := 55) hx hb dX11_mend_23 (by decide) (fun c_23 => ?_) (fun c_23 => ?_)
    · rw [if_pos c_23] at h
      exact wX11_mend_j55 B hr hlk ih8 h0 h hR (lv_sub hl [1, 2, 3] rfl)
    · rw [if_neg c_23] at h
      refine lv_aload_n hx hb dX11_mend_26 rfl (lv_at hl 1 rfl) ?_
      refine gf_X11_7 B hR (h0.at0 rfl) dX11_mend_27 ?_
      refine lv_bipush (v := 76) hx hb dX11_mend_30 (by decide) ?_
      refine lv_iload_n hx hb dX11_mend_32 rfl (lv_at hl 3 rfl) ?_
      refine lv_iadd hx hb dX11_mend_33 ?_
      obtain ⟨hi_34, h⟩ := ifn_el h
      refine r_iald B hR (h0.at 1 rfl) hi_34 dX11_mend_34 ?_
      refine lv_iload_n hx hb dX11_mend_35 rfl (lv_at hl 0 rfl) ?_
      refine lv_icmp_ne (tgt := 42) hx hb dX11_mend_36 (by decide) (fun c_36 => ?_) (fun c_36 => ?_)
      · rw [if_neg c_36] at h
        refine lv_aload_n hx hb dX11_mend_42 rfl (lv_at hl 1 rfl) ?_
        refine gf_X11_7 B hR (h0.at0 rfl) dX11_mend_43 ?_
        refine lv_bipush (v := 76) hx hb dX11_mend_46 (by decide) ?_
        refine lv_iload_n hx hb dX11_mend_48 rfl (lv_at hl 3 rfl) ?_
        refine lv_iadd hx hb dX11_mend_49 ?_
        refine lv_iload_n hx hb dX11_mend_50 rfl (lv_at hl 0 rfl) ?_
        obtain ⟨M_51, eM_51, h⟩ := lt_el h
        refine r_iast B hR (h0.at 1 rfl) hi_34 dX11_mend_51 (fun H locs hR => ?_)
        rw [← eM_51] at hR
        obtain ⟨x1_52, ex1_52, h⟩ := lt_el h
        refine lv_iinc (v := x1_52) (lv' := [(1, .int x1_52), (3, .int r_18), (0, .ref a0), (2, .int x2)]) hx hb dX11_mend_52 hl (k := 2) rfl (by rw [ex1_52]; rfl) (by decide) rfl (fun ls hl => ?_)
        exact wX11_mend_j55 B hr hlk ih8 h0 h hR (lv_sub hl [2, 0, 3] rfl)
      · rw [if_pos c_36] at h
        refine lv_goto (tgt := 55) hx hb dX11_mend_39 (by decide) ?_
        exact wX11_mend_j55 B hr hlk ih8 h0 h hR (lv_sub hl [1, 2, 3] rfl)
def fX11_mend_l8 (fu : Nat) (a0 : Nat) (x1 : Int32) (x2 : Int32) (M : Mm) : Option (Int32 × Mm) := lp (fun (rec : (Int32 × Int32 × Mm) → Option (Int32 × Mm)) (s : Int32 × Int32 × Mm) => fX11_mend_b8 fu  (fun x1 x2 M => rec (x1, x2, M)) a0 s.1 s.2.1 s.2.2) fu (x1, x2, M)
set_option maxRecDepth 100000 in
set_option maxHeartbeats 4000000 in
theorem wX11_mend_l8 {r : Int32} {M' : Mm}   {a0 : Nat} {x1 : Int32} {x2 : Int32} {M : Mm} (B : Bx p s m args c cX11_mend 4 RX11 E L) (hr : meth.sig.returnType = (some .int)) (hlk : meth.locks = false)  (h0 : At L a0 T11) (h : fX11_mend_l8 fu a0 x1 x2 M = some (r, M')) (hR : Rx s E L M H locs) (hl : lv_has ls 4 [(0, .ref a0), (1, .int x1), (2, .int x2)]) : W p l e (rmD (d + 7)) s m args below meth c H locs 0 0 (MQ below (QcM E L (some (.int r)) M') args s 0 0 E.2.2.2) (F0 m 8 ls []) := by
  refine lp_G (G := fun z : Int32 × Int32 × Mm => ∀ (H : Heap) (locs : List Loc) (ls : Array Slot), Rx s E L z.2.2 H locs → lv_has ls 4 [(0, .ref a0), (1, .int z.1), (2, .int z.2.1)] → W p l e (rmD (d + 7)) s m args below meth c H locs 0 0 (MQ below (QcM E L (some (.int r)) M') args s 0 0 E.2.2.2) (F0 m 8 ls [])) (fun rec ih z h H locs ls hR hl => ?_) fu _ h H locs ls hR hl
  exact wX11_mend_b8 B hr hlk  (fun x1 x2 M h => ih (x1, x2, M) h) h0 h hR hl
def fX11_mend (fu : Nat) (a0 : Nat) (M : Mm) : Option (Int32 × Mm) :=
  bm (fX11_keepAct fu a0 M) fun M_1 =>
  fX11_mend_l8 fu a0 0 0 M_1
set_option maxRecDepth 100000 in
set_option maxHeartbeats 4000000 in
theorem mX11_mend {l : Launch} {E : Ge} {L : Lay} (fu d : Nat) {a0 : Nat} {M : Mm} {r : Int32} {M' : Mm}  (h0 : At L a0 T11) (h : fX11_mend fu a0 M = some (r, M')) : Ct l E L yX11_mend cX11_mend 4 (some .int) (d + 7) [.ref a0] M (some (.int r)) M' := by
  refine Ct.of (by decide) ?_
  intro p e s m below meth c hr hlk B hR
  have B : Bx p s m _ c cX11_mend 4 RX11 E L := B
  have hx := B.1
  have hb := B.2.1
  have hl := lv_entry ([.ref a0]) (n := 4) (Nat.le_of_ble_eq_true rfl)
  rw [lg_entry_eq]
  generalize (lg_sl ([.ref a0]) ++ List.replicate (4 - (lg_sl ([.ref a0])).length) Slot.unset).toArray = ls at hl ⊢
  have hl : lv_has ls 4 [(0, .ref a0)] := hl
  unfold fX11_mend at h
  refine lv_aload_n hx hb dX11_mend_0 rfl (lv_at hl 0 rfl) ?_
  obtain ⟨M_1, hc_1, h⟩ := bm_el h
  refine iv_X11_474 B hR (h0.at0 rfl) hl.1 (mX11_keepAct fu _ h0 hc_1) (Nat.le_of_ble_eq_true rfl) dX11_mend_1 (fun H locs hR => ?_)
  refine lv_iconst (v := 0) hx hb dX11_mend_4 (by decide) ?_
  refine lv_istore_n (lv' := [(1, .int 0), (0, .ref a0)]) hx hb dX11_mend_5 rfl hl (by decide) rfl (fun ls hl => ?_)
  refine lv_iconst (v := 0) hx hb dX11_mend_6 (by decide) ?_
  refine lv_istore_n (lv' := [(2, .int 0), (1, .int 0), (0, .ref a0)]) hx hb dX11_mend_7 rfl hl (by decide) rfl (fun ls hl => ?_)
  exact wX11_mend_l8 B hr hlk h0 h hR (lv_sub hl [2, 1, 0] rfl)
def fX11_tidy_j168 (fu : Nat) (a0 : Nat) (x1 : Int32) (M : Mm) : Option (Int32 × Mm) :=
  lt (wI M (a0 + 1) (ix 1) x1) fun M_174 =>
  some (x1, M_174)
set_option maxRecDepth 100000 in
set_option maxHeartbeats 4000000 in
theorem wX11_tidy_j168 {r : Int32} {M' : Mm}   {a0 : Nat} {x1 : Int32} {M : Mm} (B : Bx p s m args c cX11_tidy 4 RX11 E L) (hr : meth.sig.returnType = (some .int)) (hlk : meth.locks = false)  (h0 : At L a0 T11) (h : fX11_tidy_j168 fu a0 x1 M = some (r, M')) (hR : Rx s E L M H locs) (hl : lv_has ls 4 [(0, .ref a0), (1, .int x1)]) : W p l e (rmD (d + 3)) s m args below meth c H locs 0 0 (MQ below (QcM E L (some (.int r)) M') args s 0 0 E.2.2.2) (F0 m 168 ls []) := by
  have hx := B.1
  have hb := B.2.1
  unfold fX11_tidy_j168 at h
  refine lv_aload_n hx hb dX11_tidy_168 rfl (lv_at hl 0 rfl) ?_
  refine gf_X11_7 B hR (h0.at0 rfl) dX11_tidy_169 ?_
  refine lv_iconst (v := 1) hx hb dX11_tidy_172 (by decide) ?_
  refine lv_iload_n hx hb dX11_tidy_173 rfl (lv_at hl 1 rfl) ?_
  obtain ⟨M_174, eM_174, h⟩ := lt_el h
  refine r_iast B hR (h0.at 1 rfl) (by decide +kernel) dX11_tidy_174 (fun H locs hR => ?_)
  rw [← eM_174] at hR
  refine lv_iload_n hx hb dX11_tidy_175 rfl (lv_at hl 1 rfl) ?_
  exact r_iretW B hR hr hlk h dX11_tidy_176
def fX11_tidy_b141 (fu : Nat) (k141 : Int32 → Mm → Option (Int32 × Mm)) (a0 : Nat) (x1 : Int32) (x3 : Int32) (M : Mm) : Option (Int32 × Mm) :=
  if (3 * x1) ≤ x3 then
    fX11_tidy_j168 fu a0 x1 M
  else
    if x3 < 0 ∨ 36 ≤ ix x3 then none else
    if (2 + x3) < 0 ∨ 140 ≤ ix (2 + x3) then none else
    lt (wI M (a0 + 1) (ix (2 + x3)) (M.1 (a0 + 23) (ix x3))) fun M_161 =>
    lt (x3 + 1) fun x3_162 =>
    k141 x3_162 M_161
set_option maxRecDepth 100000 in
set_option maxHeartbeats 4000000 in
theorem wX11_tidy_b141 {r : Int32} {M' : Mm}   {k141 : Int32 → Mm → Option (Int32 × Mm)} {a0 : Nat} {x1 : Int32} {x3 : Int32} {M : Mm} (B : Bx p s m args c cX11_tidy 4 RX11 E L) (hr : meth.sig.returnType = (some .int)) (hlk : meth.locks = false)  (ih141 : ∀ (x3 : Int32) (M : Mm), k141 x3 M = some (r, M') → ∀ (H : Heap) (locs : List Loc) (ls : Array Slot), Rx s E L M H locs → lv_has ls 4 [(0, .ref a0), (1, .int x1), (3, .int x3)] → W p l e (rmD (d + 3)) s m args below meth c H locs 0 0 (MQ below (QcM E L (some (.int r)) M') args s 0 0 E.2.2.2) (F0 m 141 ls [])) (h0 : At L a0 T11) (h : fX11_tidy_b141 fu k141 a0 x1 x3 M = some (r, M')) (hR : Rx s E L M H locs) (hl : lv_has ls 4 [(0, .ref a0), (1, .int x1), (3, .int x3)]) : W p l e (rmD (d + 3)) s m args below meth c H locs 0 0 (MQ below (QcM E L (some (.int r)) M') args s 0 0 E.2.2.2) (F0 m 141 ls []) := by
  have hx := B.1
  have hb := B.2.1
  unfold fX11_tidy_b141 at h
  refine lv_iload_n hx hb dX11_tidy_141 rfl (lv_at hl 2 rfl) ?_
  refine lv_iconst (v := 3) hx hb dX11_tidy_142 (by decide) ?_
  refine lv_iload_n hx hb dX11_tidy_143 rfl (lv_at hl 1 rfl) ?_
  refine lv_imul hx hb dX11_tidy_144 ?_
  refine lv_icmp_ge (tgt := 168) hx hb dX11_tidy_145 (by decide) (fun c_145 => ?_) (fun c_145 => ?_)
  · rw [if_pos c_145] at h
    exact wX11_tidy_j168 B hr hlk h0 h hR (lv_sub hl [0, 1] rfl)
  · rw [if_neg c_145] at h
    refine lv_aload_n hx hb dX11_tidy_148 rfl (lv_at hl 0 rfl) ?_
    refine gf_X11_7 B hR (h0.at0 rfl) dX11_tidy_149 ?_
    refine lv_iconst (v := 2) hx hb dX11_tidy_152 (by decide) ?_
    refine lv_iload_n hx hb dX11_tidy_153 rfl (lv_at hl 2 rfl) ?_
    refine lv_iadd hx hb dX11_tidy_154 ?_
    refine lv_aload_n hx hb dX11_tidy_155 rfl (lv_at hl 0 rfl) ?_
    refine gf_X11_83 B hR (h0.at0 rfl) dX11_tidy_156 ?_
    refine lv_iload_n hx hb dX11_tidy_159 rfl (lv_at hl 2 rfl) ?_
    obtain ⟨hi_160, h⟩ := ifn_el h
    refine r_iald B hR (h0.at 23 rfl) hi_160 dX11_tidy_160 ?_
    obtain ⟨hi_161, h⟩ := ifn_el h
    obtain ⟨M_161, eM_161, h⟩ := lt_el h
    refine r_iast B hR (h0.at 1 rfl) hi_161 dX11_tidy_161 (fun H locs hR => ?_)
    rw [← eM_161] at hR
    obtain ⟨x3_162, ex3_162, h⟩ := lt_el h
    refine lv_iinc (v := x3_162) (lv' := [(3, .int x3_162), (0, .ref a0), (1, .int x1)]) hx hb dX11_tidy_162 hl (k := 2) rfl (by rw [ex3_162]; rfl) (by decide) rfl (fun ls hl => ?_)
    refine lv_goto (tgt := 141) hx hb dX11_tidy_165 (by decide) ?_
    exact ih141 x3_162 M_161 h _ _ _ hR (lv_sub hl [1, 2, 0] rfl)
def fX11_tidy_l141 (fu : Nat) (a0 : Nat) (x1 : Int32) (x3 : Int32) (M : Mm) : Option (Int32 × Mm) := lp (fun (rec : (Int32 × Mm) → Option (Int32 × Mm)) (s : Int32 × Mm) => fX11_tidy_b141 fu  (fun x3 M => rec (x3, M)) a0 x1 s.1 s.2) fu (x3, M)
set_option maxRecDepth 100000 in
set_option maxHeartbeats 4000000 in
theorem wX11_tidy_l141 {r : Int32} {M' : Mm}   {a0 : Nat} {x1 : Int32} {x3 : Int32} {M : Mm} (B : Bx p s m args c cX11_tidy 4 RX11 E L) (hr : meth.sig.returnType = (some .int)) (hlk : meth.locks = false)  (h0 : At L a0 T11) (h : fX11_tidy_l141 fu a0 x1 x3 M = some (r, M')) (hR : Rx s E L M H locs) (hl : lv_has ls 4 [(0, .ref a0), (1, .int x1), (3, .int x3)]) : W p l e (rmD (d + 3)) s m args below meth c H locs 0 0 (MQ below (QcM E L (some (.int r)) M') args s 0 0 E.2.2.2) (F0 m 141 ls []) := by
  refine lp_G (G := fun z : Int32 × Mm => ∀ (H : Heap) (locs : List Loc) (ls : Array Slot), Rx s E L z.2 H locs → lv_has ls 4 [(0, .ref a0), (1, .int x1), (3, .int z.1)] → W p l e (rmD (d + 3)) s m args below meth c H locs 0 0 (MQ below (QcM E L (some (.int r)) M') args s 0 0 E.2.2.2) (F0 m 141 ls [])) (fun rec ih z h H locs ls hR hl => ?_) fu _ h H locs ls hR hl
  exact wX11_tidy_b141 B hr hlk  (fun x3 M h => ih (x3, M) h) h0 h hR hl
def fX11_tidy_j139 (fu : Nat) (a0 : Nat) (x1 : Int32) (M : Mm) : Option (Int32 × Mm) :=
  fX11_tidy_l141 fu a0 x1 0 M
set_option maxRecDepth 100000 in
set_option maxHeartbeats 4000000 in
theorem wX11_tidy_j139 {r : Int32} {M' : Mm}   {a0 : Nat} {x1 : Int32} {M : Mm} (B : Bx p s m args c cX11_tidy 4 RX11 E L) (hr : meth.sig.returnType = (some .int)) (hlk : meth.locks = false)  (h0 : At L a0 T11) (h : fX11_tidy_j139 fu a0 x1 M = some (r, M')) (hR : Rx s E L M H locs) (hl : lv_has ls 4 [(0, .ref a0), (1, .int x1)]) : W p l e (rmD (d + 3)) s m args below meth c H locs 0 0 (MQ below (QcM E L (some (.int r)) M') args s 0 0 E.2.2.2) (F0 m 139 ls []) := by
  have hx := B.1
  have hb := B.2.1
  unfold fX11_tidy_j139 at h
  refine lv_iconst (v := 0) hx hb dX11_tidy_139 (by decide) ?_
  refine lv_istore_n (lv' := [(3, .int 0), (0, .ref a0), (1, .int x1)]) hx hb dX11_tidy_140 rfl hl (by decide) rfl (fun ls hl => ?_)
  exact wX11_tidy_l141 B hr hlk h0 h hR (lv_sub hl [1, 2, 0] rfl)
def fX11_tidy_j128 (fu : Nat) (k61 : Int32 → Int32 → Mm → Option (Int32 × Mm)) (a0 : Nat) (x1 : Int32) (x2 : Int32) (x3 : Int32) (M : Mm) : Option (Int32 × Mm) :=
  bi (fX11_runEnd fu a0 x3 M) fun r_130 =>
  lt ((r_130 + 1)) fun x3_135 =>
  k61 x2 x3_135 M
set_option maxRecDepth 100000 in
set_option maxHeartbeats 4000000 in
theorem wX11_tidy_j128 {r : Int32} {M' : Mm}  {k61 : Int32 → Int32 → Mm → Option (Int32 × Mm)} {a0 : Nat} {x1 : Int32} {x2 : Int32} {x3 : Int32} {M : Mm} (B : Bx p s m args c cX11_tidy 4 RX11 E L) (hr : meth.sig.returnType = (some .int)) (hlk : meth.locks = false) (ih61 : ∀ (x2 : Int32) (x3 : Int32) (M : Mm), k61 x2 x3 M = some (r, M') → ∀ (H : Heap) (locs : List Loc) (ls : Array Slot), Rx s E L M H locs → lv_has ls 4 [(0, .ref a0), (1, .int x1), (2, .int x2), (3, .int x3)] → W p l e (rmD (d + 3)) s m args below meth c H locs 0 0 (MQ below (QcM E L (some (.int r)) M') args s 0 0 E.2.2.2) (F0 m 61 ls [])) (h0 : At L a0 T11) (h : fX11_tidy_j128 fu k61 a0 x1 x2 x3 M = some (r, M')) (hR : Rx s E L M H locs) (hl : lv_has ls 4 [(0, .ref a0), (1, .int x1), (2, .int x2), (3, .int x3)]) : W p l e (rmD (d + 3)) s m args below meth c H locs 0 0 (MQ below (QcM E L (some (.int r)) M') args s 0 0 E.2.2.2) (F0 m 128 ls []) := by
  have hx := B.1
  have hb := B.2.1
  unfold fX11_tidy_j128 at h
  refine lv_aload_n hx hb dX11_tidy_128 rfl (lv_at hl 0 rfl) ?_
  refine lv_iload_n hx hb dX11_tidy_129 rfl (lv_at hl 3 rfl) ?_
  obtain ⟨r_130, hc_130, h⟩ := bi_el h
  refine iv_X11_300 B hR (h0.at0 rfl) hl.1 (mX11_runEnd fu _ h0 hc_130) (Nat.le_of_ble_eq_true rfl) dX11_tidy_130 (fun H locs hR => ?_)
  refine lv_iconst (v := 1) hx hb dX11_tidy_133 (by decide) ?_
  refine lv_iadd hx hb dX11_tidy_134 ?_
  obtain ⟨x3_135, ex3_135, h⟩ := lt_el h
  refine r_nmI ex3_135 ?_
  refine lv_istore_n (lv' := [(3, .int x3_135), (0, .ref a0), (1, .int x1), (2, .int x2)]) hx hb dX11_tidy_135 rfl hl (by decide) rfl (fun ls hl => ?_)
  refine lv_goto (tgt := 61) hx hb dX11_tidy_136 (by decide) ?_
  exact ih61 x2 x3_135 M h _ _ _ hR (lv_sub hl [1, 2, 3, 0] rfl)
def fX11_tidy_b61 (fu : Nat) (k61 : Int32 → Int32 → Mm → Option (Int32 × Mm)) (a0 : Nat) (x1 : Int32) (x2 : Int32) (x3 : Int32) (M : Mm) : Option (Int32 × Mm) :=
  bi (fX11_addresses fu a0 M) fun r_63 =>
  if r_63 ≤ x3 then
    fX11_tidy_j139 fu a0 x1 M
  else
    bi (fX11_wantedAt fu a0 x3 M) fun r_71 =>
    if r_71 = (M.1 (a0 + 1) (ix 0)) then
      fX11_tidy_j128 fu k61 a0 x1 x2 x3 M
    else
      if (3 * x2) < 0 ∨ 36 ≤ ix (3 * x2) then none else
      lt (wI M (a0 + 23) (ix (3 * x2)) x3) fun M_94 =>
      bi (fX11_runEnd fu a0 x3 M_94) fun r_106 =>
      if ((3 * x2) + 1) < 0 ∨ 36 ≤ ix ((3 * x2) + 1) then none else
      lt (wI M_94 (a0 + 23) (ix ((3 * x2) + 1)) r_106) fun M_109 =>
      bi (fX11_wantedAt fu a0 x3 M_109) fun r_121 =>
      if ((3 * x2) + 2) < 0 ∨ 36 ≤ ix ((3 * x2) + 2) then none else
      lt (wI M_109 (a0 + 23) (ix ((3 * x2) + 2)) r_121) fun M_124 =>
      lt (x2 + 1) fun x2_125 =>
      fX11_tidy_j128 fu k61 a0 x1 x2_125 x3 M_124
set_option maxRecDepth 100000 in
set_option maxHeartbeats 4000000 in
theorem wX11_tidy_b61 {r : Int32} {M' : Mm}   {k61 : Int32 → Int32 → Mm → Option (Int32 × Mm)} {a0 : Nat} {x1 : Int32} {x2 : Int32} {x3 : Int32} {M : Mm} (B : Bx p s m args c cX11_tidy 4 RX11 E L) (hr : meth.sig.returnType = (some .int)) (hlk : meth.locks = false)  (ih61 : ∀ (x2 : Int32) (x3 : Int32) (M : Mm), k61 x2 x3 M = some (r, M') → ∀ (H : Heap) (locs : List Loc) (ls : Array Slot), Rx s E L M H locs → lv_has ls 4 [(0, .ref a0), (1, .int x1), (2, .int x2), (3, .int x3)] → W p l e (rmD (d + 3)) s m args below meth c H locs 0 0 (MQ below (QcM E L (some (.int r)) M') args s 0 0 E.2.2.2) (F0 m 61 ls [])) (h0 : At L a0 T11) (h : fX11_tidy_b61 fu k61 a0 x1 x2 x3 M = some (r, M')) (hR : Rx s E L M H locs) (hl : lv_has ls 4 [(0, .ref a0), (1, .int x1), (2, .int x2), (3, .int x3)]) : W p l e (rmD (d + 3)) s m args below meth c H locs 0 0 (MQ below (QcM E L (some (.int r)) M') args s 0 0 E.2.2.2) (F0 m 61 ls []) := by
  have hx := B.1
  have hb := B.2.1
  unfold fX11_tidy_b61 at h
  refine lv_iload_n hx hb dX11_tidy_61 rfl (lv_at hl 3 rfl) ?_
  refine lv_aload_n hx hb dX11_tidy_62 rfl (lv_at hl 0 rfl) ?_
  obtain ⟨r_63, hc_63, h⟩ := bi_el h
  refine iv_X11_240 B hR (h0.at0 rfl) hl.1 (mX11_addresses fu _ h0 hc_63) (Nat.le_of_ble_eq_true rfl) dX11_tidy_63 (fun H locs hR => ?_)
  refine lv_icmp_ge (tgt := 139) hx hb dX11_tidy_66 (by decide) (fun c_66 => ?_) (fun c_66 => ?_)
  · rw [if_pos c_66] at h
    exact wX11_tidy_j139 B hr hlk h0 h hR (lv_sub hl [0, 1] rfl)
  · rw [if_neg c_66] at h
    refine lv_aload_n hx hb dX11_tidy_69 rfl (lv_at hl 0 rfl) ?_
    refine lv_iload_n hx hb dX11_tidy_70 rfl (lv_at hl 3 rfl) ?_
    obtain ⟨r_71, hc_71, h⟩ := bi_el h
    refine iv_X11_285 B hR (h0.at0 rfl) hl.1 (mX11_wantedAt fu _ h0 hc_71) (Nat.le_of_ble_eq_true rfl) dX11_tidy_71 (fun H locs hR => ?_)
    refine lv_aload_n hx hb dX11_tidy_74 rfl (lv_at hl 0 rfl) ?_
    refine gf_X11_7 B hR (h0.at0 rfl) dX11_tidy_75 ?_
    refine lv_iconst (v := 0) hx hb dX11_tidy_78 (by decide) ?_
    refine r_iald B hR (h0.at 1 rfl) (by decide +kernel) dX11_tidy_79 ?_
    refine lv_icmp_ne (tgt := 86) hx hb dX11_tidy_80 (by decide) (fun c_80 => ?_) (fun c_80 => ?_)
    · rw [if_neg c_80] at h
      refine lv_aload_n hx hb dX11_tidy_86 rfl (lv_at hl 0 rfl) ?_
      refine gf_X11_83 B hR (h0.at0 rfl) dX11_tidy_87 ?_
      refine lv_iconst (v := 3) hx hb dX11_tidy_90 (by decide) ?_
      refine lv_iload_n hx hb dX11_tidy_91 rfl (lv_at hl 2 rfl) ?_
      refine lv_imul hx hb dX11_tidy_92 ?_
      refine lv_iload_n hx hb dX11_tidy_93 rfl (lv_at hl 3 rfl) ?_
      obtain ⟨hi_94, h⟩ := ifn_el h
      obtain ⟨M_94, eM_94, h⟩ := lt_el h
      refine r_iast B hR (h0.at 23 rfl) hi_94 dX11_tidy_94 (fun H locs hR => ?_)
      rw [← eM_94] at hR
      refine lv_aload_n hx hb dX11_tidy_95 rfl (lv_at hl 0 rfl) ?_
      refine gf_X11_83 B hR (h0.at0 rfl) dX11_tidy_96 ?_
      refine lv_iconst (v := 3) hx hb dX11_tidy_99 (by decide) ?_
      refine lv_iload_n hx hb dX11_tidy_100 rfl (lv_at hl 2 rfl) ?_
      refine lv_imul hx hb dX11_tidy_101 ?_
      refine lv_iconst (v := 1) hx hb dX11_tidy_102 (by decide) ?_
      refine lv_iadd hx hb dX11_tidy_103 ?_
      refine lv_aload_n hx hb dX11_tidy_104 rfl (lv_at hl 0 rfl) ?_
      refine lv_iload_n hx hb dX11_tidy_105 rfl (lv_at hl 3 rfl) ?_
      obtain ⟨r_106, hc_106, h⟩ := bi_el h
      refine iv_X11_300 B hR (h0.at0 rfl) hl.1 (mX11_runEnd fu _ h0 hc_106) (Nat.le_of_ble_eq_true rfl) dX11_tidy_106 (fun H locs hR => ?_)
      obtain ⟨hi_109, h⟩ := ifn_el h
      obtain ⟨M_109, eM_109, h⟩ := lt_el h
      refine r_iast B hR (h0.at 23 rfl) hi_109 dX11_tidy_109 (fun H locs hR => ?_)
      rw [← eM_109] at hR
      refine lv_aload_n hx hb dX11_tidy_110 rfl (lv_at hl 0 rfl) ?_
      refine gf_X11_83 B hR (h0.at0 rfl) dX11_tidy_111 ?_
      refine lv_iconst (v := 3) hx hb dX11_tidy_114 (by decide) ?_
      refine lv_iload_n hx hb dX11_tidy_115 rfl (lv_at hl 2 rfl) ?_
      refine lv_imul hx hb dX11_tidy_116 ?_
      refine lv_iconst (v := 2) hx hb dX11_tidy_117 (by decide) ?_
      refine lv_iadd hx hb dX11_tidy_118 ?_
      refine lv_aload_n hx hb dX11_tidy_119 rfl (lv_at hl 0 rfl) ?_
      refine lv_iload_n hx hb dX11_tidy_120 rfl (lv_at hl 3 rfl) ?_
      obtain ⟨r_121, hc_121, h⟩ := bi_el h
      refine iv_X11_285 B hR (h0.at0 rfl) hl.1 (mX11_wantedAt fu _ h0 hc_121) (Nat.le_of_ble_eq_true rfl) dX11_tidy_121 (fun H locs hR => ?_)
      obtain ⟨hi_124, h⟩ := ifn_el h
      obtain ⟨M_124, eM_124, h⟩ := lt_el h
      refine r_iast B hR (h0.at 23 rfl) hi_124 dX11_tidy_124 (fun H locs hR => ?_)
      rw [← eM_124] at hR
      obtain ⟨x2_125, ex2_125, h⟩ := lt_el h
      refine lv_iinc (v := x2_125) (lv' := [(2, .int x2_125), (0, .ref a0), (1, .int x1), (3, .int x3)]) hx hb dX11_tidy_125 hl (k := 2) rfl (by rw [ex2_125]; rfl) (by decide) rfl (fun ls hl => ?_)
      exact wX11_tidy_j128 B hr hlk ih61 h0 h hR (lv_sub hl [1, 2, 0, 3] rfl)
    · rw [if_pos c_80] at h
      refine lv_goto (tgt := 128) hx hb dX11_tidy_83 (by decide) ?_
      exact wX11_tidy_j128 B hr hlk ih61 h0 h hR hl
def fX11_tidy_l61 (fu : Nat) (a0 : Nat) (x1 : Int32) (x2 : Int32) (x3 : Int32) (M : Mm) : Option (Int32 × Mm) := lp (fun (rec : (Int32 × Int32 × Mm) → Option (Int32 × Mm)) (s : Int32 × Int32 × Mm) => fX11_tidy_b61 fu  (fun x2 x3 M => rec (x2, x3, M)) a0 x1 s.1 s.2.1 s.2.2) fu (x2, x3, M)
set_option maxRecDepth 100000 in
set_option maxHeartbeats 4000000 in
theorem wX11_tidy_l61 {r : Int32} {M' : Mm}   {a0 : Nat} {x1 : Int32} {x2 : Int32} {x3 : Int32} {M : Mm} (B : Bx p s m args c cX11_tidy 4 RX11 E L) (hr : meth.sig.returnType = (some .int)) (hlk : meth.locks = false)  (h0 : At L a0 T11) (h : fX11_tidy_l61 fu a0 x1 x2 x3 M = some (r, M')) (hR : Rx s E L M H locs) (hl : lv_has ls 4 [(0, .ref a0), (1, .int x1), (2, .int x2), (3, .int x3)]) : W p l e (rmD (d + 3)) s m args below meth c H locs 0 0 (MQ below (QcM E L (some (.int r)) M') args s 0 0 E.2.2.2) (F0 m 61 ls []) := by
  refine lp_G (G := fun z : Int32 × Int32 × Mm => ∀ (H : Heap) (locs : List Loc) (ls : Array Slot), Rx s E L z.2.2 H locs → lv_has ls 4 [(0, .ref a0), (1, .int x1), (2, .int z.1), (3, .int z.2.1)] → W p l e (rmD (d + 3)) s m args below meth c H locs 0 0 (MQ below (QcM E L (some (.int r)) M') args s 0 0 E.2.2.2) (F0 m 61 ls [])) (fun rec ih z h H locs ls hR hl => ?_) fu _ h H locs ls hR hl
  exact wX11_tidy_b61 B hr hlk  (fun x2 x3 M h => ih (x2, x3, M) h) h0 h hR hl
def fX11_tidy_j45 (fu : Nat) (a0 : Nat) (x1 : Int32) (M : Mm) : Option (Int32 × Mm) :=
  if x1 ≤ 12 then
    bm (fX11_keepAct fu a0 M) fun M_54 =>
    fX11_tidy_l61 fu a0 x1 0 0 M_54
  else
    some ((-1), M)
set_option maxRecDepth 100000 in
set_option maxHeartbeats 4000000 in
theorem wX11_tidy_j45 {r : Int32} {M' : Mm}   {a0 : Nat} {x1 : Int32} {M : Mm} (B : Bx p s m args c cX11_tidy 4 RX11 E L) (hr : meth.sig.returnType = (some .int)) (hlk : meth.locks = false)  (h0 : At L a0 T11) (h : fX11_tidy_j45 fu a0 x1 M = some (r, M')) (hR : Rx s E L M H locs) (hl : lv_has ls 4 [(0, .ref a0), (1, .int x1)]) : W p l e (rmD (d + 3)) s m args below meth c H locs 0 0 (MQ below (QcM E L (some (.int r)) M') args s 0 0 E.2.2.2) (F0 m 45 ls []) := by
  have hx := B.1
  have hb := B.2.1
  unfold fX11_tidy_j45 at h
  refine lv_iload_n hx hb dX11_tidy_45 rfl (lv_at hl 1 rfl) ?_
  refine lv_bipush (v := 12) hx hb dX11_tidy_46 (by decide) ?_
  refine lv_icmp_le (tgt := 53) hx hb dX11_tidy_48 (by decide) (fun c_48 => ?_) (fun c_48 => ?_)
  · rw [if_pos c_48] at h
    refine lv_aload_n hx hb dX11_tidy_53 rfl (lv_at hl 0 rfl) ?_
    obtain ⟨M_54, hc_54, h⟩ := bm_el h
    refine iv_X11_474 B hR (h0.at0 rfl) hl.1 (mX11_keepAct fu _ h0 hc_54) (Nat.le_of_ble_eq_true rfl) dX11_tidy_54 (fun H locs hR => ?_)
    refine lv_iconst (v := 0) hx hb dX11_tidy_57 (by decide) ?_
    refine lv_istore_n (lv' := [(2, .int 0), (0, .ref a0), (1, .int x1)]) hx hb dX11_tidy_58 rfl hl (by decide) rfl (fun ls hl => ?_)
    refine lv_iconst (v := 0) hx hb dX11_tidy_59 (by decide) ?_
    refine lv_istore_n (lv' := [(3, .int 0), (2, .int 0), (0, .ref a0), (1, .int x1)]) hx hb dX11_tidy_60 rfl hl (by decide) rfl (fun ls hl => ?_)
    exact wX11_tidy_l61 B hr hlk h0 h hR (lv_sub hl [2, 3, 1, 0] rfl)
  · rw [if_neg c_48] at h
    refine lv_iconst (v := (-1)) hx hb dX11_tidy_51 (by decide) ?_
    exact r_iretW B hR hr hlk h dX11_tidy_52
def fX11_tidy_j32 (fu : Nat) (k4 : Int32 → Int32 → Option (Int32 × Mm)) (a0 : Nat) (x2 : Int32) (t0 : Int32) (t1 : Int32) (M : Mm) : Option (Int32 × Mm) :=
  lt ((t0 + t1)) fun x1_33 =>
  bi (fX11_runEnd fu a0 x2 M) fun r_36 =>
  lt ((r_36 + 1)) fun x2_41 =>
  k4 x1_33 x2_41
set_option maxRecDepth 100000 in
set_option maxHeartbeats 4000000 in
theorem wX11_tidy_j32 {r : Int32} {M' : Mm}  {k4 : Int32 → Int32 → Option (Int32 × Mm)} {a0 : Nat} {x2 : Int32} {t0 : Int32} {t1 : Int32} {M : Mm} (B : Bx p s m args c cX11_tidy 4 RX11 E L) (hr : meth.sig.returnType = (some .int)) (hlk : meth.locks = false) (ih4 : ∀ (x1 : Int32) (x2 : Int32), k4 x1 x2 = some (r, M') → ∀ (H : Heap) (locs : List Loc) (ls : Array Slot), Rx s E L M H locs → lv_has ls 4 [(0, .ref a0), (1, .int x1), (2, .int x2)] → W p l e (rmD (d + 3)) s m args below meth c H locs 0 0 (MQ below (QcM E L (some (.int r)) M') args s 0 0 E.2.2.2) (F0 m 4 ls [])) (h0 : At L a0 T11) (h : fX11_tidy_j32 fu k4 a0 x2 t0 t1 M = some (r, M')) (hR : Rx s E L M H locs) (hl : lv_has ls 4 [(0, .ref a0), (2, .int x2)]) : W p l e (rmD (d + 3)) s m args below meth c H locs 0 0 (MQ below (QcM E L (some (.int r)) M') args s 0 0 E.2.2.2) (F0 m 32 ls [.int t1, .int t0]) := by
  have hx := B.1
  have hb := B.2.1
  unfold fX11_tidy_j32 at h
  refine lv_iadd hx hb dX11_tidy_32 ?_
  obtain ⟨x1_33, ex1_33, h⟩ := lt_el h
  refine r_nmI ex1_33 ?_
  refine lv_istore_n (lv' := [(1, .int x1_33), (0, .ref a0), (2, .int x2)]) hx hb dX11_tidy_33 rfl hl (by decide) rfl (fun ls hl => ?_)
  refine lv_aload_n hx hb dX11_tidy_34 rfl (lv_at hl 1 rfl) ?_
  refine lv_iload_n hx hb dX11_tidy_35 rfl (lv_at hl 2 rfl) ?_
  obtain ⟨r_36, hc_36, h⟩ := bi_el h
  refine iv_X11_300 B hR (h0.at0 rfl) hl.1 (mX11_runEnd fu _ h0 hc_36) (Nat.le_of_ble_eq_true rfl) dX11_tidy_36 (fun H locs hR => ?_)
  refine lv_iconst (v := 1) hx hb dX11_tidy_39 (by decide) ?_
  refine lv_iadd hx hb dX11_tidy_40 ?_
  obtain ⟨x2_41, ex2_41, h⟩ := lt_el h
  refine r_nmI ex2_41 ?_
  refine lv_istore_n (lv' := [(2, .int x2_41), (1, .int x1_33), (0, .ref a0)]) hx hb dX11_tidy_41 rfl hl (by decide) rfl (fun ls hl => ?_)
  refine lv_goto (tgt := 4) hx hb dX11_tidy_42 (by decide) ?_
  exact ih4 x1_33 x2_41 h _ _ _ hR (lv_sub hl [2, 1, 0] rfl)
def fX11_tidy_b4 (fu : Nat) (k4 : Int32 → Int32 → Option (Int32 × Mm)) (a0 : Nat) (x1 : Int32) (x2 : Int32) (M : Mm) : Option (Int32 × Mm) :=
  bi (fX11_addresses fu a0 M) fun r_6 =>
  if r_6 ≤ x2 then
    fX11_tidy_j45 fu a0 x1 M
  else
    bi (fX11_wantedAt fu a0 x2 M) fun r_15 =>
    if r_15 = (M.1 (a0 + 1) (ix 0)) then
      fX11_tidy_j32 fu k4 a0 x2 x1 0 M
    else
      fX11_tidy_j32 fu k4 a0 x2 x1 1 M
set_option maxRecDepth 100000 in
set_option maxHeartbeats 4000000 in
theorem wX11_tidy_b4 {r : Int32} {M' : Mm}   {k4 : Int32 → Int32 → Option (Int32 × Mm)} {a0 : Nat} {x1 : Int32} {x2 : Int32} {M : Mm} (B : Bx p s m args c cX11_tidy 4 RX11 E L) (hr : meth.sig.returnType = (some .int)) (hlk : meth.locks = false)  (ih4 : ∀ (x1 : Int32) (x2 : Int32), k4 x1 x2 = some (r, M') → ∀ (H : Heap) (locs : List Loc) (ls : Array Slot), Rx s E L M H locs → lv_has ls 4 [(0, .ref a0), (1, .int x1), (2, .int x2)] → W p l e (rmD (d + 3)) s m args below meth c H locs 0 0 (MQ below (QcM E L (some (.int r)) M') args s 0 0 E.2.2.2) (F0 m 4 ls [])) (h0 : At L a0 T11) (h : fX11_tidy_b4 fu k4 a0 x1 x2 M = some (r, M')) (hR : Rx s E L M H locs) (hl : lv_has ls 4 [(0, .ref a0), (1, .int x1), (2, .int x2)]) : W p l e (rmD (d + 3)) s m args below meth c H locs 0 0 (MQ below (QcM E L (some (.int r)) M') args s 0 0 E.2.2.2) (F0 m 4 ls []) := by
  have hx := B.1
  have hb := B.2.1
  unfold fX11_tidy_b4 at h
  refine lv_iload_n hx hb dX11_tidy_4 rfl (lv_at hl 2 rfl) ?_
  refine lv_aload_n hx hb dX11_tidy_5 rfl (lv_at hl 0 rfl) ?_
  obtain ⟨r_6, hc_6, h⟩ := bi_el h
  refine iv_X11_240 B hR (h0.at0 rfl) hl.1 (mX11_addresses fu _ h0 hc_6) (Nat.le_of_ble_eq_true rfl) dX11_tidy_6 (fun H locs hR => ?_)
  refine lv_icmp_ge (tgt := 45) hx hb dX11_tidy_9 (by decide) (fun c_9 => ?_) (fun c_9 => ?_)
  · rw [if_pos c_9] at h
    exact wX11_tidy_j45 B hr hlk h0 h hR (lv_sub hl [0, 1] rfl)
  · rw [if_neg c_9] at h
    refine lv_iload_n hx hb dX11_tidy_12 rfl (lv_at hl 1 rfl) ?_
    refine lv_aload_n hx hb dX11_tidy_13 rfl (lv_at hl 0 rfl) ?_
    refine lv_iload_n hx hb dX11_tidy_14 rfl (lv_at hl 2 rfl) ?_
    obtain ⟨r_15, hc_15, h⟩ := bi_el h
    refine iv_X11_285 B hR (h0.at0 rfl) hl.1 (mX11_wantedAt fu _ h0 hc_15) (Nat.le_of_ble_eq_true rfl) dX11_tidy_15 (fun H locs hR => ?_)
    refine lv_aload_n hx hb dX11_tidy_18 rfl (lv_at hl 0 rfl) ?_
    refine gf_X11_7 B hR (h0.at0 rfl) dX11_tidy_19 ?_
    refine lv_iconst (v := 0) hx hb dX11_tidy_22 (by decide) ?_
    refine r_iald B hR (h0.at 1 rfl) (by decide +kernel) dX11_tidy_23 ?_
    refine lv_icmp_ne (tgt := 31) hx hb dX11_tidy_24 (by decide) (fun c_24 => ?_) (fun c_24 => ?_)
    · rw [if_neg c_24] at h
      refine lv_iconst (v := 1) hx hb dX11_tidy_31 (by decide) ?_
      exact wX11_tidy_j32 B hr hlk ih4 h0 h hR (lv_sub hl [0, 2] rfl)
    · rw [if_pos c_24] at h
      refine lv_iconst (v := 0) hx hb dX11_tidy_27 (by decide) ?_
      refine lv_goto (tgt := 32) hx hb dX11_tidy_28 (by decide) ?_
      exact wX11_tidy_j32 B hr hlk ih4 h0 h hR (lv_sub hl [0, 2] rfl)
def fX11_tidy_l4 (fu : Nat) (a0 : Nat) (M : Mm) (x1 : Int32) (x2 : Int32) : Option (Int32 × Mm) := lp (fun (rec : (Int32 × Int32) → Option (Int32 × Mm)) (s : Int32 × Int32) => fX11_tidy_b4 fu  (fun x1 x2 => rec (x1, x2)) a0 s.1 s.2 M) fu (x1, x2)
set_option maxRecDepth 100000 in
set_option maxHeartbeats 4000000 in
theorem wX11_tidy_l4 {r : Int32} {M' : Mm}   {a0 : Nat} {x1 : Int32} {x2 : Int32} {M : Mm} (B : Bx p s m args c cX11_tidy 4 RX11 E L) (hr : meth.sig.returnType = (some .int)) (hlk : meth.locks = false)  (h0 : At L a0 T11) (h : fX11_tidy_l4 fu a0 M x1 x2 = some (r, M')) (hR : Rx s E L M H locs) (hl : lv_has ls 4 [(0, .ref a0), (1, .int x1), (2, .int x2)]) : W p l e (rmD (d + 3)) s m args below meth c H locs 0 0 (MQ below (QcM E L (some (.int r)) M') args s 0 0 E.2.2.2) (F0 m 4 ls []) := by
  refine lp_G (G := fun z : Int32 × Int32 => ∀ (H : Heap) (locs : List Loc) (ls : Array Slot), Rx s E L M H locs → lv_has ls 4 [(0, .ref a0), (1, .int z.1), (2, .int z.2)] → W p l e (rmD (d + 3)) s m args below meth c H locs 0 0 (MQ below (QcM E L (some (.int r)) M') args s 0 0 E.2.2.2) (F0 m 4 ls [])) (fun rec ih z h H locs ls hR hl => ?_) fu _ h H locs ls hR hl
  exact wX11_tidy_b4 B hr hlk  (fun x1 x2 h => ih (x1, x2) h) h0 h hR hl
def fX11_tidy (fu : Nat) (a0 : Nat) (M : Mm) : Option (Int32 × Mm) :=
  fX11_tidy_l4 fu a0 M 0 0
set_option maxRecDepth 100000 in
set_option maxHeartbeats 4000000 in
theorem mX11_tidy {l : Launch} {E : Ge} {L : Lay} (fu d : Nat) {a0 : Nat} {M : Mm} {r : Int32} {M' : Mm}  (h0 : At L a0 T11) (h : fX11_tidy fu a0 M = some (r, M')) : Ct l E L yX11_tidy cX11_tidy 4 (some .int) (d + 3) [.ref a0] M (some (.int r)) M' := by
  refine Ct.of (by decide) ?_
  intro p e s m below meth c hr hlk B hR
  have B : Bx p s m _ c cX11_tidy 4 RX11 E L := B
  have hx := B.1
  have hb := B.2.1
  have hl := lv_entry ([.ref a0]) (n := 4) (Nat.le_of_ble_eq_true rfl)
  rw [lg_entry_eq]
  generalize (lg_sl ([.ref a0]) ++ List.replicate (4 - (lg_sl ([.ref a0])).length) Slot.unset).toArray = ls at hl ⊢
  have hl : lv_has ls 4 [(0, .ref a0)] := hl
  unfold fX11_tidy at h
  refine lv_iconst (v := 0) hx hb dX11_tidy_0 (by decide) ?_
  refine lv_istore_n (lv' := [(1, .int 0), (0, .ref a0)]) hx hb dX11_tidy_1 rfl hl (by decide) rfl (fun ls hl => ?_)
  refine lv_iconst (v := 0) hx hb dX11_tidy_2 (by decide) ?_
  refine lv_istore_n (lv' := [(2, .int 0), (1, .int 0), (0, .ref a0)]) hx hb dX11_tidy_3 rfl hl (by decide) rfl (fun ls hl => ?_)
  exact wX11_tidy_l4 B hr hlk h0 h hR (lv_sub hl [2, 1, 0] rfl)
def fX11_differs_j27 (fu : Nat) (M : Mm) : Option (Int32 × Mm) :=
  some ((-1), M)
set_option maxRecDepth 100000 in
set_option maxHeartbeats 4000000 in
theorem wX11_differs_j27 {r : Int32} {M' : Mm}    {M : Mm} (B : Bx p s m args c cX11_differs 7 RX11 E L) (hr : meth.sig.returnType = (some .int)) (hlk : meth.locks = false)   (h : fX11_differs_j27 fu M = some (r, M')) (hR : Rx s E L M H locs) (hl : lv_has ls 7 []) : W p l e (rmD (d + 5)) s m args below meth c H locs 0 0 (MQ below (QcM E L (some (.int r)) M') args s 0 0 E.2.2.2) (F0 m 27 ls []) := by
  have hx := B.1
  have hb := B.2.1
  unfold fX11_differs_j27 at h
  refine lv_iconst (v := (-1)) hx hb dX11_differs_27 (by decide) ?_
  exact r_iretW B hR hr hlk h dX11_differs_28
def fX11_differs_j272 (fu : Nat) (t0 : Int32) (M : Mm) : Option (Int32 × Mm) :=
  some (t0, M)
set_option maxRecDepth 100000 in
set_option maxHeartbeats 4000000 in
theorem wX11_differs_j272 {r : Int32} {M' : Mm}   {t0 : Int32} {M : Mm} (B : Bx p s m args c cX11_differs 7 RX11 E L) (hr : meth.sig.returnType = (some .int)) (hlk : meth.locks = false)   (h : fX11_differs_j272 fu t0 M = some (r, M')) (hR : Rx s E L M H locs) (hl : lv_has ls 7 []) : W p l e (rmD (d + 5)) s m args below meth c H locs 0 0 (MQ below (QcM E L (some (.int r)) M') args s 0 0 E.2.2.2) (F0 m 272 ls [.int t0]) := by
  have hx := B.1
  have hb := B.2.1
  unfold fX11_differs_j272 at h
  exact r_iretW B hR hr hlk h dX11_differs_272
def fX11_differs_j252 (fu : Nat) (x2 : Int32) (x3 : Int32) (x4 : Int32) (x5 : Int32) (M : Mm) : Option (Int32 × Mm) :=
  if x2 = 0 then
    fX11_differs_j272 fu x3 M
  else
    if x2 = 1 then
      fX11_differs_j272 fu x4 M
    else
      fX11_differs_j272 fu x5 M
set_option maxRecDepth 100000 in
set_option maxHeartbeats 4000000 in
theorem wX11_differs_j252 {r : Int32} {M' : Mm}   {x2 : Int32} {x3 : Int32} {x4 : Int32} {x5 : Int32} {M : Mm} (B : Bx p s m args c cX11_differs 7 RX11 E L) (hr : meth.sig.returnType = (some .int)) (hlk : meth.locks = false)   (h : fX11_differs_j252 fu x2 x3 x4 x5 M = some (r, M')) (hR : Rx s E L M H locs) (hl : lv_has ls 7 [(2, .int x2), (3, .int x3), (4, .int x4), (5, .int x5)]) : W p l e (rmD (d + 5)) s m args below meth c H locs 0 0 (MQ below (QcM E L (some (.int r)) M') args s 0 0 E.2.2.2) (F0 m 252 ls []) := by
  have hx := B.1
  have hb := B.2.1
  unfold fX11_differs_j252 at h
  refine lv_iload_n hx hb dX11_differs_252 rfl (lv_at hl 0 rfl) ?_
  refine lv_if_ne (tgt := 260) hx hb dX11_differs_253 (by decide) (fun c_253 => ?_) (fun c_253 => ?_)
  · rw [if_neg c_253] at h
    refine lv_iload_n hx hb dX11_differs_260 rfl (lv_at hl 0 rfl) ?_
    refine lv_iconst (v := 1) hx hb dX11_differs_261 (by decide) ?_
    refine lv_icmp_ne (tgt := 270) hx hb dX11_differs_262 (by decide) (fun c_262 => ?_) (fun c_262 => ?_)
    · rw [if_neg c_262] at h
      refine lv_iload hx hb dX11_differs_270 (lv_at hl 3 rfl) ?_
      exact wX11_differs_j272 B hr hlk  h hR (lv_sub hl [] rfl)
    · rw [if_pos c_262] at h
      refine lv_iload hx hb dX11_differs_265 (lv_at hl 2 rfl) ?_
      refine lv_goto (tgt := 272) hx hb dX11_differs_267 (by decide) ?_
      exact wX11_differs_j272 B hr hlk  h hR (lv_sub hl [] rfl)
  · rw [if_pos c_253] at h
    refine lv_iload_n hx hb dX11_differs_256 rfl (lv_at hl 1 rfl) ?_
    refine lv_goto (tgt := 272) hx hb dX11_differs_257 (by decide) ?_
    exact wX11_differs_j272 B hr hlk  h hR (lv_sub hl [] rfl)
def fX11_differs_b224 (fu : Nat) (k224 : Int32 → Mm → Option (Int32 × Mm)) (a0 : Nat) (x2 : Int32) (x3 : Int32) (x4 : Int32) (x5 : Int32) (x6 : Int32) (M : Mm) : Option (Int32 × Mm) :=
  if 140 ≤ x6 then
    fX11_differs_j252 fu x2 x3 x4 x5 M
  else
    if x6 < 0 ∨ 140 ≤ ix x6 then none else
    lt (wI M (a0 + 1) (ix x6) (M.1 (a0 + 26) (ix x6))) fun M_245 =>
    lt (x6 + 1) fun x6_246 =>
    k224 x6_246 M_245
set_option maxRecDepth 100000 in
set_option maxHeartbeats 4000000 in
theorem wX11_differs_b224 {r : Int32} {M' : Mm}   {k224 : Int32 → Mm → Option (Int32 × Mm)} {a0 : Nat} {x2 : Int32} {x3 : Int32} {x4 : Int32} {x5 : Int32} {x6 : Int32} {M : Mm} (B : Bx p s m args c cX11_differs 7 RX11 E L) (hr : meth.sig.returnType = (some .int)) (hlk : meth.locks = false)  (ih224 : ∀ (x6 : Int32) (M : Mm), k224 x6 M = some (r, M') → ∀ (H : Heap) (locs : List Loc) (ls : Array Slot), Rx s E L M H locs → lv_has ls 7 [(0, .ref a0), (2, .int x2), (3, .int x3), (4, .int x4), (5, .int x5), (6, .int x6)] → W p l e (rmD (d + 5)) s m args below meth c H locs 0 0 (MQ below (QcM E L (some (.int r)) M') args s 0 0 E.2.2.2) (F0 m 224 ls [])) (h0 : At L a0 T11) (h : fX11_differs_b224 fu k224 a0 x2 x3 x4 x5 x6 M = some (r, M')) (hR : Rx s E L M H locs) (hl : lv_has ls 7 [(0, .ref a0), (2, .int x2), (3, .int x3), (4, .int x4), (5, .int x5), (6, .int x6)]) : W p l e (rmD (d + 5)) s m args below meth c H locs 0 0 (MQ below (QcM E L (some (.int r)) M') args s 0 0 E.2.2.2) (F0 m 224 ls []) := by
  have hx := B.1
  have hb := B.2.1
  unfold fX11_differs_b224 at h
  refine lv_iload hx hb dX11_differs_224 (lv_at hl 5 rfl) ?_
  refine lv_sipush (v := 140) hx hb dX11_differs_226 (by decide) ?_
  refine lv_icmp_ge (tgt := 252) hx hb dX11_differs_229 (by decide) (fun c_229 => ?_) (fun c_229 => ?_)
  · rw [if_pos c_229] at h
    exact wX11_differs_j252 B hr hlk  h hR (lv_sub hl [1, 2, 3, 4] rfl)
  · rw [if_neg c_229] at h
    refine lv_aload_n hx hb dX11_differs_232 rfl (lv_at hl 0 rfl) ?_
    refine gf_X11_7 B hR (h0.at0 rfl) dX11_differs_233 ?_
    refine lv_iload hx hb dX11_differs_236 (lv_at hl 5 rfl) ?_
    refine lv_aload_n hx hb dX11_differs_238 rfl (lv_at hl 0 rfl) ?_
    refine gf_X11_92 B hR (h0.at0 rfl) dX11_differs_239 ?_
    refine lv_iload hx hb dX11_differs_242 (lv_at hl 5 rfl) ?_
    obtain ⟨hi_244, h⟩ := ifn_el h
    refine r_iald B hR (h0.at 26 rfl) hi_244 dX11_differs_244 ?_
    obtain ⟨M_245, eM_245, h⟩ := lt_el h
    refine r_iast B hR (h0.at 1 rfl) hi_244 dX11_differs_245 (fun H locs hR => ?_)
    rw [← eM_245] at hR
    obtain ⟨x6_246, ex6_246, h⟩ := lt_el h
    refine lv_iinc (v := x6_246) (lv' := [(6, .int x6_246), (0, .ref a0), (2, .int x2), (3, .int x3), (4, .int x4), (5, .int x5)]) hx hb dX11_differs_246 hl (k := 5) rfl (by rw [ex6_246]; rfl) (by decide) rfl (fun ls hl => ?_)
    refine lv_goto (tgt := 224) hx hb dX11_differs_249 (by decide) ?_
    exact ih224 x6_246 M_245 h _ _ _ hR (lv_sub hl [1, 2, 3, 4, 5, 0] rfl)
def fX11_differs_l224 (fu : Nat) (a0 : Nat) (x2 : Int32) (x3 : Int32) (x4 : Int32) (x5 : Int32) (x6 : Int32) (M : Mm) : Option (Int32 × Mm) := lp (fun (rec : (Int32 × Mm) → Option (Int32 × Mm)) (s : Int32 × Mm) => fX11_differs_b224 fu  (fun x6 M => rec (x6, M)) a0 x2 x3 x4 x5 s.1 s.2) fu (x6, M)
set_option maxRecDepth 100000 in
set_option maxHeartbeats 4000000 in
theorem wX11_differs_l224 {r : Int32} {M' : Mm}   {a0 : Nat} {x2 : Int32} {x3 : Int32} {x4 : Int32} {x5 : Int32} {x6 : Int32} {M : Mm} (B : Bx p s m args c cX11_differs 7 RX11 E L) (hr : meth.sig.returnType = (some .int)) (hlk : meth.locks = false)  (h0 : At L a0 T11) (h : fX11_differs_l224 fu a0 x2 x3 x4 x5 x6 M = some (r, M')) (hR : Rx s E L M H locs) (hl : lv_has ls 7 [(0, .ref a0), (2, .int x2), (3, .int x3), (4, .int x4), (5, .int x5), (6, .int x6)]) : W p l e (rmD (d + 5)) s m args below meth c H locs 0 0 (MQ below (QcM E L (some (.int r)) M') args s 0 0 E.2.2.2) (F0 m 224 ls []) := by
  refine lp_G (G := fun z : Int32 × Mm => ∀ (H : Heap) (locs : List Loc) (ls : Array Slot), Rx s E L z.2 H locs → lv_has ls 7 [(0, .ref a0), (2, .int x2), (3, .int x3), (4, .int x4), (5, .int x5), (6, .int z.1)] → W p l e (rmD (d + 5)) s m args below meth c H locs 0 0 (MQ below (QcM E L (some (.int r)) M') args s 0 0 E.2.2.2) (F0 m 224 ls [])) (fun rec ih z h H locs ls hR hl => ?_) fu _ h H locs ls hR hl
  exact wX11_differs_b224 B hr hlk  (fun x6 M h => ih (x6, M) h) h0 h hR hl
def fX11_differs_j221 (fu : Nat) (a0 : Nat) (x2 : Int32) (x3 : Int32) (x4 : Int32) (x5 : Int32) (M : Mm) : Option (Int32 × Mm) :=
  fX11_differs_l224 fu a0 x2 x3 x4 x5 0 M
set_option maxRecDepth 100000 in
set_option maxHeartbeats 4000000 in
theorem wX11_differs_j221 {r : Int32} {M' : Mm}   {a0 : Nat} {x2 : Int32} {x3 : Int32} {x4 : Int32} {x5 : Int32} {M : Mm} (B : Bx p s m args c cX11_differs 7 RX11 E L) (hr : meth.sig.returnType = (some .int)) (hlk : meth.locks = false)  (h0 : At L a0 T11) (h : fX11_differs_j221 fu a0 x2 x3 x4 x5 M = some (r, M')) (hR : Rx s E L M H locs) (hl : lv_has ls 7 [(0, .ref a0), (2, .int x2), (3, .int x3), (4, .int x4), (5, .int x5)]) : W p l e (rmD (d + 5)) s m args below meth c H locs 0 0 (MQ below (QcM E L (some (.int r)) M') args s 0 0 E.2.2.2) (F0 m 221 ls []) := by
  have hx := B.1
  have hb := B.2.1
  unfold fX11_differs_j221 at h
  refine lv_iconst (v := 0) hx hb dX11_differs_221 (by decide) ?_
  refine lv_istore (lv' := [(6, .int 0), (0, .ref a0), (2, .int x2), (3, .int x3), (4, .int x4), (5, .int x5)]) hx hb dX11_differs_222 hl (by decide) rfl (fun ls hl => ?_)
  exact wX11_differs_l224 B hr hlk h0 h hR (lv_sub hl [1, 2, 3, 4, 5, 0] rfl)
def fX11_differs_j212 (fu : Nat) (k124 : Int32 → Int32 → Int32 → Int32 → Option (Int32 × Mm)) (a0 : Nat) (x2 : Int32) (x3 : Int32) (x5 : Int32) (x6 : Int32) (t0 : Int32) (t1 : Int32) (M : Mm) : Option (Int32 × Mm) :=
  lt ((t0 + t1)) fun x4_213 =>
  lt (x6 + 1) fun x6_215 =>
  k124 x3 x4_213 x5 x6_215
set_option maxRecDepth 100000 in
set_option maxHeartbeats 4000000 in
theorem wX11_differs_j212 {r : Int32} {M' : Mm}  {k124 : Int32 → Int32 → Int32 → Int32 → Option (Int32 × Mm)} {a0 : Nat} {x2 : Int32} {x3 : Int32} {x5 : Int32} {x6 : Int32} {t0 : Int32} {t1 : Int32} {M : Mm} (B : Bx p s m args c cX11_differs 7 RX11 E L) (hr : meth.sig.returnType = (some .int)) (hlk : meth.locks = false) (ih124 : ∀ (x3 : Int32) (x4 : Int32) (x5 : Int32) (x6 : Int32), k124 x3 x4 x5 x6 = some (r, M') → ∀ (H : Heap) (locs : List Loc) (ls : Array Slot), Rx s E L M H locs → lv_has ls 7 [(0, .ref a0), (2, .int x2), (3, .int x3), (4, .int x4), (5, .int x5), (6, .int x6)] → W p l e (rmD (d + 5)) s m args below meth c H locs 0 0 (MQ below (QcM E L (some (.int r)) M') args s 0 0 E.2.2.2) (F0 m 124 ls [])) (h0 : At L a0 T11) (h : fX11_differs_j212 fu k124 a0 x2 x3 x5 x6 t0 t1 M = some (r, M')) (hR : Rx s E L M H locs) (hl : lv_has ls 7 [(0, .ref a0), (2, .int x2), (3, .int x3), (5, .int x5), (6, .int x6)]) : W p l e (rmD (d + 5)) s m args below meth c H locs 0 0 (MQ below (QcM E L (some (.int r)) M') args s 0 0 E.2.2.2) (F0 m 212 ls [.int t1, .int t0]) := by
  have hx := B.1
  have hb := B.2.1
  unfold fX11_differs_j212 at h
  refine lv_iadd hx hb dX11_differs_212 ?_
  obtain ⟨x4_213, ex4_213, h⟩ := lt_el h
  refine r_nmI ex4_213 ?_
  refine lv_istore (lv' := [(4, .int x4_213), (0, .ref a0), (2, .int x2), (3, .int x3), (5, .int x5), (6, .int x6)]) hx hb dX11_differs_213 hl (by decide) rfl (fun ls hl => ?_)
  obtain ⟨x6_215, ex6_215, h⟩ := lt_el h
  refine lv_iinc (v := x6_215) (lv' := [(6, .int x6_215), (4, .int x4_213), (0, .ref a0), (2, .int x2), (3, .int x3), (5, .int x5)]) hx hb dX11_differs_215 hl (k := 5) rfl (by rw [ex6_215]; rfl) (by decide) rfl (fun ls hl => ?_)
  refine lv_goto (tgt := 124) hx hb dX11_differs_218 (by decide) ?_
  exact ih124 x3 x4_213 x5 x6_215 h _ _ _ hR (lv_sub hl [2, 3, 4, 1, 5, 0] rfl)
def fX11_differs_j187 (fu : Nat) (k124 : Int32 → Int32 → Int32 → Int32 → Option (Int32 × Mm)) (a0 : Nat) (x2 : Int32) (x4 : Int32) (x5 : Int32) (x6 : Int32) (t0 : Int32) (t1 : Int32) (M : Mm) : Option (Int32 × Mm) :=
  lt ((t0 + t1)) fun x3_188 =>
  if x6 < 0 ∨ 1024 ≤ ix x6 then none else
  bi (fX11_wantedAt fu a0 x6 M) fun r_201 =>
  if (M.1 (a0 + 25) (ix x6)) = r_201 then
    fX11_differs_j212 fu k124 a0 x2 x3_188 x5 x6 x4 0 M
  else
    fX11_differs_j212 fu k124 a0 x2 x3_188 x5 x6 x4 1 M
set_option maxRecDepth 100000 in
set_option maxHeartbeats 4000000 in
theorem wX11_differs_j187 {r : Int32} {M' : Mm}  {k124 : Int32 → Int32 → Int32 → Int32 → Option (Int32 × Mm)} {a0 : Nat} {x2 : Int32} {x4 : Int32} {x5 : Int32} {x6 : Int32} {t0 : Int32} {t1 : Int32} {M : Mm} (B : Bx p s m args c cX11_differs 7 RX11 E L) (hr : meth.sig.returnType = (some .int)) (hlk : meth.locks = false) (ih124 : ∀ (x3 : Int32) (x4 : Int32) (x5 : Int32) (x6 : Int32), k124 x3 x4 x5 x6 = some (r, M') → ∀ (H : Heap) (locs : List Loc) (ls : Array Slot), Rx s E L M H locs → lv_has ls 7 [(0, .ref a0), (2, .int x2), (3, .int x3), (4, .int x4), (5, .int x5), (6, .int x6)] → W p l e (rmD (d + 5)) s m args below meth c H locs 0 0 (MQ below (QcM E L (some (.int r)) M') args s 0 0 E.2.2.2) (F0 m 124 ls [])) (h0 : At L a0 T11) (h : fX11_differs_j187 fu k124 a0 x2 x4 x5 x6 t0 t1 M = some (r, M')) (hR : Rx s E L M H locs) (hl : lv_has ls 7 [(0, .ref a0), (2, .int x2), (4, .int x4), (5, .int x5), (6, .int x6)]) : W p l e (rmD (d + 5)) s m args below meth c H locs 0 0 (MQ below (QcM E L (some (.int r)) M') args s 0 0 E.2.2.2) (F0 m 187 ls [.int t1, .int t0]) := by
  have hx := B.1
  have hb := B.2.1
  unfold fX11_differs_j187 at h
  refine lv_iadd hx hb dX11_differs_187 ?_
  obtain ⟨x3_188, ex3_188, h⟩ := lt_el h
  refine r_nmI ex3_188 ?_
  refine lv_istore_n (lv' := [(3, .int x3_188), (0, .ref a0), (2, .int x2), (4, .int x4), (5, .int x5), (6, .int x6)]) hx hb dX11_differs_188 rfl hl (by decide) rfl (fun ls hl => ?_)
  refine lv_iload hx hb dX11_differs_189 (lv_at hl 3 rfl) ?_
  refine lv_aload_n hx hb dX11_differs_191 rfl (lv_at hl 1 rfl) ?_
  refine gf_X11_89 B hR (h0.at0 rfl) dX11_differs_192 ?_
  refine lv_iload hx hb dX11_differs_195 (lv_at hl 5 rfl) ?_
  obtain ⟨hi_197, h⟩ := ifn_el h
  refine r_iald B hR (h0.at 25 rfl) hi_197 dX11_differs_197 ?_
  refine lv_aload_n hx hb dX11_differs_198 rfl (lv_at hl 1 rfl) ?_
  refine lv_iload hx hb dX11_differs_199 (lv_at hl 5 rfl) ?_
  obtain ⟨r_201, hc_201, h⟩ := bi_el h
  refine iv_X11_285 B hR (h0.at0 rfl) hl.1 (mX11_wantedAt fu _ h0 hc_201) (Nat.le_of_ble_eq_true rfl) dX11_differs_201 (fun H locs hR => ?_)
  refine lv_icmp_ne (tgt := 211) hx hb dX11_differs_204 (by decide) (fun c_204 => ?_) (fun c_204 => ?_)
  · rw [if_neg c_204] at h
    refine lv_iconst (v := 1) hx hb dX11_differs_211 (by decide) ?_
    exact wX11_differs_j212 B hr hlk ih124 h0 h hR (lv_sub hl [1, 2, 0, 4, 5] rfl)
  · rw [if_pos c_204] at h
    refine lv_iconst (v := 0) hx hb dX11_differs_207 (by decide) ?_
    refine lv_goto (tgt := 212) hx hb dX11_differs_208 (by decide) ?_
    exact wX11_differs_j212 B hr hlk ih124 h0 h hR (lv_sub hl [1, 2, 0, 4, 5] rfl)
def fX11_differs_j163 (fu : Nat) (k124 : Int32 → Int32 → Int32 → Int32 → Option (Int32 × Mm)) (a0 : Nat) (x2 : Int32) (x3 : Int32) (x4 : Int32) (x6 : Int32) (t0 : Int32) (M : Mm) : Option (Int32 × Mm) :=
  if x6 < 0 ∨ 1024 ≤ ix x6 then none else
  bi (fX11_kindAt fu a0 x6 M) fun r_176 =>
  if (M.1 (a0 + 24) (ix x6)) = r_176 then
    fX11_differs_j187 fu k124 a0 x2 x4 t0 x6 x3 0 M
  else
    fX11_differs_j187 fu k124 a0 x2 x4 t0 x6 x3 1 M
set_option maxRecDepth 100000 in
set_option maxHeartbeats 4000000 in
theorem wX11_differs_j163 {r : Int32} {M' : Mm}  {k124 : Int32 → Int32 → Int32 → Int32 → Option (Int32 × Mm)} {a0 : Nat} {x2 : Int32} {x3 : Int32} {x4 : Int32} {x6 : Int32} {t0 : Int32} {M : Mm} (B : Bx p s m args c cX11_differs 7 RX11 E L) (hr : meth.sig.returnType = (some .int)) (hlk : meth.locks = false) (ih124 : ∀ (x3 : Int32) (x4 : Int32) (x5 : Int32) (x6 : Int32), k124 x3 x4 x5 x6 = some (r, M') → ∀ (H : Heap) (locs : List Loc) (ls : Array Slot), Rx s E L M H locs → lv_has ls 7 [(0, .ref a0), (2, .int x2), (3, .int x3), (4, .int x4), (5, .int x5), (6, .int x6)] → W p l e (rmD (d + 5)) s m args below meth c H locs 0 0 (MQ below (QcM E L (some (.int r)) M') args s 0 0 E.2.2.2) (F0 m 124 ls [])) (h0 : At L a0 T11) (h : fX11_differs_j163 fu k124 a0 x2 x3 x4 x6 t0 M = some (r, M')) (hR : Rx s E L M H locs) (hl : lv_has ls 7 [(0, .ref a0), (2, .int x2), (3, .int x3), (4, .int x4), (6, .int x6)]) : W p l e (rmD (d + 5)) s m args below meth c H locs 0 0 (MQ below (QcM E L (some (.int r)) M') args s 0 0 E.2.2.2) (F0 m 163 ls [.int t0]) := by
  have hx := B.1
  have hb := B.2.1
  unfold fX11_differs_j163 at h
  refine lv_istore (lv' := [(5, .int t0), (0, .ref a0), (2, .int x2), (3, .int x3), (4, .int x4), (6, .int x6)]) hx hb dX11_differs_163 hl (by decide) rfl (fun ls hl => ?_)
  refine lv_iload_n hx hb dX11_differs_165 rfl (lv_at hl 3 rfl) ?_
  refine lv_aload_n hx hb dX11_differs_166 rfl (lv_at hl 1 rfl) ?_
  refine gf_X11_86 B hR (h0.at0 rfl) dX11_differs_167 ?_
  refine lv_iload hx hb dX11_differs_170 (lv_at hl 5 rfl) ?_
  obtain ⟨hi_172, h⟩ := ifn_el h
  refine r_iald B hR (h0.at 24 rfl) hi_172 dX11_differs_172 ?_
  refine lv_aload_n hx hb dX11_differs_173 rfl (lv_at hl 1 rfl) ?_
  refine lv_iload hx hb dX11_differs_174 (lv_at hl 5 rfl) ?_
  obtain ⟨r_176, hc_176, h⟩ := bi_el h
  refine iv_X11_276 B hR (h0.at0 rfl) hl.1 (mX11_kindAt fu _ h0 hc_176) (Nat.le_of_ble_eq_true rfl) dX11_differs_176 (fun H locs hR => ?_)
  refine lv_icmp_ne (tgt := 186) hx hb dX11_differs_179 (by decide) (fun c_179 => ?_) (fun c_179 => ?_)
  · rw [if_neg c_179] at h
    refine lv_iconst (v := 1) hx hb dX11_differs_186 (by decide) ?_
    exact wX11_differs_j187 B hr hlk ih124 h0 h hR (lv_sub hl [1, 2, 4, 0, 5] rfl)
  · rw [if_pos c_179] at h
    refine lv_iconst (v := 0) hx hb dX11_differs_182 (by decide) ?_
    refine lv_goto (tgt := 187) hx hb dX11_differs_183 (by decide) ?_
    exact wX11_differs_j187 B hr hlk ih124 h0 h hR (lv_sub hl [1, 2, 4, 0, 5] rfl)
def fX11_differs_j161 (fu : Nat) (k124 : Int32 → Int32 → Int32 → Int32 → Option (Int32 × Mm)) (a0 : Nat) (x2 : Int32) (x3 : Int32) (x4 : Int32) (x5 : Int32) (x6 : Int32) (M : Mm) : Option (Int32 × Mm) :=
  fX11_differs_j163 fu k124 a0 x2 x3 x4 x6 x5 M
set_option maxRecDepth 100000 in
set_option maxHeartbeats 4000000 in
theorem wX11_differs_j161 {r : Int32} {M' : Mm}  {k124 : Int32 → Int32 → Int32 → Int32 → Option (Int32 × Mm)} {a0 : Nat} {x2 : Int32} {x3 : Int32} {x4 : Int32} {x5 : Int32} {x6 : Int32} {M : Mm} (B : Bx p s m args c cX11_differs 7 RX11 E L) (hr : meth.sig.returnType = (some .int)) (hlk : meth.locks = false) (ih124 : ∀ (x3 : Int32) (x4 : Int32) (x5 : Int32) (x6 : Int32), k124 x3 x4 x5 x6 = some (r, M') → ∀ (H : Heap) (locs : List Loc) (ls : Array Slot), Rx s E L M H locs → lv_has ls 7 [(0, .ref a0), (2, .int x2), (3, .int x3), (4, .int x4), (5, .int x5), (6, .int x6)] → W p l e (rmD (d + 5)) s m args below meth c H locs 0 0 (MQ below (QcM E L (some (.int r)) M') args s 0 0 E.2.2.2) (F0 m 124 ls [])) (h0 : At L a0 T11) (h : fX11_differs_j161 fu k124 a0 x2 x3 x4 x5 x6 M = some (r, M')) (hR : Rx s E L M H locs) (hl : lv_has ls 7 [(0, .ref a0), (2, .int x2), (3, .int x3), (4, .int x4), (5, .int x5), (6, .int x6)]) : W p l e (rmD (d + 5)) s m args below meth c H locs 0 0 (MQ below (QcM E L (some (.int r)) M') args s 0 0 E.2.2.2) (F0 m 161 ls []) := by
  have hx := B.1
  have hb := B.2.1
  unfold fX11_differs_j161 at h
  refine lv_iload hx hb dX11_differs_161 (lv_at hl 4 rfl) ?_
  exact wX11_differs_j163 B hr hlk ih124 h0 h hR (lv_sub hl [0, 1, 2, 3, 5] rfl)
def fX11_differs_b124 (fu : Nat) (k124 : Int32 → Int32 → Int32 → Int32 → Option (Int32 × Mm)) (a0 : Nat) (x2 : Int32) (x3 : Int32) (x4 : Int32) (x5 : Int32) (x6 : Int32) (M : Mm) : Option (Int32 × Mm) :=
  bi (fX11_addresses fu a0 M) fun r_127 =>
  if r_127 ≤ x6 then
    fX11_differs_j221 fu a0 x2 x3 x4 x5 M
  else
    if x5 = (-2) then
      if x6 < 0 ∨ 1024 ≤ ix x6 then none else
      bi (fX11_kindAt fu a0 x6 M) fun r_150 =>
      if (M.1 (a0 + 24) (ix x6)) = r_150 then
        fX11_differs_j161 fu k124 a0 x2 x3 x4 x5 x6 M
      else
        fX11_differs_j163 fu k124 a0 x2 x3 x4 x6 x6 M
    else
      fX11_differs_j161 fu k124 a0 x2 x3 x4 x5 x6 M
set_option maxRecDepth 100000 in
set_option maxHeartbeats 4000000 in
theorem wX11_differs_b124 {r : Int32} {M' : Mm}   {k124 : Int32 → Int32 → Int32 → Int32 → Option (Int32 × Mm)} {a0 : Nat} {x2 : Int32} {x3 : Int32} {x4 : Int32} {x5 : Int32} {x6 : Int32} {M : Mm} (B : Bx p s m args c cX11_differs 7 RX11 E L) (hr : meth.sig.returnType = (some .int)) (hlk : meth.locks = false)  (ih124 : ∀ (x3 : Int32) (x4 : Int32) (x5 : Int32) (x6 : Int32), k124 x3 x4 x5 x6 = some (r, M') → ∀ (H : Heap) (locs : List Loc) (ls : Array Slot), Rx s E L M H locs → lv_has ls 7 [(0, .ref a0), (2, .int x2), (3, .int x3), (4, .int x4), (5, .int x5), (6, .int x6)] → W p l e (rmD (d + 5)) s m args below meth c H locs 0 0 (MQ below (QcM E L (some (.int r)) M') args s 0 0 E.2.2.2) (F0 m 124 ls [])) (h0 : At L a0 T11) (h : fX11_differs_b124 fu k124 a0 x2 x3 x4 x5 x6 M = some (r, M')) (hR : Rx s E L M H locs) (hl : lv_has ls 7 [(0, .ref a0), (2, .int x2), (3, .int x3), (4, .int x4), (5, .int x5), (6, .int x6)]) : W p l e (rmD (d + 5)) s m args below meth c H locs 0 0 (MQ below (QcM E L (some (.int r)) M') args s 0 0 E.2.2.2) (F0 m 124 ls []) := by
  have hx := B.1
  have hb := B.2.1
  unfold fX11_differs_b124 at h
  refine lv_iload hx hb dX11_differs_124 (lv_at hl 5 rfl) ?_
  refine lv_aload_n hx hb dX11_differs_126 rfl (lv_at hl 0 rfl) ?_
  obtain ⟨r_127, hc_127, h⟩ := bi_el h
  refine iv_X11_240 B hR (h0.at0 rfl) hl.1 (mX11_addresses fu _ h0 hc_127) (Nat.le_of_ble_eq_true rfl) dX11_differs_127 (fun H locs hR => ?_)
  refine lv_icmp_ge (tgt := 221) hx hb dX11_differs_130 (by decide) (fun c_130 => ?_) (fun c_130 => ?_)
  · rw [if_pos c_130] at h
    exact wX11_differs_j221 B hr hlk h0 h hR (lv_sub hl [0, 1, 2, 3, 4] rfl)
  · rw [if_neg c_130] at h
    refine lv_iload hx hb dX11_differs_133 (lv_at hl 4 rfl) ?_
    refine lv_bipush (v := (-2)) hx hb dX11_differs_135 (by decide) ?_
    refine lv_icmp_ne (tgt := 161) hx hb dX11_differs_137 (by decide) (fun c_137 => ?_) (fun c_137 => ?_)
    · rw [if_neg c_137] at h
      exact wX11_differs_j161 B hr hlk ih124 h0 h hR hl
    · rw [if_pos c_137] at h
      refine lv_aload_n hx hb dX11_differs_140 rfl (lv_at hl 0 rfl) ?_
      refine gf_X11_86 B hR (h0.at0 rfl) dX11_differs_141 ?_
      refine lv_iload hx hb dX11_differs_144 (lv_at hl 5 rfl) ?_
      obtain ⟨hi_146, h⟩ := ifn_el h
      refine r_iald B hR (h0.at 24 rfl) hi_146 dX11_differs_146 ?_
      refine lv_aload_n hx hb dX11_differs_147 rfl (lv_at hl 0 rfl) ?_
      refine lv_iload hx hb dX11_differs_148 (lv_at hl 5 rfl) ?_
      obtain ⟨r_150, hc_150, h⟩ := bi_el h
      refine iv_X11_276 B hR (h0.at0 rfl) hl.1 (mX11_kindAt fu _ h0 hc_150) (Nat.le_of_ble_eq_true rfl) dX11_differs_150 (fun H locs hR => ?_)
      refine lv_icmp_eq (tgt := 161) hx hb dX11_differs_153 (by decide) (fun c_153 => ?_) (fun c_153 => ?_)
      · rw [if_pos c_153] at h
        exact wX11_differs_j161 B hr hlk ih124 h0 h hR hl
      · rw [if_neg c_153] at h
        refine lv_iload hx hb dX11_differs_156 (lv_at hl 5 rfl) ?_
        refine lv_goto (tgt := 163) hx hb dX11_differs_158 (by decide) ?_
        exact wX11_differs_j163 B hr hlk ih124 h0 h hR (lv_sub hl [0, 1, 2, 3, 5] rfl)
def fX11_differs_l124 (fu : Nat) (a0 : Nat) (x2 : Int32) (M : Mm) (x3 : Int32) (x4 : Int32) (x5 : Int32) (x6 : Int32) : Option (Int32 × Mm) := lp (fun (rec : (Int32 × Int32 × Int32 × Int32) → Option (Int32 × Mm)) (s : Int32 × Int32 × Int32 × Int32) => fX11_differs_b124 fu  (fun x3 x4 x5 x6 => rec (x3, x4, x5, x6)) a0 x2 s.1 s.2.1 s.2.2.1 s.2.2.2 M) fu (x3, x4, x5, x6)
set_option maxRecDepth 100000 in
set_option maxHeartbeats 4000000 in
theorem wX11_differs_l124 {r : Int32} {M' : Mm}   {a0 : Nat} {x2 : Int32} {x3 : Int32} {x4 : Int32} {x5 : Int32} {x6 : Int32} {M : Mm} (B : Bx p s m args c cX11_differs 7 RX11 E L) (hr : meth.sig.returnType = (some .int)) (hlk : meth.locks = false)  (h0 : At L a0 T11) (h : fX11_differs_l124 fu a0 x2 M x3 x4 x5 x6 = some (r, M')) (hR : Rx s E L M H locs) (hl : lv_has ls 7 [(0, .ref a0), (2, .int x2), (3, .int x3), (4, .int x4), (5, .int x5), (6, .int x6)]) : W p l e (rmD (d + 5)) s m args below meth c H locs 0 0 (MQ below (QcM E L (some (.int r)) M') args s 0 0 E.2.2.2) (F0 m 124 ls []) := by
  refine lp_G (G := fun z : Int32 × Int32 × Int32 × Int32 => ∀ (H : Heap) (locs : List Loc) (ls : Array Slot), Rx s E L M H locs → lv_has ls 7 [(0, .ref a0), (2, .int x2), (3, .int z.1), (4, .int z.2.1), (5, .int z.2.2.1), (6, .int z.2.2.2)] → W p l e (rmD (d + 5)) s m args below meth c H locs 0 0 (MQ below (QcM E L (some (.int r)) M') args s 0 0 E.2.2.2) (F0 m 124 ls [])) (fun rec ih z h H locs ls hR hl => ?_) fu _ h H locs ls hR hl
  exact wX11_differs_b124 B hr hlk  (fun x3 x4 x5 x6 h => ih (x3, x4, x5, x6) h) h0 h hR hl
def fX11_differs_j112 (fu : Nat) (a0 : Nat) (x2 : Int32) (M : Mm) : Option (Int32 × Mm) :=
  fX11_differs_l124 fu a0 x2 M 0 0 (-2) 0
set_option maxRecDepth 100000 in
set_option maxHeartbeats 4000000 in
theorem wX11_differs_j112 {r : Int32} {M' : Mm}   {a0 : Nat} {x2 : Int32} {M : Mm} (B : Bx p s m args c cX11_differs 7 RX11 E L) (hr : meth.sig.returnType = (some .int)) (hlk : meth.locks = false)  (h0 : At L a0 T11) (h : fX11_differs_j112 fu a0 x2 M = some (r, M')) (hR : Rx s E L M H locs) (hl : lv_has ls 7 [(0, .ref a0), (2, .int x2)]) : W p l e (rmD (d + 5)) s m args below meth c H locs 0 0 (MQ below (QcM E L (some (.int r)) M') args s 0 0 E.2.2.2) (F0 m 112 ls []) := by
  have hx := B.1
  have hb := B.2.1
  unfold fX11_differs_j112 at h
  refine lv_iconst (v := 0) hx hb dX11_differs_112 (by decide) ?_
  refine lv_istore_n (lv' := [(3, .int 0), (0, .ref a0), (2, .int x2)]) hx hb dX11_differs_113 rfl hl (by decide) rfl (fun ls hl => ?_)
  refine lv_iconst (v := 0) hx hb dX11_differs_114 (by decide) ?_
  refine lv_istore (lv' := [(4, .int 0), (3, .int 0), (0, .ref a0), (2, .int x2)]) hx hb dX11_differs_115 hl (by decide) rfl (fun ls hl => ?_)
  refine lv_bipush (v := (-2)) hx hb dX11_differs_117 (by decide) ?_
  refine lv_istore (lv' := [(5, .int (-2)), (4, .int 0), (3, .int 0), (0, .ref a0), (2, .int x2)]) hx hb dX11_differs_119 hl (by decide) rfl (fun ls hl => ?_)
  refine lv_iconst (v := 0) hx hb dX11_differs_121 (by decide) ?_
  refine lv_istore (lv' := [(6, .int 0), (5, .int (-2)), (4, .int 0), (3, .int 0), (0, .ref a0), (2, .int x2)]) hx hb dX11_differs_122 hl (by decide) rfl (fun ls hl => ?_)
  exact wX11_differs_l124 B hr hlk h0 h hR (lv_sub hl [4, 5, 3, 2, 1, 0] rfl)
def fX11_differs_b69 (fu : Nat) (k69 : Int32 → Mm → Option (Int32 × Mm)) (a0 : Nat) (x1 : Int32) (x2 : Int32) (x3 : Int32) (M : Mm) : Option (Int32 × Mm) :=
  if 140 ≤ x3 then
    fX11_differs_j112 fu a0 x2 M
  else
    if x3 < 0 ∨ 140 ≤ ix x3 then none else
    lt (wI M (a0 + 26) (ix x3) (M.1 (a0 + 1) (ix x3))) fun M_87 =>
    if ((140 * x1) + x3) < 0 ∨ 280 ≤ ix ((140 * x1) + x3) then none else
    lt (wI M_87 (a0 + 1) (ix x3) (M_87.1 (a0 + 28) (ix ((140 * x1) + x3)))) fun M_105 =>
    lt (x3 + 1) fun x3_106 =>
    k69 x3_106 M_105
set_option maxRecDepth 100000 in
set_option maxHeartbeats 4000000 in
theorem wX11_differs_b69 {r : Int32} {M' : Mm}   {k69 : Int32 → Mm → Option (Int32 × Mm)} {a0 : Nat} {x1 : Int32} {x2 : Int32} {x3 : Int32} {M : Mm} (B : Bx p s m args c cX11_differs 7 RX11 E L) (hr : meth.sig.returnType = (some .int)) (hlk : meth.locks = false)  (ih69 : ∀ (x3 : Int32) (M : Mm), k69 x3 M = some (r, M') → ∀ (H : Heap) (locs : List Loc) (ls : Array Slot), Rx s E L M H locs → lv_has ls 7 [(0, .ref a0), (1, .int x1), (2, .int x2), (3, .int x3)] → W p l e (rmD (d + 5)) s m args below meth c H locs 0 0 (MQ below (QcM E L (some (.int r)) M') args s 0 0 E.2.2.2) (F0 m 69 ls [])) (h0 : At L a0 T11) (h : fX11_differs_b69 fu k69 a0 x1 x2 x3 M = some (r, M')) (hR : Rx s E L M H locs) (hl : lv_has ls 7 [(0, .ref a0), (1, .int x1), (2, .int x2), (3, .int x3)]) : W p l e (rmD (d + 5)) s m args below meth c H locs 0 0 (MQ below (QcM E L (some (.int r)) M') args s 0 0 E.2.2.2) (F0 m 69 ls []) := by
  have hx := B.1
  have hb := B.2.1
  unfold fX11_differs_b69 at h
  refine lv_iload_n hx hb dX11_differs_69 rfl (lv_at hl 3 rfl) ?_
  refine lv_sipush (v := 140) hx hb dX11_differs_70 (by decide) ?_
  refine lv_icmp_ge (tgt := 112) hx hb dX11_differs_73 (by decide) (fun c_73 => ?_) (fun c_73 => ?_)
  · rw [if_pos c_73] at h
    exact wX11_differs_j112 B hr hlk h0 h hR (lv_sub hl [0, 2] rfl)
  · rw [if_neg c_73] at h
    refine lv_aload_n hx hb dX11_differs_76 rfl (lv_at hl 0 rfl) ?_
    refine gf_X11_92 B hR (h0.at0 rfl) dX11_differs_77 ?_
    refine lv_iload_n hx hb dX11_differs_80 rfl (lv_at hl 3 rfl) ?_
    refine lv_aload_n hx hb dX11_differs_81 rfl (lv_at hl 0 rfl) ?_
    refine gf_X11_7 B hR (h0.at0 rfl) dX11_differs_82 ?_
    refine lv_iload_n hx hb dX11_differs_85 rfl (lv_at hl 3 rfl) ?_
    obtain ⟨hi_86, h⟩ := ifn_el h
    refine r_iald B hR (h0.at 1 rfl) hi_86 dX11_differs_86 ?_
    obtain ⟨M_87, eM_87, h⟩ := lt_el h
    refine r_iast B hR (h0.at 26 rfl) hi_86 dX11_differs_87 (fun H locs hR => ?_)
    rw [← eM_87] at hR
    refine lv_aload_n hx hb dX11_differs_88 rfl (lv_at hl 0 rfl) ?_
    refine gf_X11_7 B hR (h0.at0 rfl) dX11_differs_89 ?_
    refine lv_iload_n hx hb dX11_differs_92 rfl (lv_at hl 3 rfl) ?_
    refine lv_aload_n hx hb dX11_differs_93 rfl (lv_at hl 0 rfl) ?_
    refine gf_X11_98 B hR (h0.at0 rfl) dX11_differs_94 ?_
    refine lv_sipush (v := 140) hx hb dX11_differs_97 (by decide) ?_
    refine lv_iload_n hx hb dX11_differs_100 rfl (lv_at hl 1 rfl) ?_
    refine lv_imul hx hb dX11_differs_101 ?_
    refine lv_iload_n hx hb dX11_differs_102 rfl (lv_at hl 3 rfl) ?_
    refine lv_iadd hx hb dX11_differs_103 ?_
    obtain ⟨hi_104, h⟩ := ifn_el h
    refine r_iald B hR (h0.at 28 rfl) hi_104 dX11_differs_104 ?_
    obtain ⟨M_105, eM_105, h⟩ := lt_el h
    refine r_iast B hR (h0.at 1 rfl) hi_86 dX11_differs_105 (fun H locs hR => ?_)
    rw [← eM_105] at hR
    obtain ⟨x3_106, ex3_106, h⟩ := lt_el h
    refine lv_iinc (v := x3_106) (lv' := [(3, .int x3_106), (0, .ref a0), (1, .int x1), (2, .int x2)]) hx hb dX11_differs_106 hl (k := 3) rfl (by rw [ex3_106]; rfl) (by decide) rfl (fun ls hl => ?_)
    refine lv_goto (tgt := 69) hx hb dX11_differs_109 (by decide) ?_
    exact ih69 x3_106 M_105 h _ _ _ hR (lv_sub hl [1, 2, 3, 0] rfl)
def fX11_differs_l69 (fu : Nat) (a0 : Nat) (x1 : Int32) (x2 : Int32) (x3 : Int32) (M : Mm) : Option (Int32 × Mm) := lp (fun (rec : (Int32 × Mm) → Option (Int32 × Mm)) (s : Int32 × Mm) => fX11_differs_b69 fu  (fun x3 M => rec (x3, M)) a0 x1 x2 s.1 s.2) fu (x3, M)
set_option maxRecDepth 100000 in
set_option maxHeartbeats 4000000 in
theorem wX11_differs_l69 {r : Int32} {M' : Mm}   {a0 : Nat} {x1 : Int32} {x2 : Int32} {x3 : Int32} {M : Mm} (B : Bx p s m args c cX11_differs 7 RX11 E L) (hr : meth.sig.returnType = (some .int)) (hlk : meth.locks = false)  (h0 : At L a0 T11) (h : fX11_differs_l69 fu a0 x1 x2 x3 M = some (r, M')) (hR : Rx s E L M H locs) (hl : lv_has ls 7 [(0, .ref a0), (1, .int x1), (2, .int x2), (3, .int x3)]) : W p l e (rmD (d + 5)) s m args below meth c H locs 0 0 (MQ below (QcM E L (some (.int r)) M') args s 0 0 E.2.2.2) (F0 m 69 ls []) := by
  refine lp_G (G := fun z : Int32 × Mm => ∀ (H : Heap) (locs : List Loc) (ls : Array Slot), Rx s E L z.2 H locs → lv_has ls 7 [(0, .ref a0), (1, .int x1), (2, .int x2), (3, .int z.1)] → W p l e (rmD (d + 5)) s m args below meth c H locs 0 0 (MQ below (QcM E L (some (.int r)) M') args s 0 0 E.2.2.2) (F0 m 69 ls [])) (fun rec ih z h H locs ls hR hl => ?_) fu _ h H locs ls hR hl
  exact wX11_differs_b69 B hr hlk  (fun x3 M h => ih (x3, M) h) h0 h hR hl
def fX11_differs_j67 (fu : Nat) (a0 : Nat) (x1 : Int32) (x2 : Int32) (M : Mm) : Option (Int32 × Mm) :=
  fX11_differs_l69 fu a0 x1 x2 0 M
set_option maxRecDepth 100000 in
set_option maxHeartbeats 4000000 in
theorem wX11_differs_j67 {r : Int32} {M' : Mm}   {a0 : Nat} {x1 : Int32} {x2 : Int32} {M : Mm} (B : Bx p s m args c cX11_differs 7 RX11 E L) (hr : meth.sig.returnType = (some .int)) (hlk : meth.locks = false)  (h0 : At L a0 T11) (h : fX11_differs_j67 fu a0 x1 x2 M = some (r, M')) (hR : Rx s E L M H locs) (hl : lv_has ls 7 [(0, .ref a0), (1, .int x1), (2, .int x2)]) : W p l e (rmD (d + 5)) s m args below meth c H locs 0 0 (MQ below (QcM E L (some (.int r)) M') args s 0 0 E.2.2.2) (F0 m 67 ls []) := by
  have hx := B.1
  have hb := B.2.1
  unfold fX11_differs_j67 at h
  refine lv_iconst (v := 0) hx hb dX11_differs_67 (by decide) ?_
  refine lv_istore_n (lv' := [(3, .int 0), (0, .ref a0), (1, .int x1), (2, .int x2)]) hx hb dX11_differs_68 rfl hl (by decide) rfl (fun ls hl => ?_)
  exact wX11_differs_l69 B hr hlk h0 h hR (lv_sub hl [1, 2, 3, 0] rfl)
def fX11_differs_b31 (fu : Nat) (k31 : Int32 → Mm → Option (Int32 × Mm)) (a0 : Nat) (x1 : Int32) (x2 : Int32) (x3 : Int32) (M : Mm) : Option (Int32 × Mm) :=
  bi (fX11_addresses fu a0 M) fun r_33 =>
  if r_33 ≤ x3 then
    fX11_differs_j67 fu a0 x1 x2 M
  else
    bi (fX11_kindAt fu a0 x3 M) fun r_46 =>
    if x3 < 0 ∨ 1024 ≤ ix x3 then none else
    lt (wI M (a0 + 24) (ix x3) r_46) fun M_49 =>
    bi (fX11_wantedAt fu a0 x3 M_49) fun r_57 =>
    lt (wI M_49 (a0 + 25) (ix x3) r_57) fun M_60 =>
    lt (x3 + 1) fun x3_61 =>
    k31 x3_61 M_60
set_option maxRecDepth 100000 in
set_option maxHeartbeats 4000000 in
theorem wX11_differs_b31 {r : Int32} {M' : Mm}   {k31 : Int32 → Mm → Option (Int32 × Mm)} {a0 : Nat} {x1 : Int32} {x2 : Int32} {x3 : Int32} {M : Mm} (B : Bx p s m args c cX11_differs 7 RX11 E L) (hr : meth.sig.returnType = (some .int)) (hlk : meth.locks = false)  (ih31 : ∀ (x3 : Int32) (M : Mm), k31 x3 M = some (r, M') → ∀ (H : Heap) (locs : List Loc) (ls : Array Slot), Rx s E L M H locs → lv_has ls 7 [(0, .ref a0), (1, .int x1), (2, .int x2), (3, .int x3)] → W p l e (rmD (d + 5)) s m args below meth c H locs 0 0 (MQ below (QcM E L (some (.int r)) M') args s 0 0 E.2.2.2) (F0 m 31 ls [])) (h0 : At L a0 T11) (h : fX11_differs_b31 fu k31 a0 x1 x2 x3 M = some (r, M')) (hR : Rx s E L M H locs) (hl : lv_has ls 7 [(0, .ref a0), (1, .int x1), (2, .int x2), (3, .int x3)]) : W p l e (rmD (d + 5)) s m args below meth c H locs 0 0 (MQ below (QcM E L (some (.int r)) M') args s 0 0 E.2.2.2) (F0 m 31 ls []) := by
  have hx := B.1
  have hb := B.2.1
  unfold fX11_differs_b31 at h
  refine lv_iload_n hx hb dX11_differs_31 rfl (lv_at hl 3 rfl) ?_
  refine lv_aload_n hx hb dX11_differs_32 rfl (lv_at hl 0 rfl) ?_
  obtain ⟨r_33, hc_33, h⟩ := bi_el h
  refine iv_X11_240 B hR (h0.at0 rfl) hl.1 (mX11_addresses fu _ h0 hc_33) (Nat.le_of_ble_eq_true rfl) dX11_differs_33 (fun H locs hR => ?_)
  refine lv_icmp_ge (tgt := 67) hx hb dX11_differs_36 (by decide) (fun c_36 => ?_) (fun c_36 => ?_)
  · rw [if_pos c_36] at h
    exact wX11_differs_j67 B hr hlk h0 h hR (lv_sub hl [0, 1, 2] rfl)
  · rw [if_neg c_36] at h
    refine lv_aload_n hx hb dX11_differs_39 rfl (lv_at hl 0 rfl) ?_
    refine gf_X11_86 B hR (h0.at0 rfl) dX11_differs_40 ?_
    refine lv_iload_n hx hb dX11_differs_43 rfl (lv_at hl 3 rfl) ?_
    refine lv_aload_n hx hb dX11_differs_44 rfl (lv_at hl 0 rfl) ?_
    refine lv_iload_n hx hb dX11_differs_45 rfl (lv_at hl 3 rfl) ?_
    obtain ⟨r_46, hc_46, h⟩ := bi_el h
    refine iv_X11_276 B hR (h0.at0 rfl) hl.1 (mX11_kindAt fu _ h0 hc_46) (Nat.le_of_ble_eq_true rfl) dX11_differs_46 (fun H locs hR => ?_)
    obtain ⟨hi_49, h⟩ := ifn_el h
    obtain ⟨M_49, eM_49, h⟩ := lt_el h
    refine r_iast B hR (h0.at 24 rfl) hi_49 dX11_differs_49 (fun H locs hR => ?_)
    rw [← eM_49] at hR
    refine lv_aload_n hx hb dX11_differs_50 rfl (lv_at hl 0 rfl) ?_
    refine gf_X11_89 B hR (h0.at0 rfl) dX11_differs_51 ?_
    refine lv_iload_n hx hb dX11_differs_54 rfl (lv_at hl 3 rfl) ?_
    refine lv_aload_n hx hb dX11_differs_55 rfl (lv_at hl 0 rfl) ?_
    refine lv_iload_n hx hb dX11_differs_56 rfl (lv_at hl 3 rfl) ?_
    obtain ⟨r_57, hc_57, h⟩ := bi_el h
    refine iv_X11_285 B hR (h0.at0 rfl) hl.1 (mX11_wantedAt fu _ h0 hc_57) (Nat.le_of_ble_eq_true rfl) dX11_differs_57 (fun H locs hR => ?_)
    obtain ⟨M_60, eM_60, h⟩ := lt_el h
    refine r_iast B hR (h0.at 25 rfl) hi_49 dX11_differs_60 (fun H locs hR => ?_)
    rw [← eM_60] at hR
    obtain ⟨x3_61, ex3_61, h⟩ := lt_el h
    refine lv_iinc (v := x3_61) (lv' := [(3, .int x3_61), (0, .ref a0), (1, .int x1), (2, .int x2)]) hx hb dX11_differs_61 hl (k := 3) rfl (by rw [ex3_61]; rfl) (by decide) rfl (fun ls hl => ?_)
    refine lv_goto (tgt := 31) hx hb dX11_differs_64 (by decide) ?_
    exact ih31 x3_61 M_60 h _ _ _ hR (lv_sub hl [1, 2, 3, 0] rfl)
def fX11_differs_l31 (fu : Nat) (a0 : Nat) (x1 : Int32) (x2 : Int32) (x3 : Int32) (M : Mm) : Option (Int32 × Mm) := lp (fun (rec : (Int32 × Mm) → Option (Int32 × Mm)) (s : Int32 × Mm) => fX11_differs_b31 fu  (fun x3 M => rec (x3, M)) a0 x1 x2 s.1 s.2) fu (x3, M)
set_option maxRecDepth 100000 in
set_option maxHeartbeats 4000000 in
theorem wX11_differs_l31 {r : Int32} {M' : Mm}   {a0 : Nat} {x1 : Int32} {x2 : Int32} {x3 : Int32} {M : Mm} (B : Bx p s m args c cX11_differs 7 RX11 E L) (hr : meth.sig.returnType = (some .int)) (hlk : meth.locks = false)  (h0 : At L a0 T11) (h : fX11_differs_l31 fu a0 x1 x2 x3 M = some (r, M')) (hR : Rx s E L M H locs) (hl : lv_has ls 7 [(0, .ref a0), (1, .int x1), (2, .int x2), (3, .int x3)]) : W p l e (rmD (d + 5)) s m args below meth c H locs 0 0 (MQ below (QcM E L (some (.int r)) M') args s 0 0 E.2.2.2) (F0 m 31 ls []) := by
  refine lp_G (G := fun z : Int32 × Mm => ∀ (H : Heap) (locs : List Loc) (ls : Array Slot), Rx s E L z.2 H locs → lv_has ls 7 [(0, .ref a0), (1, .int x1), (2, .int x2), (3, .int z.1)] → W p l e (rmD (d + 5)) s m args below meth c H locs 0 0 (MQ below (QcM E L (some (.int r)) M') args s 0 0 E.2.2.2) (F0 m 31 ls [])) (fun rec ih z h H locs ls hR hl => ?_) fu _ h H locs ls hR hl
  exact wX11_differs_b31 B hr hlk  (fun x3 M h => ih (x3, M) h) h0 h hR hl
def fX11_differs (fu : Nat) (a0 : Nat) (x1 : Int32) (x2 : Int32) (M : Mm) : Option (Int32 × Mm) :=
  bi (fX11_isIn fu x1 0 1) fun r_3 =>
  if r_3 = 0 then
    fX11_differs_j27 fu M
  else
    if x1 < 0 ∨ 2 ≤ ix x1 then none else
    if (M.1 (a0 + 29) (ix x1)) = 0 then
      fX11_differs_j27 fu M
    else
      bi (fX11_isIn fu x2 0 2) fun r_21 =>
      if r_21 = 0 then
        fX11_differs_j27 fu M
      else
        fX11_differs_l31 fu a0 x1 x2 0 M
set_option maxRecDepth 100000 in
set_option maxHeartbeats 4000000 in
theorem mX11_differs {l : Launch} {E : Ge} {L : Lay} (fu d : Nat) {a0 : Nat} {x1 : Int32} {x2 : Int32} {M : Mm} {r : Int32} {M' : Mm}  (h0 : At L a0 T11) (h : fX11_differs fu a0 x1 x2 M = some (r, M')) : Ct l E L yX11_differs cX11_differs 7 (some .int) (d + 5) [.ref a0, .int x1, .int x2] M (some (.int r)) M' := by
  refine Ct.of (by decide) ?_
  intro p e s m below meth c hr hlk B hR
  have B : Bx p s m _ c cX11_differs 7 RX11 E L := B
  have hx := B.1
  have hb := B.2.1
  have hl := lv_entry ([.ref a0, .int x1, .int x2]) (n := 7) (Nat.le_of_ble_eq_true rfl)
  rw [lg_entry_eq]
  generalize (lg_sl ([.ref a0, .int x1, .int x2]) ++ List.replicate (7 - (lg_sl ([.ref a0, .int x1, .int x2])).length) Slot.unset).toArray = ls at hl ⊢
  have hl : lv_has ls 7 [(0, .ref a0), (1, .int x1), (2, .int x2)] := hl
  unfold fX11_differs at h
  refine lv_iload_n hx hb dX11_differs_0 rfl (lv_at hl 1 rfl) ?_
  refine lv_iconst (v := 0) hx hb dX11_differs_1 (by decide) ?_
  refine lv_iconst (v := 1) hx hb dX11_differs_2 (by decide) ?_
  obtain ⟨r_3, hc_3, h⟩ := bi_el h
  refine is_X11_163 B hR hl.1 (mX11_isIn fu _  hc_3) (Nat.le_of_ble_eq_true rfl) dX11_differs_3 (fun H locs hR => ?_)
  refine lv_if_eq (tgt := 27) hx hb dX11_differs_6 (by decide) (fun c_6 => ?_) (fun c_6 => ?_)
  · rw [if_pos c_6] at h
    exact wX11_differs_j27 B hr hlk  h hR (lv_sub hl [] rfl)
  · rw [if_neg c_6] at h
    refine lv_aload_n hx hb dX11_differs_9 rfl (lv_at hl 0 rfl) ?_
    refine gf_X11_101 B hR (h0.at0 rfl) dX11_differs_10 ?_
    refine lv_iload_n hx hb dX11_differs_13 rfl (lv_at hl 1 rfl) ?_
    obtain ⟨hi_14, h⟩ := ifn_el h
    refine r_zald B hR (h0.at 29 rfl) hi_14 dX11_differs_14 ?_
    refine lv_if_eq (tgt := 27) hx hb dX11_differs_15 (by decide) (fun c_15 => ?_) (fun c_15 => ?_)
    · rw [if_pos c_15] at h
      exact wX11_differs_j27 B hr hlk  h hR (lv_sub hl [] rfl)
    · rw [if_neg c_15] at h
      refine lv_iload_n hx hb dX11_differs_18 rfl (lv_at hl 2 rfl) ?_
      refine lv_iconst (v := 0) hx hb dX11_differs_19 (by decide) ?_
      refine lv_iconst (v := 2) hx hb dX11_differs_20 (by decide) ?_
      obtain ⟨r_21, hc_21, h⟩ := bi_el h
      refine is_X11_163 B hR hl.1 (mX11_isIn fu _  hc_21) (Nat.le_of_ble_eq_true rfl) dX11_differs_21 (fun H locs hR => ?_)
      refine lv_if_ne (tgt := 29) hx hb dX11_differs_24 (by decide) (fun c_24 => ?_) (fun c_24 => ?_)
      · rw [if_neg c_24] at h
        refine lv_iconst (v := 0) hx hb dX11_differs_29 (by decide) ?_
        refine lv_istore_n (lv' := [(3, .int 0), (0, .ref a0), (1, .int x1), (2, .int x2)]) hx hb dX11_differs_30 rfl hl (by decide) rfl (fun ls hl => ?_)
        exact wX11_differs_l31 B hr hlk h0 h hR (lv_sub hl [1, 2, 3, 0] rfl)
      · rw [if_pos c_24] at h
        exact wX11_differs_j27 B hr hlk  h hR (lv_sub hl [] rfl)
def fX11_swapAll_j59 (fu : Nat) (M : Mm) : Option Mm :=
  some M
set_option maxRecDepth 100000 in
set_option maxHeartbeats 4000000 in
theorem wX11_swapAll_j59 {M' : Mm}    {M : Mm} (B : Bx p s m args c cX11_swapAll 3 RX11 E L) (hr : meth.sig.returnType = none) (hlk : meth.locks = false)   (h : fX11_swapAll_j59 fu M = some M') (hR : Rx s E L M H locs) (hl : lv_has ls 3 []) : W p l e (rmD (d + 0)) s m args below meth c H locs 0 0 (MQ below (QcM E L none M') args s 0 0 E.2.2.2) (F0 m 59 ls []) := by
  have hx := B.1
  have hb := B.2.1
  unfold fX11_swapAll_j59 at h
  exact r_vretW B hR hr hlk h dX11_swapAll_59
def fX11_swapAll_b2 (fu : Nat) (k2 : Int32 → Mm → Option Mm) (a0 : Nat) (x1 : Int32) (M : Mm) : Option Mm :=
  if 140 ≤ x1 then
    fX11_swapAll_j59 fu M
  else
    if ((140 * (M.1 a0 50)) + x1) < 0 ∨ 2380 ≤ ix ((140 * (M.1 a0 50)) + x1) then none else
    lt ((M.1 (a0 + 27) (ix ((140 * (M.1 a0 50)) + x1)))) fun x2_24 =>
    if x1 < 0 ∨ 140 ≤ ix x1 then none else
    lt (wI M (a0 + 27) (ix ((140 * (M.1 a0 50)) + x1)) (M.1 (a0 + 1) (ix x1))) fun M_45 =>
    lt (wI M_45 (a0 + 1) (ix x1) x2_24) fun M_52 =>
    lt (x1 + 1) fun x1_53 =>
    k2 x1_53 M_52
set_option maxRecDepth 100000 in
set_option maxHeartbeats 4000000 in
theorem wX11_swapAll_b2 {M' : Mm}   {k2 : Int32 → Mm → Option Mm} {a0 : Nat} {x1 : Int32} {M : Mm} (B : Bx p s m args c cX11_swapAll 3 RX11 E L) (hr : meth.sig.returnType = none) (hlk : meth.locks = false)  (ih2 : ∀ (x1 : Int32) (M : Mm), k2 x1 M = some M' → ∀ (H : Heap) (locs : List Loc) (ls : Array Slot), Rx s E L M H locs → lv_has ls 3 [(0, .ref a0), (1, .int x1)] → W p l e (rmD (d + 0)) s m args below meth c H locs 0 0 (MQ below (QcM E L none M') args s 0 0 E.2.2.2) (F0 m 2 ls [])) (h0 : At L a0 T11) (h : fX11_swapAll_b2 fu k2 a0 x1 M = some M') (hR : Rx s E L M H locs) (hl : lv_has ls 3 [(0, .ref a0), (1, .int x1)]) : W p l e (rmD (d + 0)) s m args below meth c H locs 0 0 (MQ below (QcM E L none M') args s 0 0 E.2.2.2) (F0 m 2 ls []) := by
  have hx := B.1
  have hb := B.2.1
  unfold fX11_swapAll_b2 at h
  refine lv_iload_n hx hb dX11_swapAll_2 rfl (lv_at hl 1 rfl) ?_
  refine lv_sipush (v := 140) hx hb dX11_swapAll_3 (by decide) ?_
  refine lv_icmp_ge (tgt := 59) hx hb dX11_swapAll_6 (by decide) (fun c_6 => ?_) (fun c_6 => ?_)
  · rw [if_pos c_6] at h
    exact wX11_swapAll_j59 B hr hlk  h hR (lv_sub hl [] rfl)
  · rw [if_neg c_6] at h
    refine lv_aload_n hx hb dX11_swapAll_9 rfl (lv_at hl 0 rfl) ?_
    refine gf_X11_95 B hR (h0.at0 rfl) dX11_swapAll_10 ?_
    refine lv_sipush (v := 140) hx hb dX11_swapAll_13 (by decide) ?_
    refine lv_aload_n hx hb dX11_swapAll_16 rfl (lv_at hl 0 rfl) ?_
    refine gf_X11_234 B hR (h0.at0 rfl) dX11_swapAll_17 ?_
    refine lv_imul hx hb dX11_swapAll_20 ?_
    refine lv_iload_n hx hb dX11_swapAll_21 rfl (lv_at hl 1 rfl) ?_
    refine lv_iadd hx hb dX11_swapAll_22 ?_
    obtain ⟨hi_23, h⟩ := ifn_el h
    refine r_iald B hR (h0.at 27 rfl) hi_23 dX11_swapAll_23 ?_
    obtain ⟨x2_24, ex2_24, h⟩ := lt_el h
    refine r_nmI ex2_24 ?_
    refine lv_istore_n (lv' := [(2, .int x2_24), (0, .ref a0), (1, .int x1)]) hx hb dX11_swapAll_24 rfl hl (by decide) rfl (fun ls hl => ?_)
    refine lv_aload_n hx hb dX11_swapAll_25 rfl (lv_at hl 1 rfl) ?_
    refine gf_X11_95 B hR (h0.at0 rfl) dX11_swapAll_26 ?_
    refine lv_sipush (v := 140) hx hb dX11_swapAll_29 (by decide) ?_
    refine lv_aload_n hx hb dX11_swapAll_32 rfl (lv_at hl 1 rfl) ?_
    refine gf_X11_234 B hR (h0.at0 rfl) dX11_swapAll_33 ?_
    refine lv_imul hx hb dX11_swapAll_36 ?_
    refine lv_iload_n hx hb dX11_swapAll_37 rfl (lv_at hl 2 rfl) ?_
    refine lv_iadd hx hb dX11_swapAll_38 ?_
    refine lv_aload_n hx hb dX11_swapAll_39 rfl (lv_at hl 1 rfl) ?_
    refine gf_X11_7 B hR (h0.at0 rfl) dX11_swapAll_40 ?_
    refine lv_iload_n hx hb dX11_swapAll_43 rfl (lv_at hl 2 rfl) ?_
    obtain ⟨hi_44, h⟩ := ifn_el h
    refine r_iald B hR (h0.at 1 rfl) hi_44 dX11_swapAll_44 ?_
    obtain ⟨M_45, eM_45, h⟩ := lt_el h
    refine r_iast B hR (h0.at 27 rfl) hi_23 dX11_swapAll_45 (fun H locs hR => ?_)
    rw [← eM_45] at hR
    refine lv_aload_n hx hb dX11_swapAll_46 rfl (lv_at hl 1 rfl) ?_
    refine gf_X11_7 B hR (h0.at0 rfl) dX11_swapAll_47 ?_
    refine lv_iload_n hx hb dX11_swapAll_50 rfl (lv_at hl 2 rfl) ?_
    refine lv_iload_n hx hb dX11_swapAll_51 rfl (lv_at hl 0 rfl) ?_
    obtain ⟨M_52, eM_52, h⟩ := lt_el h
    refine r_iast B hR (h0.at 1 rfl) hi_44 dX11_swapAll_52 (fun H locs hR => ?_)
    rw [← eM_52] at hR
    obtain ⟨x1_53, ex1_53, h⟩ := lt_el h
    refine lv_iinc (v := x1_53) (lv' := [(1, .int x1_53), (2, .int x2_24), (0, .ref a0)]) hx hb dX11_swapAll_53 hl (k := 2) rfl (by rw [ex1_53]; rfl) (by decide) rfl (fun ls hl => ?_)
    refine lv_goto (tgt := 2) hx hb dX11_swapAll_56 (by decide) ?_
    exact ih2 x1_53 M_52 h _ _ _ hR (lv_sub hl [2, 0] rfl)
def fX11_swapAll_l2 (fu : Nat) (a0 : Nat) (x1 : Int32) (M : Mm) : Option Mm := lp (fun (rec : (Int32 × Mm) → Option Mm) (s : Int32 × Mm) => fX11_swapAll_b2 fu  (fun x1 M => rec (x1, M)) a0 s.1 s.2) fu (x1, M)
set_option maxRecDepth 100000 in
set_option maxHeartbeats 4000000 in
theorem wX11_swapAll_l2 {M' : Mm}   {a0 : Nat} {x1 : Int32} {M : Mm} (B : Bx p s m args c cX11_swapAll 3 RX11 E L) (hr : meth.sig.returnType = none) (hlk : meth.locks = false)  (h0 : At L a0 T11) (h : fX11_swapAll_l2 fu a0 x1 M = some M') (hR : Rx s E L M H locs) (hl : lv_has ls 3 [(0, .ref a0), (1, .int x1)]) : W p l e (rmD (d + 0)) s m args below meth c H locs 0 0 (MQ below (QcM E L none M') args s 0 0 E.2.2.2) (F0 m 2 ls []) := by
  refine lp_G (G := fun z : Int32 × Mm => ∀ (H : Heap) (locs : List Loc) (ls : Array Slot), Rx s E L z.2 H locs → lv_has ls 3 [(0, .ref a0), (1, .int z.1)] → W p l e (rmD (d + 0)) s m args below meth c H locs 0 0 (MQ below (QcM E L none M') args s 0 0 E.2.2.2) (F0 m 2 ls [])) (fun rec ih z h H locs ls hR hl => ?_) fu _ h H locs ls hR hl
  exact wX11_swapAll_b2 B hr hlk  (fun x1 M h => ih (x1, M) h) h0 h hR hl
def fX11_swapAll (fu : Nat) (a0 : Nat) (M : Mm) : Option Mm :=
  fX11_swapAll_l2 fu a0 0 M
set_option maxRecDepth 100000 in
set_option maxHeartbeats 4000000 in
theorem mX11_swapAll {l : Launch} {E : Ge} {L : Lay} (fu d : Nat) {a0 : Nat} {M : Mm} {M' : Mm}  (h0 : At L a0 T11) (h : fX11_swapAll fu a0 M = some M') : Ct l E L yX11_swapAll cX11_swapAll 3 none (d + 0) [.ref a0] M none M' := by
  refine Ct.of (by decide) ?_
  intro p e s m below meth c hr hlk B hR
  have B : Bx p s m _ c cX11_swapAll 3 RX11 E L := B
  have hx := B.1
  have hb := B.2.1
  have hl := lv_entry ([.ref a0]) (n := 3) (Nat.le_of_ble_eq_true rfl)
  rw [lg_entry_eq]
  generalize (lg_sl ([.ref a0]) ++ List.replicate (3 - (lg_sl ([.ref a0])).length) Slot.unset).toArray = ls at hl ⊢
  have hl : lv_has ls 3 [(0, .ref a0)] := hl
  unfold fX11_swapAll at h
  refine lv_iconst (v := 0) hx hb dX11_swapAll_0 (by decide) ?_
  refine lv_istore_n (lv' := [(1, .int 0), (0, .ref a0)]) hx hb dX11_swapAll_1 rfl hl (by decide) rfl (fun ls hl => ?_)
  exact wX11_swapAll_l2 B hr hlk h0 h hR (lv_sub hl [1, 0] rfl)
def fX11_undo (fu : Nat) (a0 : Nat) (M : Mm) : Option (Int32 × Mm) :=
  if (M.1 a0 50) = 0 then
    some (0, M)
  else
    lt (wI M a0 50 ((M.1 a0 50) - 1)) fun M_16 =>
    lt (wI M_16 a0 51 ((M_16.1 a0 51) + 1)) fun M_26 =>
    bm (fX11_swapAll fu a0 M_26) fun M_30 =>
    some (1, M_30)
set_option maxRecDepth 100000 in
set_option maxHeartbeats 4000000 in
theorem mX11_undo {l : Launch} {E : Ge} {L : Lay} (fu d : Nat) {a0 : Nat} {M : Mm} {r : Int32} {M' : Mm}  (h0 : At L a0 T11) (h : fX11_undo fu a0 M = some (r, M')) : Ct l E L yX11_undo cX11_undo 1 (some .boolean) (d + 1) [.ref a0] M (some (.int r)) M' := by
  refine Ct.of (by decide) ?_
  intro p e s m below meth c hr hlk B hR
  have B : Bx p s m _ c cX11_undo 1 RX11 E L := B
  have hx := B.1
  have hb := B.2.1
  have hl := lv_entry ([.ref a0]) (n := 1) (Nat.le_of_ble_eq_true rfl)
  rw [lg_entry_eq]
  generalize (lg_sl ([.ref a0]) ++ List.replicate (1 - (lg_sl ([.ref a0])).length) Slot.unset).toArray = ls at hl ⊢
  have hl : lv_has ls 1 [(0, .ref a0)] := hl
  unfold fX11_undo at h
  refine lv_aload_n hx hb dX11_undo_0 rfl (lv_at hl 0 rfl) ?_
  refine gf_X11_234 B hR (h0.at0 rfl) dX11_undo_1 ?_
  refine lv_if_ne (tgt := 9) hx hb dX11_undo_4 (by decide) (fun c_4 => ?_) (fun c_4 => ?_)
  · rw [if_neg c_4] at h
    refine lv_aload_n hx hb dX11_undo_9 rfl (lv_at hl 0 rfl) ?_
    refine lv_dup hx hb dX11_undo_10 rfl ?_
    refine gf_X11_234 B hR (h0.at0 rfl) dX11_undo_11 ?_
    refine lv_iconst (v := 1) hx hb dX11_undo_14 (by decide) ?_
    refine lv_isub hx hb dX11_undo_15 ?_
    obtain ⟨M_16, eM_16, h⟩ := lt_el h
    refine pf_X11_234 B hR (h0.at0 rfl) dX11_undo_16 (fun H locs hR => ?_)
    rw [← eM_16] at hR
    refine lv_aload_n hx hb dX11_undo_19 rfl (lv_at hl 0 rfl) ?_
    refine lv_dup hx hb dX11_undo_20 rfl ?_
    refine gf_X11_237 B hR (h0.at0 rfl) dX11_undo_21 ?_
    refine lv_iconst (v := 1) hx hb dX11_undo_24 (by decide) ?_
    refine lv_iadd hx hb dX11_undo_25 ?_
    obtain ⟨M_26, eM_26, h⟩ := lt_el h
    refine pf_X11_237 B hR (h0.at0 rfl) dX11_undo_26 (fun H locs hR => ?_)
    rw [← eM_26] at hR
    refine lv_aload_n hx hb dX11_undo_29 rfl (lv_at hl 0 rfl) ?_
    obtain ⟨M_30, hc_30, h⟩ := bm_el h
    refine iv_X11_490 B hR (h0.at0 rfl) hl.1 (mX11_swapAll fu _ h0 hc_30) (Nat.le_of_ble_eq_true rfl) dX11_undo_30 (fun H locs hR => ?_)
    refine lv_iconst (v := 1) hx hb dX11_undo_33 (by decide) ?_
    exact r_zretW B hR hr hlk (Or.inr rfl) h dX11_undo_34
  · rw [if_pos c_4] at h
    refine lv_iconst (v := 0) hx hb dX11_undo_7 (by decide) ?_
    exact r_zretW B hR hr hlk (Or.inl rfl) h dX11_undo_8
def fX11_redo (fu : Nat) (a0 : Nat) (M : Mm) : Option (Int32 × Mm) :=
  if (M.1 a0 51) = 0 then
    some (0, M)
  else
    bm (fX11_swapAll fu a0 M) fun M_10 =>
    lt (wI M_10 a0 50 ((M_10.1 a0 50) + 1)) fun M_20 =>
    lt (wI M_20 a0 51 ((M_20.1 a0 51) - 1)) fun M_30 =>
    some (1, M_30)
set_option maxRecDepth 100000 in
set_option maxHeartbeats 4000000 in
theorem mX11_redo {l : Launch} {E : Ge} {L : Lay} (fu d : Nat) {a0 : Nat} {M : Mm} {r : Int32} {M' : Mm}  (h0 : At L a0 T11) (h : fX11_redo fu a0 M = some (r, M')) : Ct l E L yX11_redo cX11_redo 1 (some .boolean) (d + 1) [.ref a0] M (some (.int r)) M' := by
  refine Ct.of (by decide) ?_
  intro p e s m below meth c hr hlk B hR
  have B : Bx p s m _ c cX11_redo 1 RX11 E L := B
  have hx := B.1
  have hb := B.2.1
  have hl := lv_entry ([.ref a0]) (n := 1) (Nat.le_of_ble_eq_true rfl)
  rw [lg_entry_eq]
  generalize (lg_sl ([.ref a0]) ++ List.replicate (1 - (lg_sl ([.ref a0])).length) Slot.unset).toArray = ls at hl ⊢
  have hl : lv_has ls 1 [(0, .ref a0)] := hl
  unfold fX11_redo at h
  refine lv_aload_n hx hb dX11_redo_0 rfl (lv_at hl 0 rfl) ?_
  refine gf_X11_237 B hR (h0.at0 rfl) dX11_redo_1 ?_
  refine lv_if_ne (tgt := 9) hx hb dX11_redo_4 (by decide) (fun c_4 => ?_) (fun c_4 => ?_)
  · rw [if_neg c_4] at h
    refine lv_aload_n hx hb dX11_redo_9 rfl (lv_at hl 0 rfl) ?_
    obtain ⟨M_10, hc_10, h⟩ := bm_el h
    refine iv_X11_490 B hR (h0.at0 rfl) hl.1 (mX11_swapAll fu _ h0 hc_10) (Nat.le_of_ble_eq_true rfl) dX11_redo_10 (fun H locs hR => ?_)
    refine lv_aload_n hx hb dX11_redo_13 rfl (lv_at hl 0 rfl) ?_
    refine lv_dup hx hb dX11_redo_14 rfl ?_
    refine gf_X11_234 B hR (h0.at0 rfl) dX11_redo_15 ?_
    refine lv_iconst (v := 1) hx hb dX11_redo_18 (by decide) ?_
    refine lv_iadd hx hb dX11_redo_19 ?_
    obtain ⟨M_20, eM_20, h⟩ := lt_el h
    refine pf_X11_234 B hR (h0.at0 rfl) dX11_redo_20 (fun H locs hR => ?_)
    rw [← eM_20] at hR
    refine lv_aload_n hx hb dX11_redo_23 rfl (lv_at hl 0 rfl) ?_
    refine lv_dup hx hb dX11_redo_24 rfl ?_
    refine gf_X11_237 B hR (h0.at0 rfl) dX11_redo_25 ?_
    refine lv_iconst (v := 1) hx hb dX11_redo_28 (by decide) ?_
    refine lv_isub hx hb dX11_redo_29 ?_
    obtain ⟨M_30, eM_30, h⟩ := lt_el h
    refine pf_X11_237 B hR (h0.at0 rfl) dX11_redo_30 (fun H locs hR => ?_)
    rw [← eM_30] at hR
    refine lv_iconst (v := 1) hx hb dX11_redo_33 (by decide) ?_
    exact r_zretW B hR hr hlk (Or.inr rfl) h dX11_redo_34
  · rw [if_pos c_4] at h
    refine lv_iconst (v := 0) hx hb dX11_redo_7 (by decide) ?_
    exact r_zretW B hR hr hlk (Or.inl rfl) h dX11_redo_8
def fX11_image_j44 (fu : Nat) (a0 : Nat) (x1 : Int32) (M : Mm) : Option (Int32 × Mm) :=
  if x1 < 0 ∨ 2 ≤ ix x1 then none else
  lt (wI M (a0 + 29) (ix x1) (vp_nar .boolean 1)) fun M_50 =>
  some ((M_50.1 (a0 + 1) (ix 1)), M_50)
set_option maxRecDepth 100000 in
set_option maxHeartbeats 4000000 in
theorem wX11_image_j44 {r : Int32} {M' : Mm}   {a0 : Nat} {x1 : Int32} {M : Mm} (B : Bx p s m args c cX11_image 3 RX11 E L) (hr : meth.sig.returnType = (some .int)) (hlk : meth.locks = false)  (h0 : At L a0 T11) (h : fX11_image_j44 fu a0 x1 M = some (r, M')) (hR : Rx s E L M H locs) (hl : lv_has ls 3 [(0, .ref a0), (1, .int x1)]) : W p l e (rmD (d + 1)) s m args below meth c H locs 0 0 (MQ below (QcM E L (some (.int r)) M') args s 0 0 E.2.2.2) (F0 m 44 ls []) := by
  have hx := B.1
  have hb := B.2.1
  unfold fX11_image_j44 at h
  refine lv_aload_n hx hb dX11_image_44 rfl (lv_at hl 0 rfl) ?_
  refine gf_X11_101 B hR (h0.at0 rfl) dX11_image_45 ?_
  refine lv_iload_n hx hb dX11_image_48 rfl (lv_at hl 1 rfl) ?_
  refine lv_iconst (v := 1) hx hb dX11_image_49 (by decide) ?_
  obtain ⟨hi_50, h⟩ := ifn_el h
  obtain ⟨M_50, eM_50, h⟩ := lt_el h
  refine r_zast B hR (h0.at 29 rfl) hi_50 dX11_image_50 (fun H locs hR => ?_)
  rw [← eM_50] at hR
  refine lv_aload_n hx hb dX11_image_51 rfl (lv_at hl 0 rfl) ?_
  refine gf_X11_7 B hR (h0.at0 rfl) dX11_image_52 ?_
  refine lv_iconst (v := 1) hx hb dX11_image_55 (by decide) ?_
  refine r_iald B hR (h0.at 1 rfl) (by decide +kernel) dX11_image_56 ?_
  exact r_iretW B hR hr hlk h dX11_image_57
def fX11_image_b13 (fu : Nat) (k13 : Int32 → Mm → Option (Int32 × Mm)) (a0 : Nat) (x1 : Int32) (x2 : Int32) (M : Mm) : Option (Int32 × Mm) :=
  if 140 ≤ x2 then
    fX11_image_j44 fu a0 x1 M
  else
    if x2 < 0 ∨ 140 ≤ ix x2 then none else
    if ((140 * x1) + x2) < 0 ∨ 280 ≤ ix ((140 * x1) + x2) then none else
    lt (wI M (a0 + 28) (ix ((140 * x1) + x2)) (M.1 (a0 + 1) (ix x2))) fun M_37 =>
    lt (x2 + 1) fun x2_38 =>
    k13 x2_38 M_37
set_option maxRecDepth 100000 in
set_option maxHeartbeats 4000000 in
theorem wX11_image_b13 {r : Int32} {M' : Mm}   {k13 : Int32 → Mm → Option (Int32 × Mm)} {a0 : Nat} {x1 : Int32} {x2 : Int32} {M : Mm} (B : Bx p s m args c cX11_image 3 RX11 E L) (hr : meth.sig.returnType = (some .int)) (hlk : meth.locks = false)  (ih13 : ∀ (x2 : Int32) (M : Mm), k13 x2 M = some (r, M') → ∀ (H : Heap) (locs : List Loc) (ls : Array Slot), Rx s E L M H locs → lv_has ls 3 [(0, .ref a0), (1, .int x1), (2, .int x2)] → W p l e (rmD (d + 1)) s m args below meth c H locs 0 0 (MQ below (QcM E L (some (.int r)) M') args s 0 0 E.2.2.2) (F0 m 13 ls [])) (h0 : At L a0 T11) (h : fX11_image_b13 fu k13 a0 x1 x2 M = some (r, M')) (hR : Rx s E L M H locs) (hl : lv_has ls 3 [(0, .ref a0), (1, .int x1), (2, .int x2)]) : W p l e (rmD (d + 1)) s m args below meth c H locs 0 0 (MQ below (QcM E L (some (.int r)) M') args s 0 0 E.2.2.2) (F0 m 13 ls []) := by
  have hx := B.1
  have hb := B.2.1
  unfold fX11_image_b13 at h
  refine lv_iload_n hx hb dX11_image_13 rfl (lv_at hl 2 rfl) ?_
  refine lv_sipush (v := 140) hx hb dX11_image_14 (by decide) ?_
  refine lv_icmp_ge (tgt := 44) hx hb dX11_image_17 (by decide) (fun c_17 => ?_) (fun c_17 => ?_)
  · rw [if_pos c_17] at h
    exact wX11_image_j44 B hr hlk h0 h hR (lv_sub hl [0, 1] rfl)
  · rw [if_neg c_17] at h
    refine lv_aload_n hx hb dX11_image_20 rfl (lv_at hl 0 rfl) ?_
    refine gf_X11_98 B hR (h0.at0 rfl) dX11_image_21 ?_
    refine lv_sipush (v := 140) hx hb dX11_image_24 (by decide) ?_
    refine lv_iload_n hx hb dX11_image_27 rfl (lv_at hl 1 rfl) ?_
    refine lv_imul hx hb dX11_image_28 ?_
    refine lv_iload_n hx hb dX11_image_29 rfl (lv_at hl 2 rfl) ?_
    refine lv_iadd hx hb dX11_image_30 ?_
    refine lv_aload_n hx hb dX11_image_31 rfl (lv_at hl 0 rfl) ?_
    refine gf_X11_7 B hR (h0.at0 rfl) dX11_image_32 ?_
    refine lv_iload_n hx hb dX11_image_35 rfl (lv_at hl 2 rfl) ?_
    obtain ⟨hi_36, h⟩ := ifn_el h
    refine r_iald B hR (h0.at 1 rfl) hi_36 dX11_image_36 ?_
    obtain ⟨hi_37, h⟩ := ifn_el h
    obtain ⟨M_37, eM_37, h⟩ := lt_el h
    refine r_iast B hR (h0.at 28 rfl) hi_37 dX11_image_37 (fun H locs hR => ?_)
    rw [← eM_37] at hR
    obtain ⟨x2_38, ex2_38, h⟩ := lt_el h
    refine lv_iinc (v := x2_38) (lv' := [(2, .int x2_38), (0, .ref a0), (1, .int x1)]) hx hb dX11_image_38 hl (k := 2) rfl (by rw [ex2_38]; rfl) (by decide) rfl (fun ls hl => ?_)
    refine lv_goto (tgt := 13) hx hb dX11_image_41 (by decide) ?_
    exact ih13 x2_38 M_37 h _ _ _ hR (lv_sub hl [1, 2, 0] rfl)
def fX11_image_l13 (fu : Nat) (a0 : Nat) (x1 : Int32) (x2 : Int32) (M : Mm) : Option (Int32 × Mm) := lp (fun (rec : (Int32 × Mm) → Option (Int32 × Mm)) (s : Int32 × Mm) => fX11_image_b13 fu  (fun x2 M => rec (x2, M)) a0 x1 s.1 s.2) fu (x2, M)
set_option maxRecDepth 100000 in
set_option maxHeartbeats 4000000 in
theorem wX11_image_l13 {r : Int32} {M' : Mm}   {a0 : Nat} {x1 : Int32} {x2 : Int32} {M : Mm} (B : Bx p s m args c cX11_image 3 RX11 E L) (hr : meth.sig.returnType = (some .int)) (hlk : meth.locks = false)  (h0 : At L a0 T11) (h : fX11_image_l13 fu a0 x1 x2 M = some (r, M')) (hR : Rx s E L M H locs) (hl : lv_has ls 3 [(0, .ref a0), (1, .int x1), (2, .int x2)]) : W p l e (rmD (d + 1)) s m args below meth c H locs 0 0 (MQ below (QcM E L (some (.int r)) M') args s 0 0 E.2.2.2) (F0 m 13 ls []) := by
  refine lp_G (G := fun z : Int32 × Mm => ∀ (H : Heap) (locs : List Loc) (ls : Array Slot), Rx s E L z.2 H locs → lv_has ls 3 [(0, .ref a0), (1, .int x1), (2, .int z.1)] → W p l e (rmD (d + 1)) s m args below meth c H locs 0 0 (MQ below (QcM E L (some (.int r)) M') args s 0 0 E.2.2.2) (F0 m 13 ls [])) (fun rec ih z h H locs ls hR hl => ?_) fu _ h H locs ls hR hl
  exact wX11_image_b13 B hr hlk  (fun x2 M h => ih (x2, M) h) h0 h hR hl
def fX11_image (fu : Nat) (a0 : Nat) (x1 : Int32) (M : Mm) : Option (Int32 × Mm) :=
  bi (fX11_isIn fu x1 0 1) fun r_3 =>
  if r_3 = 0 then
    some ((-1), M)
  else
    fX11_image_l13 fu a0 x1 0 M
set_option maxRecDepth 100000 in
set_option maxHeartbeats 4000000 in
theorem mX11_image {l : Launch} {E : Ge} {L : Lay} (fu d : Nat) {a0 : Nat} {x1 : Int32} {M : Mm} {r : Int32} {M' : Mm}  (h0 : At L a0 T11) (h : fX11_image fu a0 x1 M = some (r, M')) : Ct l E L yX11_image cX11_image 3 (some .int) (d + 1) [.ref a0, .int x1] M (some (.int r)) M' := by
  refine Ct.of (by decide) ?_
  intro p e s m below meth c hr hlk B hR
  have B : Bx p s m _ c cX11_image 3 RX11 E L := B
  have hx := B.1
  have hb := B.2.1
  have hl := lv_entry ([.ref a0, .int x1]) (n := 3) (Nat.le_of_ble_eq_true rfl)
  rw [lg_entry_eq]
  generalize (lg_sl ([.ref a0, .int x1]) ++ List.replicate (3 - (lg_sl ([.ref a0, .int x1])).length) Slot.unset).toArray = ls at hl ⊢
  have hl : lv_has ls 3 [(0, .ref a0), (1, .int x1)] := hl
  unfold fX11_image at h
  refine lv_iload_n hx hb dX11_image_0 rfl (lv_at hl 1 rfl) ?_
  refine lv_iconst (v := 0) hx hb dX11_image_1 (by decide) ?_
  refine lv_iconst (v := 1) hx hb dX11_image_2 (by decide) ?_
  obtain ⟨r_3, hc_3, h⟩ := bi_el h
  refine is_X11_163 B hR hl.1 (mX11_isIn fu _  hc_3) (Nat.le_of_ble_eq_true rfl) dX11_image_3 (fun H locs hR => ?_)
  refine lv_if_ne (tgt := 11) hx hb dX11_image_6 (by decide) (fun c_6 => ?_) (fun c_6 => ?_)
  · rw [if_neg c_6] at h
    refine lv_iconst (v := 0) hx hb dX11_image_11 (by decide) ?_
    refine lv_istore_n (lv' := [(2, .int 0), (0, .ref a0), (1, .int x1)]) hx hb dX11_image_12 rfl hl (by decide) rfl (fun ls hl => ?_)
    exact wX11_image_l13 B hr hlk h0 h hR (lv_sub hl [1, 2, 0] rfl)
  · rw [if_pos c_6] at h
    refine lv_iconst (v := (-1)) hx hb dX11_image_9 (by decide) ?_
    exact r_iretW B hR hr hlk h dX11_image_10
def fX11_back_j18 (fu : Nat) (M : Mm) : Option (Int32 × Mm) :=
  some ((-1), M)
set_option maxRecDepth 100000 in
set_option maxHeartbeats 4000000 in
theorem wX11_back_j18 {r : Int32} {M' : Mm}    {M : Mm} (B : Bx p s m args c cX11_back 3 RX11 E L) (hr : meth.sig.returnType = (some .int)) (hlk : meth.locks = false)   (h : fX11_back_j18 fu M = some (r, M')) (hR : Rx s E L M H locs) (hl : lv_has ls 3 []) : W p l e (rmD (d + 1)) s m args below meth c H locs 0 0 (MQ below (QcM E L (some (.int r)) M') args s 0 0 E.2.2.2) (F0 m 18 ls []) := by
  have hx := B.1
  have hb := B.2.1
  unfold fX11_back_j18 at h
  refine lv_iconst (v := (-1)) hx hb dX11_back_18 (by decide) ?_
  exact r_iretW B hR hr hlk h dX11_back_19
def fX11_back_j53 (fu : Nat) (a0 : Nat) (M : Mm) : Option (Int32 × Mm) :=
  lt (wI M a0 50 0) fun M_55 =>
  lt (wI M_55 a0 51 0) fun M_60 =>
  some ((M_60.1 (a0 + 1) (ix 1)), M_60)
set_option maxRecDepth 100000 in
set_option maxHeartbeats 4000000 in
theorem wX11_back_j53 {r : Int32} {M' : Mm}   {a0 : Nat} {M : Mm} (B : Bx p s m args c cX11_back 3 RX11 E L) (hr : meth.sig.returnType = (some .int)) (hlk : meth.locks = false)  (h0 : At L a0 T11) (h : fX11_back_j53 fu a0 M = some (r, M')) (hR : Rx s E L M H locs) (hl : lv_has ls 3 [(0, .ref a0)]) : W p l e (rmD (d + 1)) s m args below meth c H locs 0 0 (MQ below (QcM E L (some (.int r)) M') args s 0 0 E.2.2.2) (F0 m 53 ls []) := by
  have hx := B.1
  have hb := B.2.1
  unfold fX11_back_j53 at h
  refine lv_aload_n hx hb dX11_back_53 rfl (lv_at hl 0 rfl) ?_
  refine lv_iconst (v := 0) hx hb dX11_back_54 (by decide) ?_
  obtain ⟨M_55, eM_55, h⟩ := lt_el h
  refine pf_X11_234 B hR (h0.at0 rfl) dX11_back_55 (fun H locs hR => ?_)
  rw [← eM_55] at hR
  refine lv_aload_n hx hb dX11_back_58 rfl (lv_at hl 0 rfl) ?_
  refine lv_iconst (v := 0) hx hb dX11_back_59 (by decide) ?_
  obtain ⟨M_60, eM_60, h⟩ := lt_el h
  refine pf_X11_237 B hR (h0.at0 rfl) dX11_back_60 (fun H locs hR => ?_)
  rw [← eM_60] at hR
  refine lv_aload_n hx hb dX11_back_63 rfl (lv_at hl 0 rfl) ?_
  refine gf_X11_7 B hR (h0.at0 rfl) dX11_back_64 ?_
  refine lv_iconst (v := 1) hx hb dX11_back_67 (by decide) ?_
  refine r_iald B hR (h0.at 1 rfl) (by decide +kernel) dX11_back_68 ?_
  exact r_iretW B hR hr hlk h dX11_back_69
def fX11_back_b22 (fu : Nat) (k22 : Int32 → Mm → Option (Int32 × Mm)) (a0 : Nat) (x1 : Int32) (x2 : Int32) (M : Mm) : Option (Int32 × Mm) :=
  if 140 ≤ x2 then
    fX11_back_j53 fu a0 M
  else
    if ((140 * x1) + x2) < 0 ∨ 280 ≤ ix ((140 * x1) + x2) then none else
    if x2 < 0 ∨ 140 ≤ ix x2 then none else
    lt (wI M (a0 + 1) (ix x2) (M.1 (a0 + 28) (ix ((140 * x1) + x2)))) fun M_46 =>
    lt (x2 + 1) fun x2_47 =>
    k22 x2_47 M_46
set_option maxRecDepth 100000 in
set_option maxHeartbeats 4000000 in
theorem wX11_back_b22 {r : Int32} {M' : Mm}   {k22 : Int32 → Mm → Option (Int32 × Mm)} {a0 : Nat} {x1 : Int32} {x2 : Int32} {M : Mm} (B : Bx p s m args c cX11_back 3 RX11 E L) (hr : meth.sig.returnType = (some .int)) (hlk : meth.locks = false)  (ih22 : ∀ (x2 : Int32) (M : Mm), k22 x2 M = some (r, M') → ∀ (H : Heap) (locs : List Loc) (ls : Array Slot), Rx s E L M H locs → lv_has ls 3 [(0, .ref a0), (1, .int x1), (2, .int x2)] → W p l e (rmD (d + 1)) s m args below meth c H locs 0 0 (MQ below (QcM E L (some (.int r)) M') args s 0 0 E.2.2.2) (F0 m 22 ls [])) (h0 : At L a0 T11) (h : fX11_back_b22 fu k22 a0 x1 x2 M = some (r, M')) (hR : Rx s E L M H locs) (hl : lv_has ls 3 [(0, .ref a0), (1, .int x1), (2, .int x2)]) : W p l e (rmD (d + 1)) s m args below meth c H locs 0 0 (MQ below (QcM E L (some (.int r)) M') args s 0 0 E.2.2.2) (F0 m 22 ls []) := by
  have hx := B.1
  have hb := B.2.1
  unfold fX11_back_b22 at h
  refine lv_iload_n hx hb dX11_back_22 rfl (lv_at hl 2 rfl) ?_
  refine lv_sipush (v := 140) hx hb dX11_back_23 (by decide) ?_
  refine lv_icmp_ge (tgt := 53) hx hb dX11_back_26 (by decide) (fun c_26 => ?_) (fun c_26 => ?_)
  · rw [if_pos c_26] at h
    exact wX11_back_j53 B hr hlk h0 h hR (lv_sub hl [0] rfl)
  · rw [if_neg c_26] at h
    refine lv_aload_n hx hb dX11_back_29 rfl (lv_at hl 0 rfl) ?_
    refine gf_X11_7 B hR (h0.at0 rfl) dX11_back_30 ?_
    refine lv_iload_n hx hb dX11_back_33 rfl (lv_at hl 2 rfl) ?_
    refine lv_aload_n hx hb dX11_back_34 rfl (lv_at hl 0 rfl) ?_
    refine gf_X11_98 B hR (h0.at0 rfl) dX11_back_35 ?_
    refine lv_sipush (v := 140) hx hb dX11_back_38 (by decide) ?_
    refine lv_iload_n hx hb dX11_back_41 rfl (lv_at hl 1 rfl) ?_
    refine lv_imul hx hb dX11_back_42 ?_
    refine lv_iload_n hx hb dX11_back_43 rfl (lv_at hl 2 rfl) ?_
    refine lv_iadd hx hb dX11_back_44 ?_
    obtain ⟨hi_45, h⟩ := ifn_el h
    refine r_iald B hR (h0.at 28 rfl) hi_45 dX11_back_45 ?_
    obtain ⟨hi_46, h⟩ := ifn_el h
    obtain ⟨M_46, eM_46, h⟩ := lt_el h
    refine r_iast B hR (h0.at 1 rfl) hi_46 dX11_back_46 (fun H locs hR => ?_)
    rw [← eM_46] at hR
    obtain ⟨x2_47, ex2_47, h⟩ := lt_el h
    refine lv_iinc (v := x2_47) (lv' := [(2, .int x2_47), (0, .ref a0), (1, .int x1)]) hx hb dX11_back_47 hl (k := 2) rfl (by rw [ex2_47]; rfl) (by decide) rfl (fun ls hl => ?_)
    refine lv_goto (tgt := 22) hx hb dX11_back_50 (by decide) ?_
    exact ih22 x2_47 M_46 h _ _ _ hR (lv_sub hl [1, 2, 0] rfl)
def fX11_back_l22 (fu : Nat) (a0 : Nat) (x1 : Int32) (x2 : Int32) (M : Mm) : Option (Int32 × Mm) := lp (fun (rec : (Int32 × Mm) → Option (Int32 × Mm)) (s : Int32 × Mm) => fX11_back_b22 fu  (fun x2 M => rec (x2, M)) a0 x1 s.1 s.2) fu (x2, M)
set_option maxRecDepth 100000 in
set_option maxHeartbeats 4000000 in
theorem wX11_back_l22 {r : Int32} {M' : Mm}   {a0 : Nat} {x1 : Int32} {x2 : Int32} {M : Mm} (B : Bx p s m args c cX11_back 3 RX11 E L) (hr : meth.sig.returnType = (some .int)) (hlk : meth.locks = false)  (h0 : At L a0 T11) (h : fX11_back_l22 fu a0 x1 x2 M = some (r, M')) (hR : Rx s E L M H locs) (hl : lv_has ls 3 [(0, .ref a0), (1, .int x1), (2, .int x2)]) : W p l e (rmD (d + 1)) s m args below meth c H locs 0 0 (MQ below (QcM E L (some (.int r)) M') args s 0 0 E.2.2.2) (F0 m 22 ls []) := by
  refine lp_G (G := fun z : Int32 × Mm => ∀ (H : Heap) (locs : List Loc) (ls : Array Slot), Rx s E L z.2 H locs → lv_has ls 3 [(0, .ref a0), (1, .int x1), (2, .int z.1)] → W p l e (rmD (d + 1)) s m args below meth c H locs 0 0 (MQ below (QcM E L (some (.int r)) M') args s 0 0 E.2.2.2) (F0 m 22 ls [])) (fun rec ih z h H locs ls hR hl => ?_) fu _ h H locs ls hR hl
  exact wX11_back_b22 B hr hlk  (fun x2 M h => ih (x2, M) h) h0 h hR hl
def fX11_back (fu : Nat) (a0 : Nat) (x1 : Int32) (M : Mm) : Option (Int32 × Mm) :=
  bi (fX11_isIn fu x1 0 1) fun r_3 =>
  if r_3 = 0 then
    fX11_back_j18 fu M
  else
    if x1 < 0 ∨ 2 ≤ ix x1 then none else
    if (M.1 (a0 + 29) (ix x1)) = 0 then
      fX11_back_j18 fu M
    else
      fX11_back_l22 fu a0 x1 0 M
set_option maxRecDepth 100000 in
set_option maxHeartbeats 4000000 in
theorem mX11_back {l : Launch} {E : Ge} {L : Lay} (fu d : Nat) {a0 : Nat} {x1 : Int32} {M : Mm} {r : Int32} {M' : Mm}  (h0 : At L a0 T11) (h : fX11_back fu a0 x1 M = some (r, M')) : Ct l E L yX11_back cX11_back 3 (some .int) (d + 1) [.ref a0, .int x1] M (some (.int r)) M' := by
  refine Ct.of (by decide) ?_
  intro p e s m below meth c hr hlk B hR
  have B : Bx p s m _ c cX11_back 3 RX11 E L := B
  have hx := B.1
  have hb := B.2.1
  have hl := lv_entry ([.ref a0, .int x1]) (n := 3) (Nat.le_of_ble_eq_true rfl)
  rw [lg_entry_eq]
  generalize (lg_sl ([.ref a0, .int x1]) ++ List.replicate (3 - (lg_sl ([.ref a0, .int x1])).length) Slot.unset).toArray = ls at hl ⊢
  have hl : lv_has ls 3 [(0, .ref a0), (1, .int x1)] := hl
  unfold fX11_back at h
  refine lv_iload_n hx hb dX11_back_0 rfl (lv_at hl 1 rfl) ?_
  refine lv_iconst (v := 0) hx hb dX11_back_1 (by decide) ?_
  refine lv_iconst (v := 1) hx hb dX11_back_2 (by decide) ?_
  obtain ⟨r_3, hc_3, h⟩ := bi_el h
  refine is_X11_163 B hR hl.1 (mX11_isIn fu _  hc_3) (Nat.le_of_ble_eq_true rfl) dX11_back_3 (fun H locs hR => ?_)
  refine lv_if_eq (tgt := 18) hx hb dX11_back_6 (by decide) (fun c_6 => ?_) (fun c_6 => ?_)
  · rw [if_pos c_6] at h
    exact wX11_back_j18 B hr hlk  h hR (lv_sub hl [] rfl)
  · rw [if_neg c_6] at h
    refine lv_aload_n hx hb dX11_back_9 rfl (lv_at hl 0 rfl) ?_
    refine gf_X11_101 B hR (h0.at0 rfl) dX11_back_10 ?_
    refine lv_iload_n hx hb dX11_back_13 rfl (lv_at hl 1 rfl) ?_
    obtain ⟨hi_14, h⟩ := ifn_el h
    refine r_zald B hR (h0.at 29 rfl) hi_14 dX11_back_14 ?_
    refine lv_if_ne (tgt := 20) hx hb dX11_back_15 (by decide) (fun c_15 => ?_) (fun c_15 => ?_)
    · rw [if_neg c_15] at h
      refine lv_iconst (v := 0) hx hb dX11_back_20 (by decide) ?_
      refine lv_istore_n (lv' := [(2, .int 0), (0, .ref a0), (1, .int x1)]) hx hb dX11_back_21 rfl hl (by decide) rfl (fun ls hl => ?_)
      exact wX11_back_l22 B hr hlk h0 h hR (lv_sub hl [1, 2, 0] rfl)
    · rw [if_pos c_15] at h
      exact wX11_back_j18 B hr hlk  h hR (lv_sub hl [] rfl)
def fX11_setMany_j34 (fu : Nat) (x1 : Int32) (M : Mm) : Option Int32 :=
  some x1
set_option maxRecDepth 100000 in
set_option maxHeartbeats 4000000 in
theorem wX11_setMany_j34 {r : Int32}   {x1 : Int32} {M : Mm} (B : Bx p s m args c cX11_setMany 3 RX11 E L) (hr : meth.sig.returnType = (some .int)) (hlk : meth.locks = false)   (h : fX11_setMany_j34 fu x1 M = some r) (hR : Rx s E L M H locs) (hl : lv_has ls 3 [(1, .int x1)]) : W p l e (rmD (d + 1)) s m args below meth c H locs 0 0 (MQ below (QcM E L (some (.int r)) M) args s 0 0 E.2.2.2) (F0 m 34 ls []) := by
  have hx := B.1
  have hb := B.2.1
  unfold fX11_setMany_j34 at h
  refine lv_iload_n hx hb dX11_setMany_34 rfl (lv_at hl 0 rfl) ?_
  exact r_iretP B hR hr hlk h dX11_setMany_35
def fX11_setMany_j26 (fu : Nat) (k4 : Int32 → Int32 → Option Int32) (a0 : Nat) (x2 : Int32) (t0 : Int32) (t1 : Int32) (M : Mm) : Option Int32 :=
  lt ((t0 + t1)) fun x1_27 =>
  lt (x2 + 1) fun x2_28 =>
  k4 x1_27 x2_28
set_option maxRecDepth 100000 in
set_option maxHeartbeats 4000000 in
theorem wX11_setMany_j26 {r : Int32}  {k4 : Int32 → Int32 → Option Int32} {a0 : Nat} {x2 : Int32} {t0 : Int32} {t1 : Int32} {M : Mm} (B : Bx p s m args c cX11_setMany 3 RX11 E L) (hr : meth.sig.returnType = (some .int)) (hlk : meth.locks = false) (ih4 : ∀ (x1 : Int32) (x2 : Int32), k4 x1 x2 = some r → ∀ (H : Heap) (locs : List Loc) (ls : Array Slot), Rx s E L M H locs → lv_has ls 3 [(0, .ref a0), (1, .int x1), (2, .int x2)] → W p l e (rmD (d + 1)) s m args below meth c H locs 0 0 (MQ below (QcM E L (some (.int r)) M) args s 0 0 E.2.2.2) (F0 m 4 ls [])) (h0 : At L a0 T11) (h : fX11_setMany_j26 fu k4 a0 x2 t0 t1 M = some r) (hR : Rx s E L M H locs) (hl : lv_has ls 3 [(0, .ref a0), (2, .int x2)]) : W p l e (rmD (d + 1)) s m args below meth c H locs 0 0 (MQ below (QcM E L (some (.int r)) M) args s 0 0 E.2.2.2) (F0 m 26 ls [.int t1, .int t0]) := by
  have hx := B.1
  have hb := B.2.1
  unfold fX11_setMany_j26 at h
  refine lv_iadd hx hb dX11_setMany_26 ?_
  obtain ⟨x1_27, ex1_27, h⟩ := lt_el h
  refine r_nmI ex1_27 ?_
  refine lv_istore_n (lv' := [(1, .int x1_27), (0, .ref a0), (2, .int x2)]) hx hb dX11_setMany_27 rfl hl (by decide) rfl (fun ls hl => ?_)
  obtain ⟨x2_28, ex2_28, h⟩ := lt_el h
  refine lv_iinc (v := x2_28) (lv' := [(2, .int x2_28), (1, .int x1_27), (0, .ref a0)]) hx hb dX11_setMany_28 hl (k := 2) rfl (by rw [ex2_28]; rfl) (by decide) rfl (fun ls hl => ?_)
  refine lv_goto (tgt := 4) hx hb dX11_setMany_31 (by decide) ?_
  exact ih4 x1_27 x2_28 h _ _ _ hR (lv_sub hl [2, 1, 0] rfl)
def fX11_setMany_b4 (fu : Nat) (k4 : Int32 → Int32 → Option Int32) (a0 : Nat) (x1 : Int32) (x2 : Int32) (M : Mm) : Option Int32 :=
  bi (fX11_registersNow fu a0 M) fun r_6 =>
  if r_6 ≤ x2 then
    fX11_setMany_j34 fu x1 M
  else
    bi (fX11_sizeOf fu a0 x2 M) fun r_15 =>
    if r_15 ≤ 0 then
      fX11_setMany_j26 fu k4 a0 x2 x1 0 M
    else
      fX11_setMany_j26 fu k4 a0 x2 x1 1 M
set_option maxRecDepth 100000 in
set_option maxHeartbeats 4000000 in
theorem wX11_setMany_b4 {r : Int32}   {k4 : Int32 → Int32 → Option Int32} {a0 : Nat} {x1 : Int32} {x2 : Int32} {M : Mm} (B : Bx p s m args c cX11_setMany 3 RX11 E L) (hr : meth.sig.returnType = (some .int)) (hlk : meth.locks = false)  (ih4 : ∀ (x1 : Int32) (x2 : Int32), k4 x1 x2 = some r → ∀ (H : Heap) (locs : List Loc) (ls : Array Slot), Rx s E L M H locs → lv_has ls 3 [(0, .ref a0), (1, .int x1), (2, .int x2)] → W p l e (rmD (d + 1)) s m args below meth c H locs 0 0 (MQ below (QcM E L (some (.int r)) M) args s 0 0 E.2.2.2) (F0 m 4 ls [])) (h0 : At L a0 T11) (h : fX11_setMany_b4 fu k4 a0 x1 x2 M = some r) (hR : Rx s E L M H locs) (hl : lv_has ls 3 [(0, .ref a0), (1, .int x1), (2, .int x2)]) : W p l e (rmD (d + 1)) s m args below meth c H locs 0 0 (MQ below (QcM E L (some (.int r)) M) args s 0 0 E.2.2.2) (F0 m 4 ls []) := by
  have hx := B.1
  have hb := B.2.1
  unfold fX11_setMany_b4 at h
  refine lv_iload_n hx hb dX11_setMany_4 rfl (lv_at hl 2 rfl) ?_
  refine lv_aload_n hx hb dX11_setMany_5 rfl (lv_at hl 0 rfl) ?_
  obtain ⟨r_6, hc_6, h⟩ := bi_el h
  refine iv_X11_243 B hR (h0.at0 rfl) hl.1 (mX11_registersNow fu _ h0 hc_6) (Nat.le_of_ble_eq_true rfl) dX11_setMany_6 (fun H locs hR => ?_)
  refine lv_icmp_ge (tgt := 34) hx hb dX11_setMany_9 (by decide) (fun c_9 => ?_) (fun c_9 => ?_)
  · rw [if_pos c_9] at h
    exact wX11_setMany_j34 B hr hlk  h hR (lv_sub hl [1] rfl)
  · rw [if_neg c_9] at h
    refine lv_iload_n hx hb dX11_setMany_12 rfl (lv_at hl 1 rfl) ?_
    refine lv_aload_n hx hb dX11_setMany_13 rfl (lv_at hl 0 rfl) ?_
    refine lv_iload_n hx hb dX11_setMany_14 rfl (lv_at hl 2 rfl) ?_
    obtain ⟨r_15, hc_15, h⟩ := bi_el h
    refine iv_X11_249 B hR (h0.at0 rfl) hl.1 (mX11_sizeOf fu _ h0 hc_15) (Nat.le_of_ble_eq_true rfl) dX11_setMany_15 (fun H locs hR => ?_)
    refine lv_if_le (tgt := 25) hx hb dX11_setMany_18 (by decide) (fun c_18 => ?_) (fun c_18 => ?_)
    · rw [if_pos c_18] at h
      refine lv_iconst (v := 0) hx hb dX11_setMany_25 (by decide) ?_
      exact wX11_setMany_j26 B hr hlk ih4 h0 h hR (lv_sub hl [0, 2] rfl)
    · rw [if_neg c_18] at h
      refine lv_iconst (v := 1) hx hb dX11_setMany_21 (by decide) ?_
      refine lv_goto (tgt := 26) hx hb dX11_setMany_22 (by decide) ?_
      exact wX11_setMany_j26 B hr hlk ih4 h0 h hR (lv_sub hl [0, 2] rfl)
def fX11_setMany_l4 (fu : Nat) (a0 : Nat) (M : Mm) (x1 : Int32) (x2 : Int32) : Option Int32 := lp (fun (rec : (Int32 × Int32) → Option Int32) (s : Int32 × Int32) => fX11_setMany_b4 fu  (fun x1 x2 => rec (x1, x2)) a0 s.1 s.2 M) fu (x1, x2)
set_option maxRecDepth 100000 in
set_option maxHeartbeats 4000000 in
theorem wX11_setMany_l4 {r : Int32}   {a0 : Nat} {x1 : Int32} {x2 : Int32} {M : Mm} (B : Bx p s m args c cX11_setMany 3 RX11 E L) (hr : meth.sig.returnType = (some .int)) (hlk : meth.locks = false)  (h0 : At L a0 T11) (h : fX11_setMany_l4 fu a0 M x1 x2 = some r) (hR : Rx s E L M H locs) (hl : lv_has ls 3 [(0, .ref a0), (1, .int x1), (2, .int x2)]) : W p l e (rmD (d + 1)) s m args below meth c H locs 0 0 (MQ below (QcM E L (some (.int r)) M) args s 0 0 E.2.2.2) (F0 m 4 ls []) := by
  refine lp_G (G := fun z : Int32 × Int32 => ∀ (H : Heap) (locs : List Loc) (ls : Array Slot), Rx s E L M H locs → lv_has ls 3 [(0, .ref a0), (1, .int z.1), (2, .int z.2)] → W p l e (rmD (d + 1)) s m args below meth c H locs 0 0 (MQ below (QcM E L (some (.int r)) M) args s 0 0 E.2.2.2) (F0 m 4 ls [])) (fun rec ih z h H locs ls hR hl => ?_) fu _ h H locs ls hR hl
  exact wX11_setMany_b4 B hr hlk  (fun x1 x2 h => ih (x1, x2) h) h0 h hR hl
def fX11_setMany (fu : Nat) (a0 : Nat) (M : Mm) : Option Int32 :=
  fX11_setMany_l4 fu a0 M 0 0
set_option maxRecDepth 100000 in
set_option maxHeartbeats 4000000 in
theorem mX11_setMany {l : Launch} {E : Ge} {L : Lay} (fu d : Nat) {a0 : Nat} {M : Mm} {r : Int32}  (h0 : At L a0 T11) (h : fX11_setMany fu a0 M = some r) : Ct l E L yX11_setMany cX11_setMany 3 (some .int) (d + 1) [.ref a0] M (some (.int r)) M := by
  refine Ct.of (by decide) ?_
  intro p e s m below meth c hr hlk B hR
  have B : Bx p s m _ c cX11_setMany 3 RX11 E L := B
  have hx := B.1
  have hb := B.2.1
  have hl := lv_entry ([.ref a0]) (n := 3) (Nat.le_of_ble_eq_true rfl)
  rw [lg_entry_eq]
  generalize (lg_sl ([.ref a0]) ++ List.replicate (3 - (lg_sl ([.ref a0])).length) Slot.unset).toArray = ls at hl ⊢
  have hl : lv_has ls 3 [(0, .ref a0)] := hl
  unfold fX11_setMany at h
  refine lv_iconst (v := 0) hx hb dX11_setMany_0 (by decide) ?_
  refine lv_istore_n (lv' := [(1, .int 0), (0, .ref a0)]) hx hb dX11_setMany_1 rfl hl (by decide) rfl (fun ls hl => ?_)
  refine lv_iconst (v := 0) hx hb dX11_setMany_2 (by decide) ?_
  refine lv_istore_n (lv' := [(2, .int 0), (1, .int 0), (0, .ref a0)]) hx hb dX11_setMany_3 rfl hl (by decide) rfl (fun ls hl => ?_)
  exact wX11_setMany_l4 B hr hlk h0 h hR (lv_sub hl [2, 1, 0] rfl)
def fX11_pagesSet_j39 (fu : Nat) (x1 : Int32) (M : Mm) : Option Int32 :=
  some x1
set_option maxRecDepth 100000 in
set_option maxHeartbeats 4000000 in
theorem wX11_pagesSet_j39 {r : Int32}   {x1 : Int32} {M : Mm} (B : Bx p s m args c cX11_pagesSet 3 RX11 E L) (hr : meth.sig.returnType = (some .int)) (hlk : meth.locks = false)   (h : fX11_pagesSet_j39 fu x1 M = some r) (hR : Rx s E L M H locs) (hl : lv_has ls 3 [(1, .int x1)]) : W p l e (rmD (d + 2)) s m args below meth c H locs 0 0 (MQ below (QcM E L (some (.int r)) M) args s 0 0 E.2.2.2) (F0 m 39 ls []) := by
  have hx := B.1
  have hb := B.2.1
  unfold fX11_pagesSet_j39 at h
  refine lv_iload_n hx hb dX11_pagesSet_39 rfl (lv_at hl 0 rfl) ?_
  exact r_iretP B hR hr hlk h dX11_pagesSet_40
def fX11_pagesSet_j31 (fu : Nat) (k4 : Int32 → Int32 → Option Int32) (a0 : Nat) (x2 : Int32) (t0 : Int32) (t1 : Int32) (M : Mm) : Option Int32 :=
  lt ((t0 + t1)) fun x1_32 =>
  lt (x2 + 1) fun x2_33 =>
  k4 x1_32 x2_33
set_option maxRecDepth 100000 in
set_option maxHeartbeats 4000000 in
theorem wX11_pagesSet_j31 {r : Int32}  {k4 : Int32 → Int32 → Option Int32} {a0 : Nat} {x2 : Int32} {t0 : Int32} {t1 : Int32} {M : Mm} (B : Bx p s m args c cX11_pagesSet 3 RX11 E L) (hr : meth.sig.returnType = (some .int)) (hlk : meth.locks = false) (ih4 : ∀ (x1 : Int32) (x2 : Int32), k4 x1 x2 = some r → ∀ (H : Heap) (locs : List Loc) (ls : Array Slot), Rx s E L M H locs → lv_has ls 3 [(0, .ref a0), (1, .int x1), (2, .int x2)] → W p l e (rmD (d + 2)) s m args below meth c H locs 0 0 (MQ below (QcM E L (some (.int r)) M) args s 0 0 E.2.2.2) (F0 m 4 ls [])) (h0 : At L a0 T11) (h : fX11_pagesSet_j31 fu k4 a0 x2 t0 t1 M = some r) (hR : Rx s E L M H locs) (hl : lv_has ls 3 [(0, .ref a0), (2, .int x2)]) : W p l e (rmD (d + 2)) s m args below meth c H locs 0 0 (MQ below (QcM E L (some (.int r)) M) args s 0 0 E.2.2.2) (F0 m 31 ls [.int t1, .int t0]) := by
  have hx := B.1
  have hb := B.2.1
  unfold fX11_pagesSet_j31 at h
  refine lv_iadd hx hb dX11_pagesSet_31 ?_
  obtain ⟨x1_32, ex1_32, h⟩ := lt_el h
  refine r_nmI ex1_32 ?_
  refine lv_istore_n (lv' := [(1, .int x1_32), (0, .ref a0), (2, .int x2)]) hx hb dX11_pagesSet_32 rfl hl (by decide) rfl (fun ls hl => ?_)
  obtain ⟨x2_33, ex2_33, h⟩ := lt_el h
  refine lv_iinc (v := x2_33) (lv' := [(2, .int x2_33), (1, .int x1_32), (0, .ref a0)]) hx hb dX11_pagesSet_33 hl (k := 2) rfl (by rw [ex2_33]; rfl) (by decide) rfl (fun ls hl => ?_)
  refine lv_goto (tgt := 4) hx hb dX11_pagesSet_36 (by decide) ?_
  exact ih4 x1_32 x2_33 h _ _ _ hR (lv_sub hl [2, 1, 0] rfl)
def fX11_pagesSet_b4 (fu : Nat) (k4 : Int32 → Int32 → Option Int32) (a0 : Nat) (x1 : Int32) (x2 : Int32) (M : Mm) : Option Int32 :=
  bi (fX11_pages fu a0 M) fun r_6 =>
  if r_6 ≤ x2 then
    fX11_pagesSet_j39 fu x1 M
  else
    if (76 + x2) < 0 ∨ 140 ≤ ix (76 + x2) then none else
    if (M.1 (a0 + 1) (ix (76 + x2))) = 5 then
      fX11_pagesSet_j31 fu k4 a0 x2 x1 0 M
    else
      fX11_pagesSet_j31 fu k4 a0 x2 x1 1 M
set_option maxRecDepth 100000 in
set_option maxHeartbeats 4000000 in
theorem wX11_pagesSet_b4 {r : Int32}   {k4 : Int32 → Int32 → Option Int32} {a0 : Nat} {x1 : Int32} {x2 : Int32} {M : Mm} (B : Bx p s m args c cX11_pagesSet 3 RX11 E L) (hr : meth.sig.returnType = (some .int)) (hlk : meth.locks = false)  (ih4 : ∀ (x1 : Int32) (x2 : Int32), k4 x1 x2 = some r → ∀ (H : Heap) (locs : List Loc) (ls : Array Slot), Rx s E L M H locs → lv_has ls 3 [(0, .ref a0), (1, .int x1), (2, .int x2)] → W p l e (rmD (d + 2)) s m args below meth c H locs 0 0 (MQ below (QcM E L (some (.int r)) M) args s 0 0 E.2.2.2) (F0 m 4 ls [])) (h0 : At L a0 T11) (h : fX11_pagesSet_b4 fu k4 a0 x1 x2 M = some r) (hR : Rx s E L M H locs) (hl : lv_has ls 3 [(0, .ref a0), (1, .int x1), (2, .int x2)]) : W p l e (rmD (d + 2)) s m args below meth c H locs 0 0 (MQ below (QcM E L (some (.int r)) M) args s 0 0 E.2.2.2) (F0 m 4 ls []) := by
  have hx := B.1
  have hb := B.2.1
  unfold fX11_pagesSet_b4 at h
  refine lv_iload_n hx hb dX11_pagesSet_4 rfl (lv_at hl 2 rfl) ?_
  refine lv_aload_n hx hb dX11_pagesSet_5 rfl (lv_at hl 0 rfl) ?_
  obtain ⟨r_6, hc_6, h⟩ := bi_el h
  refine iv_X11_291 B hR (h0.at0 rfl) hl.1 (mX11_pages fu _ h0 hc_6) (Nat.le_of_ble_eq_true rfl) dX11_pagesSet_6 (fun H locs hR => ?_)
  refine lv_icmp_ge (tgt := 39) hx hb dX11_pagesSet_9 (by decide) (fun c_9 => ?_) (fun c_9 => ?_)
  · rw [if_pos c_9] at h
    exact wX11_pagesSet_j39 B hr hlk  h hR (lv_sub hl [1] rfl)
  · rw [if_neg c_9] at h
    refine lv_iload_n hx hb dX11_pagesSet_12 rfl (lv_at hl 1 rfl) ?_
    refine lv_aload_n hx hb dX11_pagesSet_13 rfl (lv_at hl 0 rfl) ?_
    refine gf_X11_7 B hR (h0.at0 rfl) dX11_pagesSet_14 ?_
    refine lv_bipush (v := 76) hx hb dX11_pagesSet_17 (by decide) ?_
    refine lv_iload_n hx hb dX11_pagesSet_19 rfl (lv_at hl 2 rfl) ?_
    refine lv_iadd hx hb dX11_pagesSet_20 ?_
    obtain ⟨hi_21, h⟩ := ifn_el h
    refine r_iald B hR (h0.at 1 rfl) hi_21 dX11_pagesSet_21 ?_
    refine lv_iconst (v := 5) hx hb dX11_pagesSet_22 (by decide) ?_
    refine lv_icmp_ne (tgt := 30) hx hb dX11_pagesSet_23 (by decide) (fun c_23 => ?_) (fun c_23 => ?_)
    · rw [if_neg c_23] at h
      refine lv_iconst (v := 1) hx hb dX11_pagesSet_30 (by decide) ?_
      exact wX11_pagesSet_j31 B hr hlk ih4 h0 h hR (lv_sub hl [0, 2] rfl)
    · rw [if_pos c_23] at h
      refine lv_iconst (v := 0) hx hb dX11_pagesSet_26 (by decide) ?_
      refine lv_goto (tgt := 31) hx hb dX11_pagesSet_27 (by decide) ?_
      exact wX11_pagesSet_j31 B hr hlk ih4 h0 h hR (lv_sub hl [0, 2] rfl)
def fX11_pagesSet_l4 (fu : Nat) (a0 : Nat) (M : Mm) (x1 : Int32) (x2 : Int32) : Option Int32 := lp (fun (rec : (Int32 × Int32) → Option Int32) (s : Int32 × Int32) => fX11_pagesSet_b4 fu  (fun x1 x2 => rec (x1, x2)) a0 s.1 s.2 M) fu (x1, x2)
set_option maxRecDepth 100000 in
set_option maxHeartbeats 4000000 in
theorem wX11_pagesSet_l4 {r : Int32}   {a0 : Nat} {x1 : Int32} {x2 : Int32} {M : Mm} (B : Bx p s m args c cX11_pagesSet 3 RX11 E L) (hr : meth.sig.returnType = (some .int)) (hlk : meth.locks = false)  (h0 : At L a0 T11) (h : fX11_pagesSet_l4 fu a0 M x1 x2 = some r) (hR : Rx s E L M H locs) (hl : lv_has ls 3 [(0, .ref a0), (1, .int x1), (2, .int x2)]) : W p l e (rmD (d + 2)) s m args below meth c H locs 0 0 (MQ below (QcM E L (some (.int r)) M) args s 0 0 E.2.2.2) (F0 m 4 ls []) := by
  refine lp_G (G := fun z : Int32 × Int32 => ∀ (H : Heap) (locs : List Loc) (ls : Array Slot), Rx s E L M H locs → lv_has ls 3 [(0, .ref a0), (1, .int z.1), (2, .int z.2)] → W p l e (rmD (d + 2)) s m args below meth c H locs 0 0 (MQ below (QcM E L (some (.int r)) M) args s 0 0 E.2.2.2) (F0 m 4 ls [])) (fun rec ih z h H locs ls hR hl => ?_) fu _ h H locs ls hR hl
  exact wX11_pagesSet_b4 B hr hlk  (fun x1 x2 h => ih (x1, x2) h) h0 h hR hl
def fX11_pagesSet (fu : Nat) (a0 : Nat) (M : Mm) : Option Int32 :=
  fX11_pagesSet_l4 fu a0 M 0 0
set_option maxRecDepth 100000 in
set_option maxHeartbeats 4000000 in
theorem mX11_pagesSet {l : Launch} {E : Ge} {L : Lay} (fu d : Nat) {a0 : Nat} {M : Mm} {r : Int32}  (h0 : At L a0 T11) (h : fX11_pagesSet fu a0 M = some r) : Ct l E L yX11_pagesSet cX11_pagesSet 3 (some .int) (d + 2) [.ref a0] M (some (.int r)) M := by
  refine Ct.of (by decide) ?_
  intro p e s m below meth c hr hlk B hR
  have B : Bx p s m _ c cX11_pagesSet 3 RX11 E L := B
  have hx := B.1
  have hb := B.2.1
  have hl := lv_entry ([.ref a0]) (n := 3) (Nat.le_of_ble_eq_true rfl)
  rw [lg_entry_eq]
  generalize (lg_sl ([.ref a0]) ++ List.replicate (3 - (lg_sl ([.ref a0])).length) Slot.unset).toArray = ls at hl ⊢
  have hl : lv_has ls 3 [(0, .ref a0)] := hl
  unfold fX11_pagesSet at h
  refine lv_iconst (v := 0) hx hb dX11_pagesSet_0 (by decide) ?_
  refine lv_istore_n (lv' := [(1, .int 0), (0, .ref a0)]) hx hb dX11_pagesSet_1 rfl hl (by decide) rfl (fun ls hl => ?_)
  refine lv_iconst (v := 0) hx hb dX11_pagesSet_2 (by decide) ?_
  refine lv_istore_n (lv' := [(2, .int 0), (1, .int 0), (0, .ref a0)]) hx hb dX11_pagesSet_3 rfl hl (by decide) rfl (fun ls hl => ?_)
  exact wX11_pagesSet_l4 B hr hlk h0 h hR (lv_sub hl [2, 1, 0] rfl)
def fX11_about (fu : Nat) (a0 : Nat) (x1 : Int32) (M : Mm) : Option Int32 :=
  if x1 = 0 then
    bi (fX11_addresses fu a0 M) fun r_65 =>
    some r_65
  else
    if x1 = 1 then
      bi (fX11_registersNow fu a0 M) fun r_70 =>
      some r_70
    else
      if x1 = 2 then
        bi (fX11_setMany fu a0 M) fun r_75 =>
        some r_75
      else
        if x1 = 3 then
          some (M.1 (a0 + 1) (ix 0))
        else
          if x1 = 4 then
            some (M.1 (a0 + 1) (ix 1))
          else
            if x1 = 5 then
              if (M.1 a0 5) < 0 ∨ 2 ≤ ix (M.1 a0 5) then none else
              some (M.1 (a0 + 4) (ix (M.1 a0 5)))
            else
              if x1 = 6 then
                bi (fX11_runMany fu a0 M) fun r_104 =>
                some r_104
              else
                if x1 = 7 then
                  some (M.1 a0 50)
                else
                  if x1 = 8 then
                    some (M.1 a0 51)
                  else
                    if x1 = 9 then
                      some (M.1 a0 7)
                    else
                      if x1 = 10 then
                        bi (fX11_pages fu a0 M) fun r_124 =>
                        some r_124
                      else
                        if x1 = 11 then
                          bi (fX11_pagesSet fu a0 M) fun r_129 =>
                          some r_129
                        else
                          some (-1)
set_option maxRecDepth 100000 in
set_option maxHeartbeats 4000000 in
theorem mX11_about {l : Launch} {E : Ge} {L : Lay} (fu d : Nat) {a0 : Nat} {x1 : Int32} {M : Mm} {r : Int32}  (h0 : At L a0 T11) (h : fX11_about fu a0 x1 M = some r) : Ct l E L yX11_about cX11_about 2 (some .int) (d + 3) [.ref a0, .int x1] M (some (.int r)) M := by
  refine Ct.of (by decide) ?_
  intro p e s m below meth c hr hlk B hR
  have B : Bx p s m _ c cX11_about 2 RX11 E L := B
  have hx := B.1
  have hb := B.2.1
  have hl := lv_entry ([.ref a0, .int x1]) (n := 2) (Nat.le_of_ble_eq_true rfl)
  rw [lg_entry_eq]
  generalize (lg_sl ([.ref a0, .int x1]) ++ List.replicate (2 - (lg_sl ([.ref a0, .int x1])).length) Slot.unset).toArray = ls at hl ⊢
  have hl : lv_has ls 2 [(0, .ref a0), (1, .int x1)] := hl
  unfold fX11_about at h
  refine lv_iload_n hx hb dX11_about_0 rfl (lv_at hl 1 rfl) ?_
  by_cases s_1_0 : x1 = 0
  · rw [if_pos s_1_0] at h
    refine lv_tableIn (tgt := 64) hx hb dX11_about_1 (by rw [s_1_0]; decide) (by rw [s_1_0]; decide) (by rw [s_1_0]; rfl) (by decide) ?_
    refine lv_aload_n hx hb dX11_about_64 rfl (lv_at hl 0 rfl) ?_
    obtain ⟨r_65, hc_65, h⟩ := bi_el h
    refine iv_X11_240 B hR (h0.at0 rfl) hl.1 (mX11_addresses fu _ h0 hc_65) (Nat.le_of_ble_eq_true rfl) dX11_about_65 (fun H locs hR => ?_)
    exact r_iretP B hR hr hlk h dX11_about_68
  · rw [if_neg s_1_0] at h
    by_cases s_1_1 : x1 = 1
    · rw [if_pos s_1_1] at h
      refine lv_tableIn (tgt := 69) hx hb dX11_about_1 (by rw [s_1_1]; decide) (by rw [s_1_1]; decide) (by rw [s_1_1]; rfl) (by decide) ?_
      refine lv_aload_n hx hb dX11_about_69 rfl (lv_at hl 0 rfl) ?_
      obtain ⟨r_70, hc_70, h⟩ := bi_el h
      refine iv_X11_243 B hR (h0.at0 rfl) hl.1 (mX11_registersNow fu _ h0 hc_70) (Nat.le_of_ble_eq_true rfl) dX11_about_70 (fun H locs hR => ?_)
      exact r_iretP B hR hr hlk h dX11_about_73
    · rw [if_neg s_1_1] at h
      by_cases s_1_2 : x1 = 2
      · rw [if_pos s_1_2] at h
        refine lv_tableIn (tgt := 74) hx hb dX11_about_1 (by rw [s_1_2]; decide) (by rw [s_1_2]; decide) (by rw [s_1_2]; rfl) (by decide) ?_
        refine lv_aload_n hx hb dX11_about_74 rfl (lv_at hl 0 rfl) ?_
        obtain ⟨r_75, hc_75, h⟩ := bi_el h
        refine iv_X11_493 B hR (h0.at0 rfl) hl.1 (mX11_setMany fu _ h0 hc_75) (Nat.le_of_ble_eq_true rfl) dX11_about_75 (fun H locs hR => ?_)
        exact r_iretP B hR hr hlk h dX11_about_78
      · rw [if_neg s_1_2] at h
        by_cases s_1_3 : x1 = 3
        · rw [if_pos s_1_3] at h
          refine lv_tableIn (tgt := 79) hx hb dX11_about_1 (by rw [s_1_3]; decide) (by rw [s_1_3]; decide) (by rw [s_1_3]; rfl) (by decide) ?_
          refine lv_aload_n hx hb dX11_about_79 rfl (lv_at hl 0 rfl) ?_
          refine gf_X11_7 B hR (h0.at0 rfl) dX11_about_80 ?_
          refine lv_iconst (v := 0) hx hb dX11_about_83 (by decide) ?_
          refine r_iald B hR (h0.at 1 rfl) (by decide +kernel) dX11_about_84 ?_
          exact r_iretP B hR hr hlk h dX11_about_85
        · rw [if_neg s_1_3] at h
          by_cases s_1_4 : x1 = 4
          · rw [if_pos s_1_4] at h
            refine lv_tableIn (tgt := 86) hx hb dX11_about_1 (by rw [s_1_4]; decide) (by rw [s_1_4]; decide) (by rw [s_1_4]; rfl) (by decide) ?_
            refine lv_aload_n hx hb dX11_about_86 rfl (lv_at hl 0 rfl) ?_
            refine gf_X11_7 B hR (h0.at0 rfl) dX11_about_87 ?_
            refine lv_iconst (v := 1) hx hb dX11_about_90 (by decide) ?_
            refine r_iald B hR (h0.at 1 rfl) (by decide +kernel) dX11_about_91 ?_
            exact r_iretP B hR hr hlk h dX11_about_92
          · rw [if_neg s_1_4] at h
            by_cases s_1_5 : x1 = 5
            · rw [if_pos s_1_5] at h
              refine lv_tableIn (tgt := 93) hx hb dX11_about_1 (by rw [s_1_5]; decide) (by rw [s_1_5]; decide) (by rw [s_1_5]; rfl) (by decide) ?_
              refine lv_aload_n hx hb dX11_about_93 rfl (lv_at hl 0 rfl) ?_
              refine gf_X11_19 B hR (h0.at0 rfl) dX11_about_94 ?_
              refine lv_aload_n hx hb dX11_about_97 rfl (lv_at hl 0 rfl) ?_
              refine gf_X11_225 B hR (h0.at0 rfl) dX11_about_98 ?_
              obtain ⟨hi_101, h⟩ := ifn_el h
              refine r_iald B hR (h0.at 4 rfl) hi_101 dX11_about_101 ?_
              exact r_iretP B hR hr hlk h dX11_about_102
            · rw [if_neg s_1_5] at h
              by_cases s_1_6 : x1 = 6
              · rw [if_pos s_1_6] at h
                refine lv_tableIn (tgt := 103) hx hb dX11_about_1 (by rw [s_1_6]; decide) (by rw [s_1_6]; decide) (by rw [s_1_6]; rfl) (by decide) ?_
                refine lv_aload_n hx hb dX11_about_103 rfl (lv_at hl 0 rfl) ?_
                obtain ⟨r_104, hc_104, h⟩ := bi_el h
                refine iv_X11_297 B hR (h0.at0 rfl) hl.1 (mX11_runMany fu _ h0 hc_104) (Nat.le_of_ble_eq_true rfl) dX11_about_104 (fun H locs hR => ?_)
                exact r_iretP B hR hr hlk h dX11_about_107
              · rw [if_neg s_1_6] at h
                by_cases s_1_7 : x1 = 7
                · rw [if_pos s_1_7] at h
                  refine lv_tableIn (tgt := 108) hx hb dX11_about_1 (by rw [s_1_7]; decide) (by rw [s_1_7]; decide) (by rw [s_1_7]; rfl) (by decide) ?_
                  refine lv_aload_n hx hb dX11_about_108 rfl (lv_at hl 0 rfl) ?_
                  refine gf_X11_234 B hR (h0.at0 rfl) dX11_about_109 ?_
                  exact r_iretP B hR hr hlk h dX11_about_112
                · rw [if_neg s_1_7] at h
                  by_cases s_1_8 : x1 = 8
                  · rw [if_pos s_1_8] at h
                    refine lv_tableIn (tgt := 113) hx hb dX11_about_1 (by rw [s_1_8]; decide) (by rw [s_1_8]; decide) (by rw [s_1_8]; rfl) (by decide) ?_
                    refine lv_aload_n hx hb dX11_about_113 rfl (lv_at hl 0 rfl) ?_
                    refine gf_X11_237 B hR (h0.at0 rfl) dX11_about_114 ?_
                    exact r_iretP B hR hr hlk h dX11_about_117
                  · rw [if_neg s_1_8] at h
                    by_cases s_1_9 : x1 = 9
                    · rw [if_pos s_1_9] at h
                      refine lv_tableIn (tgt := 118) hx hb dX11_about_1 (by rw [s_1_9]; decide) (by rw [s_1_9]; decide) (by rw [s_1_9]; rfl) (by decide) ?_
                      refine lv_aload_n hx hb dX11_about_118 rfl (lv_at hl 0 rfl) ?_
                      refine gf_X11_111 B hR (h0.at0 rfl) dX11_about_119 ?_
                      exact r_iretP B hR hr hlk h dX11_about_122
                    · rw [if_neg s_1_9] at h
                      by_cases s_1_10 : x1 = 10
                      · rw [if_pos s_1_10] at h
                        refine lv_tableIn (tgt := 123) hx hb dX11_about_1 (by rw [s_1_10]; decide) (by rw [s_1_10]; decide) (by rw [s_1_10]; rfl) (by decide) ?_
                        refine lv_aload_n hx hb dX11_about_123 rfl (lv_at hl 0 rfl) ?_
                        obtain ⟨r_124, hc_124, h⟩ := bi_el h
                        refine iv_X11_291 B hR (h0.at0 rfl) hl.1 (mX11_pages fu _ h0 hc_124) (Nat.le_of_ble_eq_true rfl) dX11_about_124 (fun H locs hR => ?_)
                        exact r_iretP B hR hr hlk h dX11_about_127
                      · rw [if_neg s_1_10] at h
                        by_cases s_1_11 : x1 = 11
                        · rw [if_pos s_1_11] at h
                          refine lv_tableIn (tgt := 128) hx hb dX11_about_1 (by rw [s_1_11]; decide) (by rw [s_1_11]; decide) (by rw [s_1_11]; rfl) (by decide) ?_
                          refine lv_aload_n hx hb dX11_about_128 rfl (lv_at hl 0 rfl) ?_
                          obtain ⟨r_129, hc_129, h⟩ := bi_el h
                          refine iv_X11_496 B hR (h0.at0 rfl) hl.1 (mX11_pagesSet fu _ h0 hc_129) (Nat.le_of_ble_eq_true rfl) dX11_about_129 (fun H locs hR => ?_)
                          exact r_iretP B hR hr hlk h dX11_about_132
                        · rw [if_neg s_1_11] at h
                          refine lv_tableOut (tgt := 133) hx hb dX11_about_1 (by have := ne_toInt s_1_0 (a := 0) (by decide); have := ne_toInt s_1_1 (a := 1) (by decide); have := ne_toInt s_1_2 (a := 2) (by decide); have := ne_toInt s_1_3 (a := 3) (by decide); have := ne_toInt s_1_4 (a := 4) (by decide); have := ne_toInt s_1_5 (a := 5) (by decide); have := ne_toInt s_1_6 (a := 6) (by decide); have := ne_toInt s_1_7 (a := 7) (by decide); have := ne_toInt s_1_8 (a := 8) (by decide); have := ne_toInt s_1_9 (a := 9) (by decide); have := ne_toInt s_1_10 (a := 10) (by decide); have := ne_toInt s_1_11 (a := 11) (by decide); omega) (by decide) ?_
                          refine lv_iconst (v := (-1)) hx hb dX11_about_133 (by decide) ?_
                          exact r_iretP B hR hr hlk h dX11_about_134
end G25_model4_lean_txt
